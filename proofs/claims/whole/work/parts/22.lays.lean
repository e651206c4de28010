/-! expose, and the reference's lays and tells -/
abbrev Sx (x : ShT) (v : Nat) : SmT := Sm (Lg x v) (Wv v) 24
theorem Sm_congr {g h : Nat → Int32} {w : Int32} (e : ∀ j, j < 24 → g j = h j) : ∀ k, k ≤ 24 → Sm g w k = Sm h w k := by
  intro k
  induction k with
  | zero => intro _; show (0, g 0, g 0, 0, 0, 0, 0) = ((0, h 0, h 0, 0, 0, 0, 0) : SmT); rw [e 0 (by decide)]
  | succ k ih =>
    intro hk
    show (match Sm g w k with | (al, le, mo, ae, we, wc, da) => (al + g k, imin le (g k), imax mo (g k), ae + er g w k, if er g w k ≤ we then we else er g w k, if er g w k ≤ we then wc else nI k, if g k = 0 then da + 1 else da) : SmT) = (match Sm h w k with | (al, le, mo, ae, we, wc, da) => (al + h k, imin le (h k), imax mo (h k), ae + er h w k, if er h w k ≤ we then we else er h w k, if er h w k ≤ we then wc else nI k, if h k = 0 then da + 1 else da) : SmT)
    have e2 : er g w k = er h w k := by show iabs (g k - w) = iabs (h k - w); rw [e k (by omega)]
    rw [ih (by omega), e k (by omega), e2]
def Exr (x : ShT) (v : Nat) (ex : ExT) : Prop := (∀ j, j < 24 → ex.1 j = Lf x (j + 1)) ∧ (∀ j, j < 24 → ex.2.1 j = Cv x v (j + 1)) ∧ (∀ j, j < 24 → ex.2.2.1 j = Lg x v j) ∧ ex.2.2.2 = Sx x v
theorem expose_eq {ex : ExT} {x : ShT} {M v : Nat} (hI : Inv x M) (hv : v < 6) : ∃ ex', fX0_expose ex x (nI v) = some ex' ∧ Exr x v ex' := by
  unfold fX0_expose
  rw [run_eq hI hv, Option.bind_some, open_eq (v := v) (fun j hj => mrg_lt (f := fun j => Lf x (j + 1)) hj) (fun j hj => mrg_lt (f := fun j => Cv x v (j + 1)) hj), Option.bind_some]
  show ∃ ex', (fX0_sumUp (exL (exL ex (mrg 24 (fun j => Lf x (j + 1)) ex.1) (mrg 24 (fun j => Cv x v (j + 1)) ex.2.1) ex.2.2.1) (mrg 24 (fun j => Lf x (j + 1)) ex.1) (mrg 24 (fun j => Cv x v (j + 1)) ex.2.1) (mrg 24 (Lg x v) ex.2.2.1)) (Wv v)).bind _ = some ex' ∧ Exr x v ex'
  rw [sum_eq, Option.bind_some]
  refine ⟨_, rfl, fun j hj => mrg_lt (f := fun j => Lf x (j + 1)) hj, fun j hj => mrg_lt (f := fun j => Cv x v (j + 1)) hj, fun j hj => mrg_lt hj, ?_⟩
  show Sm (mrg 24 (Lg x v) ex.2.2.1) (Wv v) 24 = Sm (Lg x v) (Wv v) 24
  exact Sm_congr (fun j hj => mrg_lt hj) 24 (Nat.le_refl _)
theorem R_set {x : ShT} {fs : Nat → Int32} (hR : Rel x fs 0) {j : Nat} (h : j < 4) : fs j = x.2.2.2.2.2.1 j := by have q := hR.1 j h; rwa [Nat.zero_add] at q
theorem R_sp {x : ShT} {fs : Nat → Int32} (hR : Rel x fs 0) {j : Nat} (h : j < 2) : fs (4 + j) = x.1 j := by have q := hR.2.1 j h; rwa [Nat.zero_add] at q
theorem R_si {x : ShT} {fs : Nat → Int32} (hR : Rel x fs 0) {j : Nat} (h : j < 2) : fs (6 + j) = x.2.1 j := by have q := hR.2.2.1 j h; rwa [Nat.zero_add] at q
theorem R_co {x : ShT} {fs : Nat → Int32} (hR : Rel x fs 0) {j : Nat} (h : j < 6) : fs (8 + j) = x.2.2.2.2.1 j := by have q := hR.2.2.2.1 j h; rwa [Nat.zero_add] at q
theorem R_ma {x : ShT} {fs : Nat → Int32} (hR : Rel x fs 0) {j : Nat} (h : j < 6) : fs (14 + j) = x.2.2.2.2.2.2.1 j := by have q := hR.2.2.2.2.1 j h; rwa [Nat.zero_add] at q
theorem R_sh {x : ShT} {fs : Nat → Int32} (hR : Rel x fs 0) : fs 20 = x.2.2.2.2.2.2.2.1 := by have q := hR.2.2.2.2.2.1; rwa [Nat.zero_add] at q
theorem R_li {x : ShT} {fs : Nat → Int32} (hR : Rel x fs 0) : fs 21 = x.2.2.2.2.2.2.2.2.1 := by have q := hR.2.2.2.2.2.2.1; rwa [Nat.zero_add] at q
theorem R_sr {x : ShT} {fs : Nat → Int32} (hR : Rel x fs 0) : fs 22 = x.2.2.2.2.2.2.2.2.2 := by have q := hR.2.2.2.2.2.2.2.1; rwa [Nat.zero_add] at q
theorem R_d0 {x : ShT} {fs : Nat → Int32} (hR : Rel x fs 0) {j : Nat} (h : j < 24) : fs (23 + j) = x.2.2.1 j := by have q := hR.2.2.2.2.2.2.2.2.1 j h; rwa [Nat.zero_add] at q
theorem R_d1 {x : ShT} {fs : Nat → Int32} (hR : Rel x fs 0) {j : Nat} (h : j < 24) : fs (47 + j) = x.2.2.2.1 j := by have q := hR.2.2.2.2.2.2.2.2.2 j h; rwa [Nat.zero_add] at q
theorem nI_mul (a b : Nat) : nI a * nI b = nI (a * b) := (Int32.ofNat_mul a b).symm
theorem k0 : (0 : Int32).toNatClampNeg = 0 := rfl
theorem k1 : (1 : Int32).toNatClampNeg = 1 := rfl
theorem k2 : (2 : Int32).toNatClampNeg = 2 := rfl
theorem k3 : (3 : Int32).toNatClampNeg = 3 := rfl
theorem k4 : (4 : Int32).toNatClampNeg = 4 := rfl
theorem k20 : (20 : Int32).toNatClampNeg = 20 := rfl
theorem k21 : (21 : Int32).toNatClampNeg = 21 := rfl
theorem k22 : (22 : Int32).toNatClampNeg = 22 := rfl
theorem p4 (c : Nat) : (4 : Int32) + nI c = nI (4 + c) := nI_add 4 c
theorem p6 (c : Nat) : (6 : Int32) + nI c = nI (6 + c) := nI_add 6 c
theorem p8 (c : Nat) : (8 : Int32) + nI c = nI (8 + c) := nI_add 8 c
theorem p14 (c : Nat) : (14 : Int32) + nI c = nI (14 + c) := nI_add 14 c
theorem p20 (c : Nat) : (20 : Int32) + nI c = nI (20 + c) := nI_add 20 c
theorem pdr (c k : Nat) : ((23 : Int32) + 24 * nI c) + nI k = nI (23 + 24 * c + k) := by
  rw [show (24 : Int32) * nI c = nI (24 * c) from nI_mul 24 c, show (23 : Int32) + nI (24 * c) = nI (23 + 24 * c) from nI_add 23 _, nI_add]
def Dr (x : ShT) (c : Nat) : Nat → Int32 := if c = 0 then x.2.2.1 else x.2.2.2.1
theorem R_dr {x : ShT} {fs : Nat → Int32} (hR : Rel x fs 0) {c k : Nat} (hc : c < 2) (hk : k < 24) : fs (23 + 24 * c + k) = Dr x c k := by
  rcases (by omega : c = 0 ∨ c = 1) with rfl | rfl
  · exact R_d0 hR hk
  · exact R_d1 hR hk
theorem takes_eq {x : ShT} {fs : Nat → Int32} {M c k : Nat} (hR : Rel x fs 0) (hI : Inv x M) (hc : c < 2) (hk : k < 24) : fX3_takes fs (nI c) (nI k) = some (Tk x c + Dr x c k) := by
  have h1 := hI.1 c hc
  have hz : ¬ x.1 c = 0 := fun q => by rw [q, Int32.toInt_zero] at h1; omega
  unfold fX3_takes
  rw [p4, p6, pdr, gd_t (pin_nI (by omega) (by decide)), nI_clamp (by omega), R_sp hR hc, gd_t (nz_t hz), gd_t (pin_nI (by omega) (by decide)), gd_t (pin_nI (by omega) (by decide)), nI_clamp (by omega), nI_clamp (by omega), R_si hR hc, R_dr hR hc hk, k0, R_set hR (by decide)]
  show some (1000 / x.1 c + Dr x c k + x.2.2.2.2.2.1 0 * (x.2.1 c / 10)) = some (1000 / x.1 c + x.2.2.2.2.2.1 0 * (x.2.1 c / 10) + Dr x c k)
  rw [Int32.add_assoc, Int32.add_comm (Dr x c k), ← Int32.add_assoc]
theorem takes0 {x : ShT} {fs : Nat → Int32} {M k : Nat} (hR : Rel x fs 0) (hI : Inv x M) (hk : k < 24) : fX3_takes fs 0 (nI k) = some (Tk x 0 + x.2.2.1 k) := takes_eq (c := 0) hR hI (by decide) hk
theorem takes1 {x : ShT} {fs : Nat → Int32} {M k : Nat} (hR : Rel x fs 0) (hI : Inv x M) (hk : k < 24) : fX3_takes fs 1 (nI k) = some (Tk x 1 + x.2.2.2.1 k) := takes_eq (c := 1) hR hI (by decide) hk
theorem start_r {x : ShT} {fs : Nat → Int32} {v : Nat} (hR : Rel x fs 0) (hv : v < 6) : fX3_start fs (nI v) = some (Sv x v) := by
  unfold fX3_start fX3_wanted
  rw [Option.bind_some, p8, gd_t (pin_nI (by omega) (by decide)), nI_clamp (by omega), R_co hR hv]
  unfold Sv imax
  by_cases h : (0 : Int32) ≤ (20 <<< (nI v &&& 31)) + x.2.2.2.2.1 v
  · rw [if_pos h]
    by_cases q : (0 : Int32) < (20 <<< (nI v &&& 31)) + x.2.2.2.2.1 v
    · rw [if_pos q]
    · rw [if_neg q]; rw [le_i] at h; rw [lt_i] at q; exact congrArg some (i_eq (by omega))
  · rw [if_neg h, if_neg (fun q => h (by rw [lt_i] at q; rw [le_i]; omega))]
theorem bounced_r {x : ShT} {fs : Nat → Int32} {M : Nat} (hR : Rel x fs 0) (hI : Inv x M) : fX3_bounced fs = some (Bc x) := by
  have h1 := hI.1 0 (by omega)
  have h2 := hI.2.2.2.2.2.2.1
  have e : (x.1 0 - x.2.2.2.2.2.1 1).toInt = (x.1 0).toInt - (x.2.2.2.2.2.1 1).toInt := ti_sub (by omega) (by omega)
  have f4 : fs 4 = x.1 0 := R_sp (j := 0) hR (by decide)
  unfold fX3_bounced
  rw [k4, k1, f4, R_set hR (by decide)]
  unfold Bc imin
  by_cases h : x.1 0 - x.2.2.2.2.2.1 1 ≤ 0
  · rw [if_pos h, if_pos (by rw [le_i, e, z_t] at h; rw [le_i]; omega)]
  · rw [if_neg h, if_neg (fun q => h (by rw [le_i] at q; rw [le_i, e, z_t]; omega))]
    by_cases q : (x.1 0 - x.2.2.2.2.2.1 1) / 5 ≤ 6
    · rw [if_pos q, if_neg (fun r => by rw [lt_i] at r; rw [le_i] at q; omega)]
    · rw [if_neg q, if_pos (by rw [le_i] at q; rw [lt_i]; omega)]
theorem lp_from {σ R : Type} {B : (σ → Option R) → σ → Option R} {r : Option R} (S : Nat → σ) (a N : Nat) (step : ∀ (k : Nat) (K : σ → Option R), a ≤ k → k < N → B K (S k) = K (S (k + 1))) (last : ∀ K : σ → Option R, B K (S N) = r) : ∀ (fu k : Nat), a ≤ k → k ≤ N → N < k + fu → lp B fu (S k) = r := by
  intro fu
  induction fu with
  | zero => intro k h0 h1 h2; omega
  | succ fu ih =>
    intro k h0 h1 h2
    show B (lp B fu) (S k) = r
    by_cases e : k = N
    · subst e; exact last _
    · rw [step k _ h0 (by omega)]
      exact ih (k + 1) (by omega) (by omega) (by omega)
theorem upd_G {f h : Nat → Int32} {b k : Nat} {a : Int32} (hb : b ≤ k) (e : a = f k) : upd (fun j => if b ≤ j ∧ j < k then f j else h j) k a = fun j => if b ≤ j ∧ j < k + 1 then f j else h j := by
  subst e
  funext j
  unfold upd
  by_cases e : j = k
  · subst e; rw [if_pos rfl, if_pos ⟨hb, by omega⟩]
  · rw [if_neg e]
    by_cases q : b ≤ j ∧ j < k
    · exact (if_pos q).trans (if_pos (by omega)).symm
    · exact (if_neg q).trans (if_neg (by omega)).symm
theorem lays_eq {mo : MoT} {x : ShT} {fs le co li : Nat → Int32} {M v : Nat} (hR : Rel x fs 0) (hI : Inv x M) (hM : M ≤ 200000) (hv : v < 6) : ∃ r, fX3_lays mo fs le co li (nI v) = some r ∧ (∀ j, j < 24 → r.1 j = Lf x (j + 1)) ∧ (∀ j, j < 24 → r.2.1 j = Cv x v (j + 1)) ∧ ∀ j, j < 24 → r.2.2 j = Lg x v j := by
  obtain ⟨b, hb6, hb⟩ := Bc_b hI
  have hsub : (24 : Int32) - nI b = nI (24 - b) := by
    refine i_eq ?_
    rw [nI_toInt (by omega), show (24 : Int32) = nI 24 from rfl, ti_sub (by rw [nI_toInt (by omega), nI_toInt (by omega)]; omega) (by rw [nI_toInt (by omega), nI_toInt (by omega)]; omega), nI_toInt (by omega), nI_toInt (by omega)]
    omega
  refine ⟨(mrg 24 (fun j => Lf x (j + 1)) le, mrg 24 (fun j => Cv x v (j + 1)) co, fun j => if 24 - b ≤ j ∧ j < 24 then Lg x v j else mrg 24 (fun j => Cv x v (j + 1) - Lf x (j + 1)) li j), ?_, fun j hj => mrg_lt (f := fun j => Lf x (j + 1)) hj, fun j hj => mrg_lt (f := fun j => Cv x v (j + 1)) hj, fun j hj => ?_⟩
  · unfold fX3_lays
    rw [start_r hR hv, Option.bind_some]
    refine (lp_run (r := (fX3_bounced fs).bind (fun r3 => lp (fX3_lays_l98 mo fs) 2000 (mrg 24 (fun j => Lf x (j + 1)) le, mrg 24 (fun j => Cv x v (j + 1)) co, mrg 24 (fun j => Cv x v (j + 1) - Lf x (j + 1)) li, Lf x 24, 24 - r3))) (fun k => (mrg k (fun j => Lf x (j + 1)) le, mrg k (fun j => Cv x v (j + 1)) co, mrg k (fun j => Cv x v (j + 1) - Lf x (j + 1)) li, Lf x k, Cv x v k, nI k)) 24 (fun k K hk => ?_) (fun K => ?_) 2000 0 (by omega) (by omega)).trans ?_
    · unfold fX3_lays_l12
      dsimp only
      rw [if_neg (n24 hk), takes0 hR hI hk, Option.bind_some, takes1 hR hI hk, Option.bind_some, ← Int32.add_assoc (Cv x v k)]
      have el : Lf x k + (Tk x 0 + x.2.2.1 k) = Lf x (k + 1) := rfl
      rw [el]
      have e1 : upd (mrg k (fun j => Lf x (j + 1)) le) k (Lf x (k + 1)) = mrg (k + 1) (fun j => Lf x (j + 1)) le := upd_to rfl
      have e2 : upd (mrg k (fun j => Cv x v (j + 1)) co) k (Cv x v (k + 1)) = mrg (k + 1) (fun j => Cv x v (j + 1)) co := upd_to rfl
      have e3 : upd (mrg k (fun j => Cv x v (j + 1) - Lf x (j + 1)) li) k (Cv x v (k + 1) - Lf x (k + 1)) = mrg (k + 1) (fun j => Cv x v (j + 1) - Lf x (j + 1)) li := upd_to rfl
      have ec : (if Lf x (k + 1) < (Cv x v k + Tk x 1) + x.2.2.2.1 k then (Cv x v k + Tk x 1) + x.2.2.2.1 k else Lf x (k + 1)) = Cv x v (k + 1) := rfl
      unfold fX3_lays_j53
      dsimp only
      rw [gd_t (pin_nI hk (by decide)), gd_t (pin_nI hk (by decide)), nI_clamp (by omega), e1, ← nI_succ]
      by_cases q : Lf x (k + 1) ≤ (Cv x v k + Tk x 1) + x.2.2.2.1 k
      · have ec2 : (Cv x v k + Tk x 1) + x.2.2.2.1 k = Cv x v (k + 1) := by
          rw [← ec]
          by_cases u : Lf x (k + 1) < (Cv x v k + Tk x 1) + x.2.2.2.1 k
          · rw [if_pos u]
          · rw [if_neg u]; rw [le_i] at q; rw [lt_i] at u; exact i_eq (by omega)
        rw [if_pos q, ec2, e2, e3]
      · have ec2 : Lf x (k + 1) = Cv x v (k + 1) := by
          rw [← ec, if_neg (fun u => q (by rw [lt_i] at u; rw [le_i]; omega))]
        rw [if_neg q]
        rw [ec2] at e3
        have e2' : upd (mrg k (fun j => Cv x v (j + 1)) co) k (Lf x (k + 1)) = mrg (k + 1) (fun j => Cv x v (j + 1)) co := by rw [ec2]; exact e2
        have e3' : upd (mrg k (fun j => Cv x v (j + 1) - Lf x (j + 1)) li) k (Lf x (k + 1) - Lf x (k + 1)) = mrg (k + 1) (fun j => Cv x v (j + 1) - Lf x (j + 1)) li := by
          exact upd_to (show Lf x (k + 1) - Lf x (k + 1) = Cv x v (k + 1) - Lf x (k + 1) by rw [← ec2])
        rw [e2', e3']
        show K (_, _, _, Lf x (k + 1), Lf x (k + 1), _) = K (_, _, _, Lf x (k + 1), Cv x v (k + 1), _)
        rw [← ec2]
    · unfold fX3_lays_l12
      dsimp only
      rw [if_pos l24]
    · rw [bounced_r hR hI, Option.bind_some, hb, hsub]
      have e0 : mrg 24 (fun j => Cv x v (j + 1) - Lf x (j + 1)) li = fun j => if 24 - b ≤ j ∧ j < 24 - b then Lg x v j else mrg 24 (fun j => Cv x v (j + 1) - Lf x (j + 1)) li j := by
        funext j; rw [if_neg (by omega)]
      refine Eq.trans (congrArg (fun z => lp (fX3_lays_l98 mo fs) 2000 (mrg 24 (fun j => Lf x (j + 1)) le, mrg 24 (fun j => Cv x v (j + 1)) co, z, Lf x 24, nI (24 - b))) e0) ?_
      refine lp_from (fun k => (mrg 24 (fun j => Lf x (j + 1)) le, mrg 24 (fun j => Cv x v (j + 1)) co, (fun j => if 24 - b ≤ j ∧ j < k then Lg x v j else mrg 24 (fun j => Cv x v (j + 1) - Lf x (j + 1)) li j), Lf x 24, nI k)) (24 - b) 24 (fun k K hb0 hk => ?_) (fun K => ?_) 2000 (24 - b) (by omega) (by omega) (by omega)
      · have s2 : fs 2 = x.2.2.2.2.2.1 2 := R_set hR (by decide)
        have hc : 24 - Bc x ≤ nI k := by rw [hb, hsub]; exact nI_le hb0 (by omega)
        have lo := Lo_t hI hM hv hk hc
        have c := Cv_b hI hM hv (k + 1) (by omega)
        have l := Lf_b hI hM 24 (by omega)
        have s := hI.2.2.2.2.2.2.2.1
        have ea : (Lf x 24 + x.2.2.2.2.2.1 2).toInt = (Lf x 24).toInt + (x.2.2.2.2.2.1 2).toInt := ti_add (by omega) (by omega)
        have e3 : ∀ a, a = Lg x v k → upd (fun j => if 24 - b ≤ j ∧ j < k then Lg x v j else mrg 24 (fun j => Cv x v (j + 1) - Lf x (j + 1)) li j) k a = (fun j => if 24 - b ≤ j ∧ j < k + 1 then Lg x v j else mrg 24 (fun j => Cv x v (j + 1) - Lf x (j + 1)) li j) := fun a ha => upd_G hb0 ha
        have em : (if 24 - b ≤ k ∧ k < k then Lg x v k else mrg 24 (fun j => Cv x v (j + 1) - Lf x (j + 1)) li k) = Cv x v (k + 1) - Lf x (k + 1) := by rw [if_neg (by omega)]; exact mrg_lt hk
        have ek : mrg 24 (fun j => Cv x v (j + 1)) co k = Cv x v (k + 1) := mrg_lt hk
        have lg : Lg x v k = (Cv x v (k + 1) - Lf x (k + 1)) - Lo x v k := rfl
        unfold fX3_lays_l98
        dsimp only
        rw [if_neg (n24 hk), gd_t (pin_nI hk (by decide)), nI_clamp (by omega), k2, s2]
        simp only [ek]
        by_cases q : Cv x v (k + 1) ≤ Lf x 24 + x.2.2.2.2.2.1 2
        · rw [if_pos q]
          rw [le_i, ea] at q
          unfold fX3_lays_j135
          dsimp only
          rw [gd_t (pin_nI hk (by decide)), nI_clamp (by omega), em, ← nI_succ]
          by_cases u : Cv x v (k + 1) ≤ Lf x 24
          · rw [if_pos u, e3 _ (by rw [lg, show Lo x v k = 0 from i_eq (by rw [lo, z_t]; rw [le_i] at u; omega)])]
          · rw [if_neg u, e3 _ (by rw [lg, show Lo x v k = Cv x v (k + 1) - Lf x 24 from i_eq (by rw [le_i] at u; rw [lo, ti_sub (by omega) (by omega)]; omega)])]
        · rw [if_neg q]
          rw [le_i, ea] at q
          unfold fX3_lays_j135
          dsimp only
          rw [gd_t (pin_nI hk (by decide)), nI_clamp (by omega), em, ← nI_succ]
          by_cases u : Lf x 24 + x.2.2.2.2.2.1 2 ≤ Lf x 24
          · rw [if_pos u, e3 _ (by rw [lg, show Lo x v k = 0 from i_eq (by rw [lo, z_t]; rw [le_i, ea] at u; omega)])]
          · rw [if_neg u, e3 _ (by rw [lg, show Lo x v k = Lf x 24 + x.2.2.2.2.2.1 2 - Lf x 24 from i_eq (by rw [le_i, ea] at u; rw [lo, ti_sub (by rw [ea]; omega) (by rw [ea]; omega), ea]; omega)])]
      · unfold fX3_lays_l98
        dsimp only
        rw [if_pos l24]
  · dsimp only
    by_cases q : 24 - b ≤ j ∧ j < 24
    · rw [if_pos q]
    · rw [if_neg q, mrg_lt hj]
      show _ = (Cv x v (j + 1) - Lf x (j + 1)) - Lo x v j
      rw [Lo_0, Int32.sub_zero]
      rw [hb, hsub]
      exact nI_ge (by omega) (by omega)
