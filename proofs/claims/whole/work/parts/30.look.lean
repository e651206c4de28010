/-! looks: class and reference answer alike -/
def Ds (d : Fn) : Nat → Int32
  | 0 => 0
  | k + 1 => Ds d k + d k
def Sl (d : Fn) : Nat → Nat
  | 0 => 0
  | k + 1 => if d k ≤ d (Sl d k) then Sl d k else k
theorem Sl_lt (d : Fn) : ∀ k, k ≤ 24 → Sl d k < 24 := by
  intro k
  induction k with
  | zero => intro _; show 0 < 24; omega
  | succ k ih =>
    intro h
    show (if d k ≤ d (Sl d k) then Sl d k else k) < 24
    by_cases q : d k ≤ d (Sl d k)
    · rw [if_pos q]; exact ih (by omega)
    · rw [if_neg q]; omega
theorem drag_b {x : ShT} {M c k : Nat} (hI : Inv x M) (hk : k < 24) : 0 ≤ (Dr x c k).toInt ∧ (Dr x c k).toInt ≤ 50 := by
  unfold Dr
  by_cases h : c = 0
  · rw [if_pos h]; exact hI.2.2.1 k hk
  · rw [if_neg h]; exact hI.2.2.2.1 k hk
theorem all_c {x : ShT} {M c : Nat} (hI : Inv x M) (hc : c < 2) : fX1_ticksForAll x (nI c) = some (24 * Tk x c + Ds (Dr x c) 24) := by
  unfold fX1_ticksForAll fX1_dragsOf
  rw [ticks_eq hI hc]
  rcases (by omega : c = 0 ∨ c = 1) with rfl | rfl
  · rw [if_pos (show nI 0 = 0 from rfl), if_pos (show nI 0 = 0 from rfl), Option.bind_some, Option.bind_some]
    have e : (24 * Tk x 0, (0 : Int32)) = (24 * Tk x 0 + Ds (Dr x 0) 0, nI 0) := by rw [show Ds (Dr x 0) 0 = 0 from rfl, Int32.add_zero]; rfl
    rw [e]
    refine lp_run (fun k => (24 * Tk x 0 + Ds (Dr x 0) k, nI k)) 24 (fun k K hk => ?_) (fun K => ?_) 2000 0 (by omega) (by omega) <;> unfold fX1_ticksForAll_l18 <;> dsimp only
    · rw [if_neg (n24 hk), gd_t (pin_nI hk (by decide)), nI_clamp (by omega), Int32.add_assoc, ← nI_succ]; rfl
    · rw [if_pos l24]
  · rw [if_neg (show ¬ nI 1 = 0 by decide), if_neg (show ¬ nI 1 = 0 by decide), Option.bind_some, Option.bind_some]
    have e : (24 * Tk x 1, (0 : Int32)) = (24 * Tk x 1 + Ds (Dr x 1) 0, nI 0) := by rw [show Ds (Dr x 1) 0 = 0 from rfl, Int32.add_zero]; rfl
    rw [e]
    refine lp_run (fun k => (24 * Tk x 1 + Ds (Dr x 1) k, nI k)) 24 (fun k K hk => ?_) (fun K => ?_) 2000 0 (by omega) (by omega) <;> unfold fX1_ticksForAll_l18_1 <;> dsimp only
    · rw [if_neg (n24 hk), gd_t (pin_nI hk (by decide)), nI_clamp (by omega), Int32.add_assoc, ← nI_succ]; rfl
    · rw [if_pos l24]
theorem slow_c {x : ShT} {c : Nat} (hc : c < 2) : fX1_slowestColumn x (nI c) = some (nI (Sl (Dr x c) 24)) := by
  unfold fX1_slowestColumn fX1_dragsOf
  rcases (by omega : c = 0 ∨ c = 1) with rfl | rfl
  · rw [if_pos (show nI 0 = 0 from rfl), if_pos (show nI 0 = 0 from rfl), Option.bind_some]
    refine lp_run (fun k => (nI (Sl (Dr x 0) k), nI k)) 24 (fun k K hk => ?_) (fun K => ?_) 2000 0 (by omega) (by omega) <;> unfold fX1_slowestColumn_l11 <;> dsimp only
    · have h := Sl_lt (Dr x 0) k (by omega)
      rw [if_neg (n24 hk), gd_t (pin_nI hk (by decide)), nI_clamp (by omega), at_nI _ h (by decide), Option.bind_some, ← nI_succ]
      have e : Sl (Dr x 0) (k + 1) = if x.2.2.1 k ≤ x.2.2.1 (Sl (Dr x 0) k) then Sl (Dr x 0) k else k := rfl
      rw [e]
      by_cases q : x.2.2.1 k ≤ x.2.2.1 (Sl (Dr x 0) k)
      · rw [if_pos q, if_pos q]
      · rw [if_neg q, if_neg q]
    · rw [if_pos l24]
  · rw [if_neg (show ¬ nI 1 = 0 by decide), if_neg (show ¬ nI 1 = 0 by decide), Option.bind_some]
    refine lp_run (fun k => (nI (Sl (Dr x 1) k), nI k)) 24 (fun k K hk => ?_) (fun K => ?_) 2000 0 (by omega) (by omega) <;> unfold fX1_slowestColumn_l11_1 <;> dsimp only
    · have h := Sl_lt (Dr x 1) k (by omega)
      rw [if_neg (n24 hk), gd_t (pin_nI hk (by decide)), nI_clamp (by omega), at_nI _ h (by decide), Option.bind_some, ← nI_succ]
      have e : Sl (Dr x 1) (k + 1) = if x.2.2.2.1 k ≤ x.2.2.2.1 (Sl (Dr x 1) k) then Sl (Dr x 1) k else k := rfl
      rw [e]
      by_cases q : x.2.2.2.1 k ≤ x.2.2.2.1 (Sl (Dr x 1) k)
      · rw [if_pos q, if_pos q]
      · rw [if_neg q, if_neg q]
    · rw [if_pos l24]
theorem ofCurtain_r {mo : MoT} {x : ShT} {fn : Fn} {M c : Nat} {w : Int32} (hR : Rel x fn 0) (hI : Inv x M) (hM : M ≤ 200000) (hc : c < 2) (hw : 2 ≤ w) : fX3_ofCurtain mo fn (nI c) w = some (if w = 2 then 24 * Tk x c + Ds (Dr x c) 24 else nI (Sl (Dr x c) 24)) := by
  unfold fX3_ofCurtain
  rw [if_pos hw]
  have t := Tk_b (c := c) hI hM hc
  have e0 : Ds (Dr x c) 0 + nI 0 * Tk x c = 0 := by rw [show nI 0 = (0 : Int32) from rfl, Int32.zero_mul]; rfl
  refine Eq.trans (congrArg (fun z => lp (fX3_ofCurtain_l31 mo fn) 2000 (nI c, w, z, 0, 0)) e0.symm) ?_
  refine lp_run (fun k => (nI c, w, Ds (Dr x c) k + nI k * Tk x c, nI (Sl (Dr x c) k), nI k)) 24 (fun k K hk => ?_) (fun K => ?_) 2000 0 (by omega) (by omega) <;> unfold fX3_ofCurtain_l31 <;> dsimp only
  · have h := Sl_lt (Dr x c) k (by omega)
    have d1 := drag_b (c := c) hI hk
    have d2 := drag_b (c := c) hI h
    rw [if_neg (n24 hk), takes_eq hR hI hc hk, Option.bind_some, Option.bind_some, takes_eq hR hI hc h, Option.bind_some]
    have e : Sl (Dr x c) (k + 1) = if Dr x c k ≤ Dr x c (Sl (Dr x c) k) then Sl (Dr x c) k else k := rfl
    have es : Ds (Dr x c) k + nI k * Tk x c + (Tk x c + Dr x c k) = Ds (Dr x c) (k + 1) + nI (k + 1) * Tk x c := by
      rw [nI_succ, Int32.add_mul, Int32.one_mul]
      show Ds (Dr x c) k + nI k * Tk x c + (Tk x c + Dr x c k) = (Ds (Dr x c) k + Dr x c k) + (nI k * Tk x c + Tk x c)
      ac_rfl
    have ec : (Tk x c + Dr x c k ≤ Tk x c + Dr x c (Sl (Dr x c) k)) ↔ Dr x c k ≤ Dr x c (Sl (Dr x c) k) := by
      rw [le_i, le_i, ti_add (by omega) (by omega), ti_add (by omega) (by omega)]
      omega
    rw [es, e, ← nI_succ]
    by_cases q : Dr x c k ≤ Dr x c (Sl (Dr x c) k)
    · rw [if_pos (ec.mpr q), if_pos q]
    · rw [if_neg (fun z => q (ec.mp z)), if_neg q]
  · rw [if_pos l24, show nI 24 * Tk x c = 24 * Tk x c from rfl, Int32.add_comm]
    by_cases q : w = 2
    · rw [if_pos q, if_pos q]
    · rw [if_neg q, if_neg q]
theorem curtain_v {bo : BoT} {mo : MoT} {x : ShT} {fn : Fn} {M c w : Nat} (hR : Rel x fn 0) (hI : Inv x M) (hM : M ≤ 200000) (hc : c < 2) (hw : w < 4) : ∃ a, fX2_curtain bo x (nI c) (nI w) = some (.inr a) ∧ fX3_ofCurtain mo fn (nI c) (nI w) = some a := by
  unfold fX2_curtain
  rw [needC hc, tb_inr, show fX2_needRange (nI w) 0 3 = some (.inr ()) from needR (a := 0) (b := 3) (by omega) (by omega) (by omega), tb_inr]
  rcases (by omega : w = 0 ∨ w = 1 ∨ w = 2 ∨ w = 3) with rfl | rfl | rfl | rfl
  · refine ⟨x.1 c, ?_, ?_⟩
    · rw [if_pos (show nI 0 = 0 from rfl), at_nI _ hc (by decide)]; rfl
    · unfold fX3_ofCurtain
      rw [if_neg (show ¬ 2 ≤ nI 0 by decide), if_pos (show nI 0 = 0 from rfl), p4, gd_t (pin_nI (by omega) (by decide)), nI_clamp (by omega), R_sp hR hc]
  · refine ⟨x.2.1 c, ?_, ?_⟩
    · rw [if_neg (show ¬ nI 1 = 0 by decide), if_pos (show nI 1 = 1 from rfl), at_nI _ hc (by decide)]; rfl
    · unfold fX3_ofCurtain
      rw [if_neg (show ¬ 2 ≤ nI 1 by decide), if_neg (show ¬ nI 1 = 0 by decide), p6, gd_t (pin_nI (by omega) (by decide)), nI_clamp (by omega), R_si hR hc]
  · refine ⟨_, ?_, ofCurtain_r hR hI hM hc (by decide)⟩
    rw [if_neg (show ¬ nI 2 = 0 by decide), if_neg (show ¬ nI 2 = 1 by decide), if_pos (show nI 2 = 2 from rfl), all_c hI hc]; rfl
  · refine ⟨_, ?_, ofCurtain_r hR hI hM hc (by decide)⟩
    rw [if_neg (show ¬ nI 3 = 0 by decide), if_neg (show ¬ nI 3 = 1 by decide), if_neg (show ¬ nI 3 = 2 by decide), slow_c hc]; rfl
theorem column_v {bo : BoT} {mo : MoT} {ex : ExT} {x : ShT} {fn le co li : Fn} {M v k w : Nat} (hR : Rel x fn 0) (hI : Inv x M) (hM : M ≤ 200000) (hv : v < 6) (hk : k < 24) (hw : w < 6) : ∃ a ex' r, fX2_column bo x ex (nI v) (nI k) (nI w) = some (.inr (a, ex')) ∧ fX3_ofColumn mo fn le co li (nI v) (nI k) (nI w) = some (a, r) := by
  obtain ⟨ex', e1, e2⟩ := expose_eq (ex := ex) hI hv
  obtain ⟨r, f1, f2, f3, f4⟩ := lays_eq (mo := mo) (le := le) (co := co) (li := li) hR hI hM hv
  unfold fX2_column fX3_ofColumn
  rw [needV hv, tb_inr, needK hk, tb_inr, show fX2_needRange (nI w) 0 5 = some (.inr ()) from needR (a := 0) (b := 5) (by omega) (by omega) (by omega), tb_inr, e1, Option.bind_some, f1, Option.bind_some]
  rcases (by omega : w = 0 ∨ w = 1 ∨ w = 2 ∨ w = 3 ∨ w = 4 ∨ w = 5) with rfl | rfl | rfl | rfl | rfl | rfl
  · rw [if_pos (show nI 0 = 0 from rfl), if_pos (show nI 0 = 0 from rfl), at_nI _ hk (by decide), gd_t (pin_nI hk (by decide)), nI_clamp (by omega), f2 k hk, e2.1 k hk]
    exact ⟨_, _, _, rfl, rfl⟩
  · rw [if_neg (show ¬ nI 1 = 0 by decide), if_neg (show ¬ nI 1 = 0 by decide), if_pos (show nI 1 = 1 from rfl), if_pos (show nI 1 = 1 from rfl), at_nI _ hk (by decide), gd_t (pin_nI hk (by decide)), nI_clamp (by omega), f3 k hk, e2.2.1 k hk]
    exact ⟨_, _, _, rfl, rfl⟩
  · rw [if_neg (show ¬ nI 2 = 0 by decide), if_neg (show ¬ nI 2 = 0 by decide), if_neg (show ¬ nI 2 = 1 by decide), if_neg (show ¬ nI 2 = 1 by decide), if_pos (show nI 2 = 2 from rfl), if_pos (show nI 2 = 2 from rfl), at_nI _ hk (by decide), gd_t (pin_nI hk (by decide)), nI_clamp (by omega), f4 k hk, e2.2.2.1 k hk]
    exact ⟨_, _, _, rfl, rfl⟩
  · rw [if_neg (show ¬ nI 3 = 0 by decide), if_neg (show ¬ nI 3 = 0 by decide), if_neg (show ¬ nI 3 = 1 by decide), if_neg (show ¬ nI 3 = 1 by decide), if_neg (show ¬ nI 3 = 2 by decide), if_neg (show ¬ nI 3 = 2 by decide), if_pos (show nI 3 = 3 from rfl), if_pos (show nI 3 = 3 from rfl), at_nI _ hk (by decide), gd_t (pin_nI hk (by decide)), nI_clamp (by omega), f4 k hk, e2.2.2.1 k hk]
    unfold fX2_wantedLight fX3_wanted
    rw [Option.bind_some, Option.bind_some, Option.bind_some, size_eq]
    exact ⟨_, _, _, rfl, rfl⟩
  · rw [if_neg (show ¬ nI 4 = 0 by decide), if_neg (show ¬ nI 4 = 0 by decide), if_neg (show ¬ nI 4 = 1 by decide), if_neg (show ¬ nI 4 = 1 by decide), if_neg (show ¬ nI 4 = 2 by decide), if_neg (show ¬ nI 4 = 2 by decide), if_neg (show ¬ nI 4 = 3 by decide), if_neg (show ¬ nI 4 = 3 by decide), if_pos (show nI 4 = 4 from rfl), at_nI _ hk (by decide), show (23 : Int32) + 24 * (nI 4 - 4) = nI 23 by decide, nI_add, gd_t (pin_nI (by omega) (by decide)), nI_clamp (by omega), R_d0 hR hk]
    exact ⟨_, _, _, rfl, rfl⟩
  · rw [if_neg (show ¬ nI 5 = 0 by decide), if_neg (show ¬ nI 5 = 0 by decide), if_neg (show ¬ nI 5 = 1 by decide), if_neg (show ¬ nI 5 = 1 by decide), if_neg (show ¬ nI 5 = 2 by decide), if_neg (show ¬ nI 5 = 2 by decide), if_neg (show ¬ nI 5 = 3 by decide), if_neg (show ¬ nI 5 = 3 by decide), if_neg (show ¬ nI 5 = 4 by decide), at_nI _ hk (by decide), show (23 : Int32) + 24 * (nI 5 - 4) = nI 47 by decide, nI_add, gd_t (pin_nI (by omega) (by decide)), nI_clamp (by omega), R_d1 hR hk]
    exact ⟨_, _, _, rfl, rfl⟩
theorem tl5 (s : SmT) : tl s 5 = s.2.2.2.2.1 := rfl
theorem tl6 (s : SmT) : tl s 6 = s.2.2.2.2.2.1 := rfl
theorem tl7 (s : SmT) : tl s 7 = s.2.2.2.2.2.2 := rfl
theorem tl8 (s : SmT) : tl s 8 = s.2.1 := rfl
theorem tl9 (s : SmT) : tl s 9 = s.2.2.1 := rfl
theorem tl10 (s : SmT) : tl s 10 = s.2.2.2.1 := rfl
theorem speed_v {bo : BoT} {mo : MoT} {ex : ExT} {x : ShT} {fn le co li : Fn} {M v w : Nat} (hR : Rel x fn 0) (hI : Inv x M) (hM : M ≤ 200000) (hv : v < 6) (hw : w < 9) : ∃ a ex' r, fX2_speed bo x ex (nI v) (nI w) = some (.inr (a, ex')) ∧ fX3_ofSpeed mo fn le co li (nI v) (nI w) = some (a, r) := by
  obtain ⟨ex', e1, e2⟩ := expose_eq (ex := ex) hI hv
  obtain ⟨r, f1, f2, f3, f4⟩ := lays_eq (mo := mo) (le := le) (co := co) (li := li) hR hI hM hv
  unfold fX2_speed fX3_ofSpeed
  rw [needV hv, tb_inr, show fX2_needRange (nI w) 0 8 = some (.inr ()) from needR (a := 0) (b := 8) (by omega) (by omega) (by omega), tb_inr, e1, Option.bind_some, f1, Option.bind_some, tells_eq hI hM hv f4, start_r hR hv, start_eq hv, spread_eq e2, E_all e2, E_we e2, E_wc e2, E_da e2, at_nI _ hv (by decide), at_nI _ hv (by decide)]
  unfold fX3_ofSpeed_j11
  dsimp only
  rw [p8, p14, gd_t (pin_nI (by omega) (by decide)), gd_t (pin_nI (by omega) (by decide)), nI_clamp (by omega), nI_clamp (by omega), R_co hR hv, R_ma hR hv]
  rcases (by omega : w = 0 ∨ w = 1 ∨ w = 2 ∨ w = 3 ∨ w = 4 ∨ w = 5 ∨ w = 6 ∨ w = 7 ∨ w = 8) with rfl | rfl | rfl | rfl | rfl | rfl | rfl | rfl | rfl
  · refine ⟨Wv v, ex', ?_, ?_, ?_⟩
    rotate_left
    · rw [if_pos (show nI 0 = 0 from rfl)]; rfl
    · rw [if_neg (show ¬ nI 0 = 1 by decide), if_neg (show ¬ nI 0 = 8 by decide), if_pos (show nI 0 = 0 from rfl)]; rfl
  · refine ⟨x.2.2.2.2.1 v + 100, ex', ?_, ?_, ?_⟩
    rotate_left
    · rw [if_neg (show ¬ nI 1 = 0 by decide), if_pos (show nI 1 = 1 from rfl)]; rfl
    · rw [if_pos (show nI 1 = 1 from rfl), if_pos (show nI 1 = 1 from rfl)]
  · refine ⟨Sv x v, ex', ?_, ?_, ?_⟩
    rotate_left
    · rw [if_neg (show ¬ nI 2 = 0 by decide), if_neg (show ¬ nI 2 = 1 by decide), if_pos (show nI 2 = 2 from rfl)]; rfl
    · rw [if_neg (show ¬ nI 2 = 1 by decide), if_neg (show ¬ nI 2 = 8 by decide), if_neg (show ¬ nI 2 = 0 by decide), if_pos (show nI 2 = 2 from rfl), Option.bind_some]
  · refine ⟨(Sx x v).1, ex', ?_, ?_, ?_⟩
    rotate_left
    · rw [if_neg (show ¬ nI 3 = 0 by decide), if_neg (show ¬ nI 3 = 1 by decide), if_neg (show ¬ nI 3 = 2 by decide), if_pos (show nI 3 = 3 from rfl)]
    · rw [if_neg (show ¬ nI 3 = 1 by decide), if_neg (show ¬ nI 3 = 8 by decide), if_neg (show ¬ nI 3 = 0 by decide), if_neg (show ¬ nI 3 = 2 by decide), Option.bind_some, show nI 3 = 3 from rfl, tl3]
  · refine ⟨Spr x v, ex', ?_, ?_, ?_⟩
    rotate_left
    · rw [if_neg (show ¬ nI 4 = 0 by decide), if_neg (show ¬ nI 4 = 1 by decide), if_neg (show ¬ nI 4 = 2 by decide), if_neg (show ¬ nI 4 = 3 by decide), if_pos (show nI 4 = 4 from rfl)]; rfl
    · rw [if_neg (show ¬ nI 4 = 1 by decide), if_neg (show ¬ nI 4 = 8 by decide), if_neg (show ¬ nI 4 = 0 by decide), if_neg (show ¬ nI 4 = 2 by decide), Option.bind_some, show nI 4 = 4 from rfl, tl4]
  · refine ⟨(Sx x v).2.2.2.2.1, ex', ?_, ?_, ?_⟩
    rotate_left
    · rw [if_neg (show ¬ nI 5 = 0 by decide), if_neg (show ¬ nI 5 = 1 by decide), if_neg (show ¬ nI 5 = 2 by decide), if_neg (show ¬ nI 5 = 3 by decide), if_neg (show ¬ nI 5 = 4 by decide), if_pos (show nI 5 = 5 from rfl)]
    · rw [if_neg (show ¬ nI 5 = 1 by decide), if_neg (show ¬ nI 5 = 8 by decide), if_neg (show ¬ nI 5 = 0 by decide), if_neg (show ¬ nI 5 = 2 by decide), Option.bind_some, show nI 5 = 5 from rfl, tl5]
  · refine ⟨(Sx x v).2.2.2.2.2.1, ex', ?_, ?_, ?_⟩
    rotate_left
    · rw [if_neg (show ¬ nI 6 = 0 by decide), if_neg (show ¬ nI 6 = 1 by decide), if_neg (show ¬ nI 6 = 2 by decide), if_neg (show ¬ nI 6 = 3 by decide), if_neg (show ¬ nI 6 = 4 by decide), if_neg (show ¬ nI 6 = 5 by decide), if_pos (show nI 6 = 6 from rfl)]
    · rw [if_neg (show ¬ nI 6 = 1 by decide), if_neg (show ¬ nI 6 = 8 by decide), if_neg (show ¬ nI 6 = 0 by decide), if_neg (show ¬ nI 6 = 2 by decide), Option.bind_some, show nI 6 = 6 from rfl, tl6]
  · refine ⟨(Sx x v).2.2.2.2.2.2, ex', ?_, ?_, ?_⟩
    rotate_left
    · rw [if_neg (show ¬ nI 7 = 0 by decide), if_neg (show ¬ nI 7 = 1 by decide), if_neg (show ¬ nI 7 = 2 by decide), if_neg (show ¬ nI 7 = 3 by decide), if_neg (show ¬ nI 7 = 4 by decide), if_neg (show ¬ nI 7 = 5 by decide), if_neg (show ¬ nI 7 = 6 by decide), if_pos (show nI 7 = 7 from rfl)]
    · rw [if_neg (show ¬ nI 7 = 1 by decide), if_neg (show ¬ nI 7 = 8 by decide), if_neg (show ¬ nI 7 = 0 by decide), if_neg (show ¬ nI 7 = 2 by decide), Option.bind_some, show nI 7 = 7 from rfl, tl7]
  · refine ⟨x.2.2.2.2.2.2.1 v, ex', ?_, ?_, ?_⟩
    rotate_left
    · rw [if_neg (show ¬ nI 8 = 0 by decide), if_neg (show ¬ nI 8 = 1 by decide), if_neg (show ¬ nI 8 = 2 by decide), if_neg (show ¬ nI 8 = 3 by decide), if_neg (show ¬ nI 8 = 4 by decide), if_neg (show ¬ nI 8 = 5 by decide), if_neg (show ¬ nI 8 = 6 by decide), if_neg (show ¬ nI 8 = 7 by decide)]; rfl
    · rw [if_neg (show ¬ nI 8 = 1 by decide), if_pos (show nI 8 = 8 from rfl), if_neg (show ¬ nI 8 = 1 by decide)]
theorem count_v {bo : BoT} {mo : MoT} {x : ShT} {fn : Fn} {M w : Nat} (hR : Rel x fn 0) (hI : Inv x M) (hb : bo.1 = mo.1) (hw : w < 5) : ∃ a, fX2_count bo x (nI w) = some (.inr a) ∧ fX3_counted mo fn (nI w) = some a := by
  unfold fX2_count fX3_counted
  rw [show fX2_needRange (nI w) 0 4 = some (.inr ()) from needR (a := 0) (b := 4) (by omega) (by omega) (by omega), tb_inr, bounce_eq, bounced_r hR hI, k22, R_sr hR, hb]
  rcases (by omega : w = 0 ∨ w = 1 ∨ w = 2 ∨ w = 3 ∨ w = 4) with rfl | rfl | rfl | rfl | rfl
  · refine ⟨_, rfl, ?_⟩
    rw [if_neg (show ¬ 2 ≤ nI 0 by decide), show (20 : Int32) + nI 0 = nI 20 by decide, gd_t (by decide), nI_clamp (by decide), R_sh hR]
  · refine ⟨_, rfl, ?_⟩
    rw [if_neg (show ¬ 2 ≤ nI 1 by decide), show (20 : Int32) + nI 1 = nI 21 by decide, gd_t (by decide), nI_clamp (by decide), R_li hR]
  · exact ⟨_, rfl, rfl⟩
  · exact ⟨_, rfl, rfl⟩
  · exact ⟨_, rfl, rfl⟩
theorem setting_v {bo : BoT} {x : ShT} {fn : Fn} {w : Nat} (hR : Rel x fn 0) (hw : w < 4) : fX2_setting bo x (nI w) = some (.inr (fn w)) := by
  unfold fX2_setting
  rw [needS hw, tb_inr, at_nI _ hw (by decide), Option.bind_some, R_set hR hw]
