theorem upd_ne {f : Nat → Int32} {i j : Nat} {a : Int32} (h : j ≠ i) : upd f i a j = f j := if_neg h
theorem upd_eq {f : Nat → Int32} {i : Nat} {a : Int32} : upd f i a i = a := if_pos rfl
abbrev Fn : Type := Nat → Int32
theorem lp_rel {σ R : Type} {B : (σ → Option R) → σ → Option R} (P : Nat → σ → Prop) (Q : R → Prop) (N : Nat) (step : ∀ (k : Nat) (s : σ) (K : σ → Option R), k < N → P k s → ∃ s', P (k + 1) s' ∧ B K s = K s') (last : ∀ (s : σ) (K : σ → Option R), P N s → ∃ r, B K s = some r ∧ Q r) : ∀ (fu k : Nat) (s : σ), k ≤ N → N < k + fu → P k s → ∃ r, lp B fu s = some r ∧ Q r := by
  intro fu
  induction fu with
  | zero => intro k s h1 h2; omega
  | succ fu ih =>
    intro k s h1 h2 hP
    show ∃ r, B (lp B fu) s = some r ∧ Q r
    by_cases e : k = N
    · subst e; exact last s _ hP
    · obtain ⟨s', hP', e'⟩ := step k s (lp B fu) (by omega) hP
      rw [e']
      exact ih (k + 1) s' (by omega) (by omega) hP'
abbrev wears (x : ShT) : Prop := (x.2.2.2.2.2.2.2.1 + 1) - (x.2.2.2.2.2.2.2.1 + 1) / x.2.2.2.2.2.1 3 * x.2.2.2.2.2.1 3 = 0
abbrev Spr (x : ShT) (v : Nat) : Int32 := (Sx x v).2.2.1 - (Sx x v).2.1
def Tyk (x : ShT) (v : Nat) (b : Prop) [Decidable b] (k : Nat) : ShT := ((if b then mrg k (fun j => imax 1 (x.1 j - 1)) x.1 else x.1), mrg k (fun j => x.2.1 j + 1) x.2.1, x.2.2.1, x.2.2.2.1, x.2.2.2.2.1, x.2.2.2.2.2.1, upd x.2.2.2.2.2.2.1 v (x.2.2.2.2.2.2.1 v + 1), x.2.2.2.2.2.2.2.1 + 1, (Sx x v).1, imax x.2.2.2.2.2.2.2.2.2 (Spr x v))
def Ty (x : ShT) (v : Nat) : ShT := Tyk x v (wears x) 2
theorem tally_l {ex : ExT} {x : ShT} {v : Nat} {f : Int32} {b : Prop} [Decidable b] (hf : ¬ f = 0 ↔ b) : lp (fX1_tally_l83 ex) 2000 (Tyk x v b 0, f, 0) = some (Tyk x v b 2) := by
  refine lp_run (fun k => (Tyk x v b k, f, nI k)) 2 (fun k K hk => ?_) (fun K => ?_) 2000 0 (by omega) (by omega) <;> unfold fX1_tally_l83
  · dsimp only
    have s0 : (Tyk x v b k).2.1 k = x.2.1 k := if_neg (by omega)
    have e1 : upd (Tyk x v b k).2.1 k (x.2.1 k + 1) = (Tyk x v b (k + 1)).2.1 := upd_to (f := fun j => x.2.1 j + 1) rfl
    rw [if_neg (n2 hk), at_nI _ hk (by decide), Option.bind_some, s0, put_nI _ _ hk (by decide), Option.bind_some, e1, ← nI_succ]
    by_cases q : f = 0
    · have nb : ¬ b := fun r => (hf.mpr r) q
      rw [if_pos q]
      have e2 : (Tyk x v b k).1 = (Tyk x v b (k + 1)).1 := (if_neg nb).trans (if_neg nb).symm
      rw [e2]
      rfl
    · have pb : b := hf.mp q
      have e2 : (Tyk x v b k).1 = mrg k (fun j => imax 1 (x.1 j - 1)) x.1 := if_pos pb
      have e3 : (Tyk x v b (k + 1)).1 = mrg (k + 1) (fun j => imax 1 (x.1 j - 1)) x.1 := if_pos pb
      have s1 : (Tyk x v b k).1 k = x.1 k := by rw [e2]; exact if_neg (by omega)
      have e4 : upd (Tyk x v b k).1 k (imax 1 (x.1 k - 1)) = (Tyk x v b (k + 1)).1 := by rw [e2, e3]; exact upd_to (f := fun j => imax 1 (x.1 j - 1)) rfl
      rw [if_neg q, at_nI _ hk (by decide), Option.bind_some, s1, put_nI _ _ hk (by decide), Option.bind_some, e4]
      rfl
  · dsimp only
    rw [if_pos l2]
theorem Tyk_0 (x : ShT) (v : Nat) (b : Prop) [Decidable b] : Tyk x v b 0 = (x.1, x.2.1, x.2.2.1, x.2.2.2.1, x.2.2.2.2.1, x.2.2.2.2.2.1, upd x.2.2.2.2.2.2.1 v (x.2.2.2.2.2.2.1 v + 1), x.2.2.2.2.2.2.2.1 + 1, (Sx x v).1, imax x.2.2.2.2.2.2.2.2.2 (Spr x v)) := by
  have e1 : mrg 0 (fun j => imax 1 (x.1 j - 1)) x.1 = x.1 := by funext j; exact if_neg (by omega)
  have e2 : mrg 0 (fun j => x.2.1 j + 1) x.2.1 = x.2.1 := by funext j; exact if_neg (by omega)
  unfold Tyk
  rw [e1, e2, ite_self]
theorem tally_eq {ex : ExT} {x : ShT} {M v : Nat} (hI : Inv x M) (hv : v < 6) (hE : Exr x v ex) : fX1_tally x ex (nI v) = some (Ty x v) := by
  have s3 := hI.2.2.2.2.2.2.2.2
  unfold fX1_tally fX0_spread
  rw [at_nI _ hv (by decide), Option.bind_some, put_nI _ _ hv (by decide), Option.bind_some, Option.bind_some, at3 _ (by decide) (by decide), Option.bind_some, if_neg (by rw [le_i, z_t]; omega), gd_t (nz_t (fun q => by rw [q, z_t] at s3; omega))]
  have e1 : ex.2.2.2.1 = (Sx x v).1 := congrArg (fun z : SmT => z.1) hE.2.2.2
  have e2 : ex.2.2.2.2.2.1 - ex.2.2.2.2.1 = Spr x v := congrArg (fun z : SmT => z.2.2.1 - z.2.1) hE.2.2.2
  rw [e1, e2, ← Tyk_0 x v (wears x)]
  by_cases w : wears x
  · rw [if_pos w, tally_l (b := wears x) ⟨fun _ => w, fun _ => by decide⟩]; rfl
  · rw [if_neg w, tally_l (b := wears x) ⟨fun h => absurd rfl h, fun h => absurd h w⟩]; rfl
theorem Inv_Ty {x : ShT} {M v : Nat} (hI : Inv x M) (hM : M ≤ 200000) (hv : v < 6) : Inv (Ty x v) (M + 1) := by
  obtain ⟨h1, h2, h3, h4, h5, h6, h7, h8, h9⟩ := hI
  refine ⟨fun j hj => ?_, fun j hj => ?_, h3, h4, h5, h6, h7, h8, h9⟩
  · have g := h1 j hj
    by_cases w : wears x
    · have e : (Ty x v).1 j = imax 1 (x.1 j - 1) := (congrFun (if_pos w) j).trans (if_pos hj)
      rw [e, imax_t, ti_sub (by rw [o_t]; omega) (by rw [o_t]; omega), o_t]; omega
    · have e : (Ty x v).1 j = x.1 j := congrFun (if_neg w) j
      rw [e]; exact g
  · have g := h2 j hj
    have e : (Ty x v).2.1 j = x.2.1 j + 1 := if_pos hj
    rw [e, ti_add (by rw [o_t]; omega) (by rw [o_t]; omega), o_t]; omega
theorem Inv_up {x : ShT} {M N : Nat} (h : Inv x M) (hN : M ≤ N) : Inv x N := ⟨h.1, fun j hj => ⟨(h.2.1 j hj).1, by have := (h.2.1 j hj).2; omega⟩, h.2.2⟩
def Tn (x : ShT) (v : Nat) : Nat → ShT
  | 0 => x
  | k + 1 => Ty (Tn x v k) v
theorem Inv_Tn {x : ShT} {M v : Nat} (hI : Inv x M) (hv : v < 6) : ∀ k, M + k ≤ 200000 → Inv (Tn x v k) (M + k) := by
  intro k
  induction k with
  | zero => intro _; exact hI
  | succ k ih => intro h; exact Inv_Ty (M := M + k) (ih (by omega)) (by omega) hv
theorem fire_eq {bo : BoT} {ex : ExT} {x : ShT} {M v n : Nat} (hI : Inv x M) (hM : M + n ≤ 200000) (hv : v < 6) (hn : n ≤ 200) : ∃ r, fX2_fire bo ex x (nI v) (nI n) = some r ∧ r.2 = Tn x v n ∧ (0 < n → Exr (Tn x v (n - 1)) v r.1) := by
  unfold fX2_fire
  refine lp_rel (fun k (s : ExT × ShT × Int32 × Int32 × Int32) => s.2.1 = Tn x v k ∧ s.2.2.1 = nI v ∧ s.2.2.2.1 = nI n ∧ s.2.2.2.2 = nI k ∧ (0 < k → Exr (Tn x v (k - 1)) v s.1)) (fun (r : ExT × ShT) => r.2 = Tn x v n ∧ (0 < n → Exr (Tn x v (n - 1)) v r.1)) n (fun k s K hk hP => ?_) (fun s K hP => ?_) 2000 0 _ (by omega) (by omega) ⟨rfl, rfl, rfl, rfl, fun h => absurd h (by omega)⟩ <;> obtain ⟨a, b, c, d, e⟩ := s <;> obtain ⟨h1, h2, h3, h4, h5⟩ := hP <;> dsimp only at h1 h2 h3 h4 h5 <;> subst h1 h2 h3 h4 <;> unfold fX2_fire_l3 <;> dsimp only
  · have hi := Inv_Tn hI hv k (by omega)
    obtain ⟨ex', e1, e2⟩ := expose_eq (ex := a) hi hv
    rw [if_neg (nI_ge hk (by omega)), e1, Option.bind_some, tally_eq hi hv e2, Option.bind_some, ← nI_succ]
    exact ⟨(ex', Tn x v (k + 1), nI v, nI n, nI (k + 1)), ⟨rfl, rfl, rfl, rfl, fun _ => e2⟩, rfl⟩
  · rw [if_pos (nI_le (Nat.le_refl _) (by omega))]
    exact ⟨_, rfl, rfl, h5⟩
theorem spread_eq {ex : ExT} {x : ShT} {v : Nat} (hE : Exr x v ex) : fX0_spread ex = some (Spr x v) := congrArg (fun z : SmT => some (z.2.2.1 - z.2.1)) hE.2.2.2
theorem E_all {ex : ExT} {x : ShT} {v : Nat} (hE : Exr x v ex) : ex.2.2.2.1 = (Sx x v).1 := congrArg (fun z : SmT => z.1) hE.2.2.2
theorem E_le {ex : ExT} {x : ShT} {v : Nat} (hE : Exr x v ex) : ex.2.2.2.2.1 = (Sx x v).2.1 := congrArg (fun z : SmT => z.2.1) hE.2.2.2
theorem E_mo {ex : ExT} {x : ShT} {v : Nat} (hE : Exr x v ex) : ex.2.2.2.2.2.1 = (Sx x v).2.2.1 := congrArg (fun z : SmT => z.2.2.1) hE.2.2.2
theorem E_we {ex : ExT} {x : ShT} {v : Nat} (hE : Exr x v ex) : ex.2.2.2.2.2.2.2.1 = (Sx x v).2.2.2.2.1 := congrArg (fun z : SmT => z.2.2.2.2.1) hE.2.2.2
theorem E_wc {ex : ExT} {x : ShT} {v : Nat} (hE : Exr x v ex) : ex.2.2.2.2.2.2.2.2.1 = (Sx x v).2.2.2.2.2.1 := congrArg (fun z : SmT => z.2.2.2.2.2.1) hE.2.2.2
theorem E_da {ex : ExT} {x : ShT} {v : Nat} (hE : Exr x v ex) : ex.2.2.2.2.2.2.2.2.2 = (Sx x v).2.2.2.2.2.2 := congrArg (fun z : SmT => z.2.2.2.2.2.2) hE.2.2.2
theorem vup_eq {α : Type} {f : Nat → α} {i : Nat} {a : α} : va_up f i a i = a := if_pos rfl
theorem vup_ne {α : Type} {f : Nat → α} {i j : Nat} {a : α} (h : j ≠ i) : va_up f i a j = f j := if_neg h
theorem save_c {s q n : Nat} {now : ShT} {sv : Nat → ShT} (hs : s ≤ 6) (hq : q < 6) : fX2_saveState (nI s, nI q, nI n) now sv = some ((nI (min (s + 1) 6), nI ((q + 1) % 6), nI n), va_up sv q (mrgS now (sv q))) := by
  have e1 : imin (nI s + 1) 6 = nI (min (s + 1) 6) := by
    rw [← nI_succ]
    by_cases h : s + 1 ≤ 6
    · rw [imin_le (show nI (s + 1) ≤ 6 from nI_le (b := 6) h (by decide)), Nat.min_eq_left h]
    · rw [imin_n (show ¬ nI (s + 1) ≤ 6 from nI_ge (a := 6) (by omega) (by omega)), Nat.min_eq_right (by omega)]; rfl
  unfold fX2_saveState fX2_savedAt
  dsimp only
  rw [gd_t (pin_nI hq (by decide)), Option.bind_some, become_eq, Option.bind_some, nI_clamp (by omega)]
  unfold fX2_saveState_j21 fX2_saveState_j40
  dsimp only
  rw [e1]
  by_cases h : 5 ≤ q
  · rw [if_pos (show (5 : Int32) ≤ nI q from nI_le (a := 5) h (by omega)), show (q + 1) % 6 = 0 by omega]; rfl
  · rw [if_neg (show ¬ (5 : Int32) ≤ nI q from nI_ge (b := 5) (by omega) (by decide)), ← nI_succ, show (q + 1) % 6 = q + 1 by omega]
theorem undo_c {s q n : Nat} {now : ShT} {sv : Nat → ShT} (h0 : 0 < s) (hs : s ≤ 6) (hq : q < 6) : fX2_undo (nI s, nI q, nI n) now sv = some (.inr (nI (s - 1), (nI (s - 1), nI ((q + 5) % 6), nI n), mrgS (sv ((q + 5) % 6)) now)) := by
  have e1 : nI s - 1 = nI (s - 1) := by
    obtain ⟨k, rfl⟩ : ∃ k, s = k + 1 := ⟨s - 1, by omega⟩
    exact nI_pred k
  unfold fX2_undo
  dsimp only
  rw [if_pos (show (1 : Int32) ≤ nI s from nI_le (a := 1) h0 (by omega))]
  have J : ∀ i, i < 6 → fX2_undo_j36 sv ((nI s, nI q, nI n), now, nI i) = some (.inr (nI (s - 1), (nI (s - 1), nI i, nI n), mrgS (sv i) now)) := by
    intro i hi
    unfold fX2_undo_j36 fX2_savedAt
    dsimp only
    rw [gd_t (pin_nI hi (by decide)), Option.bind_some, become_eq, Option.bind_some, nI_clamp (by omega), e1]
  by_cases h : q = 0
  · subst h
    rw [if_pos (show nI 0 ≤ 0 by decide)]
    exact J 5 (by decide)
  · rw [if_neg (nI_nle (by omega) (by omega))]
    obtain ⟨k, rfl⟩ : ∃ k, q = k + 1 := ⟨q - 1, by omega⟩
    rw [nI_pred k, show (k + 1 + 5) % 6 = k by omega]
    exact J k (by omega)
theorem undo_0 {q n : Nat} {now : ShT} {sv : Nat → ShT} : fX2_undo (nI 0, nI q, nI n) now sv = some (.inl 2) := by
  unfold fX2_undo
  dsimp only
  rw [if_neg (show ¬ (1 : Int32) ≤ nI 0 by decide)]
theorem tb_inr {α β : Type} (u : α) (K : α → Option (Nat ⊕ β)) : tb (some (.inr u)) K = K u := rfl
theorem tq_inr {α β : Type} (u : α) (K : α → Option β) : tq (some (.inr u)) K = K u := rfl
theorem nn_of {v : Int32} {a b : Nat} (hb : b < 1000) (h1 : nI a ≤ v) (h2 : v ≤ nI b) (ha : a ≤ b) : ∃ c, a ≤ c ∧ c ≤ b ∧ v = nI c := by
  rw [le_i, nI_toInt (by omega)] at h1 h2
  exact ⟨v.toInt.toNat, by omega, by omega, i_eq (by rw [nI_toInt (by omega)]; omega)⟩
theorem needV {c : Nat} (h : c < 6) : fX2_needSpeed (nI c) = some (.inr ()) := by
  unfold fX2_needSpeed fX2_needIndex
  rw [if_neg (nI_pos (by omega)), if_pos (show nI c < 6 from nI_lt (b := 6) h (by decide))]
  rfl
theorem needS {c : Nat} (h : c < 4) : fX2_needSetting (nI c) = some (.inr ()) := by
  unfold fX2_needSetting fX2_needIndex
  rw [if_neg (nI_pos (by omega)), if_pos (show nI c < 4 from nI_lt (b := 4) h (by decide))]
  rfl
theorem needK {c : Nat} (h : c < 24) : fX2_needIndex (nI c) 24 = some (.inr ()) := by
  unfold fX2_needIndex
  rw [if_neg (nI_pos (by omega)), if_pos (show nI c < 24 from nI_lt (b := 24) h (by decide))]
theorem needR {c a b : Nat} (h1 : a ≤ c) (h2 : c ≤ b) (hb : b < 1000) : fX2_needRange (nI c) (nI a) (nI b) = some (.inr ()) := by
  unfold fX2_needRange
  rw [if_neg (nI_nlt h1 (by omega)), if_pos (nI_le h2 (by omega))]
def Ds (d : Fn) : Nat → Int32
  | 0 => 0
  | k + 1 => Ds d k + d k
def Sl (d : Fn) : Nat → Nat
  | 0 => 0
  | k + 1 => if d k ≤ d (Sl d k) then Sl d k else k
theorem Sl_lt (d : Fn) : ∀ k, k ≤ 24 → Sl d k < 24 := by
  intro k
  induction k with
  | zero => intro _; show 0 < 24; omega
  | succ k ih =>
    intro h
    show (if d k ≤ d (Sl d k) then Sl d k else k) < 24
    by_cases q : d k ≤ d (Sl d k)
    · rw [if_pos q]; exact ih (by omega)
    · rw [if_neg q]; omega
theorem all_c {x : ShT} {M c : Nat} (hI : Inv x M) (hc : c < 2) : fX1_ticksForAll x (nI c) = some (24 * Tk x c + Ds (Dr x c) 24) := by
  unfold fX1_ticksForAll fX1_dragsOf
  rw [ticks_eq hI hc]
  rcases (by omega : c = 0 ∨ c = 1) with rfl | rfl
  · rw [if_pos (show nI 0 = 0 from rfl), if_pos (show nI 0 = 0 from rfl), Option.bind_some, Option.bind_some]
    have e : (24 * Tk x 0, (0 : Int32)) = (24 * Tk x 0 + Ds (Dr x 0) 0, nI 0) := by rw [show Ds (Dr x 0) 0 = 0 from rfl, Int32.add_zero]; rfl
    rw [e]
    refine lp_run (fun k => (24 * Tk x 0 + Ds (Dr x 0) k, nI k)) 24 (fun k K hk => ?_) (fun K => ?_) 2000 0 (by omega) (by omega) <;> unfold fX1_ticksForAll_l18 <;> dsimp only
    · rw [if_neg (n24 hk), gd_t (pin_nI hk (by decide)), nI_clamp (by omega), Int32.add_assoc, ← nI_succ]; rfl
    · rw [if_pos l24]
  · rw [if_neg (show ¬ nI 1 = 0 by decide), if_neg (show ¬ nI 1 = 0 by decide), Option.bind_some, Option.bind_some]
    have e : (24 * Tk x 1, (0 : Int32)) = (24 * Tk x 1 + Ds (Dr x 1) 0, nI 0) := by rw [show Ds (Dr x 1) 0 = 0 from rfl, Int32.add_zero]; rfl
    rw [e]
    refine lp_run (fun k => (24 * Tk x 1 + Ds (Dr x 1) k, nI k)) 24 (fun k K hk => ?_) (fun K => ?_) 2000 0 (by omega) (by omega) <;> unfold fX1_ticksForAll_l18_1 <;> dsimp only
    · rw [if_neg (n24 hk), gd_t (pin_nI hk (by decide)), nI_clamp (by omega), Int32.add_assoc, ← nI_succ]; rfl
    · rw [if_pos l24]
theorem slow_c {x : ShT} {c : Nat} (hc : c < 2) : fX1_slowestColumn x (nI c) = some (nI (Sl (Dr x c) 24)) := by
  unfold fX1_slowestColumn fX1_dragsOf
  rcases (by omega : c = 0 ∨ c = 1) with rfl | rfl
  · rw [if_pos (show nI 0 = 0 from rfl), if_pos (show nI 0 = 0 from rfl), Option.bind_some]
    refine lp_run (fun k => (nI (Sl (Dr x 0) k), nI k)) 24 (fun k K hk => ?_) (fun K => ?_) 2000 0 (by omega) (by omega) <;> unfold fX1_slowestColumn_l11 <;> dsimp only
    · have h := Sl_lt (Dr x 0) k (by omega)
      rw [if_neg (n24 hk), gd_t (pin_nI hk (by decide)), nI_clamp (by omega), at_nI _ h (by decide), Option.bind_some, ← nI_succ]
      have e : Sl (Dr x 0) (k + 1) = if x.2.2.1 k ≤ x.2.2.1 (Sl (Dr x 0) k) then Sl (Dr x 0) k else k := rfl
      rw [e]
      by_cases q : x.2.2.1 k ≤ x.2.2.1 (Sl (Dr x 0) k)
      · rw [if_pos q, if_pos q]
      · rw [if_neg q, if_neg q]
    · rw [if_pos l24]
  · rw [if_neg (show ¬ nI 1 = 0 by decide), if_neg (show ¬ nI 1 = 0 by decide), Option.bind_some]
    refine lp_run (fun k => (nI (Sl (Dr x 1) k), nI k)) 24 (fun k K hk => ?_) (fun K => ?_) 2000 0 (by omega) (by omega) <;> unfold fX1_slowestColumn_l11_1 <;> dsimp only
    · have h := Sl_lt (Dr x 1) k (by omega)
      rw [if_neg (n24 hk), gd_t (pin_nI hk (by decide)), nI_clamp (by omega), at_nI _ h (by decide), Option.bind_some, ← nI_succ]
      have e : Sl (Dr x 1) (k + 1) = if x.2.2.2.1 k ≤ x.2.2.2.1 (Sl (Dr x 1) k) then Sl (Dr x 1) k else k := rfl
      rw [e]
      by_cases q : x.2.2.2.1 k ≤ x.2.2.2.1 (Sl (Dr x 1) k)
      · rw [if_pos q, if_pos q]
      · rw [if_neg q, if_neg q]
    · rw [if_pos l24]
theorem upd_upd {f : Fn} {i : Nat} {a b : Int32} : upd (upd f i a) i b = upd f i b := by
  funext j
  by_cases e : j = i
  · subst e; rw [upd_eq, upd_eq]
  · rw [upd_ne e, upd_ne e, upd_ne e]
theorem upd_self {f : Fn} {i : Nat} : upd f i (f i) = f := by
  funext j
  by_cases e : j = i
  · subst e; rw [upd_eq]
  · rw [upd_ne e]
def Zc (y : ShT) (v : Nat) (a : Int32) : ShT := (y.1, y.2.1, y.2.2.1, y.2.2.2.1, upd y.2.2.2.2.1 v a, y.2.2.2.2.2)
def Zs (y : ShT) (c : Nat) (a : Int32) : ShT := (upd y.1 c a, y.2)
theorem Inv_Zc {y : ShT} {M v : Nat} {a : Int32} (h : Inv y M) (ha : -50 ≤ a.toInt ∧ a.toInt ≤ 50) : Inv (Zc y v a) M := by
  refine ⟨h.1, h.2.1, h.2.2.1, h.2.2.2.1, fun j hj => ?_, h.2.2.2.2.2⟩
  show -50 ≤ (upd y.2.2.2.2.1 v a j).toInt ∧ (upd y.2.2.2.2.1 v a j).toInt ≤ 50
  by_cases e : j = v
  · subst e; rw [upd_eq]; exact ha
  · rw [upd_ne e]; exact h.2.2.2.2.1 j hj
theorem Inv_Zs {y : ShT} {M c : Nat} {a : Int32} (h : Inv y M) (ha : 1 ≤ a.toInt ∧ a.toInt ≤ 99) : Inv (Zs y c a) M := by
  refine ⟨fun j hj => ?_, h.2⟩
  show 1 ≤ (upd y.1 c a j).toInt ∧ (upd y.1 c a j).toInt ≤ 99
  by_cases e : j = c
  · subst e; rw [upd_eq]; exact ha
  · rw [upd_ne e]; exact h.1 j hj
def Gd (y : ShT) (v : Nat) (err : Int32) : Nat → Nat → Nat
  | 0, k => k
  | f + 1, k => if (Sx (Tn y v k) v).2.2.2.2.1 ≤ err then Gd y v err f (k + 1) else k
theorem n200 {k : Nat} (h : k < 200) : ¬ (200 : Int32) ≤ nI k := nI_ge (b := 200) h (by decide)
theorem good_c {bo : BoT} {now y : ShT} {M v : Nat} {err : Int32} (hI : Inv y M) (hM : M + 200 ≤ 200000) (hv : v < 6) : ∀ f k fu ex, k + f = 200 → f < fu → ∃ r, lp (fX2_goodFor_l25 bo now) fu (Tn y v k, ex, nI v, err, nI k) = some (.inr (nI (Gd y v err f k), r)) := by
  intro f
  induction f with
  | zero =>
    intro k fu ex hk hf
    obtain ⟨fu, rfl⟩ : ∃ z, fu = z + 1 := ⟨fu - 1, by omega⟩
    obtain rfl : k = 200 := by omega
    refine ⟨(Tn y v 200, ex), ?_⟩
    show fX2_goodFor_l25 bo now (lp _ fu) _ = _
    unfold fX2_goodFor_l25
    dsimp only
    rw [if_pos (show (200 : Int32) ≤ nI 200 by decide)]
    rfl
  | succ f ih =>
    intro k fu ex hk hf
    obtain ⟨fu, rfl⟩ : ∃ z, fu = z + 1 := ⟨fu - 1, by omega⟩
    obtain ⟨ex', e1, e2⟩ := expose_eq (ex := ex) (Inv_Tn hI hv k (by omega)) hv
    show ∃ r, fX2_goodFor_l25 bo now (lp _ fu) _ = _
    unfold fX2_goodFor_l25
    dsimp only
    rw [if_neg (n200 (by omega)), e1, Option.bind_some, E_we e2]
    show ∃ r, _ = some (Sum.inr (nI (if (Sx (Tn y v k) v).2.2.2.2.1 ≤ err then Gd y v err f (k + 1) else k), r))
    by_cases q : (Sx (Tn y v k) v).2.2.2.2.1 ≤ err
    · rw [if_pos q, if_pos q, tally_eq (Inv_Tn hI hv k (by omega)) hv e2, Option.bind_some, ← nI_succ]
      exact ih (k + 1) fu ex' (by omega) (by omega)
    · rw [if_neg q, if_neg q]
      exact ⟨_, rfl⟩
theorem needC {c : Nat} (h : c < 2) : fX2_needCurtain (nI c) = some (.inr ()) := by
  unfold fX2_needCurtain fX2_needIndex
  rw [if_neg (nI_pos (by omega)), if_pos (show nI c < 2 from nI_lt (b := 2) h (by decide))]
  rfl
