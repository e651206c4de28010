/-! the state of a run: class and reference; the methods that save -/
def St (M : Nat) (bo : BoT) (now : ShT) (sv : Nat → ShT) (buf : Fn) (mo : MoT) (fn pa tx : Fn) : Prop :=
  ∃ s q n, s ≤ 6 ∧ q < 6 ∧ n ≤ 60 ∧ bo = (nI s, nI q, nI n) ∧ mo.1 = nI s ∧ mo.2.1 = nI n ∧ (∀ j, j < n → tx j = buf j) ∧ Inv now M ∧ Rel now fn 0 ∧ Past s q M sv pa
theorem Past_up {s q M N : Nat} {sv : Nat → ShT} {pa : Fn} (h : Past s q M sv pa) (hN : M ≤ N) : Past s q N sv pa := fun j hj => ⟨Inv_up (h j hj).1 hN, (h j hj).2⟩
section
variable {M : Nat} {bo : BoT} {now : ShT} {sv : Nat → ShT} {buf : Fn} {mo : MoT} {fn pa tx : Fn}
theorem St_mo {N : Nat} {mo' : MoT} (h : St M bo now sv buf mo fn pa tx) (hN : M ≤ N) (h1 : mo'.1 = mo.1) (h2 : mo'.2.1 = mo.2.1) : St N bo now sv buf mo' fn pa tx := by
  obtain ⟨s, q, n, a1, a2, a3, a4, a5, a6, a7, a8, a9, a10⟩ := h
  exact ⟨s, q, n, a1, a2, a3, a4, h1.trans a5, h2.trans a6, a7, Inv_up a8 hN, a9, Past_up a10 hN⟩
theorem St_I (h : St M bo now sv buf mo fn pa tx) : Inv now M := by
  obtain ⟨s, q, n, a1, a2, a3, a4, a5, a6, a7, a8, a9, a10⟩ := h
  exact a8
theorem St_R (h : St M bo now sv buf mo fn pa tx) : Rel now fn 0 := by
  obtain ⟨s, q, n, a1, a2, a3, a4, a5, a6, a7, a8, a9, a10⟩ := h
  exact a9
theorem St_b (h : St M bo now sv buf mo fn pa tx) : bo.1 = mo.1 := by
  obtain ⟨s, q, n, a1, a2, a3, a4, a5, a6, a7, a8, a9, a10⟩ := h
  rw [a4, a5]
theorem save_v {mo0 : MoT} (h : St M bo now sv buf mo fn pa tx) (h0 : mo0.1 = mo.1) : ∃ bo' sv' mo' pa', fX2_saveState bo now sv = some (bo', sv') ∧ fX3_saves mo0 fn pa = some (mo', pa') ∧ mo'.2 = mo0.2 ∧ bo'.2.2 = bo.2.2 ∧ ∀ N now' fn', mo0.2.1 = mo.2.1 → M ≤ N → Inv now' N → Rel now' fn' 0 → St N bo' now' sv' buf mo' fn' pa' tx := by
  obtain ⟨s, q, n, a1, a2, a3, a4, a5, a6, a7, a8, a9, a10⟩ := h
  subst a4
  obtain ⟨pa', e1, e2⟩ := save_r (mo := mo0) a1 a2 (h0.trans a5) a8 a9 a10
  refine ⟨_, _, _, pa', save_c a1 a2, e1, rfl, rfl, fun N now' fn' h1 hN hI hR => ?_⟩
  exact ⟨min (s + 1) 6, (q + 1) % 6, n, by omega, by omega, a3, rfl, rfl, h1.trans a6, a7, hI, hR, Past_up e2 hN⟩
theorem Inv_dr {x : ShT} {c a j : Nat} {w : Int32} {f : Fn} (h : ∀ k, k < 24 → 0 ≤ (f k).toInt ∧ (f k).toInt ≤ 50) (hw : 0 ≤ w.toInt ∧ w.toInt ≤ 50) : ∀ k, k < 24 → 0 ≤ ((fun i => if a ≤ i ∧ i < a + j then w else f i : Fn) k).toInt ∧ ((fun i => if a ≤ i ∧ i < a + j then w else f i : Fn) k).toInt ≤ 50 := by
  intro k hk
  dsimp only
  by_cases q : a ≤ k ∧ k < a + j
  · rw [if_pos q]; exact hw
  · rw [if_neg q]; exact h k hk
end
/-! drags change -/
def Gk (f : Fn) (w : Int32) (a j : Nat) : Fn := fun i => if a ≤ i ∧ i < a + j then w else f i
def Dc (f : Fn) (w : Int32) (a : Nat) : Nat → Int32
  | 0 => 0
  | j + 1 => if f (a + j) = w then Dc f w a j else Dc f w a j + 1
theorem Gk_0 (f : Fn) (w : Int32) (a : Nat) : Gk f w a 0 = f := by
  funext i
  exact if_neg (by omega)
theorem Gk_at (f : Fn) (w : Int32) (a j : Nat) : Gk f w a j (a + j) = f (a + j) := if_neg (by omega)
theorem Gk_s (f : Fn) (w : Int32) (a j : Nat) : upd (Gk f w a j) (a + j) w = Gk f w a (j + 1) := by
  funext i
  unfold upd Gk
  by_cases e : i = a + j
  · rw [if_pos e, if_pos (by omega)]
  · rw [if_neg e]
    by_cases q : a ≤ i ∧ i < a + j
    · rw [if_pos q, if_pos (by omega)]
    · rw [if_neg q, if_neg (by omega)]
theorem Gk_e {f : Fn} {w : Int32} {a j : Nat} (h : f (a + j) = w) : Gk f w a (j + 1) = Gk f w a j := by
  have e := upd_self (f := Gk f w a j) (i := a + j)
  rw [Gk_at, h, Gk_s] at e
  exact e
def Zd (x : ShT) (c : Nat) (g : Fn) : ShT := if c = 0 then (x.1, x.2.1, g, x.2.2.2) else (x.1, x.2.1, x.2.2.1, g, x.2.2.2.2)
theorem drag_c0 {bo : BoT} {sv : Nat → ShT} {x : ShT} {w : Int32} {a b : Nat} (hab : a ≤ b) (hb : b ≤ 23) : lp fX2_drag_l46 2000 (bo, x, sv, nI b, w, 0, nI a) = some (.inr (Dc x.2.2.1 w a (b + 1 - a), bo, (x.1, x.2.1, Gk x.2.2.1 w a (b + 1 - a), x.2.2.2), sv)) := by
  have e0 : x = (x.1, x.2.1, Gk x.2.2.1 w a 0, x.2.2.2) := by rw [Gk_0]
  refine Eq.trans (congrArg (fun z => lp fX2_drag_l46 2000 (bo, z, sv, nI b, w, 0, nI a)) e0) ?_
  refine lp_run (fun j => (bo, (x.1, x.2.1, Gk x.2.2.1 w a j, x.2.2.2), sv, nI b, w, Dc x.2.2.1 w a j, nI (a + j))) (b + 1 - a) (fun j K hj => ?_) (fun K => ?_) 2000 0 (by omega) (by omega) <;> unfold fX2_drag_l46 <;> dsimp only
  · rw [if_neg (nI_nlt (by omega) (by omega)), if_neg (n24 (by omega)), at_nI _ (show a + j < 24 by omega) (by decide), Option.bind_some, Gk_at, ← nI_succ]
    by_cases q : x.2.2.1 (a + j) = w
    · rw [if_pos q, Gk_e q, show Dc x.2.2.1 w a (j + 1) = Dc x.2.2.1 w a j from if_pos q]
      rfl
    · rw [if_neg q, put_nI _ _ (show a + j < 24 by omega) (by decide), Option.bind_some, Gk_s, show Dc x.2.2.1 w a (j + 1) = Dc x.2.2.1 w a j + 1 from if_neg q]
      rfl
  · rw [if_pos (nI_lt (by omega) (by omega))]
theorem drag_c1 {bo : BoT} {sv : Nat → ShT} {x : ShT} {w : Int32} {a b : Nat} (hab : a ≤ b) (hb : b ≤ 23) : lp fX2_drag_l46_1 2000 (bo, x, sv, nI b, w, 0, nI a) = some (.inr (Dc x.2.2.2.1 w a (b + 1 - a), bo, (x.1, x.2.1, x.2.2.1, Gk x.2.2.2.1 w a (b + 1 - a), x.2.2.2.2), sv)) := by
  have e0 : x = (x.1, x.2.1, x.2.2.1, Gk x.2.2.2.1 w a 0, x.2.2.2.2) := by rw [Gk_0]
  refine Eq.trans (congrArg (fun z => lp fX2_drag_l46_1 2000 (bo, z, sv, nI b, w, 0, nI a)) e0) ?_
  refine lp_run (fun j => (bo, (x.1, x.2.1, x.2.2.1, Gk x.2.2.2.1 w a j, x.2.2.2.2), sv, nI b, w, Dc x.2.2.2.1 w a j, nI (a + j))) (b + 1 - a) (fun j K hj => ?_) (fun K => ?_) 2000 0 (by omega) (by omega) <;> unfold fX2_drag_l46_1 <;> dsimp only
  · rw [if_neg (nI_nlt (by omega) (by omega)), if_neg (n24 (by omega)), at_nI _ (show a + j < 24 by omega) (by decide), Option.bind_some, Gk_at, ← nI_succ]
    by_cases q : x.2.2.2.1 (a + j) = w
    · rw [if_pos q, Gk_e q, show Dc x.2.2.2.1 w a (j + 1) = Dc x.2.2.2.1 w a j from if_pos q]
      rfl
    · rw [if_neg q, put_nI _ _ (show a + j < 24 by omega) (by decide), Option.bind_some, Gk_s, show Dc x.2.2.2.1 w a (j + 1) = Dc x.2.2.2.1 w a j + 1 from if_neg q]
      rfl
  · rw [if_pos (nI_lt (by omega) (by omega))]
theorem Dr_Zd {x : ShT} {c : Nat} {g : Fn} : Dr (Zd x c g) c = g := by
  unfold Dr Zd
  by_cases h : c = 0
  · rw [if_pos h, if_pos h]
  · rw [if_neg h, if_neg h]
theorem Zd_Zd {x : ShT} {c : Nat} {g g' : Fn} : Zd (Zd x c g) c g' = Zd x c g' := by
  unfold Zd
  by_cases h : c = 0
  · rw [if_pos h, if_pos h, if_pos h]
  · rw [if_neg h, if_neg h, if_neg h]
theorem Zd_Dr {x : ShT} {c : Nat} : Zd x c (Dr x c) = x := by
  unfold Dr Zd
  by_cases h : c = 0
  · rw [if_pos h, if_pos h]
  · rw [if_neg h, if_neg h]
theorem Rel_Zd {x : ShT} {fn : Fn} {c k : Nat} {w : Int32} (hc : c < 2) (hk : k < 24) (h : Rel x fn 0) : Rel (Zd x c (upd (Dr x c) k w)) (upd fn (23 + 24 * c + k) w) 0 := by
  rcases (by omega : c = 0 ∨ c = 1) with rfl | rfl
  · exact Rel_d0 hk h
  · exact Rel_d1 hk h
theorem drag_r {mo : MoT} {x : ShT} {fn pa : Fn} {w : Int32} {c a b : Nat} (hc : c < 2) (hab : a ≤ b) (hb : b ≤ 23) (hR : Rel x fn 0) : ∃ fn', lp fX3_drag_l62 2000 (mo, fn, pa, nI c, nI b, w, 0, nI a) = some (Dc (Dr x c) w a (b + 1 - a), mo, fn', pa) ∧ Rel (Zd x c (Gk (Dr x c) w a (b + 1 - a))) fn' 0 := by
  have g := lp_rel (B := fX3_drag_l62) (fun j (s : MoT × Fn × Fn × Int32 × Int32 × Int32 × Int32 × Int32) => ∃ f, s = (mo, f, pa, nI c, nI b, w, Dc (Dr x c) w a j, nI (a + j)) ∧ Rel (Zd x c (Gk (Dr x c) w a j)) f 0) (fun r => ∃ f, r = (Dc (Dr x c) w a (b + 1 - a), mo, f, pa) ∧ Rel (Zd x c (Gk (Dr x c) w a (b + 1 - a))) f 0) (b + 1 - a) (fun j s K hj hP => ?_) (fun s K hP => ?_) 2000 0 (mo, fn, pa, nI c, nI b, w, 0, nI a) (by omega) (by omega) ⟨fn, rfl, by rw [Gk_0, Zd_Dr]; exact hR⟩
  · obtain ⟨r, e1, fn', rfl, e2⟩ := g
    exact ⟨fn', e1, e2⟩
  · obtain ⟨f, rfl, h⟩ := hP
    have hk : a + j < 24 := by omega
    have v1 : f (23 + 24 * c + (a + j)) = Dr x c (a + j) := by rw [R_dr h hc hk, Dr_Zd, Gk_at]
    have h2 := Rel_Zd (w := w) hc hk h
    rw [Zd_Zd, Dr_Zd, Gk_s] at h2
    unfold fX3_drag_l62 fX3_changes
    dsimp only
    rw [if_neg (nI_nlt (by omega) (by omega)), pdr, gd_t (pin_nI (by omega) (by decide)), Option.bind_some, nI_clamp (by omega), v1, ← nI_succ]
    by_cases q : Dr x c (a + j) = w
    · rw [if_pos q, Int32.add_zero]
      refine ⟨_, ⟨_, rfl, h2⟩, ?_⟩
      rw [show Dc (Dr x c) w a (j + 1) = Dc (Dr x c) w a j from if_pos q]
      rfl
    · rw [if_neg q]
      refine ⟨_, ⟨_, rfl, h2⟩, ?_⟩
      rw [show Dc (Dr x c) w a (j + 1) = Dc (Dr x c) w a j + 1 from if_neg q]
      rfl
  · obtain ⟨f, rfl, h⟩ := hP
    unfold fX3_drag_l62
    dsimp only
    rw [if_pos (nI_lt (by omega) (by omega))]
    exact ⟨_, rfl, f, rfl, h⟩
theorem Inv_Zd {x : ShT} {M c a j : Nat} {w : Int32} (h : Inv x M) (hw : 0 ≤ w.toInt ∧ w.toInt ≤ 50) : Inv (Zd x c (Gk (Dr x c) w a j)) M := by
  unfold Zd Dr
  by_cases q : c = 0
  · rw [if_pos q, if_pos q]
    exact ⟨h.1, h.2.1, Inv_dr (x := x) (c := c) h.2.2.1 hw, h.2.2.2⟩
  · rw [if_neg q, if_neg q]
    exact ⟨h.1, h.2.1, h.2.2.1, Inv_dr (x := x) (c := c) h.2.2.2.1 hw, h.2.2.2.2⟩
