theorem Inv_si {x : ShT} {M c : Nat} (h : Inv x M) : Inv (x.1, upd x.2.1 c 0, x.2.2) M := by
  refine ⟨h.1, fun j hj => ?_, h.2.2⟩
  show 0 ≤ (upd x.2.1 c 0 j).toInt ∧ (upd x.2.1 c 0 j).toInt ≤ M
  by_cases e : j = c
  · subst e; rw [upd_eq, z_t]; omega
  · rw [upd_ne e]; exact h.2.1 j hj
theorem Inv_dr {x : ShT} {c a j : Nat} {w : Int32} {f : Fn} (h : ∀ k, k < 24 → 0 ≤ (f k).toInt ∧ (f k).toInt ≤ 50) (hw : 0 ≤ w.toInt ∧ w.toInt ≤ 50) : ∀ k, k < 24 → 0 ≤ ((fun i => if a ≤ i ∧ i < a + j then w else f i : Fn) k).toInt ∧ ((fun i => if a ≤ i ∧ i < a + j then w else f i : Fn) k).toInt ≤ 50 := by
  intro k hk
  dsimp only
  by_cases q : a ≤ k ∧ k < a + j
  · rw [if_pos q]; exact hw
  · rw [if_neg q]; exact h k hk
def Gk (f : Fn) (w : Int32) (a j : Nat) : Fn := fun i => if a ≤ i ∧ i < a + j then w else f i
def Dc (f : Fn) (w : Int32) (a : Nat) : Nat → Int32
  | 0 => 0
  | j + 1 => if f (a + j) = w then Dc f w a j else Dc f w a j + 1
theorem Gk_0 (f : Fn) (w : Int32) (a : Nat) : Gk f w a 0 = f := by
  funext i
  exact if_neg (by omega)
theorem Gk_at (f : Fn) (w : Int32) (a j : Nat) : Gk f w a j (a + j) = f (a + j) := if_neg (by omega)
theorem Gk_s (f : Fn) (w : Int32) (a j : Nat) : upd (Gk f w a j) (a + j) w = Gk f w a (j + 1) := by
  funext i
  unfold upd Gk
  by_cases e : i = a + j
  · rw [if_pos e, if_pos (by omega)]
  · rw [if_neg e]
    by_cases q : a ≤ i ∧ i < a + j
    · rw [if_pos q, if_pos (by omega)]
    · rw [if_neg q, if_neg (by omega)]
theorem Gk_e {f : Fn} {w : Int32} {a j : Nat} (h : f (a + j) = w) : Gk f w a (j + 1) = Gk f w a j := by
  have e := upd_self (f := Gk f w a j) (i := a + j)
  rw [Gk_at, h, Gk_s] at e
  exact e
def Zd (x : ShT) (c : Nat) (g : Fn) : ShT := if c = 0 then (x.1, x.2.1, g, x.2.2.2) else (x.1, x.2.1, x.2.2.1, g, x.2.2.2.2)
theorem drag_c0 {bo : BoT} {sv : Nat → ShT} {x : ShT} {w : Int32} {a b : Nat} (hab : a ≤ b) (hb : b ≤ 23) : lp fX2_drag_l46 2000 (bo, x, sv, nI b, w, 0, nI a) = some (.inr (Dc x.2.2.1 w a (b + 1 - a), bo, (x.1, x.2.1, Gk x.2.2.1 w a (b + 1 - a), x.2.2.2), sv)) := by
  have e0 : x = (x.1, x.2.1, Gk x.2.2.1 w a 0, x.2.2.2) := by rw [Gk_0]
  refine Eq.trans (congrArg (fun z => lp fX2_drag_l46 2000 (bo, z, sv, nI b, w, 0, nI a)) e0) ?_
  refine lp_run (fun j => (bo, (x.1, x.2.1, Gk x.2.2.1 w a j, x.2.2.2), sv, nI b, w, Dc x.2.2.1 w a j, nI (a + j))) (b + 1 - a) (fun j K hj => ?_) (fun K => ?_) 2000 0 (by omega) (by omega) <;> unfold fX2_drag_l46 <;> dsimp only
  · rw [if_neg (nI_nlt (by omega) (by omega)), if_neg (n24 (by omega)), at_nI _ (show a + j < 24 by omega) (by decide), Option.bind_some, Gk_at, ← nI_succ]
    by_cases q : x.2.2.1 (a + j) = w
    · rw [if_pos q, Gk_e q, show Dc x.2.2.1 w a (j + 1) = Dc x.2.2.1 w a j from if_pos q]
      rfl
    · rw [if_neg q, put_nI _ _ (show a + j < 24 by omega) (by decide), Option.bind_some, Gk_s, show Dc x.2.2.1 w a (j + 1) = Dc x.2.2.1 w a j + 1 from if_neg q]
      rfl
  · rw [if_pos (nI_lt (by omega) (by omega))]
theorem drag_c1 {bo : BoT} {sv : Nat → ShT} {x : ShT} {w : Int32} {a b : Nat} (hab : a ≤ b) (hb : b ≤ 23) : lp fX2_drag_l46_1 2000 (bo, x, sv, nI b, w, 0, nI a) = some (.inr (Dc x.2.2.2.1 w a (b + 1 - a), bo, (x.1, x.2.1, x.2.2.1, Gk x.2.2.2.1 w a (b + 1 - a), x.2.2.2.2), sv)) := by
  have e0 : x = (x.1, x.2.1, x.2.2.1, Gk x.2.2.2.1 w a 0, x.2.2.2.2) := by rw [Gk_0]
  refine Eq.trans (congrArg (fun z => lp fX2_drag_l46_1 2000 (bo, z, sv, nI b, w, 0, nI a)) e0) ?_
  refine lp_run (fun j => (bo, (x.1, x.2.1, x.2.2.1, Gk x.2.2.2.1 w a j, x.2.2.2.2), sv, nI b, w, Dc x.2.2.2.1 w a j, nI (a + j))) (b + 1 - a) (fun j K hj => ?_) (fun K => ?_) 2000 0 (by omega) (by omega) <;> unfold fX2_drag_l46_1 <;> dsimp only
  · rw [if_neg (nI_nlt (by omega) (by omega)), if_neg (n24 (by omega)), at_nI _ (show a + j < 24 by omega) (by decide), Option.bind_some, Gk_at, ← nI_succ]
    by_cases q : x.2.2.2.1 (a + j) = w
    · rw [if_pos q, Gk_e q, show Dc x.2.2.2.1 w a (j + 1) = Dc x.2.2.2.1 w a j from if_pos q]
      rfl
    · rw [if_neg q, put_nI _ _ (show a + j < 24 by omega) (by decide), Option.bind_some, Gk_s, show Dc x.2.2.2.1 w a (j + 1) = Dc x.2.2.2.1 w a j + 1 from if_neg q]
      rfl
  · rw [if_pos (nI_lt (by omega) (by omega))]
theorem Inv_Zd {x : ShT} {M c a j : Nat} {w : Int32} (h : Inv x M) (hw : 0 ≤ w.toInt ∧ w.toInt ≤ 50) : Inv (Zd x c (Gk (Dr x c) w a j)) M := by
  unfold Zd Dr
  by_cases q : c = 0
  · rw [if_pos q, if_pos q]
    exact ⟨h.1, h.2.1, Inv_dr (x := x) (c := c) h.2.2.1 hw, h.2.2.2⟩
  · rw [if_neg q, if_neg q]
    exact ⟨h.1, h.2.1, h.2.2.1, Inv_dr (x := x) (c := c) h.2.2.2.1 hw, h.2.2.2.2⟩
