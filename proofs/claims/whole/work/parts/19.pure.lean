/-! PURE: what the functions of the walks are -/
theorem lp_run {σ R : Type} {B : (σ → Option R) → σ → Option R} {r : Option R} (S : Nat → σ) (N : Nat) (step : ∀ (k : Nat) (K : σ → Option R), k < N → B K (S k) = K (S (k + 1))) (last : ∀ K : σ → Option R, B K (S N) = r) : ∀ (fu k : Nat), k ≤ N → N < k + fu → lp B fu (S k) = r := by
  intro fu
  induction fu with
  | zero => intro k h1 h2; omega
  | succ fu ih =>
    intro k h1 h2
    show B (lp B fu) (S k) = r
    by_cases e : k = N
    · subst e; exact last _
    · rw [step k _ (by omega)]
      exact ih (k + 1) (by omega) (by omega)
theorem gd_t {α : Type} {b : Bool} {x : Option α} (h : b = true) : gd b x = x := by rw [h]; rfl
theorem pin_nI {k n : Nat} (h : k < n) (hn : n < 2 ^ 31) : pin (nI k) n = true := decide_eq_true (vp_in_nI h hn)
theorem lit_nI (n : Nat) : (OfNat.ofNat n : Int32) = nI n := rfl
theorem lt_i (a b : Int32) : a < b ↔ a.toInt < b.toInt := Int32.lt_iff_toInt_lt
theorem le_i (a b : Int32) : a ≤ b ↔ a.toInt ≤ b.toInt := Int32.le_iff_toInt_le
theorem nz_t {y : Int32} (h : ¬ y = 0) : nz y = true := decide_eq_true h
theorem upd_if {f g : Nat → Int32} {k : Nat} : upd (fun j => if j < k then f j else g j) k (f k) = fun j => if j < k + 1 then f j else g j := by
  funext j
  unfold upd
  by_cases e : j = k
  · subst e; simp
  · rw [if_neg e]
    by_cases h : j < k
    · exact (if_pos h).trans (if_pos (by omega)).symm
    · exact (if_neg h).trans (if_neg (by omega)).symm
theorem at_nI {n j : Nat} (f : Nat → Int32) (h : j < n) (hn : n < 2 ^ 31) : fX2_at n f (nI j) = some (f j) := by
  unfold fX2_at
  rw [if_neg (nI_pos (by omega)), if_neg (nI_ge h hn), gd_t (pin_nI h hn), nI_clamp (by omega)]
theorem put_nI {n j : Nat} (f : Nat → Int32) (v : Int32) (h : j < n) (hn : n < 2 ^ 31) : fX2_put n f (nI j) v = some (upd f j v) := by
  unfold fX2_put
  rw [if_neg (nI_pos (by omega)), if_neg (nI_ge h hn), gd_t (pin_nI h hn), nI_clamp (by omega)]
theorem copyRow_eq (n : Nat) (hn : n < 1000) (f g : Nat → Int32) : fX2_copyRow n f n g = some (fun j => if j < n then f j else g j) := by
  unfold fX2_copyRow
  refine (lp_run (fun k => ((fun j => if j < k then f j else g j), nI k)) n (fun k K hk => ?_) (fun K => ?_) 2000 0 (by omega) (by omega)).trans rfl <;> unfold fX2_copyRow_l2
  · dsimp only
    rw [if_neg (nI_ge hk (by omega)), if_neg (nI_ge hk (by omega)), gd_t (pin_nI hk (by omega)), gd_t (pin_nI hk (by omega)), nI_clamp (by omega), upd_if, ← nI_succ]
  · dsimp only
    rw [if_pos (nI_le (Nat.le_refl _) (by omega))]
/-- a shutter, read -/
abbrev mrg (n : Nat) (f g : Nat → Int32) : Nat → Int32 := fun j => if j < n then f j else g j
def mrgS (y x : ShT) : ShT := (mrg 2 y.1 x.1, mrg 2 y.2.1 x.2.1, mrg 24 y.2.2.1 x.2.2.1, mrg 24 y.2.2.2.1 x.2.2.2.1, mrg 6 y.2.2.2.2.1 x.2.2.2.2.1, mrg 4 y.2.2.2.2.2.1 x.2.2.2.2.2.1, mrg 6 y.2.2.2.2.2.2.1 x.2.2.2.2.2.2.1, y.2.2.2.2.2.2.2.1, y.2.2.2.2.2.2.2.2.1, y.2.2.2.2.2.2.2.2.2)
theorem become_eq (x y : ShT) : fX1_become x y = some (mrgS y x) := by
  unfold fX1_become mrgS
  simp only [copyRow_eq 2 (by decide), copyRow_eq 24 (by decide), copyRow_eq 6 (by decide), copyRow_eq 4 (by decide), Option.bind_some]
/-- a shutter and a block of 71 numbers say the same -/
def Rel (x : ShT) (g : Nat → Int32) (o : Nat) : Prop :=
  (∀ j, j < 4 → g (o + j) = x.2.2.2.2.2.1 j) ∧ (∀ j, j < 2 → g (o + 4 + j) = x.1 j) ∧ (∀ j, j < 2 → g (o + 6 + j) = x.2.1 j) ∧ (∀ j, j < 6 → g (o + 8 + j) = x.2.2.2.2.1 j) ∧ (∀ j, j < 6 → g (o + 14 + j) = x.2.2.2.2.2.2.1 j) ∧
  g (o + 20) = x.2.2.2.2.2.2.2.1 ∧ g (o + 21) = x.2.2.2.2.2.2.2.2.1 ∧ g (o + 22) = x.2.2.2.2.2.2.2.2.2 ∧ (∀ j, j < 24 → g (o + 23 + j) = x.2.2.1 j) ∧ (∀ j, j < 24 → g (o + 47 + j) = x.2.2.2.1 j)
/-- the numbers of a shutter are in range; M: shots so far at most -/
def Inv (x : ShT) (M : Nat) : Prop :=
  (∀ j, j < 2 → 1 ≤ (x.1 j).toInt ∧ (x.1 j).toInt ≤ 99) ∧ (∀ j, j < 2 → 0 ≤ (x.2.1 j).toInt ∧ (x.2.1 j).toInt ≤ M) ∧ (∀ j, j < 24 → 0 ≤ (x.2.2.1 j).toInt ∧ (x.2.2.1 j).toInt ≤ 50) ∧ (∀ j, j < 24 → 0 ≤ (x.2.2.2.1 j).toInt ∧ (x.2.2.2.1 j).toInt ≤ 50) ∧
  (∀ j, j < 6 → -50 ≤ (x.2.2.2.2.1 j).toInt ∧ (x.2.2.2.2.1 j).toInt ≤ 50) ∧ (0 ≤ (x.2.2.2.2.2.1 0).toInt ∧ (x.2.2.2.2.2.1 0).toInt ≤ 20) ∧ (1 ≤ (x.2.2.2.2.2.1 1).toInt ∧ (x.2.2.2.2.2.1 1).toInt ≤ 99) ∧ (0 ≤ (x.2.2.2.2.2.1 2).toInt ∧ (x.2.2.2.2.2.1 2).toInt ≤ 200) ∧ (1 ≤ (x.2.2.2.2.2.1 3).toInt ∧ (x.2.2.2.2.2.1 3).toInt ≤ 99)
theorem mrg_lt {n j : Nat} {f g : Nat → Int32} (h : j < n) : mrg n f g j = f j := if_pos h
theorem Rel_mrg {y x : ShT} {g : Nat → Int32} {o : Nat} (h : Rel y g o) : Rel (mrgS y x) g o := by
  obtain ⟨h1, h2, h3, h4, h5, h6, h7, h8, h9, h10⟩ := h
  exact ⟨fun j hj => (h1 j hj).trans (mrg_lt hj).symm, fun j hj => (h2 j hj).trans (mrg_lt hj).symm, fun j hj => (h3 j hj).trans (mrg_lt hj).symm, fun j hj => (h4 j hj).trans (mrg_lt hj).symm, fun j hj => (h5 j hj).trans (mrg_lt hj).symm, h6, h7, h8, fun j hj => (h9 j hj).trans (mrg_lt hj).symm, fun j hj => (h10 j hj).trans (mrg_lt hj).symm⟩
theorem Inv_mrg {y x : ShT} {M : Nat} (h : Inv y M) : Inv (mrgS y x) M := by
  obtain ⟨h1, h2, h3, h4, h5, h6, h7, h8, h9⟩ := h
  refine ⟨fun j hj => ?_, fun j hj => ?_, fun j hj => ?_, fun j hj => ?_, fun j hj => ?_, h6, h7, h8, h9⟩
  · have e : (mrgS y x).1 j = y.1 j := mrg_lt hj
    rw [e]; exact h1 j hj
  · have e : (mrgS y x).2.1 j = y.2.1 j := mrg_lt hj
    rw [e]; exact h2 j hj
  · have e : (mrgS y x).2.2.1 j = y.2.2.1 j := mrg_lt hj
    rw [e]; exact h3 j hj
  · have e : (mrgS y x).2.2.2.1 j = y.2.2.2.1 j := mrg_lt hj
    rw [e]; exact h4 j hj
  · have e : (mrgS y x).2.2.2.2.1 j = y.2.2.2.2.1 j := mrg_lt hj
    rw [e]; exact h5 j hj
/-! Int32 as Int -/
theorem ti_add {a b : Int32} (h1 : -2147483648 ≤ a.toInt + b.toInt) (h2 : a.toInt + b.toInt < 2147483648) : (a + b).toInt = a.toInt + b.toInt := by
  rw [Int32.toInt_add]; exact Int.bmod_eq_of_le (by omega) (by omega)
theorem ti_sub {a b : Int32} (h1 : -2147483648 ≤ a.toInt - b.toInt) (h2 : a.toInt - b.toInt < 2147483648) : (a - b).toInt = a.toInt - b.toInt := by
  rw [Int32.toInt_sub]; exact Int.bmod_eq_of_le (by omega) (by omega)
theorem ti_mul {a b : Int32} (h1 : -2147483648 ≤ a.toInt * b.toInt) (h2 : a.toInt * b.toInt < 2147483648) : (a * b).toInt = a.toInt * b.toInt := by
  rw [Int32.toInt_mul]; exact Int.bmod_eq_of_le (by omega) (by omega)
theorem ti_div {a b : Int32} (h1 : 0 ≤ a.toInt) (h2 : 0 < b.toInt) : (a / b).toInt = a.toInt / b.toInt := by
  rw [Int32.toInt_div]
  have h3 : a.toInt < 2147483648 := by have := a.toInt_lt; omega
  rw [Int.tdiv_eq_ediv_of_nonneg h1]
  have h4 : 0 ≤ a.toInt / b.toInt := Int.ediv_nonneg h1 (by omega)
  have h5 : a.toInt / b.toInt ≤ a.toInt := Int.ediv_le_self _ h1
  exact Int.bmod_eq_of_le (by omega) (by omega)
