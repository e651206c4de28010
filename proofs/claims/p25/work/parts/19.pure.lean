theorem lp_run {σ R : Type} {B : (σ → Option R) → σ → Option R} {r : Option R} (S : Nat → σ) (N : Nat) (step : ∀ (k : Nat) (K : σ → Option R), k < N → B K (S k) = K (S (k + 1))) (last : ∀ K : σ → Option R, B K (S N) = r) : ∀ (fu k : Nat), k ≤ N → N < k + fu → lp B fu (S k) = r := by
  intro fu
  induction fu with
  | zero => intro k h1 h2; omega
  | succ fu ih =>
    intro k h1 h2
    show B (lp B fu) (S k) = r
    by_cases e : k = N
    · subst e; exact last _
    · rw [step k _ (by omega)]
      exact ih (k + 1) (by omega) (by omega)
theorem gd_t {α : Type} {b : Bool} {x : Option α} (h : b = true) : gd b x = x := by rw [h]; rfl
theorem pin_nI {k n : Nat} (h : k < n) (hn : n < 2 ^ 31) : pin (nI k) n = true := decide_eq_true (vp_in_nI h hn)
theorem lt_i (a b : Int32) : a < b ↔ a.toInt < b.toInt := Int32.lt_iff_toInt_lt
theorem le_i (a b : Int32) : a ≤ b ↔ a.toInt ≤ b.toInt := Int32.le_iff_toInt_le
theorem nz_t {y : Int32} (h : ¬ y = 0) : nz y = true := decide_eq_true h
theorem upd_if {f g : Nat → Int32} {k : Nat} : upd (fun j => if j < k then f j else g j) k (f k) = fun j => if j < k + 1 then f j else g j := by
  funext j
  unfold upd
  by_cases e : j = k
  · subst e; simp
  · rw [if_neg e]
    by_cases h : j < k
    · exact (if_pos h).trans (if_pos (by omega)).symm
    · exact (if_neg h).trans (if_neg (by omega)).symm
theorem at_nI {n j : Nat} (f : Nat → Int32) (h : j < n) (hn : n < 2 ^ 31) : fX2_at n f (nI j) = some (f j) := by
  unfold fX2_at
  rw [if_neg (nI_pos (by omega)), if_neg (nI_ge h hn), gd_t (pin_nI h hn), nI_clamp (by omega)]
theorem put_nI {n j : Nat} (f : Nat → Int32) (v : Int32) (h : j < n) (hn : n < 2 ^ 31) : fX2_put n f (nI j) v = some (upd f j v) := by
  unfold fX2_put
  rw [if_neg (nI_pos (by omega)), if_neg (nI_ge h hn), gd_t (pin_nI h hn), nI_clamp (by omega)]
theorem copyRow_eq (n : Nat) (hn : n < 1000) (f g : Nat → Int32) : fX2_copyRow n f n g = some (fun j => if j < n then f j else g j) := by
  unfold fX2_copyRow
  refine (lp_run (fun k => ((fun j => if j < k then f j else g j), nI k)) n (fun k K hk => ?_) (fun K => ?_) 2000 0 (by omega) (by omega)).trans rfl <;> unfold fX2_copyRow_l2
  · dsimp only
    rw [if_neg (nI_ge hk (by omega)), if_neg (nI_ge hk (by omega)), gd_t (pin_nI hk (by omega)), gd_t (pin_nI hk (by omega)), nI_clamp (by omega), upd_if, ← nI_succ]
  · dsimp only
    rw [if_pos (nI_le (Nat.le_refl _) (by omega))]
abbrev mrg (n : Nat) (f g : Nat → Int32) : Nat → Int32 := fun j => if j < n then f j else g j
def mrgS (y x : ShT) : ShT := (mrg 2 y.1 x.1, mrg 2 y.2.1 x.2.1, mrg 24 y.2.2.1 x.2.2.1, mrg 24 y.2.2.2.1 x.2.2.2.1, mrg 6 y.2.2.2.2.1 x.2.2.2.2.1, mrg 4 y.2.2.2.2.2.1 x.2.2.2.2.2.1, mrg 6 y.2.2.2.2.2.2.1 x.2.2.2.2.2.2.1, y.2.2.2.2.2.2.2.1, y.2.2.2.2.2.2.2.2.1, y.2.2.2.2.2.2.2.2.2)
theorem become_eq (x y : ShT) : fX1_become x y = some (mrgS y x) := by
  unfold fX1_become mrgS
  simp only [copyRow_eq 2 (by decide), copyRow_eq 24 (by decide), copyRow_eq 6 (by decide), copyRow_eq 4 (by decide), Option.bind_some]
def Inv (x : ShT) (M : Nat) : Prop :=
  (∀ j, j < 2 → 1 ≤ (x.1 j).toInt ∧ (x.1 j).toInt ≤ 99) ∧ (∀ j, j < 2 → 0 ≤ (x.2.1 j).toInt ∧ (x.2.1 j).toInt ≤ M) ∧ (∀ j, j < 24 → 0 ≤ (x.2.2.1 j).toInt ∧ (x.2.2.1 j).toInt ≤ 50) ∧ (∀ j, j < 24 → 0 ≤ (x.2.2.2.1 j).toInt ∧ (x.2.2.2.1 j).toInt ≤ 50) ∧
  (∀ j, j < 6 → -50 ≤ (x.2.2.2.2.1 j).toInt ∧ (x.2.2.2.2.1 j).toInt ≤ 50) ∧ (0 ≤ (x.2.2.2.2.2.1 0).toInt ∧ (x.2.2.2.2.2.1 0).toInt ≤ 20) ∧ (1 ≤ (x.2.2.2.2.2.1 1).toInt ∧ (x.2.2.2.2.2.1 1).toInt ≤ 99) ∧ (0 ≤ (x.2.2.2.2.2.1 2).toInt ∧ (x.2.2.2.2.2.1 2).toInt ≤ 200) ∧ (1 ≤ (x.2.2.2.2.2.1 3).toInt ∧ (x.2.2.2.2.2.1 3).toInt ≤ 99)
theorem mrg_lt {n j : Nat} {f g : Nat → Int32} (h : j < n) : mrg n f g j = f j := if_pos h
theorem Inv_mrg {y x : ShT} {M : Nat} (h : Inv y M) : Inv (mrgS y x) M := by
  obtain ⟨h1, h2, h3, h4, h5, h6, h7, h8, h9⟩ := h
  refine ⟨fun j hj => ?_, fun j hj => ?_, fun j hj => ?_, fun j hj => ?_, fun j hj => ?_, h6, h7, h8, h9⟩
  · have e : (mrgS y x).1 j = y.1 j := mrg_lt hj
    rw [e]; exact h1 j hj
  · have e : (mrgS y x).2.1 j = y.2.1 j := mrg_lt hj
    rw [e]; exact h2 j hj
  · have e : (mrgS y x).2.2.1 j = y.2.2.1 j := mrg_lt hj
    rw [e]; exact h3 j hj
  · have e : (mrgS y x).2.2.2.1 j = y.2.2.2.1 j := mrg_lt hj
    rw [e]; exact h4 j hj
  · have e : (mrgS y x).2.2.2.2.1 j = y.2.2.2.2.1 j := mrg_lt hj
    rw [e]; exact h5 j hj
theorem ti_add {a b : Int32} (h1 : -2147483648 ≤ a.toInt + b.toInt) (h2 : a.toInt + b.toInt < 2147483648) : (a + b).toInt = a.toInt + b.toInt := by
  rw [Int32.toInt_add]; exact Int.bmod_eq_of_le (by omega) (by omega)
theorem ti_sub {a b : Int32} (h1 : -2147483648 ≤ a.toInt - b.toInt) (h2 : a.toInt - b.toInt < 2147483648) : (a - b).toInt = a.toInt - b.toInt := by
  rw [Int32.toInt_sub]; exact Int.bmod_eq_of_le (by omega) (by omega)
theorem ti_mul {a b : Int32} (h1 : -2147483648 ≤ a.toInt * b.toInt) (h2 : a.toInt * b.toInt < 2147483648) : (a * b).toInt = a.toInt * b.toInt := by
  rw [Int32.toInt_mul]; exact Int.bmod_eq_of_le (by omega) (by omega)
theorem ti_div {a b : Int32} (h1 : 0 ≤ a.toInt) (h2 : 0 < b.toInt) : (a / b).toInt = a.toInt / b.toInt := by
  rw [Int32.toInt_div]
  have h3 : a.toInt < 2147483648 := by have := a.toInt_lt; omega
  rw [Int.tdiv_eq_ediv_of_nonneg h1]
  have h4 : 0 ≤ a.toInt / b.toInt := Int.ediv_nonneg h1 (by omega)
  have h5 : a.toInt / b.toInt ≤ a.toInt := Int.ediv_le_self _ h1
  exact Int.bmod_eq_of_le (by omega) (by omega)
theorem at0 {n : Nat} (f : Nat → Int32) (h : 0 < n) (hn : n < 2 ^ 31) : fX2_at n f 0 = some (f 0) := at_nI (j := 0) f h hn
theorem at1 {n : Nat} (f : Nat → Int32) (h : 1 < n) (hn : n < 2 ^ 31) : fX2_at n f 1 = some (f 1) := at_nI (j := 1) f h hn
theorem at2 {n : Nat} (f : Nat → Int32) (h : 2 < n) (hn : n < 2 ^ 31) : fX2_at n f 2 = some (f 2) := at_nI (j := 2) f h hn
theorem at3 {n : Nat} (f : Nat → Int32) (h : 3 < n) (hn : n < 2 ^ 31) : fX2_at n f 3 = some (f 3) := at_nI (j := 3) f h hn
theorem at23 {n : Nat} (f : Nat → Int32) (h : 23 < n) (hn : n < 2 ^ 31) : fX2_at n f 23 = some (f 23) := at_nI (j := 23) f h hn
theorem n24 {k : Nat} (h : k < 24) : ¬ (24 : Int32) ≤ nI k := nI_ge (b := 24) h (by decide)
theorem l24 : (24 : Int32) ≤ nI 24 := by decide
theorem n2 {k : Nat} (h : k < 2) : ¬ (2 : Int32) ≤ nI k := nI_ge (b := 2) h (by decide)
theorem l2 : (2 : Int32) ≤ nI 2 := by decide
def Tk (x : ShT) (c : Nat) : Int32 := 1000 / x.1 c + x.2.2.2.2.2.1 0 * (x.2.1 c / 10)
def Lf (x : ShT) : Nat → Int32
  | 0 => 0
  | k + 1 => Lf x k + (Tk x 0 + x.2.2.1 k)
def Sv (x : ShT) (v : Nat) : Int32 := imax 0 ((20 <<< (nI v &&& 31)) + x.2.2.2.2.1 v)
def Cv (x : ShT) (v : Nat) : Nat → Int32
  | 0 => Sv x v
  | k + 1 => imax (Lf x (k + 1)) ((Cv x v k + Tk x 1) + x.2.2.2.1 k)
def Bc (x : ShT) : Int32 := if x.1 0 - x.2.2.2.2.2.1 1 ≤ 0 then 0 else imin ((x.1 0 - x.2.2.2.2.2.1 1) / 5) 6
def Lg (x : ShT) (v k : Nat) : Int32 := (Cv x v (k + 1) - Lf x (k + 1)) - imax 0 (if 24 - Bc x ≤ nI k then imin (Cv x v (k + 1)) (Lf x 24 + x.2.2.2.2.2.1 2) - Lf x 24 else 0)
theorem ticks_eq {x : ShT} {M c : Nat} (hI : Inv x M) (hc : c < 2) : fX1_ticksWithoutDrag x (nI c) = some (Tk x c) := by
  have h1 := hI.1 c hc
  have hp : ¬ x.1 c ≤ 0 := by rw [le_i, Int32.toInt_zero]; omega
  have hz : ¬ x.1 c = 0 := fun q => by rw [q, Int32.toInt_zero] at h1; omega
  unfold fX1_ticksWithoutDrag
  rw [at_nI _ hc (by decide), Option.bind_some, if_neg hp, gd_t (nz_t hz)]
  unfold fX1_ticksWithoutDrag_j22
  dsimp only
  rw [at0 _ (by decide) (by decide), Option.bind_some, at_nI _ hc (by decide), Option.bind_some]
  rfl
theorem ticks0 {x : ShT} {M : Nat} (hI : Inv x M) : fX1_ticksWithoutDrag x 0 = some (Tk x 0) := ticks_eq (c := 0) hI (by decide)
theorem ticks1 {x : ShT} {M : Nat} (hI : Inv x M) : fX1_ticksWithoutDrag x 1 = some (Tk x 1) := ticks_eq (c := 1) hI (by decide)
theorem start_eq {x : ShT} {v : Nat} (hv : v < 6) : fX1_startOfSecond x (nI v) = some (Sv x v) := by
  unfold fX1_startOfSecond fX2_wantedLight
  rw [Option.bind_some, at_nI _ hv (by decide), Option.bind_some]
  rfl
theorem bounce_eq (x : ShT) : fX1_bounceColumns x = some (Bc x) := by
  unfold fX1_bounceColumns
  rw [at0 _ (by decide) (by decide), Option.bind_some, at1 _ (by decide) (by decide), Option.bind_some]
  unfold Bc
  by_cases h : x.1 0 - x.2.2.2.2.2.1 1 ≤ 0
  · rw [if_pos h, if_pos h]
  · rw [if_neg h, if_neg h]
abbrev exL (ex : ExT) (f g h : Nat → Int32) : ExT := (f, g, h, ex.2.2.2.1, ex.2.2.2.2.1, ex.2.2.2.2.2.1, ex.2.2.2.2.2.2.1, ex.2.2.2.2.2.2.2.1, ex.2.2.2.2.2.2.2.2.1, ex.2.2.2.2.2.2.2.2.2)
theorem upd_to {f : Nat → Int32} {g : Nat → Int32} {k : Nat} {a : Int32} (h : a = f k) : upd (fun j => if j < k then f j else g j) k a = fun j => if j < k + 1 then f j else g j := by rw [h]; exact upd_if
theorem run_eq {ex : ExT} {x : ShT} {M v : Nat} (hI : Inv x M) (hv : v < 6) : fX0_runCurtains ex x (nI v) = some (exL ex (mrg 24 (fun j => Lf x (j + 1)) ex.1) (mrg 24 (fun j => Cv x v (j + 1)) ex.2.1) ex.2.2.1) := by
  unfold fX0_runCurtains
  rw [ticks0 hI, Option.bind_some, ticks1 hI, Option.bind_some, start_eq hv, Option.bind_some]
  refine lp_run (fun k => (exL ex (mrg k (fun j => Lf x (j + 1)) ex.1) (mrg k (fun j => Cv x v (j + 1)) ex.2.1) ex.2.2.1, Tk x 0, Tk x 1, Lf x k, Cv x v k, nI k)) 24 (fun k K hk => ?_) (fun K => ?_) 2000 0 (by omega) (by omega) <;> unfold fX0_runCurtains_l26
  · dsimp only
    rw [if_neg (n24 hk), if_neg (n24 hk), at_nI _ hk (by decide), Option.bind_some, at_nI _ hk (by decide), Option.bind_some, gd_t (pin_nI hk (by decide)), nI_clamp (by omega)]
    have e1 : upd (mrg k (fun j => Lf x (j + 1)) ex.1) k (Lf x k + (Tk x 0 + x.2.2.1 k)) = mrg (k + 1) (fun j => Lf x (j + 1)) ex.1 := upd_to rfl
    have e2 : upd (mrg k (fun j => Cv x v (j + 1)) ex.2.1) k (imax (Lf x k + (Tk x 0 + x.2.2.1 k)) ((Cv x v k + Tk x 1) + x.2.2.2.1 k)) = mrg (k + 1) (fun j => Cv x v (j + 1)) ex.2.1 := upd_to rfl
    rw [e1, e2, ← nI_succ]
    rfl
  · dsimp only
    rw [if_pos l24]
theorem open_eq {ex : ExT} {x : ShT} {v : Nat} (h1 : ∀ j, j < 24 → ex.1 j = Lf x (j + 1)) (h2 : ∀ j, j < 24 → ex.2.1 j = Cv x v (j + 1)) : fX0_openColumns ex x = some (exL ex ex.1 ex.2.1 (mrg 24 (Lg x v) ex.2.2.1)) := by
  unfold fX0_openColumns
  rw [at23 _ (by decide) (by decide), Option.bind_some, at2 _ (by decide) (by decide), Option.bind_some, bounce_eq, Option.bind_some, h1 23 (by decide)]
  refine lp_run (fun k => (exL ex ex.1 ex.2.1 (mrg k (Lg x v) ex.2.2.1), Lf x 24, Lf x 24 + x.2.2.2.2.2.1 2, 24 - Bc x, nI k)) 24 (fun k K hk => ?_) (fun K => ?_) 2000 0 (by omega) (by omega) <;> unfold fX0_openColumns_l33
  · dsimp only
    rw [if_neg (n24 hk), at_nI _ hk (by decide), Option.bind_some, at_nI _ hk (by decide), Option.bind_some, h1 k hk, h2 k hk]
    unfold fX0_openColumns_j87
    dsimp only
    rw [gd_t (pin_nI hk (by decide)), gd_t (pin_nI hk (by decide)), nI_clamp (by omega)]
    by_cases hc : 24 - Bc x ≤ nI k
    · rw [if_pos hc]
      have e1 : upd (mrg k (Lg x v) ex.2.2.1) k ((Cv x v (k + 1) - Lf x (k + 1)) - imax 0 (imin (Cv x v (k + 1)) (Lf x 24 + x.2.2.2.2.2.1 2) - Lf x 24)) = mrg (k + 1) (Lg x v) ex.2.2.1 := upd_to (by unfold Lg; rw [if_pos hc])
      rw [e1, ← nI_succ]
    · rw [if_neg hc]
      have e1 : upd (mrg k (Lg x v) ex.2.2.1) k ((Cv x v (k + 1) - Lf x (k + 1)) - imax 0 0) = mrg (k + 1) (Lg x v) ex.2.2.1 := upd_to (by unfold Lg; rw [if_neg hc])
      rw [e1, ← nI_succ]
  · dsimp only
    rw [if_pos l24]
abbrev SmT : Type := Int32 × Int32 × Int32 × Int32 × Int32 × Int32 × Int32
abbrev er (g : Nat → Int32) (w : Int32) (k : Nat) : Int32 := iabs (g k - w)
def Sm (g : Nat → Int32) (w : Int32) : Nat → SmT
  | 0 => (0, g 0, g 0, 0, 0, 0, 0)
  | k + 1 => match Sm g w k with
    | (al, le, mo, ae, we, wc, da) => (al + g k, imin le (g k), imax mo (g k), ae + er g w k, if er g w k ≤ we then we else er g w k, if er g w k ≤ we then wc else nI k, if g k = 0 then da + 1 else da)
abbrev exS (ex : ExT) (s : SmT) : ExT := (ex.1, ex.2.1, ex.2.2.1, s)
theorem sum_eq (ex : ExT) (w : Int32) : fX0_sumUp ex w = some (exS ex (Sm ex.2.2.1 w 24)) := by
  unfold fX0_sumUp
  rw [at0 _ (by decide) (by decide), Option.bind_some]
  refine lp_run (fun k => (exS ex (Sm ex.2.2.1 w k), w, nI k)) 24 (fun k K hk => ?_) (fun K => ?_) 2000 0 (by omega) (by omega) <;> unfold fX0_sumUp_l47
  · dsimp only
    rw [if_neg (n24 hk), gd_t (pin_nI hk (by decide)), nI_clamp (by omega)]
    unfold fX0_sumUp_j145
    dsimp only
    rw [gd_t (pin_nI hk (by decide)), gd_t (pin_nI hk (by decide)), nI_clamp (by omega), ← nI_succ]
    show _ = K (exS ex (Sm ex.2.2.1 w (k + 1)), w, nI (k + 1))
    rw [show Sm ex.2.2.1 w (k + 1) = (match Sm ex.2.2.1 w k with | (al, le, mo, ae, we, wc, da) => (al + ex.2.2.1 k, imin le (ex.2.2.1 k), imax mo (ex.2.2.1 k), ae + er ex.2.2.1 w k, if er ex.2.2.1 w k ≤ we then we else er ex.2.2.1 w k, if er ex.2.2.1 w k ≤ we then wc else nI k, if ex.2.2.1 k = 0 then da + 1 else da) : SmT) from rfl]
    obtain ⟨al, le, mo, ae, we, wc, da⟩ := Sm ex.2.2.1 w k
    dsimp only [er]
    by_cases c1 : iabs (ex.2.2.1 k - w) ≤ we <;> by_cases c2 : ex.2.2.1 k = 0
    · simp only [if_pos c1, if_pos c2]
    · simp only [if_pos c1, if_neg c2]
    · simp only [if_neg c1, if_pos c2]
    · simp only [if_neg c1, if_neg c2]
  · dsimp only
    rw [if_pos l24]
theorem z_t : (0 : Int32).toInt = 0 := rfl
theorem o_t : (1 : Int32).toInt = 1 := rfl
theorem imax_t (a b : Int32) : (imax a b).toInt = max a.toInt b.toInt := by
  unfold imax
  by_cases h : a < b
  · rw [if_pos h]; have := (lt_i a b).mp h; omega
  · rw [if_neg h]; have := mt (lt_i a b).mpr h; omega
theorem imin_t (a b : Int32) : (imin a b).toInt = min a.toInt b.toInt := by
  unfold imin
  by_cases h : b < a
  · rw [if_pos h]; have := (lt_i b a).mp h; omega
  · rw [if_neg h]; have := mt (lt_i b a).mpr h; omega
theorem i_eq {a b : Int32} (h : a.toInt = b.toInt) : a = b := Int32.toInt_inj.mp h
def Wv (v : Nat) : Int32 := 20 <<< (nI v &&& 31)
theorem Wv_b {v : Nat} (hv : v < 6) : 20 ≤ (Wv v).toInt ∧ (Wv v).toInt ≤ 640 := by
  rcases (by omega : v = 0 ∨ v = 1 ∨ v = 2 ∨ v = 3 ∨ v = 4 ∨ v = 5) with rfl | rfl | rfl | rfl | rfl | rfl <;> decide +kernel
theorem Tk_b {x : ShT} {M c : Nat} (hI : Inv x M) (hM : M ≤ 200000) (hc : c < 2) : 0 ≤ (Tk x c).toInt ∧ (Tk x c).toInt ≤ 401000 := by
  have h1 := hI.1 c hc
  have h2 := hI.2.1 c hc
  have h3 := hI.2.2.2.2.2.1
  unfold Tk
  have e1 : (1000 / x.1 c).toInt = 1000 / (x.1 c).toInt := ti_div (a := 1000) (by decide) (by omega)
  have e2 : (x.2.1 c / 10).toInt = (x.2.1 c).toInt / 10 := ti_div (b := 10) (by omega) (by decide)
  have b1 : 0 ≤ 1000 / (x.1 c).toInt := Int.ediv_nonneg (by omega) (by omega)
  have b2 : 1000 / (x.1 c).toInt ≤ 1000 := Int.ediv_le_self _ (by omega)
  have b3 : 0 ≤ (x.2.1 c).toInt / 10 ∧ (x.2.1 c).toInt / 10 ≤ 20000 := by omega
  have p0 : 0 ≤ (x.2.2.2.2.2.1 0).toInt * ((x.2.1 c).toInt / 10) := Int.mul_nonneg (by omega) (by omega)
  have p1 : (x.2.2.2.2.2.1 0).toInt * ((x.2.1 c).toInt / 10) ≤ 20 * 20000 := Int.mul_le_mul (by omega) (by omega) (by omega) (by omega)
  have e3 : (x.2.2.2.2.2.1 0 * (x.2.1 c / 10)).toInt = (x.2.2.2.2.2.1 0).toInt * ((x.2.1 c).toInt / 10) := by rw [ti_mul (by rw [e2]; omega) (by rw [e2]; omega), e2]
  rw [ti_add (by rw [e1, e3]; omega) (by rw [e1, e3]; omega), e1, e3]
  omega
theorem Lf_b {x : ShT} {M : Nat} (hI : Inv x M) (hM : M ≤ 200000) : ∀ k, k ≤ 24 → 0 ≤ (Lf x k).toInt ∧ (Lf x k).toInt ≤ k * 401050 := by
  intro k
  induction k with
  | zero => intro _; exact ⟨Int.le_refl _, Int.le_refl _⟩
  | succ k ih =>
    intro hk
    obtain ⟨a, b⟩ := ih (by omega)
    have t := Tk_b (c := 0) hI hM (by omega)
    have d := hI.2.2.1 k (by omega)
    have e1 : (Tk x 0 + x.2.2.1 k).toInt = (Tk x 0).toInt + (x.2.2.1 k).toInt := ti_add (by omega) (by omega)
    have e2 : (Lf x (k + 1)).toInt = (Lf x k).toInt + ((Tk x 0).toInt + (x.2.2.1 k).toInt) := by
      show (Lf x k + (Tk x 0 + x.2.2.1 k)).toInt = _
      rw [ti_add (by rw [e1]; omega) (by rw [e1]; omega), e1]
    rw [e2]; omega
theorem Lf_m {x : ShT} {M : Nat} (hI : Inv x M) (hM : M ≤ 200000) : ∀ k, k < 24 → (Lf x (k + 1)).toInt = (Lf x k).toInt + ((Tk x 0).toInt + (x.2.2.1 k).toInt) := by
  intro k hk
  obtain ⟨a, b⟩ := Lf_b hI hM k (by omega)
  have t := Tk_b (c := 0) hI hM (by omega)
  have d := hI.2.2.1 k (by omega)
  have e1 : (Tk x 0 + x.2.2.1 k).toInt = (Tk x 0).toInt + (x.2.2.1 k).toInt := ti_add (by omega) (by omega)
  show (Lf x k + (Tk x 0 + x.2.2.1 k)).toInt = _
  rw [ti_add (by rw [e1]; omega) (by rw [e1]; omega), e1]
theorem Lf_24 {x : ShT} {M : Nat} (hI : Inv x M) (hM : M ≤ 200000) : ∀ n, n ≤ 24 → (Lf x (24 - n)).toInt ≤ (Lf x 24).toInt := by
  intro n
  induction n with
  | zero => intro _; exact Int.le_refl _
  | succ n ih =>
    intro hn
    have := ih (by omega)
    have e := Lf_m hI hM (24 - (n + 1)) (by omega)
    rw [show 24 - (n + 1) + 1 = 24 - n by omega] at e
    have t := Tk_b (c := 0) hI hM (by omega)
    have d := hI.2.2.1 (24 - (n + 1)) (by omega)
    omega
theorem Sv_b {x : ShT} {M v : Nat} (hI : Inv x M) (hv : v < 6) : 0 ≤ (Sv x v).toInt ∧ (Sv x v).toInt ≤ 690 := by
  unfold Sv
  have w := Wv_b hv
  unfold Wv at w
  have c := hI.2.2.2.2.1 v hv
  rw [imax_t, ti_add (by omega) (by omega), z_t]
  omega
theorem Cv_b {x : ShT} {M v : Nat} (hI : Inv x M) (hM : M ≤ 200000) (hv : v < 6) : ∀ k, k ≤ 24 → 0 ≤ (Cv x v k).toInt ∧ (Cv x v k).toInt ≤ 690 + k * 401050 := by
  intro k
  induction k with
  | zero => intro _; have := Sv_b hI hv; exact ⟨this.1, by show (Sv x v).toInt ≤ _; omega⟩
  | succ k ih =>
    intro hk
    obtain ⟨a, b⟩ := ih (by omega)
    have t := Tk_b (c := 1) hI hM (by omega)
    have d := hI.2.2.2.1 k (by omega)
    have l := Lf_b hI hM (k + 1) hk
    show 0 ≤ (imax (Lf x (k + 1)) ((Cv x v k + Tk x 1) + x.2.2.2.1 k)).toInt ∧ (imax (Lf x (k + 1)) ((Cv x v k + Tk x 1) + x.2.2.2.1 k)).toInt ≤ _
    have e1 : (Cv x v k + Tk x 1).toInt = (Cv x v k).toInt + (Tk x 1).toInt := ti_add (by omega) (by omega)
    rw [imax_t, ti_add (by rw [e1]; omega) (by rw [e1]; omega), e1]
    omega
theorem Cv_l {x : ShT} {v k : Nat} : (Lf x (k + 1)).toInt ≤ (Cv x v (k + 1)).toInt := by
  show _ ≤ (imax (Lf x (k + 1)) ((Cv x v k + Tk x 1) + x.2.2.2.1 k)).toInt
  rw [imax_t]; omega
theorem Bc_b {x : ShT} {M : Nat} (hI : Inv x M) : ∃ n, n ≤ 6 ∧ Bc x = nI n := by
  have h1 := hI.1 0 (by omega)
  have h2 := hI.2.2.2.2.2.2.1
  unfold Bc
  have e : (x.1 0 - x.2.2.2.2.2.1 1).toInt = (x.1 0).toInt - (x.2.2.2.2.2.1 1).toInt := ti_sub (by omega) (by omega)
  by_cases h : x.1 0 - x.2.2.2.2.2.1 1 ≤ 0
  · rw [if_pos h]; exact ⟨0, by omega, rfl⟩
  · rw [if_neg h]
    have h' := mt (le_i _ _).mpr h
    rw [e, z_t] at h'
    have e2 : ((x.1 0 - x.2.2.2.2.2.1 1) / 5).toInt = ((x.1 0).toInt - (x.2.2.2.2.2.1 1).toInt) / 5 := by rw [ti_div (b := 5) (by rw [e]; omega) (by decide), e]; rfl
    refine ⟨(min (((x.1 0).toInt - (x.2.2.2.2.2.1 1).toInt) / 5) 6).toNat, by omega, i_eq ?_⟩
    rw [imin_t, nI_toInt (by omega), e2, show (6 : Int32).toInt = 6 from rfl]
    omega
def Lo (x : ShT) (v k : Nat) : Int32 := imax 0 (if 24 - Bc x ≤ nI k then imin (Cv x v (k + 1)) (Lf x 24 + x.2.2.2.2.2.1 2) - Lf x 24 else 0)
theorem Lo_t {x : ShT} {M v : Nat} (hI : Inv x M) (hM : M ≤ 200000) (hv : v < 6) {k : Nat} (hk : k < 24) (hc : 24 - Bc x ≤ nI k) : (Lo x v k).toInt = max 0 (min (Cv x v (k + 1)).toInt ((Lf x 24).toInt + (x.2.2.2.2.2.1 2).toInt) - (Lf x 24).toInt) := by
  have c := Cv_b hI hM hv (k + 1) (by omega)
  have l := Lf_b hI hM 24 (by omega)
  have s := hI.2.2.2.2.2.2.2.1
  unfold Lo
  have e1 : (Lf x 24 + x.2.2.2.2.2.1 2).toInt = (Lf x 24).toInt + (x.2.2.2.2.2.1 2).toInt := ti_add (by omega) (by omega)
  rw [if_pos hc, imax_t, z_t, ti_sub (by rw [imin_t, e1]; omega) (by rw [imin_t, e1]; omega), imin_t, e1]
theorem Lo_0 {x : ShT} {v k : Nat} (hc : ¬ 24 - Bc x ≤ nI k) : Lo x v k = 0 := by
  unfold Lo
  rw [if_neg hc]; rfl
theorem Lg_b {x : ShT} {M v : Nat} (hI : Inv x M) (hM : M ≤ 200000) (hv : v < 6) {k : Nat} (hk : k < 24) : 0 ≤ (Lg x v k).toInt ∧ (Lg x v k).toInt ≤ 10000000 := by
  have c := Cv_b hI hM hv (k + 1) (by omega)
  have l := Lf_b hI hM (k + 1) (by omega)
  have cl := Cv_l (x := x) (v := v) (k := k)
  have m := Lf_24 hI hM (24 - (k + 1)) (by omega)
  rw [show 24 - (24 - (k + 1)) = k + 1 by omega] at m
  have e1 : (Cv x v (k + 1) - Lf x (k + 1)).toInt = (Cv x v (k + 1)).toInt - (Lf x (k + 1)).toInt := ti_sub (by omega) (by omega)
  show 0 ≤ ((Cv x v (k + 1) - Lf x (k + 1)) - Lo x v k).toInt ∧ ((Cv x v (k + 1) - Lf x (k + 1)) - Lo x v k).toInt ≤ 10000000
  have b : 0 ≤ (Lo x v k).toInt ∧ (Lo x v k).toInt ≤ (Cv x v (k + 1)).toInt - (Lf x (k + 1)).toInt := by
    by_cases hc : 24 - Bc x ≤ nI k
    · rw [Lo_t hI hM hv hk hc]; omega
    · rw [Lo_0 hc, z_t]; omega
  rw [ti_sub (by rw [e1]; omega) (by rw [e1]; omega), e1]
  omega
theorem iabs_t {a : Int32} (h : -2147483648 < a.toInt) : (iabs a).toInt = max a.toInt (-a.toInt) := by
  unfold iabs
  have b := a.toInt_lt
  by_cases q : 0 ≤ a
  · rw [if_pos q]; rw [le_i, z_t] at q; omega
  · rw [if_neg q]; rw [le_i, z_t] at q; rw [ti_sub (by rw [z_t]; omega) (by rw [z_t]; omega), z_t]; omega
theorem er_b {x : ShT} {M v : Nat} (hI : Inv x M) (hM : M ≤ 200000) (hv : v < 6) {k : Nat} (hk : k < 24) : 0 ≤ (er (Lg x v) (Wv v) k).toInt ∧ (er (Lg x v) (Wv v) k).toInt ≤ 10000000 := by
  have g := Lg_b hI hM hv hk
  have w := Wv_b hv
  have e : (Lg x v k - Wv v).toInt = (Lg x v k).toInt - (Wv v).toInt := ti_sub (by omega) (by omega)
  show 0 ≤ (iabs (Lg x v k - Wv v)).toInt ∧ (iabs (Lg x v k - Wv v)).toInt ≤ 10000000
  rw [iabs_t (by rw [e]; omega), e]
  omega
abbrev Sx (x : ShT) (v : Nat) : SmT := Sm (Lg x v) (Wv v) 24
theorem Sm_congr {g h : Nat → Int32} {w : Int32} (e : ∀ j, j < 24 → g j = h j) : ∀ k, k ≤ 24 → Sm g w k = Sm h w k := by
  intro k
  induction k with
  | zero => intro _; show (0, g 0, g 0, 0, 0, 0, 0) = ((0, h 0, h 0, 0, 0, 0, 0) : SmT); rw [e 0 (by decide)]
  | succ k ih =>
    intro hk
    show (match Sm g w k with | (al, le, mo, ae, we, wc, da) => (al + g k, imin le (g k), imax mo (g k), ae + er g w k, if er g w k ≤ we then we else er g w k, if er g w k ≤ we then wc else nI k, if g k = 0 then da + 1 else da) : SmT) = (match Sm h w k with | (al, le, mo, ae, we, wc, da) => (al + h k, imin le (h k), imax mo (h k), ae + er h w k, if er h w k ≤ we then we else er h w k, if er h w k ≤ we then wc else nI k, if h k = 0 then da + 1 else da) : SmT)
    have e2 : er g w k = er h w k := by show iabs (g k - w) = iabs (h k - w); rw [e k (by omega)]
    rw [ih (by omega), e k (by omega), e2]
def Exr (x : ShT) (v : Nat) (ex : ExT) : Prop := (∀ j, j < 24 → ex.1 j = Lf x (j + 1)) ∧ (∀ j, j < 24 → ex.2.1 j = Cv x v (j + 1)) ∧ (∀ j, j < 24 → ex.2.2.1 j = Lg x v j) ∧ ex.2.2.2 = Sx x v
theorem expose_eq {ex : ExT} {x : ShT} {M v : Nat} (hI : Inv x M) (hv : v < 6) : ∃ ex', fX0_expose ex x (nI v) = some ex' ∧ Exr x v ex' := by
  unfold fX0_expose
  rw [run_eq hI hv, Option.bind_some, open_eq (v := v) (fun j hj => mrg_lt (f := fun j => Lf x (j + 1)) hj) (fun j hj => mrg_lt (f := fun j => Cv x v (j + 1)) hj), Option.bind_some]
  show ∃ ex', (fX0_sumUp (exL (exL ex (mrg 24 (fun j => Lf x (j + 1)) ex.1) (mrg 24 (fun j => Cv x v (j + 1)) ex.2.1) ex.2.2.1) (mrg 24 (fun j => Lf x (j + 1)) ex.1) (mrg 24 (fun j => Cv x v (j + 1)) ex.2.1) (mrg 24 (Lg x v) ex.2.2.1)) (Wv v)).bind _ = some ex' ∧ Exr x v ex'
  rw [sum_eq, Option.bind_some]
  refine ⟨_, rfl, fun j hj => mrg_lt (f := fun j => Lf x (j + 1)) hj, fun j hj => mrg_lt (f := fun j => Cv x v (j + 1)) hj, fun j hj => mrg_lt hj, ?_⟩
  show Sm (mrg 24 (Lg x v) ex.2.2.1) (Wv v) 24 = Sm (Lg x v) (Wv v) 24
  exact Sm_congr (fun j hj => mrg_lt hj) 24 (Nat.le_refl _)
theorem k0 : (0 : Int32).toNatClampNeg = 0 := rfl
def Dr (x : ShT) (c : Nat) : Nat → Int32 := if c = 0 then x.2.2.1 else x.2.2.2.1
theorem imin_le {a b : Int32} (h : a ≤ b) : imin a b = a := if_neg (fun q => by rw [lt_i] at q; rw [le_i] at h; omega)
theorem imin_n {a b : Int32} (h : ¬ a ≤ b) : imin a b = b := if_pos (by rw [le_i] at h; rw [lt_i]; omega)
theorem Sm_succ (g : Nat → Int32) (w : Int32) (k : Nat) {al le mo ae we wc da : Int32} (h : Sm g w k = (al, le, mo, ae, we, wc, da)) : Sm g w (k + 1) = (al + g k, imin le (g k), imax mo (g k), ae + er g w k, if er g w k ≤ we then we else er g w k, if er g w k ≤ we then wc else nI k, if g k = 0 then da + 1 else da) := by
  show (match Sm g w k with | (al, le, mo, ae, we, wc, da) => (al + g k, imin le (g k), imax mo (g k), ae + er g w k, if er g w k ≤ we then we else er g w k, if er g w k ≤ we then wc else nI k, if g k = 0 then da + 1 else da) : SmT) = _
  rw [h]
