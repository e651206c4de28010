/-! bounds -/
theorem z_t : (0 : Int32).toInt = 0 := rfl
theorem o_t : (1 : Int32).toInt = 1 := rfl
theorem imax_t (a b : Int32) : (imax a b).toInt = max a.toInt b.toInt := by
  unfold imax
  by_cases h : a < b
  · rw [if_pos h]; have := (lt_i a b).mp h; omega
  · rw [if_neg h]; have := mt (lt_i a b).mpr h; omega
theorem imin_t (a b : Int32) : (imin a b).toInt = min a.toInt b.toInt := by
  unfold imin
  by_cases h : b < a
  · rw [if_pos h]; have := (lt_i b a).mp h; omega
  · rw [if_neg h]; have := mt (lt_i b a).mpr h; omega
theorem i_eq {a b : Int32} (h : a.toInt = b.toInt) : a = b := Int32.toInt_inj.mp h
def Wv (v : Nat) : Int32 := 20 <<< (nI v &&& 31)
theorem Wv_b {v : Nat} (hv : v < 6) : 20 ≤ (Wv v).toInt ∧ (Wv v).toInt ≤ 640 := by
  rcases (by omega : v = 0 ∨ v = 1 ∨ v = 2 ∨ v = 3 ∨ v = 4 ∨ v = 5) with rfl | rfl | rfl | rfl | rfl | rfl <;> decide +kernel
theorem Tk_b {x : ShT} {M c : Nat} (hI : Inv x M) (hM : M ≤ 200000) (hc : c < 2) : 0 ≤ (Tk x c).toInt ∧ (Tk x c).toInt ≤ 401000 := by
  have h1 := hI.1 c hc
  have h2 := hI.2.1 c hc
  have h3 := hI.2.2.2.2.2.1
  unfold Tk
  have e1 : (1000 / x.1 c).toInt = 1000 / (x.1 c).toInt := ti_div (a := 1000) (by decide) (by omega)
  have e2 : (x.2.1 c / 10).toInt = (x.2.1 c).toInt / 10 := ti_div (b := 10) (by omega) (by decide)
  have b1 : 0 ≤ 1000 / (x.1 c).toInt := Int.ediv_nonneg (by omega) (by omega)
  have b2 : 1000 / (x.1 c).toInt ≤ 1000 := Int.ediv_le_self _ (by omega)
  have b3 : 0 ≤ (x.2.1 c).toInt / 10 ∧ (x.2.1 c).toInt / 10 ≤ 20000 := by omega
  have p0 : 0 ≤ (x.2.2.2.2.2.1 0).toInt * ((x.2.1 c).toInt / 10) := Int.mul_nonneg (by omega) (by omega)
  have p1 : (x.2.2.2.2.2.1 0).toInt * ((x.2.1 c).toInt / 10) ≤ 20 * 20000 := Int.mul_le_mul (by omega) (by omega) (by omega) (by omega)
  have e3 : (x.2.2.2.2.2.1 0 * (x.2.1 c / 10)).toInt = (x.2.2.2.2.2.1 0).toInt * ((x.2.1 c).toInt / 10) := by rw [ti_mul (by rw [e2]; omega) (by rw [e2]; omega), e2]
  rw [ti_add (by rw [e1, e3]; omega) (by rw [e1, e3]; omega), e1, e3]
  omega
theorem Lf_b {x : ShT} {M : Nat} (hI : Inv x M) (hM : M ≤ 200000) : ∀ k, k ≤ 24 → 0 ≤ (Lf x k).toInt ∧ (Lf x k).toInt ≤ k * 401050 := by
  intro k
  induction k with
  | zero => intro _; exact ⟨Int.le_refl _, Int.le_refl _⟩
  | succ k ih =>
    intro hk
    obtain ⟨a, b⟩ := ih (by omega)
    have t := Tk_b (c := 0) hI hM (by omega)
    have d := hI.2.2.1 k (by omega)
    have e1 : (Tk x 0 + x.2.2.1 k).toInt = (Tk x 0).toInt + (x.2.2.1 k).toInt := ti_add (by omega) (by omega)
    have e2 : (Lf x (k + 1)).toInt = (Lf x k).toInt + ((Tk x 0).toInt + (x.2.2.1 k).toInt) := by
      show (Lf x k + (Tk x 0 + x.2.2.1 k)).toInt = _
      rw [ti_add (by rw [e1]; omega) (by rw [e1]; omega), e1]
    rw [e2]; omega
theorem Lf_m {x : ShT} {M : Nat} (hI : Inv x M) (hM : M ≤ 200000) : ∀ k, k < 24 → (Lf x (k + 1)).toInt = (Lf x k).toInt + ((Tk x 0).toInt + (x.2.2.1 k).toInt) := by
  intro k hk
  obtain ⟨a, b⟩ := Lf_b hI hM k (by omega)
  have t := Tk_b (c := 0) hI hM (by omega)
  have d := hI.2.2.1 k (by omega)
  have e1 : (Tk x 0 + x.2.2.1 k).toInt = (Tk x 0).toInt + (x.2.2.1 k).toInt := ti_add (by omega) (by omega)
  show (Lf x k + (Tk x 0 + x.2.2.1 k)).toInt = _
  rw [ti_add (by rw [e1]; omega) (by rw [e1]; omega), e1]
theorem Lf_24 {x : ShT} {M : Nat} (hI : Inv x M) (hM : M ≤ 200000) : ∀ n, n ≤ 24 → (Lf x (24 - n)).toInt ≤ (Lf x 24).toInt := by
  intro n
  induction n with
  | zero => intro _; exact Int.le_refl _
  | succ n ih =>
    intro hn
    have := ih (by omega)
    have e := Lf_m hI hM (24 - (n + 1)) (by omega)
    rw [show 24 - (n + 1) + 1 = 24 - n by omega] at e
    have t := Tk_b (c := 0) hI hM (by omega)
    have d := hI.2.2.1 (24 - (n + 1)) (by omega)
    omega
theorem Sv_b {x : ShT} {M v : Nat} (hI : Inv x M) (hv : v < 6) : 0 ≤ (Sv x v).toInt ∧ (Sv x v).toInt ≤ 690 := by
  unfold Sv
  have w := Wv_b hv
  unfold Wv at w
  have c := hI.2.2.2.2.1 v hv
  rw [imax_t, ti_add (by omega) (by omega), z_t]
  omega
theorem Cv_b {x : ShT} {M v : Nat} (hI : Inv x M) (hM : M ≤ 200000) (hv : v < 6) : ∀ k, k ≤ 24 → 0 ≤ (Cv x v k).toInt ∧ (Cv x v k).toInt ≤ 690 + k * 401050 := by
  intro k
  induction k with
  | zero => intro _; have := Sv_b hI hv; exact ⟨this.1, by show (Sv x v).toInt ≤ _; omega⟩
  | succ k ih =>
    intro hk
    obtain ⟨a, b⟩ := ih (by omega)
    have t := Tk_b (c := 1) hI hM (by omega)
    have d := hI.2.2.2.1 k (by omega)
    have l := Lf_b hI hM (k + 1) hk
    show 0 ≤ (imax (Lf x (k + 1)) ((Cv x v k + Tk x 1) + x.2.2.2.1 k)).toInt ∧ (imax (Lf x (k + 1)) ((Cv x v k + Tk x 1) + x.2.2.2.1 k)).toInt ≤ _
    have e1 : (Cv x v k + Tk x 1).toInt = (Cv x v k).toInt + (Tk x 1).toInt := ti_add (by omega) (by omega)
    rw [imax_t, ti_add (by rw [e1]; omega) (by rw [e1]; omega), e1]
    omega
theorem Cv_l {x : ShT} {v k : Nat} : (Lf x (k + 1)).toInt ≤ (Cv x v (k + 1)).toInt := by
  show _ ≤ (imax (Lf x (k + 1)) ((Cv x v k + Tk x 1) + x.2.2.2.1 k)).toInt
  rw [imax_t]; omega
theorem Bc_b {x : ShT} {M : Nat} (hI : Inv x M) : ∃ n, n ≤ 6 ∧ Bc x = nI n := by
  have h1 := hI.1 0 (by omega)
  have h2 := hI.2.2.2.2.2.2.1
  unfold Bc
  have e : (x.1 0 - x.2.2.2.2.2.1 1).toInt = (x.1 0).toInt - (x.2.2.2.2.2.1 1).toInt := ti_sub (by omega) (by omega)
  by_cases h : x.1 0 - x.2.2.2.2.2.1 1 ≤ 0
  · rw [if_pos h]; exact ⟨0, by omega, rfl⟩
  · rw [if_neg h]
    have h' := mt (le_i _ _).mpr h
    rw [e, z_t] at h'
    have e2 : ((x.1 0 - x.2.2.2.2.2.1 1) / 5).toInt = ((x.1 0).toInt - (x.2.2.2.2.2.1 1).toInt) / 5 := by rw [ti_div (b := 5) (by rw [e]; omega) (by decide), e]; rfl
    refine ⟨(min (((x.1 0).toInt - (x.2.2.2.2.2.1 1).toInt) / 5) 6).toNat, by omega, i_eq ?_⟩
    rw [imin_t, nI_toInt (by omega), e2, show (6 : Int32).toInt = 6 from rfl]
    omega
/-- what a column loses -/
def Lo (x : ShT) (v k : Nat) : Int32 := imax 0 (if 24 - Bc x ≤ nI k then imin (Cv x v (k + 1)) (Lf x 24 + x.2.2.2.2.2.1 2) - Lf x 24 else 0)
theorem Lo_t {x : ShT} {M v : Nat} (hI : Inv x M) (hM : M ≤ 200000) (hv : v < 6) {k : Nat} (hk : k < 24) (hc : 24 - Bc x ≤ nI k) : (Lo x v k).toInt = max 0 (min (Cv x v (k + 1)).toInt ((Lf x 24).toInt + (x.2.2.2.2.2.1 2).toInt) - (Lf x 24).toInt) := by
  have c := Cv_b hI hM hv (k + 1) (by omega)
  have l := Lf_b hI hM 24 (by omega)
  have s := hI.2.2.2.2.2.2.2.1
  unfold Lo
  have e1 : (Lf x 24 + x.2.2.2.2.2.1 2).toInt = (Lf x 24).toInt + (x.2.2.2.2.2.1 2).toInt := ti_add (by omega) (by omega)
  rw [if_pos hc, imax_t, z_t, ti_sub (by rw [imin_t, e1]; omega) (by rw [imin_t, e1]; omega), imin_t, e1]
theorem Lo_0 {x : ShT} {v k : Nat} (hc : ¬ 24 - Bc x ≤ nI k) : Lo x v k = 0 := by
  unfold Lo
  rw [if_neg hc]; rfl
theorem Lg_b {x : ShT} {M v : Nat} (hI : Inv x M) (hM : M ≤ 200000) (hv : v < 6) {k : Nat} (hk : k < 24) : 0 ≤ (Lg x v k).toInt ∧ (Lg x v k).toInt ≤ 10000000 := by
  have c := Cv_b hI hM hv (k + 1) (by omega)
  have l := Lf_b hI hM (k + 1) (by omega)
  have cl := Cv_l (x := x) (v := v) (k := k)
  have m := Lf_24 hI hM (24 - (k + 1)) (by omega)
  rw [show 24 - (24 - (k + 1)) = k + 1 by omega] at m
  have e1 : (Cv x v (k + 1) - Lf x (k + 1)).toInt = (Cv x v (k + 1)).toInt - (Lf x (k + 1)).toInt := ti_sub (by omega) (by omega)
  show 0 ≤ ((Cv x v (k + 1) - Lf x (k + 1)) - Lo x v k).toInt ∧ ((Cv x v (k + 1) - Lf x (k + 1)) - Lo x v k).toInt ≤ 10000000
  have b : 0 ≤ (Lo x v k).toInt ∧ (Lo x v k).toInt ≤ (Cv x v (k + 1)).toInt - (Lf x (k + 1)).toInt := by
    by_cases hc : 24 - Bc x ≤ nI k
    · rw [Lo_t hI hM hv hk hc]; omega
    · rw [Lo_0 hc, z_t]; omega
  rw [ti_sub (by rw [e1]; omega) (by rw [e1]; omega), e1]
  omega
theorem iabs_t {a : Int32} (h : -2147483648 < a.toInt) : (iabs a).toInt = max a.toInt (-a.toInt) := by
  unfold iabs
  have b := a.toInt_lt
  by_cases q : 0 ≤ a
  · rw [if_pos q]; rw [le_i, z_t] at q; omega
  · rw [if_neg q]; rw [le_i, z_t] at q; rw [ti_sub (by rw [z_t]; omega) (by rw [z_t]; omega), z_t]; omega
theorem er_b {x : ShT} {M v : Nat} (hI : Inv x M) (hM : M ≤ 200000) (hv : v < 6) {k : Nat} (hk : k < 24) : 0 ≤ (er (Lg x v) (Wv v) k).toInt ∧ (er (Lg x v) (Wv v) k).toInt ≤ 10000000 := by
  have g := Lg_b hI hM hv hk
  have w := Wv_b hv
  have e : (Lg x v k - Wv v).toInt = (Lg x v k).toInt - (Wv v).toInt := ti_sub (by omega) (by omega)
  show 0 ≤ (iabs (Lg x v k - Wv v)).toInt ∧ (iabs (Lg x v k - Wv v)).toInt ≤ 10000000
  rw [iabs_t (by rw [e]; omega), e]
  omega
