/-! what the law holds of the columns -/
theorem Tk_s {x : ShT} {M c : Nat} (hI : Inv x M) (hM : M ≤ 1000) (hc : c < 2) : 10 ≤ (Tk x c).toInt ∧ (Tk x c).toInt ≤ 3000 := by
  have h1 := hI.1 c hc
  have h2 := hI.2.1 c hc
  have h3 := hI.2.2.2.2.2.1
  unfold Tk
  have e1 : (1000 / x.1 c).toInt = 1000 / (x.1 c).toInt := ti_div (a := 1000) (by decide) (by omega)
  have e2 : (x.2.1 c / 10).toInt = (x.2.1 c).toInt / 10 := ti_div (b := 10) (by omega) (by decide)
  have b1 : 10 ≤ 1000 / (x.1 c).toInt := Int.le_ediv_of_mul_le (by omega) (by omega)
  have b2 : 1000 / (x.1 c).toInt ≤ 1000 := Int.ediv_le_self _ (by omega)
  have b3 : 0 ≤ (x.2.1 c).toInt / 10 ∧ (x.2.1 c).toInt / 10 ≤ 100 := by omega
  have p0 : 0 ≤ (x.2.2.2.2.2.1 0).toInt * ((x.2.1 c).toInt / 10) := Int.mul_nonneg (by omega) (by omega)
  have p1 : (x.2.2.2.2.2.1 0).toInt * ((x.2.1 c).toInt / 10) ≤ 20 * 100 := Int.mul_le_mul (by omega) (by omega) (by omega) (by omega)
  have e3 : (x.2.2.2.2.2.1 0 * (x.2.1 c / 10)).toInt = (x.2.2.2.2.2.1 0).toInt * ((x.2.1 c).toInt / 10) := by rw [ti_mul (by rw [e2]; omega) (by rw [e2]; omega), e2]
  rw [ti_add (by rw [e1, e3]; omega) (by rw [e1, e3]; omega), e1, e3]
  omega
theorem Lf_s {x : ShT} {M : Nat} (hI : Inv x M) (hM : M ≤ 1000) : ∀ k, k ≤ 24 → (Lf x k).toInt ≤ k * 3050 := by
  intro k
  induction k with
  | zero => intro _; exact Int.le_refl _
  | succ k ih =>
    intro hk
    have a := ih (by omega)
    have t := Tk_s (c := 0) hI hM (by omega)
    have d := hI.2.2.1 k (by omega)
    rw [Lf_m hI (by omega) k (by omega)]
    omega
theorem Lf_p {x : ShT} {M : Nat} (hI : Inv x M) (hM : M ≤ 1000) {k : Nat} (hk : k < 24) : ¬ Lf x (k + 1) ≤ Lf x k := by
  have t := Tk_s (c := 0) hI hM (by omega)
  have d := hI.2.2.1 k (by omega)
  rw [le_i, Lf_m hI (by omega) k hk]
  omega
theorem Cv_t {x : ShT} {M v : Nat} (hI : Inv x M) (hM : M ≤ 1000) (hv : v < 6) : ∀ k, k < 24 → (Cv x v (k + 1)).toInt = max (Lf x (k + 1)).toInt ((Cv x v k).toInt + (Tk x 1).toInt + (x.2.2.2.1 k).toInt) := by
  intro k hk
  obtain ⟨a, b⟩ := Cv_b (v := v) hI (by omega) hv k (by omega)
  have t := Tk_s (c := 1) hI hM (by omega)
  have d := hI.2.2.2.1 k (by omega)
  have e1 : (Cv x v k + Tk x 1).toInt = (Cv x v k).toInt + (Tk x 1).toInt := ti_add (by omega) (by omega)
  show (imax (Lf x (k + 1)) ((Cv x v k + Tk x 1) + x.2.2.2.1 k)).toInt = _
  rw [imax_t, ti_add (by rw [e1]; omega) (by rw [e1]; omega), e1]
theorem Cv_s {x : ShT} {M v : Nat} (hI : Inv x M) (hM : M ≤ 1000) (hv : v < 6) : ∀ k, k ≤ 24 → (Cv x v k).toInt ≤ 690 + k * 3050 := by
  intro k
  induction k with
  | zero => intro _; have := Sv_b (v := v) hI hv; show (Sv x v).toInt ≤ _; omega
  | succ k ih =>
    intro hk
    have a := ih (by omega)
    have t := Tk_s (c := 1) hI hM (by omega)
    have d := hI.2.2.2.1 k (by omega)
    have l := Lf_s hI hM (k + 1) hk
    rw [Cv_t hI hM hv k (by omega)]
    omega
theorem Cv_p {x : ShT} {M v : Nat} (hI : Inv x M) (hM : M ≤ 1000) (hv : v < 6) {k : Nat} (hk : k < 24) : ¬ Cv x v (k + 1) ≤ Cv x v k := by
  have t := Tk_s (c := 1) hI hM (by omega)
  have d := hI.2.2.2.1 k (by omega)
  rw [le_i, Cv_t hI hM hv k hk]
  omega
theorem op_t {x : ShT} {M v : Nat} (hI : Inv x M) (hM : M ≤ 1000) (hv : v < 6) {k : Nat} (hk : k < 24) : (Cv x v (k + 1) - Lf x (k + 1)).toInt = (Cv x v (k + 1)).toInt - (Lf x (k + 1)).toInt := by
  have c := Cv_b (v := v) hI (by omega) hv (k + 1) (by omega)
  have l := Lf_b hI (by omega) (k + 1) (by omega)
  exact ti_sub (by omega) (by omega)
theorem Lg_t {x : ShT} {M v : Nat} (hI : Inv x M) (hM : M ≤ 1000) (hv : v < 6) {k : Nat} (hk : k < 24) : (Lg x v k).toInt = (Cv x v (k + 1)).toInt - (Lf x (k + 1)).toInt - (Lo x v k).toInt ∧ 0 ≤ (Lo x v k).toInt := by
  have c := Cv_b (v := v) hI (by omega) hv (k + 1) (by omega)
  have l := Lf_b hI (by omega) (k + 1) (by omega)
  have cl := Cv_l (x := x) (v := v) (k := k)
  have m := Lf_24 hI (by omega) (24 - (k + 1)) (by omega)
  rw [show 24 - (24 - (k + 1)) = k + 1 by omega] at m
  have e1 := op_t hI hM hv hk
  have b : 0 ≤ (Lo x v k).toInt ∧ (Lo x v k).toInt ≤ (Cv x v (k + 1)).toInt - (Lf x (k + 1)).toInt := by
    by_cases hc : 24 - Bc x ≤ nI k
    · rw [Lo_t hI (by omega) hv hk hc]; omega
    · rw [Lo_0 hc, z_t]; omega
  refine ⟨?_, b.1⟩
  show ((Cv x v (k + 1) - Lf x (k + 1)) - Lo x v k).toInt = _
  rw [ti_sub (by rw [e1]; omega) (by rw [e1]; omega), e1]
theorem Lg_s {x : ShT} {M v : Nat} (hI : Inv x M) (hM : M ≤ 1000) (hv : v < 6) {k : Nat} (hk : k < 24) : 0 ≤ (Lg x v k).toInt ∧ (Lg x v k).toInt ≤ 100000 := by
  have g := Lg_t hI hM hv hk
  have c := Cv_s hI hM hv (k + 1) (by omega)
  have l := Lf_b hI (by omega) (k + 1) (by omega)
  exact ⟨(Lg_b hI (by omega) hv hk).1, by omega⟩
theorem Lg_o {x : ShT} {M v : Nat} (hI : Inv x M) (hM : M ≤ 1000) (hv : v < 6) {k : Nat} (hk : k < 24) (hc : ¬ 24 - Bc x ≤ nI k) : Lg x v k = Cv x v (k + 1) - Lf x (k + 1) := by
  have g := Lg_t hI hM hv hk
  rw [Lo_0 hc, z_t] at g
  exact i_eq (by rw [op_t hI hM hv hk]; omega)
theorem size_e (z : Int32) : fL_size z = some (iabs z) := by
  unfold fL_size iabs
  by_cases q : 0 ≤ z
  · rw [if_pos q, if_pos q]
  · rw [if_neg q, if_neg q, Int32.zero_sub]
theorem li_230 {bo : BoT} {x : ShT} {M v k : Nat} (hI : Inv x M) (hM : M ≤ 1000) (hv : v < 6) (K : ExT × Int32 × Int32 × Int32 × Int32 × Int32 × Int32 × Int32 × Int32 × Int32 → Option (Bool × ExT)) (e : ExT) (a d l m w : Int32) (hk : k < 24) : ∃ e', fL_light_j230 bo x K (e, nI v, a, d, l, m, w, Bc x, nI k, Lg x v k, er (Lg x v) (Wv v) k) = K (e', nI v, a, d, l, m, w, Bc x, 1, nI (k + 1)) := by
  unfold fL_light_j230
  dsimp only
  rw [sp0 hI hv, tq_inr]
  dsimp only
  rw [size_e, Option.bind_some, if_pos rfl, ← nI_succ]
  cases k with
  | zero => rw [if_pos (show nI 0 = 0 from rfl)]; exact ⟨_, rfl⟩
  | succ k =>
    rw [if_neg (nI_ne0 (by omega) (by omega)), nI_pred k, col0 hI hv hk, tq_inr]
    dsimp only
    rw [col0 hI hv (show k < 24 by omega), tq_inr]
    dsimp only
    rw [if_neg (Lf_p hI hM hk), col1 hI hv hk, tq_inr]
    dsimp only
    rw [col1 hI hv (show k < 24 by omega), tq_inr]
    dsimp only
    rw [if_neg (Cv_p hI hM hv hk)]
    exact ⟨_, rfl⟩
theorem li_194 {bo : BoT} {x : ShT} {M v k : Nat} (hI : Inv x M) (hM : M ≤ 1000) (hv : v < 6) (K : ExT × Int32 × Int32 × Int32 × Int32 × Int32 × Int32 × Int32 × Int32 × Int32 → Option (Bool × ExT)) (e : ExT) (a d l m w : Int32) (hk : k < 24) : ∃ e', fL_light_j194 bo x K (e, nI v, a, d, l, m, Bc x, nI k, Lg x v k, Cv x v (k + 1) - Lf x (k + 1), er (Lg x v) (Wv v) k, w) = K (e', nI v, a, d, l, m, w, Bc x, 1, nI (k + 1)) := by
  have o := op_t hI hM hv hk
  have g := Lg_t hI hM hv hk
  have b := Lg_s hI hM hv hk
  have cl := Cv_l (x := x) (v := v) (k := k)
  unfold fL_light_j194
  dsimp only
  rw [if_neg (show ¬ Cv x v (k + 1) - Lf x (k + 1) < 0 by rw [lt_i, o, z_t]; omega), if_neg (show ¬ Lg x v k < 0 by rw [lt_i, z_t]; omega), if_neg (show ¬ Cv x v (k + 1) - Lf x (k + 1) < Lg x v k by rw [lt_i, o]; omega)]
  by_cases hc : 24 - Bc x ≤ nI k
  · rw [if_pos hc]
    exact li_230 hI hM hv K e a d l m w hk
  · rw [if_neg hc, if_pos (Lg_o hI hM hv hk hc)]
    exact li_230 hI hM hv K e a d l m w hk
theorem li_162 {bo : BoT} {x : ShT} {M v k : Nat} (hI : Inv x M) (hM : M ≤ 1000) (hv : v < 6) (K : ExT × Int32 × Int32 × Int32 × Int32 × Int32 × Int32 × Int32 × Int32 × Int32 → Option (Bool × ExT)) (e : ExT) (a d l m w : Int32) (hk : k < 24) : ∃ e', fL_light_j162 bo x K (e, nI v, a, d, m, w, Bc x, nI k, Lg x v k, Cv x v (k + 1) - Lf x (k + 1), er (Lg x v) (Wv v) k, l) = K (e', nI v, a, d, l, (if Lg x v k ≤ m then m else Lg x v k), (if er (Lg x v) (Wv v) k ≤ w then w else er (Lg x v) (Wv v) k), Bc x, 1, nI (k + 1)) := by
  unfold fL_light_j162
  dsimp only
  by_cases c1 : Lg x v k ≤ m
  · rw [if_pos c1, if_pos c1]
    by_cases c2 : er (Lg x v) (Wv v) k ≤ w
    · rw [if_pos c2, if_pos c2]; exact li_194 hI hM hv K e a d l _ _ hk
    · rw [if_neg c2, if_neg c2]; exact li_194 hI hM hv K e a d l _ _ hk
  · rw [if_neg c1, if_neg c1]
    by_cases c2 : er (Lg x v) (Wv v) k ≤ w
    · rw [if_pos c2, if_pos c2]; exact li_194 hI hM hv K e a d l _ _ hk
    · rw [if_neg c2, if_neg c2]; exact li_194 hI hM hv K e a d l _ _ hk
/-- the law's own least and most light -/
def Ll (g : Fn) : Nat → Int32
  | 0 => 100000
  | k + 1 => if Ll g k ≤ g k then Ll g k else g k
def Lm (g : Fn) : Nat → Int32
  | 0 => 0
  | k + 1 => if g k ≤ Lm g k then Lm g k else g k
theorem Sm_p (g : Fn) (w : Int32) (k : Nat) : (Sm g w (k + 1)).1 = (Sm g w k).1 + g k ∧ (Sm g w (k + 1)).2.1 = imin (Sm g w k).2.1 (g k) ∧ (Sm g w (k + 1)).2.2.1 = imax (Sm g w k).2.2.1 (g k) ∧ (Sm g w (k + 1)).2.2.2.2.1 = (if er g w k ≤ (Sm g w k).2.2.2.2.1 then (Sm g w k).2.2.2.2.1 else er g w k) ∧ (Sm g w (k + 1)).2.2.2.2.2.1 = (if er g w k ≤ (Sm g w k).2.2.2.2.1 then (Sm g w k).2.2.2.2.2.1 else nI k) ∧ (Sm g w (k + 1)).2.2.2.2.2.2 = (if g k = 0 then (Sm g w k).2.2.2.2.2.2 + 1 else (Sm g w k).2.2.2.2.2.2) := by
  rcases hs : Sm g w k with ⟨al, le, mo, ae, we, wc, da⟩
  rw [Sm_succ g w k hs]
  exact ⟨rfl, rfl, rfl, rfl, rfl, rfl⟩
theorem Ll_t {g : Fn} (k : Nat) : (Ll g (k + 1)).toInt = min (Ll g k).toInt (g k).toInt := by
  show (if Ll g k ≤ g k then Ll g k else g k).toInt = _
  by_cases h : Ll g k ≤ g k
  · rw [if_pos h]; rw [le_i] at h; omega
  · rw [if_neg h]; rw [le_i] at h; omega
theorem Lm_t {g : Fn} (k : Nat) : (Lm g (k + 1)).toInt = max (Lm g k).toInt (g k).toInt := by
  show (if g k ≤ Lm g k then Lm g k else g k).toInt = _
  by_cases h : g k ≤ Lm g k
  · rw [if_pos h]; rw [le_i] at h; omega
  · rw [if_neg h]; rw [le_i] at h; omega
theorem Lx_e {g : Fn} {w : Int32} (hg : ∀ k, k < 24 → 0 ≤ (g k).toInt ∧ (g k).toInt ≤ 100000) : ∀ k, k < 24 → (Ll g (k + 1)).toInt = (Sm g w (k + 1)).2.1.toInt ∧ (Lm g (k + 1)).toInt = (Sm g w (k + 1)).2.2.1.toInt := by
  intro k
  induction k with
  | zero =>
    intro hk
    have h := hg 0 hk
    obtain ⟨-, p2, p3, -⟩ := Sm_p g w 0
    rw [Ll_t, Lm_t, p2, p3, imin_t, imax_t]
    show min (100000 : Int32).toInt (g 0).toInt = min (g 0).toInt (g 0).toInt ∧ max (0 : Int32).toInt (g 0).toInt = max (g 0).toInt (g 0).toInt
    rw [z_t, show (100000 : Int32).toInt = 100000 from rfl]
    omega
  | succ k ih =>
    intro hk
    obtain ⟨a, b⟩ := ih (by omega)
    obtain ⟨-, p2, p3, -⟩ := Sm_p g w (k + 1)
    rw [Ll_t, Lm_t, p2, p3, imin_t, imax_t, a, b]
    exact ⟨rfl, rfl⟩
theorem wc_e {g : Fn} {w : Int32} (hg : ∀ k, k < 24 → 0 ≤ (er g w k).toInt) : ∀ k, k < 24 → ∃ j, j ≤ k ∧ (Sm g w (k + 1)).2.2.2.2.2.1 = nI j ∧ er g w j = (Sm g w (k + 1)).2.2.2.2.1 := by
  intro k
  induction k with
  | zero =>
    intro hk
    obtain ⟨-, -, -, p4, p5, -⟩ := Sm_p g w 0
    rw [p4, p5]
    refine ⟨0, Nat.le_refl _, ?_, ?_⟩
    · by_cases q : er g w 0 ≤ (Sm g w 0).2.2.2.2.1
      · rw [if_pos q]; rfl
      · rw [if_neg q]
    · by_cases q : er g w 0 ≤ (Sm g w 0).2.2.2.2.1
      · rw [if_pos q]
        have q2 : er g w 0 ≤ 0 := q
        have := hg 0 hk
        rw [le_i, z_t] at q2
        exact i_eq (by show (er g w 0).toInt = (0 : Int32).toInt; rw [z_t]; omega)
      · rw [if_neg q]
  | succ k ih =>
    intro hk
    obtain ⟨j, h1, h2, h3⟩ := ih (by omega)
    obtain ⟨-, -, -, p4, p5, -⟩ := Sm_p g w (k + 1)
    rw [p4, p5]
    by_cases q : er g w (k + 1) ≤ (Sm g w (k + 1)).2.2.2.2.1
    · rw [if_pos q, if_pos q]; exact ⟨j, by omega, h2, h3⟩
    · rw [if_neg q, if_neg q]; exact ⟨k + 1, Nat.le_refl _, rfl, rfl⟩
abbrev lS (x : ShT) (v k : Nat) : Int32 × Int32 × Int32 × Int32 × Int32 × Int32 × Int32 × Int32 × Int32 := (nI v, (Sm (Lg x v) (Wv v) k).1, (Sm (Lg x v) (Wv v) k).2.2.2.2.2.2, Ll (Lg x v) k, Lm (Lg x v) k, (Sm (Lg x v) (Wv v) k).2.2.2.2.1, Bc x, 1, nI k)
theorem lS_s {x : ShT} {v k : Nat} {a b c d e : Int32} (h1 : a = (Sm (Lg x v) (Wv v) (k + 1)).1) (h2 : b = (Sm (Lg x v) (Wv v) (k + 1)).2.2.2.2.2.2) (h3 : c = Ll (Lg x v) (k + 1)) (h4 : d = Lm (Lg x v) (k + 1)) (h5 : e = (Sm (Lg x v) (Wv v) (k + 1)).2.2.2.2.1) : (nI v, a, b, c, d, e, Bc x, 1, nI (k + 1)) = lS x v (k + 1) := by
  rw [h1, h2, h3, h4, h5]
theorem li_79 {bo : BoT} {x : ShT} {M v k : Nat} (hI : Inv x M) (hM : M ≤ 1000) (hv : v < 6) (K : ExT × Int32 × Int32 × Int32 × Int32 × Int32 × Int32 × Int32 × Int32 × Int32 → Option (Bool × ExT)) (e : ExT) (hk : k < 24) : ∃ e', fL_light_l79 bo x K (e, lS x v k) = K (e', lS x v (k + 1)) := by
  obtain ⟨p1, -, -, p4, -, p6⟩ := Sm_p (Lg x v) (Wv v) k
  have q3 : Ll (Lg x v) (k + 1) = if Ll (Lg x v) k ≤ Lg x v k then Ll (Lg x v) k else Lg x v k := rfl
  have q4 : Lm (Lg x v) (k + 1) = if Lg x v k ≤ Lm (Lg x v) k then Lm (Lg x v) k else Lg x v k := rfl
  unfold fL_light_l79
  dsimp only
  rw [if_neg (n24 hk), if_neg (show ¬ (1 : Int32) = 0 by decide), col2 hI hv hk, tq_inr]
  dsimp only
  rw [col1 hI hv hk, tq_inr]
  dsimp only
  rw [col0 hI hv hk, tq_inr]
  dsimp only
  rw [col3 hI hv hk, tq_inr]
  dsimp only
  by_cases c1 : Lg x v k = 0
  · rw [if_pos c1]
    rw [if_pos c1] at p6
    by_cases c2 : Ll (Lg x v) k ≤ Lg x v k
    · rw [if_pos c2]
      rw [if_pos c2] at q3
      obtain ⟨e', h⟩ := li_162 (bo := bo) hI hM hv K (Exp (Exp (Exp (Exp e x v) x v) x v) x v) ((Sm (Lg x v) (Wv v) k).1 + Lg x v k) ((Sm (Lg x v) (Wv v) k).2.2.2.2.2.2 + 1) (Ll (Lg x v) k) (Lm (Lg x v) k) ((Sm (Lg x v) (Wv v) k).2.2.2.2.1) hk
      exact ⟨e', h.trans (congrArg (fun z => K (e', z)) (lS_s p1.symm p6.symm q3.symm q4.symm p4.symm))⟩
    · rw [if_neg c2]
      rw [if_neg c2] at q3
      obtain ⟨e', h⟩ := li_162 (bo := bo) hI hM hv K (Exp (Exp (Exp (Exp e x v) x v) x v) x v) ((Sm (Lg x v) (Wv v) k).1 + Lg x v k) ((Sm (Lg x v) (Wv v) k).2.2.2.2.2.2 + 1) (Lg x v k) (Lm (Lg x v) k) ((Sm (Lg x v) (Wv v) k).2.2.2.2.1) hk
      exact ⟨e', h.trans (congrArg (fun z => K (e', z)) (lS_s p1.symm p6.symm q3.symm q4.symm p4.symm))⟩
  · rw [if_neg c1]
    rw [if_neg c1] at p6
    have p6 := (Int32.add_zero (Sm (Lg x v) (Wv v) k).2.2.2.2.2.2).trans p6.symm
    by_cases c2 : Ll (Lg x v) k ≤ Lg x v k
    · rw [if_pos c2]
      rw [if_pos c2] at q3
      obtain ⟨e', h⟩ := li_162 (bo := bo) hI hM hv K (Exp (Exp (Exp (Exp e x v) x v) x v) x v) ((Sm (Lg x v) (Wv v) k).1 + Lg x v k) ((Sm (Lg x v) (Wv v) k).2.2.2.2.2.2 + 0) (Ll (Lg x v) k) (Lm (Lg x v) k) ((Sm (Lg x v) (Wv v) k).2.2.2.2.1) hk
      exact ⟨e', h.trans (congrArg (fun z => K (e', z)) (lS_s p1.symm p6 q3.symm q4.symm p4.symm))⟩
    · rw [if_neg c2]
      rw [if_neg c2] at q3
      obtain ⟨e', h⟩ := li_162 (bo := bo) hI hM hv K (Exp (Exp (Exp (Exp e x v) x v) x v) x v) ((Sm (Lg x v) (Wv v) k).1 + Lg x v k) ((Sm (Lg x v) (Wv v) k).2.2.2.2.2.2 + 0) (Lg x v k) (Lm (Lg x v) k) ((Sm (Lg x v) (Wv v) k).2.2.2.2.1) hk
      exact ⟨e', h.trans (congrArg (fun z => K (e', z)) (lS_s p1.symm p6 q3.symm q4.symm p4.symm))⟩
theorem sp_to {o : Option (Nat ⊕ (Int32 × ExT))} {a b : Int32} {e : ExT} (h : o = some (.inr (a, e))) (q : a = b) : o = some (.inr (b, e)) := by rw [← q]; exact h
theorem li_307a {bo : BoT} {x : ShT} {M v j : Nat} (hI : Inv x M) (hM : M ≤ 1000) (hv : v < 6) (hj : j < 24) {A D l m w p : Int32} (s2 : ¬ Sv x v < 0) (s3 : ∀ e, fX2_speed bo x e (nI v) 3 = some (.inr (A, Exp e x v))) (s4 : ∀ e, fX2_speed bo x e (nI v) 4 = some (.inr (p, Exp e x v))) (s5 : ∀ e, fX2_speed bo x e (nI v) 5 = some (.inr (w, Exp e x v))) (s6 : ∀ e, fX2_speed bo x e (nI v) 6 = some (.inr (nI j, Exp e x v))) (s7 : ∀ e, fX2_speed bo x e (nI v) 7 = some (.inr (D, Exp e x v))) (hw : er (Lg x v) (Wv v) j = w) (hp : m - l = p) (e : ExT) : ∃ e', fL_light_j307 bo x (e, nI v, A, D, l, m, w, 1) = some (true, e') := by
  unfold fL_light_j307
  dsimp only
  rw [if_neg (show ¬ (1 : Int32) = 0 by decide), s3, tq_inr]
  dsimp only
  rw [if_pos rfl, s4, tq_inr]
  dsimp only
  rw [if_pos hp, s5, tq_inr]
  dsimp only
  rw [if_pos rfl, s6, tq_inr]
  dsimp only
  rw [col3 hI hv hj, tq_inr]
  dsimp only
  rw [if_pos hw, s7, tq_inr]
  dsimp only
  rw [if_pos rfl, sp2 hI hv, tq_inr]
  dsimp only
  rw [if_neg s2, (ev_v hI (by omega) hv).1, tq_inr]
  dsimp only
  rw [if_neg (ev_v (bo := bo) (ex := e) hI (by omega) hv).2.1, (ev_v hI (by omega) hv).1, tq_inr]
  dsimp only
  rw [if_neg (ev_v (bo := bo) (ex := e) hI (by omega) hv).2.2]
  exact ⟨_, rfl⟩
theorem li_307 {bo : BoT} {x : ShT} {M v : Nat} (hI : Inv x M) (hM : M ≤ 1000) (hv : v < 6) (e : ExT) : ∃ e', fL_light_j307 bo x (e, nI v, (Sx x v).1, (Sx x v).2.2.2.2.2.2, Ll (Lg x v) 24, Lm (Lg x v) 24, (Sx x v).2.2.2.2.1, 1) = some (true, e') := by
  obtain ⟨j, j1, j2, j3⟩ := wc_e (g := Lg x v) (w := Wv v) (fun k hk => (er_b hI (by omega) hv hk).1) 23 (by omega)
  obtain ⟨a, b⟩ := Lx_e (g := Lg x v) (w := Wv v) (fun k hk => Lg_s hI hM hv hk) 23 (by omega)
  have sv := Sv_b (v := v) hI hv
  exact li_307a hI hM hv (show j < 24 by omega) (show ¬ Sv x v < 0 by rw [lt_i, z_t]; omega) (fun _ => sp3 hI hv) (fun _ => sp4 hI hv) (fun _ => sp5 hI hv) (fun _ => sp_to (sp6 hI hv) j2) (fun _ => sp7 hI hv) j3 (show Lm (Lg x v) 24 - Ll (Lg x v) 24 = Spr x v by rw [i_eq a, i_eq b]) e
theorem Lf_d (x : ShT) : ∀ k, Lf x k = nI k * Tk x 0 + Ds (Dr x 0) k := by
  intro k
  induction k with
  | zero => show (0 : Int32) = 0 * Tk x 0 + 0; rw [Int32.zero_mul]; rfl
  | succ k ih =>
    show Lf x k + (Tk x 0 + x.2.2.1 k) = nI (k + 1) * Tk x 0 + (Ds (Dr x 0) k + x.2.2.1 k)
    rw [ih, nI_succ, Int32.add_mul, Int32.one_mul]
    ac_rfl
theorem light_v {bo : BoT} {x : ShT} {M v : Nat} (hI : Inv x M) (hM : M ≤ 1000) (hv : v < 6) (e : ExT) : ∃ e', fL_light bo x e (nI v) = some (true, e') := by
  have lp9 : ∀ e, ∃ e', lp (fL_light_l79 bo x) 2000 (e, lS x v 0) = some (true, e') := by
    intro e
    obtain ⟨r, h1, h2⟩ := lp_rel (B := fL_light_l79 bo x) (fun k (s : ExT × Int32 × Int32 × Int32 × Int32 × Int32 × Int32 × Int32 × Int32 × Int32) => s.2 = lS x v k) (fun (r : Bool × ExT) => r.1 = true) 24 (fun k s K hk hP => by
      obtain ⟨e1, s2⟩ := s
      obtain rfl : s2 = lS x v k := hP
      obtain ⟨e', h⟩ := li_79 (bo := bo) hI hM hv K e1 hk
      exact ⟨(e', lS x v (k + 1)), rfl, h⟩) (fun s K hP => by
      obtain ⟨e1, s2⟩ := s
      obtain rfl : s2 = lS x v 24 := hP
      obtain ⟨e', h⟩ := li_307 (bo := bo) hI hM hv e1
      refine ⟨(true, e'), ?_, rfl⟩
      unfold fL_light_l79
      dsimp only
      rw [if_pos l24]
      exact h) 2000 0 (e, lS x v 0) (by omega) (by omega) rfl
    obtain ⟨r1, r2⟩ := r
    obtain rfl : r1 = true := h2
    exact ⟨r2, h1⟩
  have j52 : ∀ e, ∃ e', fL_light_j52 bo x (e, nI v, 0, 0, 100000, 0, 0, Bc x) = some (true, e') := by
    intro e
    unfold fL_light_j52
    dsimp only
    rw [show fX2_column bo x e (nI v) 23 0 = some (.inr (Lf x 24, Exp e x v)) from col0 (k := 23) hI hv (by omega), tq_inr, cu02 hI, tq_inr]
    dsimp only
    rw [if_pos (show Lf x 24 = 24 * Tk x 0 + Ds (Dr x 0) 24 from Lf_d x 24)]
    exact lp9 _
  obtain ⟨n, n1, n2⟩ := Bc_b hI
  have s0 := hI.1 0 (by omega)
  have s1 := hI.2.2.2.2.2.2.1
  unfold fL_light
  rw [cn2, tq_inr, if_neg (show ¬ Bc x < 0 by rw [n2]; exact nI_pos (by omega)), if_neg (show ¬ 6 < Bc x by rw [n2]; exact nI_nlt (a := 6) (b := n) n1 (by decide)), cu00, tq_inr, st1, tq_inr]
  by_cases c : x.2.2.2.2.2.1 1 < x.1 0
  · rw [if_pos c]; exact j52 e
  · rw [if_neg c]
    have b0 : Bc x = 0 := by
      unfold Bc
      rw [lt_i] at c
      exact if_pos (by rw [le_i, z_t, ti_sub (by omega) (by omega)]; omega)
    rw [if_pos b0]
    exact j52 e
