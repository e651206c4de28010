/-! what the class's calls answer -/
def Exp (ex : ExT) (x : ShT) (v : Nat) : ExT := (fX0_expose ex x (nI v)).getD ex
theorem exp_eq {ex : ExT} {x : ShT} {M v : Nat} (hI : Inv x M) (hv : v < 6) : fX0_expose ex x (nI v) = some (Exp ex x v) ∧ Exr x v (Exp ex x v) := by
  obtain ⟨ex', e1, e2⟩ := expose_eq (ex := ex) hI hv
  have e3 : Exp ex x v = ex' := by unfold Exp; rw [e1]; rfl
  rw [e3]
  exact ⟨e1, e2⟩
theorem col0 {bo : BoT} {ex : ExT} {x : ShT} {M v k : Nat} (hI : Inv x M) (hv : v < 6) (hk : k < 24) : fX2_column bo x ex (nI v) (nI k) 0 = some (.inr (Lf x (k + 1), Exp ex x v)) := by
  obtain ⟨e1, e2⟩ := exp_eq (ex := ex) hI hv
  unfold fX2_column
  rw [needV hv, tb_inr, needK hk, tb_inr, show fX2_needRange 0 0 5 = some (.inr ()) from needR (c := 0) (a := 0) (b := 5) (by omega) (by omega) (by omega), tb_inr, e1, Option.bind_some, if_pos rfl, at_nI _ hk (by decide), e2.1 k hk]
  rfl
theorem col1 {bo : BoT} {ex : ExT} {x : ShT} {M v k : Nat} (hI : Inv x M) (hv : v < 6) (hk : k < 24) : fX2_column bo x ex (nI v) (nI k) 1 = some (.inr (Cv x v (k + 1), Exp ex x v)) := by
  obtain ⟨e1, e2⟩ := exp_eq (ex := ex) hI hv
  unfold fX2_column
  rw [needV hv, tb_inr, needK hk, tb_inr, show fX2_needRange 1 0 5 = some (.inr ()) from needR (c := 1) (a := 0) (b := 5) (by omega) (by omega) (by omega), tb_inr, e1, Option.bind_some, if_neg (show ¬ (1 : Int32) = 0 by decide), if_pos rfl, at_nI _ hk (by decide), e2.2.1 k hk]
  rfl
theorem col2 {bo : BoT} {ex : ExT} {x : ShT} {M v k : Nat} (hI : Inv x M) (hv : v < 6) (hk : k < 24) : fX2_column bo x ex (nI v) (nI k) 2 = some (.inr (Lg x v k, Exp ex x v)) := by
  obtain ⟨e1, e2⟩ := exp_eq (ex := ex) hI hv
  unfold fX2_column
  rw [needV hv, tb_inr, needK hk, tb_inr, show fX2_needRange 2 0 5 = some (.inr ()) from needR (c := 2) (a := 0) (b := 5) (by omega) (by omega) (by omega), tb_inr, e1, Option.bind_some, if_neg (show ¬ (2 : Int32) = 0 by decide), if_neg (show ¬ (2 : Int32) = 1 by decide), if_pos rfl, at_nI _ hk (by decide), e2.2.2.1 k hk]
  rfl
theorem col3 {bo : BoT} {ex : ExT} {x : ShT} {M v k : Nat} (hI : Inv x M) (hv : v < 6) (hk : k < 24) : fX2_column bo x ex (nI v) (nI k) 3 = some (.inr (er (Lg x v) (Wv v) k, Exp ex x v)) := by
  obtain ⟨e1, e2⟩ := exp_eq (ex := ex) hI hv
  unfold fX2_column
  rw [needV hv, tb_inr, needK hk, tb_inr, show fX2_needRange 3 0 5 = some (.inr ()) from needR (c := 3) (a := 0) (b := 5) (by omega) (by omega) (by omega), tb_inr, e1, Option.bind_some, if_neg (show ¬ (3 : Int32) = 0 by decide), if_neg (show ¬ (3 : Int32) = 1 by decide), if_neg (show ¬ (3 : Int32) = 2 by decide), if_pos rfl, at_nI _ hk (by decide), e2.2.2.1 k hk]
  rfl
theorem sp0 {bo : BoT} {ex : ExT} {x : ShT} {M v : Nat} (hI : Inv x M) (hv : v < 6) : fX2_speed bo x ex (nI v) 0 = some (.inr (Wv v, Exp ex x v)) := by
  obtain ⟨e1, e2⟩ := exp_eq (ex := ex) hI hv
  unfold fX2_speed
  rw [needV hv, tb_inr, show fX2_needRange 0 0 8 = some (.inr ()) from needR (c := 0) (a := 0) (b := 8) (by omega) (by omega) (by omega), tb_inr, e1, Option.bind_some, if_pos rfl]
  rfl
theorem sp2 {bo : BoT} {ex : ExT} {x : ShT} {M v : Nat} (hI : Inv x M) (hv : v < 6) : fX2_speed bo x ex (nI v) 2 = some (.inr (Sv x v, Exp ex x v)) := by
  obtain ⟨e1, e2⟩ := exp_eq (ex := ex) hI hv
  unfold fX2_speed
  rw [needV hv, tb_inr, show fX2_needRange 2 0 8 = some (.inr ()) from needR (c := 2) (a := 0) (b := 8) (by omega) (by omega) (by omega), tb_inr, e1, Option.bind_some, if_neg (show ¬ (2 : Int32) = 0 by decide), if_neg (show ¬ (2 : Int32) = 1 by decide), if_pos rfl, start_eq hv]
  rfl
theorem sp3 {bo : BoT} {ex : ExT} {x : ShT} {M v : Nat} (hI : Inv x M) (hv : v < 6) : fX2_speed bo x ex (nI v) 3 = some (.inr ((Sx x v).1, Exp ex x v)) := by
  obtain ⟨e1, e2⟩ := exp_eq (ex := ex) hI hv
  unfold fX2_speed
  rw [needV hv, tb_inr, show fX2_needRange 3 0 8 = some (.inr ()) from needR (c := 3) (a := 0) (b := 8) (by omega) (by omega) (by omega), tb_inr, e1, Option.bind_some, if_neg (show ¬ (3 : Int32) = 0 by decide), if_neg (show ¬ (3 : Int32) = 1 by decide), if_neg (show ¬ (3 : Int32) = 2 by decide), if_pos rfl, E_all e2]
theorem sp4 {bo : BoT} {ex : ExT} {x : ShT} {M v : Nat} (hI : Inv x M) (hv : v < 6) : fX2_speed bo x ex (nI v) 4 = some (.inr (Spr x v, Exp ex x v)) := by
  obtain ⟨e1, e2⟩ := exp_eq (ex := ex) hI hv
  unfold fX2_speed
  rw [needV hv, tb_inr, show fX2_needRange 4 0 8 = some (.inr ()) from needR (c := 4) (a := 0) (b := 8) (by omega) (by omega) (by omega), tb_inr, e1, Option.bind_some, if_neg (show ¬ (4 : Int32) = 0 by decide), if_neg (show ¬ (4 : Int32) = 1 by decide), if_neg (show ¬ (4 : Int32) = 2 by decide), if_neg (show ¬ (4 : Int32) = 3 by decide), if_pos rfl, spread_eq e2]
  rfl
theorem sp5 {bo : BoT} {ex : ExT} {x : ShT} {M v : Nat} (hI : Inv x M) (hv : v < 6) : fX2_speed bo x ex (nI v) 5 = some (.inr ((Sx x v).2.2.2.2.1, Exp ex x v)) := by
  obtain ⟨e1, e2⟩ := exp_eq (ex := ex) hI hv
  unfold fX2_speed
  rw [needV hv, tb_inr, show fX2_needRange 5 0 8 = some (.inr ()) from needR (c := 5) (a := 0) (b := 8) (by omega) (by omega) (by omega), tb_inr, e1, Option.bind_some, if_neg (show ¬ (5 : Int32) = 0 by decide), if_neg (show ¬ (5 : Int32) = 1 by decide), if_neg (show ¬ (5 : Int32) = 2 by decide), if_neg (show ¬ (5 : Int32) = 3 by decide), if_neg (show ¬ (5 : Int32) = 4 by decide), if_pos rfl, E_we e2]
theorem sp6 {bo : BoT} {ex : ExT} {x : ShT} {M v : Nat} (hI : Inv x M) (hv : v < 6) : fX2_speed bo x ex (nI v) 6 = some (.inr ((Sx x v).2.2.2.2.2.1, Exp ex x v)) := by
  obtain ⟨e1, e2⟩ := exp_eq (ex := ex) hI hv
  unfold fX2_speed
  rw [needV hv, tb_inr, show fX2_needRange 6 0 8 = some (.inr ()) from needR (c := 6) (a := 0) (b := 8) (by omega) (by omega) (by omega), tb_inr, e1, Option.bind_some, if_neg (show ¬ (6 : Int32) = 0 by decide), if_neg (show ¬ (6 : Int32) = 1 by decide), if_neg (show ¬ (6 : Int32) = 2 by decide), if_neg (show ¬ (6 : Int32) = 3 by decide), if_neg (show ¬ (6 : Int32) = 4 by decide), if_neg (show ¬ (6 : Int32) = 5 by decide), if_pos rfl, E_wc e2]
theorem sp7 {bo : BoT} {ex : ExT} {x : ShT} {M v : Nat} (hI : Inv x M) (hv : v < 6) : fX2_speed bo x ex (nI v) 7 = some (.inr ((Sx x v).2.2.2.2.2.2, Exp ex x v)) := by
  obtain ⟨e1, e2⟩ := exp_eq (ex := ex) hI hv
  unfold fX2_speed
  rw [needV hv, tb_inr, show fX2_needRange 7 0 8 = some (.inr ()) from needR (c := 7) (a := 0) (b := 8) (by omega) (by omega) (by omega), tb_inr, e1, Option.bind_some, if_neg (show ¬ (7 : Int32) = 0 by decide), if_neg (show ¬ (7 : Int32) = 1 by decide), if_neg (show ¬ (7 : Int32) = 2 by decide), if_neg (show ¬ (7 : Int32) = 3 by decide), if_neg (show ¬ (7 : Int32) = 4 by decide), if_neg (show ¬ (7 : Int32) = 5 by decide), if_neg (show ¬ (7 : Int32) = 6 by decide), if_pos rfl, E_da e2]
theorem sp8 {bo : BoT} {ex : ExT} {x : ShT} {M v : Nat} (hI : Inv x M) (hv : v < 6) : fX2_speed bo x ex (nI v) 8 = some (.inr (x.2.2.2.2.2.2.1 v, Exp ex x v)) := by
  obtain ⟨e1, e2⟩ := exp_eq (ex := ex) hI hv
  unfold fX2_speed
  rw [needV hv, tb_inr, show fX2_needRange 8 0 8 = some (.inr ()) from needR (c := 8) (a := 0) (b := 8) (by omega) (by omega) (by omega), tb_inr, e1, Option.bind_some, if_neg (show ¬ (8 : Int32) = 0 by decide), if_neg (show ¬ (8 : Int32) = 1 by decide), if_neg (show ¬ (8 : Int32) = 2 by decide), if_neg (show ¬ (8 : Int32) = 3 by decide), if_neg (show ¬ (8 : Int32) = 4 by decide), if_neg (show ¬ (8 : Int32) = 5 by decide), if_neg (show ¬ (8 : Int32) = 6 by decide), if_neg (show ¬ (8 : Int32) = 7 by decide), at_nI _ hv (by decide)]
  rfl
theorem cn0 {bo : BoT} {x : ShT} : fX2_count bo x 0 = some (.inr (x.2.2.2.2.2.2.2.1)) := by
  unfold fX2_count
  rw [show fX2_needRange 0 0 4 = some (.inr ()) from needR (c := 0) (a := 0) (b := 4) (by omega) (by omega) (by omega), tb_inr, if_pos rfl]
theorem cn2 {bo : BoT} {x : ShT} : fX2_count bo x 2 = some (.inr (Bc x)) := by
  unfold fX2_count
  rw [show fX2_needRange 2 0 4 = some (.inr ()) from needR (c := 2) (a := 0) (b := 4) (by omega) (by omega) (by omega), tb_inr, if_neg (show ¬ (2 : Int32) = 0 by decide), if_neg (show ¬ (2 : Int32) = 1 by decide), if_pos rfl, bounce_eq]
  rfl
theorem cn3 {bo : BoT} {x : ShT} : fX2_count bo x 3 = some (.inr (x.2.2.2.2.2.2.2.2.2)) := by
  unfold fX2_count
  rw [show fX2_needRange 3 0 4 = some (.inr ()) from needR (c := 3) (a := 0) (b := 4) (by omega) (by omega) (by omega), tb_inr, if_neg (show ¬ (3 : Int32) = 0 by decide), if_neg (show ¬ (3 : Int32) = 1 by decide), if_neg (show ¬ (3 : Int32) = 2 by decide), if_pos rfl]
theorem cn4 {bo : BoT} {x : ShT} : fX2_count bo x 4 = some (.inr (bo.1)) := by
  unfold fX2_count
  rw [show fX2_needRange 4 0 4 = some (.inr ()) from needR (c := 4) (a := 0) (b := 4) (by omega) (by omega) (by omega), tb_inr, if_neg (show ¬ (4 : Int32) = 0 by decide), if_neg (show ¬ (4 : Int32) = 1 by decide), if_neg (show ¬ (4 : Int32) = 2 by decide), if_neg (show ¬ (4 : Int32) = 3 by decide)]
theorem cu0 {bo : BoT} {x : ShT} {c : Nat} (hc : c < 2) : fX2_curtain bo x (nI c) 0 = some (.inr (x.1 c)) := by
  unfold fX2_curtain
  rw [needC hc, tb_inr, show fX2_needRange 0 0 3 = some (.inr ()) from needR (c := 0) (a := 0) (b := 3) (by omega) (by omega) (by omega), tb_inr, if_pos rfl, at_nI _ hc (by decide)]
  rfl
theorem cu1 {bo : BoT} {x : ShT} {c : Nat} (hc : c < 2) : fX2_curtain bo x (nI c) 1 = some (.inr (x.2.1 c)) := by
  unfold fX2_curtain
  rw [needC hc, tb_inr, show fX2_needRange 1 0 3 = some (.inr ()) from needR (c := 1) (a := 0) (b := 3) (by omega) (by omega) (by omega), tb_inr, if_neg (show ¬ (1 : Int32) = 0 by decide), if_pos rfl, at_nI _ hc (by decide)]
  rfl
theorem cu00 {bo : BoT} {x : ShT} : fX2_curtain bo x 0 0 = some (.inr (x.1 0)) := cu0 (c := 0) (by omega)
theorem cu10 {bo : BoT} {x : ShT} : fX2_curtain bo x 1 0 = some (.inr (x.1 1)) := cu0 (c := 1) (by omega)
theorem cu02 {bo : BoT} {x : ShT} {M : Nat} (hI : Inv x M) : fX2_curtain bo x 0 2 = some (.inr (24 * Tk x 0 + Ds (Dr x 0) 24)) := by
  unfold fX2_curtain
  rw [show fX2_needCurtain 0 = some (.inr ()) from needC (c := 0) (by omega), tb_inr, show fX2_needRange 2 0 3 = some (.inr ()) from needR (c := 2) (a := 0) (b := 3) (by omega) (by omega) (by omega), tb_inr, if_neg (show ¬ (2 : Int32) = 0 by decide), if_neg (show ¬ (2 : Int32) = 1 by decide), if_pos rfl, show fX1_ticksForAll x 0 = some (24 * Tk x 0 + Ds (Dr x 0) 24) from all_c (c := 0) hI (by omega)]
  rfl
theorem st1 {bo : BoT} {x : ShT} : fX2_setting bo x 1 = some (.inr (x.2.2.2.2.2.1 1)) := by
  unfold fX2_setting
  rw [show fX2_needSetting 1 = some (.inr ()) from needS (c := 1) (by omega), tb_inr, at1 _ (by decide) (by decide)]
  rfl
/-! two shutters that say the same where it counts -/
def Eqv (x y : ShT) : Prop := (∀ j, j < 2 → x.1 j = y.1 j) ∧ (∀ j, j < 2 → x.2.1 j = y.2.1 j) ∧ (∀ j, j < 24 → x.2.2.1 j = y.2.2.1 j) ∧ (∀ j, j < 24 → x.2.2.2.1 j = y.2.2.2.1 j) ∧ (∀ j, j < 6 → x.2.2.2.2.1 j = y.2.2.2.2.1 j) ∧ (∀ j, j < 4 → x.2.2.2.2.2.1 j = y.2.2.2.2.2.1 j) ∧ (∀ j, j < 6 → x.2.2.2.2.2.2.1 j = y.2.2.2.2.2.2.1 j) ∧ x.2.2.2.2.2.2.2 = y.2.2.2.2.2.2.2
theorem Eqv_mrg (y x : ShT) : Eqv (mrgS y x) y := ⟨fun _ h => mrg_lt h, fun _ h => mrg_lt h, fun _ h => mrg_lt h, fun _ h => mrg_lt h, fun _ h => mrg_lt h, fun _ h => mrg_lt h, fun _ h => mrg_lt h, rfl⟩
theorem Tk_e {x y : ShT} {c : Nat} (h : Eqv x y) (hc : c < 2) : Tk x c = Tk y c := by
  unfold Tk
  rw [h.1 c hc, h.2.1 c hc, h.2.2.2.2.2.1 0 (by omega)]
theorem Lf_e {x y : ShT} (h : Eqv x y) : ∀ k, k ≤ 24 → Lf x k = Lf y k := by
  intro k
  induction k with
  | zero => intro _; rfl
  | succ k ih =>
    intro hk
    show Lf x k + (Tk x 0 + x.2.2.1 k) = Lf y k + (Tk y 0 + y.2.2.1 k)
    rw [ih (by omega), Tk_e h (by omega), h.2.2.1 k (by omega)]
theorem Sv_e {x y : ShT} {v : Nat} (h : Eqv x y) (hv : v < 6) : Sv x v = Sv y v := by
  unfold Sv
  rw [h.2.2.2.2.1 v hv]
theorem Cv_e {x y : ShT} {v : Nat} (h : Eqv x y) (hv : v < 6) : ∀ k, k ≤ 24 → Cv x v k = Cv y v k := by
  intro k
  induction k with
  | zero => intro _; exact Sv_e h hv
  | succ k ih =>
    intro hk
    show imax (Lf x (k + 1)) ((Cv x v k + Tk x 1) + x.2.2.2.1 k) = imax (Lf y (k + 1)) ((Cv y v k + Tk y 1) + y.2.2.2.1 k)
    rw [ih (by omega), Tk_e h (by omega), h.2.2.2.1 k (by omega), Lf_e h (k + 1) hk]
theorem Bc_e {x y : ShT} (h : Eqv x y) : Bc x = Bc y := by
  unfold Bc
  rw [h.1 0 (by omega), h.2.2.2.2.2.1 1 (by omega)]
theorem Lg_e {x y : ShT} {v k : Nat} (h : Eqv x y) (hv : v < 6) (hk : k < 24) : Lg x v k = Lg y v k := by
  unfold Lg
  rw [Cv_e h hv (k + 1) (by omega), Lf_e h (k + 1) (by omega), Bc_e h, Lf_e h 24 (by omega), h.2.2.2.2.2.1 2 (by omega)]
theorem Sx_e {x y : ShT} {v : Nat} (h : Eqv x y) (hv : v < 6) : Sx x v = Sx y v := Sm_congr (fun _ hj => Lg_e h hv hj) 24 (by omega)
theorem Spr_e {x y : ShT} {v : Nat} (h : Eqv x y) (hv : v < 6) : Spr x v = Spr y v := by
  unfold Spr
  rw [Sx_e h hv]
theorem wears_e {x y : ShT} (h : Eqv x y) : wears x ↔ wears y := by
  unfold wears
  rw [h.2.2.2.2.2.2.2, h.2.2.2.2.2.1 3 (by omega)]
theorem Ty_e {x y : ShT} {v : Nat} (h : Eqv x y) (hv : v < 6) : Eqv (Ty x v) (Ty y v) := by
  obtain ⟨h1, h2, h3, h4, h5, h6, h7, h8⟩ := id h
  refine ⟨fun j hj => ?_, fun j hj => ?_, h3, h4, h5, h6, fun j hj => ?_, ?_⟩
  · show (if wears x then mrg 2 (fun j => imax 1 (x.1 j - 1)) x.1 else x.1) j = (if wears y then mrg 2 (fun j => imax 1 (y.1 j - 1)) y.1 else y.1) j
    by_cases q : wears x
    · rw [if_pos q, if_pos ((wears_e h).mp q), mrg_lt hj, mrg_lt hj, h1 j hj]
    · rw [if_neg q, if_neg (fun z => q ((wears_e h).mpr z)), h1 j hj]
  · show mrg 2 (fun j => x.2.1 j + 1) x.2.1 j = mrg 2 (fun j => y.2.1 j + 1) y.2.1 j
    rw [mrg_lt hj, mrg_lt hj, h2 j hj]
  · show upd x.2.2.2.2.2.2.1 v (x.2.2.2.2.2.2.1 v + 1) j = upd y.2.2.2.2.2.2.1 v (y.2.2.2.2.2.2.1 v + 1) j
    by_cases q : j = v
    · rw [q, upd_eq, upd_eq, h7 v hv]
    · rw [upd_ne q, upd_ne q, h7 j hj]
  · show (x.2.2.2.2.2.2.2.1 + 1, (Sx x v).1, imax x.2.2.2.2.2.2.2.2.2 (Spr x v)) = (y.2.2.2.2.2.2.2.1 + 1, (Sx y v).1, imax y.2.2.2.2.2.2.2.2.2 (Spr y v))
    rw [Sx_e h hv, Spr_e h hv, h8]
theorem Tn_e {x y : ShT} {v : Nat} (h : Eqv x y) (hv : v < 6) : ∀ k, Eqv (Tn x v k) (Tn y v k) := by
  intro k
  induction k with
  | zero => exact h
  | succ k ih => exact Ty_e ih hv
/-! what would be -/
theorem if_w {bo : BoT} {now pr : ShT} {ex : ExT} {M v n : Nat} (hI : Inv now M) (hM : M + 50 ≤ 200000) (hv : v < 6) (h1 : 1 ≤ n) (h2 : n ≤ 50) : (∃ r, fX2_ifShot bo now pr ex (nI v) (nI n) 0 = some (.inr (Spr (Tn now v (n - 1)) v, r))) ∧ ∃ r, fX2_ifShot bo now pr ex (nI v) (nI n) 1 = some (.inr ((Tn now v n).1 0, r)) := by
  have hi := Inv_mrg (x := pr) hI
  obtain ⟨r, e1, e2, e3⟩ := fire_eq (bo := bo) (ex := ex) (n := n) hi (by omega) hv (by omega)
  have e4 := e3 (by omega)
  have q := Eqv_mrg now pr
  unfold fX2_ifShot
  rw [needV hv, tb_inr, tb_inr, show fX2_needRange (nI n) 1 50 = some (.inr ()) from needR (a := 1) (b := 50) h1 h2 (by omega), tb_inr, tb_inr, show fX2_needRange 0 0 2 = some (.inr ()) from needR (c := 0) (a := 0) (b := 2) (by omega) (by omega) (by omega), show fX2_needRange 1 0 2 = some (.inr ()) from needR (c := 1) (a := 0) (b := 2) (by omega) (by omega) (by omega), tb_inr, tb_inr, become_eq, Option.bind_some, Option.bind_some, e1, Option.bind_some, Option.bind_some]
  refine ⟨⟨(r.2, r.1), ?_⟩, ⟨(r.2, r.1), ?_⟩⟩
  · rw [if_pos rfl, spread_eq e4, Option.bind_some, Spr_e (Tn_e q hv (n - 1)) hv]
  · rw [if_neg (show ¬ (1 : Int32) = 0 by decide), if_pos rfl, at0 _ (by decide) (by decide), Option.bind_some, e2, (Tn_e q hv n).1 0 (by omega)]
theorem good_le (y : ShT) (v : Nat) (err : Int32) : ∀ f k, k ≤ Gd y v err f k ∧ Gd y v err f k ≤ k + f := by
  intro f
  induction f with
  | zero => intro k; exact ⟨Nat.le_refl _, Nat.le_refl _⟩
  | succ f ih =>
    intro k
    have e : Gd y v err (f + 1) k = if (Sx (Tn y v k) v).2.2.2.2.1 ≤ err then Gd y v err f (k + 1) else k := rfl
    rw [e]
    by_cases q : (Sx (Tn y v k) v).2.2.2.2.1 ≤ err
    · rw [if_pos q]; have := ih (k + 1); omega
    · rw [if_neg q]; omega
theorem gf_v {bo : BoT} {now pr : ShT} {ex : ExT} {M v : Nat} (hI : Inv now M) (hM : M + 200 ≤ 200000) (hv : v < 6) : ∃ a r, fX2_goodFor bo now pr ex (nI v) 100 = some (.inr (nI a, r)) ∧ a ≤ 200 ∧ (0 < a ↔ (Sx now v).2.2.2.2.1 ≤ 100) := by
  have hi := Inv_mrg (x := pr) hI
  obtain ⟨r, e1⟩ := good_c (bo := bo) (now := now) (err := 100) hi hM hv 200 0 2000 ex (by omega) (by omega)
  refine ⟨Gd (mrgS now pr) v 100 200 0, r, ?_, (good_le _ _ _ 200 0).2, ?_⟩
  · unfold fX2_goodFor
    rw [needV hv, tb_inr, show fX2_needRange 100 0 999 = some (.inr ()) from needR (c := 100) (a := 0) (b := 999) (by omega) (by omega) (by omega), tb_inr, become_eq, Option.bind_some]
    exact e1
  · have e : Gd (mrgS now pr) v 100 200 0 = if (Sx (mrgS now pr) v).2.2.2.2.1 ≤ 100 then Gd (mrgS now pr) v 100 199 1 else 0 := rfl
    rw [e, Sx_e (Eqv_mrg now pr) hv]
    by_cases q : (Sx now v).2.2.2.2.1 ≤ 100
    · rw [if_pos q]; exact ⟨fun _ => q, fun _ => (good_le _ _ _ 199 1).1⟩
    · rw [if_neg q]; exact ⟨fun z => absurd z (by omega), fun z => absurd z q⟩
/-! the share of light -/
def Ev (x : ShT) (v : Nat) : UInt64 := if 0 < (Sx x v).2.2.1 then FP.ddiv (FP.i2d (Sx x v).2.1) (FP.i2d (Sx x v).2.2.1) else FP.dconst1
theorem cmp_1 {E T : Nat} (h1 : 1 ≤ E) (h2 : E ≤ 1023) (hT : T < 4503599627370496) (h3 : E ≤ 1022 ∨ T = 0) : FP.dcmp (nv E T) FP.dconst1 = some .lt ∨ FP.dcmp (nv E T) FP.dconst1 = some .eq := by
  by_cases q : E ≤ 1022
  · exact Or.inl (cmp_lt h1 q hT)
  · obtain rfl : E = 1023 := by omega
    rcases h3 with h3 | rfl
    · omega
    · right
      rw [one_nv]
      exact cmp_self (by omega) (by omega) (by omega)
theorem ev_v {bo : BoT} {ex : ExT} {x : ShT} {M v : Nat} (hI : Inv x M) (hM : M ≤ 200000) (hv : v < 6) : fX2_evenness bo x ex (nI v) = some (.inr (Ev x v, Exp ex x v)) ∧ ¬ Op.cmpValue (FP.dcmp (Ev x v) FP.dconst0) CmpOp.l < 0 ∧ ¬ 0 < Op.cmpValue (FP.dcmp (Ev x v) FP.dconst1) CmpOp.g := by
  obtain ⟨e1, e2⟩ := exp_eq (ex := ex) hI hv
  obtain ⟨b1, b2, b3⟩ := Sm_lm (g := Lg x v) (w := Wv v) (fun k hk => Lg_b hI hM hv hk) 24 (by omega)
  unfold fX2_evenness Ev
  rw [needV hv, tb_inr, e1, Option.bind_some, E_le e2, E_mo e2]
  generalize (Sx x v).2.1 = le' at b1 b2
  generalize (Sx x v).2.2.1 = mo' at b2 b3
  obtain ⟨a, ha0, rfl⟩ : ∃ a, a ≤ 10000000 ∧ le' = nI a := ⟨le'.toInt.toNat, by omega, i_eq (by rw [nI_toInt (by omega)]; omega)⟩
  obtain ⟨b, hb, rfl⟩ : ∃ b, b ≤ 10000000 ∧ mo' = nI b := ⟨mo'.toInt.toNat, by omega, i_eq (by rw [nI_toInt (by omega)]; omega)⟩
  by_cases h : b = 0
  · subst h
    rw [if_neg (show ¬ 0 < nI 0 by decide), if_neg (show ¬ 0 < nI 0 by decide)]
    exact ⟨rfl, by decide +kernel, by decide +kernel⟩
  · have hab : a ≤ b := by
      rw [nI_toInt (n := a) (by omega), nI_toInt (n := b) (by omega)] at b2
      omega
    rw [if_pos (show (0 : Int32) < nI b from nI_lt (a := 0) (by omega) (by omega)), if_pos (show (0 : Int32) < nI b from nI_lt (a := 0) (by omega) (by omega))]
    by_cases h0 : a = 0
    · subst h0
      rw [share_0 (by omega) (by omega)]
      exact ⟨by rw [gd_t (show nn64 0 = true by decide +kernel)], by decide +kernel, by decide +kernel⟩
    · obtain ⟨E, T, q1, q2, q3, q5, q4⟩ := share_n (a := a) (b := b) (by omega) hab (by omega)
      rw [q4]
      refine ⟨by rw [gd_t (nn_nv (by omega) q3)], ?_, ?_⟩
      · rw [cmp_0 q1 (by omega) q3]; decide
      · rcases cmp_1 q1 q2 q3 q5 with e | e <;> rw [e] <;> decide
