/-! the law, call by call -/
def LwS (k : Nat) (v : LwT) : Prop := St (300 * k) v.1 v.2.1 v.2.2.2.2.1 v.2.2.2.2.2.1 v.2.2.2.2.2.2.1 v.2.2.2.2.2.2.2.1 v.2.2.2.2.2.2.2.2.2.1 v.2.2.2.2.2.2.2.2.2.2.1 ∧ v.2.2.2.2.2.2.2.2.2.2.2.2.2.2.2.2.2 = nI (5 * k)
theorem Lw_mk {k : Nat} {bo : BoT} {now pr : ShT} {ex : ExT} {sv : Nat → ShT} {buf : Fn} {mo : MoT} {fn ft pa tx td le co li : Fn} {o9 : Nat → Int64} {oD : Nat → UInt64} (h : St (300 * k + 300) bo now sv buf mo fn pa tx) : LwS (k + 1) (bo, now, pr, ex, sv, buf, mo, fn, ft, pa, tx, td, le, co, li, o9, oD, nI (5 * k) + 5) := by
  refine ⟨?_, ?_⟩
  · rw [show 300 * (k + 1) = 300 * k + 300 by omega]; exact h
  · rw [show 5 * (k + 1) = 5 * k + 5 by omega]; exact nI_add (5 * k) 5
theorem ix1 (k : Nat) : nI (5 * k) + 1 = nI (5 * k + 1) := nI_add _ 1
theorem ix2 (k : Nat) : nI (5 * k) + 2 = nI (5 * k + 2) := nI_add _ 2
theorem ix3 (k : Nat) : nI (5 * k) + 3 = nI (5 * k + 3) := nI_add _ 3
theorem ix4 (k : Nat) : nI (5 * k) + 4 = nI (5 * k + 4) := nI_add _ 4
section
variable {k L : Nat} {xs : Nat → Int32} {K : LwT → Option Bool} {v : LwT}
theorem law_wind (h : LwS k v) (hk : 5 * k + 5 ≤ L) (hL : L ≤ 2560) : ∃ v', LwS (k + 1) v' ∧ fL_law_j148 L xs K v = K v' := by
  obtain ⟨bo, now, pr, ex, sv, buf, mo, fn, ft, pa, tx, td, le, co, li, o9, oD, i⟩ := v
  obtain ⟨hS, hi⟩ := h
  dsimp only at hS hi
  subst hi
  obtain ⟨e, bo', now', sv', o', r, mo', fn', pa', e1, e2, e3, e4, e5⟩ := wind_l (a := xs (5 * k + 1)) (b := xs (5 * k + 2)) (o9 := o9) hS
  unfold fL_law_j148 fX3_thrown
  dsimp only
  rw [ix1, ix2, gd_t (pin_nI (show 5 * k + 1 < L by omega) (by omega)), gd_t (pin_nI (show 5 * k + 2 < L by omega) (by omega)), nI_clamp (show 5 * k + 1 < 2 ^ 31 by omega), nI_clamp (show 5 * k + 2 < 2 ^ 31 by omega), e1, Option.bind_some, e2, Option.bind_some, Option.bind_some]
  dsimp only
  rw [if_pos e3]
  by_cases z : e = 0
  · rw [if_pos z, k0, if_pos ((lg_cmp_eq _ _).mpr (e4 z))]
    exact ⟨_, Lw_mk e5, rfl⟩
  · rw [if_neg z]
    exact ⟨_, Lw_mk e5, rfl⟩
theorem law_drag (h : LwS k v) (hk : 5 * k + 5 ≤ L) (hL : L ≤ 2560) : ∃ v', LwS (k + 1) v' ∧ fL_law_j216 L xs K v = K v' := by
  obtain ⟨bo, now, pr, ex, sv, buf, mo, fn, ft, pa, tx, td, le, co, li, o9, oD, i⟩ := v
  obtain ⟨hS, hi⟩ := h
  dsimp only at hS hi
  subst hi
  obtain ⟨e, bo', now', sv', o', r, mo', fn', pa', e1, e2, e3, e4, e5⟩ := drag_l (a := xs (5 * k + 1)) (b := xs (5 * k + 2)) (d := xs (5 * k + 3)) (f := xs (5 * k + 4)) (o9 := o9) hS
  unfold fL_law_j216 fX3_thrown
  dsimp only
  rw [ix1, ix2, ix3, ix4, gd_t (pin_nI (show 5 * k + 1 < L by omega) (by omega)), gd_t (pin_nI (show 5 * k + 2 < L by omega) (by omega)), gd_t (pin_nI (show 5 * k + 3 < L by omega) (by omega)), gd_t (pin_nI (show 5 * k + 4 < L by omega) (by omega)), nI_clamp (show 5 * k + 1 < 2 ^ 31 by omega), nI_clamp (show 5 * k + 2 < 2 ^ 31 by omega), nI_clamp (show 5 * k + 3 < 2 ^ 31 by omega), nI_clamp (show 5 * k + 4 < 2 ^ 31 by omega), e1, Option.bind_some, e2, Option.bind_some, Option.bind_some]
  dsimp only
  rw [if_pos e3]
  by_cases z : e = 0
  · rw [if_pos z, k0, if_pos ((lg_cmp_eq _ _).mpr (e4 z))]
    exact ⟨_, Lw_mk e5, rfl⟩
  · rw [if_neg z]
    exact ⟨_, Lw_mk e5, rfl⟩
theorem law_clean (h : LwS k v) (hk : 5 * k + 5 ≤ L) (hL : L ≤ 2560) : ∃ v', LwS (k + 1) v' ∧ fL_law_j308 L xs K v = K v' := by
  obtain ⟨bo, now, pr, ex, sv, buf, mo, fn, ft, pa, tx, td, le, co, li, o9, oD, i⟩ := v
  obtain ⟨hS, hi⟩ := h
  dsimp only at hS hi
  subst hi
  obtain ⟨e, bo', now', sv', o', r, mo', fn', pa', e1, e2, e3, e4, e5⟩ := clean_l (a := xs (5 * k + 1)) (o9 := o9) hS
  unfold fL_law_j308 fX3_thrown
  dsimp only
  rw [ix1, gd_t (pin_nI (show 5 * k + 1 < L by omega) (by omega)), nI_clamp (show 5 * k + 1 < 2 ^ 31 by omega), e1, Option.bind_some, e2, Option.bind_some, Option.bind_some]
  dsimp only
  rw [if_pos e3]
  by_cases z : e = 0
  · rw [if_pos z, k0, if_pos ((lg_cmp_eq _ _).mpr (e4 z))]
    exact ⟨_, Lw_mk e5, rfl⟩
  · rw [if_neg z]
    exact ⟨_, Lw_mk e5, rfl⟩
theorem law_correct (h : LwS k v) (hk : 5 * k + 5 ≤ L) (hL : L ≤ 2560) : ∃ v', LwS (k + 1) v' ∧ fL_law_j364 L xs K v = K v' := by
  obtain ⟨bo, now, pr, ex, sv, buf, mo, fn, ft, pa, tx, td, le, co, li, o9, oD, i⟩ := v
  obtain ⟨hS, hi⟩ := h
  dsimp only at hS hi
  subst hi
  obtain ⟨e, bo', now', sv', o', r, mo', fn', pa', e1, e2, e3, e4, e5⟩ := correct_l (a := xs (5 * k + 1)) (b := xs (5 * k + 2)) (o9 := o9) hS
  unfold fL_law_j364 fX3_thrown
  dsimp only
  rw [ix1, ix2, gd_t (pin_nI (show 5 * k + 1 < L by omega) (by omega)), gd_t (pin_nI (show 5 * k + 2 < L by omega) (by omega)), nI_clamp (show 5 * k + 1 < 2 ^ 31 by omega), nI_clamp (show 5 * k + 2 < 2 ^ 31 by omega), e1, Option.bind_some, e2, Option.bind_some, Option.bind_some]
  dsimp only
  rw [if_pos e3]
  by_cases z : e = 0
  · rw [if_pos z, k0, if_pos ((lg_cmp_eq _ _).mpr (e4 z))]
    exact ⟨_, Lw_mk e5, rfl⟩
  · rw [if_neg z]
    exact ⟨_, Lw_mk e5, rfl⟩
theorem law_set (h : LwS k v) (hk : 5 * k + 5 ≤ L) (hL : L ≤ 2560) : ∃ v', LwS (k + 1) v' ∧ fL_law_j432 L xs K v = K v' := by
  obtain ⟨bo, now, pr, ex, sv, buf, mo, fn, ft, pa, tx, td, le, co, li, o9, oD, i⟩ := v
  obtain ⟨hS, hi⟩ := h
  dsimp only at hS hi
  subst hi
  obtain ⟨e, bo', now', sv', o', r, mo', fn', pa', e1, e2, e3, e4, e5⟩ := set_l (a := xs (5 * k + 1)) (b := xs (5 * k + 2)) (o9 := o9) hS
  unfold fL_law_j432 fX3_thrown
  dsimp only
  rw [ix1, ix2, gd_t (pin_nI (show 5 * k + 1 < L by omega) (by omega)), gd_t (pin_nI (show 5 * k + 2 < L by omega) (by omega)), nI_clamp (show 5 * k + 1 < 2 ^ 31 by omega), nI_clamp (show 5 * k + 2 < 2 ^ 31 by omega), e1, Option.bind_some, e2, Option.bind_some, Option.bind_some]
  dsimp only
  rw [if_pos e3]
  by_cases z : e = 0
  · rw [if_pos z, k0, if_pos ((lg_cmp_eq _ _).mpr (e4 z))]
    exact ⟨_, Lw_mk e5, rfl⟩
  · rw [if_neg z]
    exact ⟨_, Lw_mk e5, rfl⟩
theorem law_shoot (h : LwS k v) (hk : 5 * k + 5 ≤ L) (hL : L ≤ 2560) : ∃ v', LwS (k + 1) v' ∧ fL_law_j500 L xs K v = K v' := by
  obtain ⟨bo, now, pr, ex, sv, buf, mo, fn, ft, pa, tx, td, le, co, li, o9, oD, i⟩ := v
  obtain ⟨hS, hi⟩ := h
  dsimp only at hS hi
  subst hi
  obtain ⟨e, bo', now', ex', sv', o', r, mo', fn', pa', w, e1, e2, e3, e4, e5⟩ := shoot_l (ex := ex) (le := le) (co := co) (li := li) (a := xs (5 * k + 1)) (b := xs (5 * k + 2)) (o9 := o9) hS (by omega)
  unfold fL_law_j500 fX3_thrown
  dsimp only
  rw [ix1, ix2, gd_t (pin_nI (show 5 * k + 1 < L by omega) (by omega)), gd_t (pin_nI (show 5 * k + 2 < L by omega) (by omega)), nI_clamp (show 5 * k + 1 < 2 ^ 31 by omega), nI_clamp (show 5 * k + 2 < 2 ^ 31 by omega), e1, Option.bind_some, e2, Option.bind_some, Option.bind_some]
  dsimp only
  rw [if_pos e3]
  by_cases z : e = 0
  · rw [if_pos z, k0, if_pos ((lg_cmp_eq _ _).mpr (e4 z))]
    exact ⟨_, Lw_mk e5, rfl⟩
  · rw [if_neg z]
    exact ⟨_, Lw_mk e5, rfl⟩
theorem law_append (h : LwS k v) (hk : 5 * k + 5 ≤ L) (hL : L ≤ 2560) : ∃ v', LwS (k + 1) v' ∧ fL_law_j568 L xs K v = K v' := by
  obtain ⟨bo, now, pr, ex, sv, buf, mo, fn, ft, pa, tx, td, le, co, li, o9, oD, i⟩ := v
  obtain ⟨hS, hi⟩ := h
  dsimp only at hS hi
  subst hi
  obtain ⟨e, bo', buf', o', r, mo', tx', e1, e2, e3, e4, e5⟩ := append_l (a := xs (5 * k + 1)) (o9 := o9) hS
  unfold fL_law_j568 fX3_thrown
  dsimp only
  rw [ix1, gd_t (pin_nI (show 5 * k + 1 < L by omega) (by omega)), nI_clamp (show 5 * k + 1 < 2 ^ 31 by omega), e1, Option.bind_some, e2, Option.bind_some, Option.bind_some]
  dsimp only
  rw [if_pos e3]
  by_cases z : e = 0
  · rw [if_pos z, k0, if_pos ((lg_cmp_eq _ _).mpr (e4 z))]
    exact ⟨_, Lw_mk e5, rfl⟩
  · rw [if_neg z]
    exact ⟨_, Lw_mk e5, rfl⟩
theorem law_play (h : LwS k v) (hk : 5 * k + 5 ≤ L) (hL : L ≤ 2560) : ∃ v', LwS (k + 1) v' ∧ fL_law_j650 L xs K v = K v' := by
  obtain ⟨bo, now, pr, ex, sv, buf, mo, fn, ft, pa, tx, td, le, co, li, o9, oD, i⟩ := v
  obtain ⟨hS, hi⟩ := h
  dsimp only at hS hi
  subst hi
  obtain ⟨e, bo', now', ex', sv', o', r, mo', fn', pa', w, e1, e2, e3, e4, e5⟩ := play_l (ex := ex) (td := td) (le := le) (co := co) (li := li)  (o9 := o9) hS (by omega)
  unfold fL_law_j650 fX3_thrown
  dsimp only
  rw [e1, Option.bind_some, e2, Option.bind_some, Option.bind_some]
  dsimp only
  rw [if_pos e3]
  by_cases z : e = 0
  · rw [if_pos z, k0, if_pos ((lg_cmp_eq _ _).mpr (e4 z))]
    exact ⟨_, Lw_mk e5, rfl⟩
  · rw [if_neg z]
    exact ⟨_, Lw_mk e5, rfl⟩
theorem law_undo (h : LwS k v) (hk : 5 * k + 5 ≤ L) (hL : L ≤ 2560) : ∃ v', LwS (k + 1) v' ∧ fL_law_j694 L xs K v = K v' := by
  obtain ⟨bo, now, pr, ex, sv, buf, mo, fn, ft, pa, tx, td, le, co, li, o9, oD, i⟩ := v
  obtain ⟨hS, hi⟩ := h
  dsimp only at hS hi
  subst hi
  obtain ⟨e, bo', now', o', r, mo', fn', e1, e2, e3, e4, e5⟩ := undo_l  (o9 := o9) hS
  unfold fL_law_j694 fX3_thrown
  dsimp only
  rw [e1, Option.bind_some, e2, Option.bind_some, Option.bind_some]
  dsimp only
  rw [if_pos e3]
  by_cases z : e = 0
  · rw [if_pos z, k0, if_pos ((lg_cmp_eq _ _).mpr (e4 z))]
    exact ⟨_, Lw_mk e5, rfl⟩
  · rw [if_neg z]
    exact ⟨_, Lw_mk e5, rfl⟩
theorem law_curtain (h : LwS k v) (hk : 5 * k + 5 ≤ L) (hL : L ≤ 2560) : ∃ v', LwS (k + 1) v' ∧ fL_law_j738 L xs K v = K v' := by
  obtain ⟨bo, now, pr, ex, sv, buf, mo, fn, ft, pa, tx, td, le, co, li, o9, oD, i⟩ := v
  obtain ⟨hS, hi⟩ := h
  dsimp only at hS hi
  subst hi
  obtain ⟨e, o', r, mo', e1, e2, e3, e4, e5⟩ := curtain_l (a := xs (5 * k + 1)) (b := xs (5 * k + 2)) (o9 := o9) hS (by omega)
  unfold fL_law_j738 fX3_thrown
  dsimp only
  rw [ix1, ix2, gd_t (pin_nI (show 5 * k + 1 < L by omega) (by omega)), gd_t (pin_nI (show 5 * k + 2 < L by omega) (by omega)), nI_clamp (show 5 * k + 1 < 2 ^ 31 by omega), nI_clamp (show 5 * k + 2 < 2 ^ 31 by omega), e1, Option.bind_some, e2, Option.bind_some, Option.bind_some]
  dsimp only
  rw [if_pos e3]
  by_cases z : e = 0
  · rw [if_pos z, k0, if_pos ((lg_cmp_eq _ _).mpr (e4 z))]
    exact ⟨_, Lw_mk e5, rfl⟩
  · rw [if_neg z]
    exact ⟨_, Lw_mk e5, rfl⟩
theorem law_column (h : LwS k v) (hk : 5 * k + 5 ≤ L) (hL : L ≤ 2560) : ∃ v', LwS (k + 1) v' ∧ fL_law_j806 L xs K v = K v' := by
  obtain ⟨bo, now, pr, ex, sv, buf, mo, fn, ft, pa, tx, td, le, co, li, o9, oD, i⟩ := v
  obtain ⟨hS, hi⟩ := h
  dsimp only at hS hi
  subst hi
  obtain ⟨e, ex', o', r, mo', w, e1, e2, e3, e4, e5⟩ := column_l (ex := ex) (le := le) (co := co) (li := li) (a := xs (5 * k + 1)) (b := xs (5 * k + 2)) (d := xs (5 * k + 3)) (o9 := o9) hS (by omega)
  unfold fL_law_j806 fX3_thrown
  dsimp only
  rw [ix1, ix2, ix3, gd_t (pin_nI (show 5 * k + 1 < L by omega) (by omega)), gd_t (pin_nI (show 5 * k + 2 < L by omega) (by omega)), gd_t (pin_nI (show 5 * k + 3 < L by omega) (by omega)), nI_clamp (show 5 * k + 1 < 2 ^ 31 by omega), nI_clamp (show 5 * k + 2 < 2 ^ 31 by omega), nI_clamp (show 5 * k + 3 < 2 ^ 31 by omega), e1, Option.bind_some, e2, Option.bind_some, Option.bind_some]
  dsimp only
  rw [if_pos e3]
  by_cases z : e = 0
  · rw [if_pos z, k0, if_pos ((lg_cmp_eq _ _).mpr (e4 z))]
    exact ⟨_, Lw_mk e5, rfl⟩
  · rw [if_neg z]
    exact ⟨_, Lw_mk e5, rfl⟩
theorem law_speed (h : LwS k v) (hk : 5 * k + 5 ≤ L) (hL : L ≤ 2560) : ∃ v', LwS (k + 1) v' ∧ fL_law_j886 L xs K v = K v' := by
  obtain ⟨bo, now, pr, ex, sv, buf, mo, fn, ft, pa, tx, td, le, co, li, o9, oD, i⟩ := v
  obtain ⟨hS, hi⟩ := h
  dsimp only at hS hi
  subst hi
  obtain ⟨e, ex', o', r, mo', w, e1, e2, e3, e4, e5⟩ := speed_l (ex := ex) (le := le) (co := co) (li := li) (a := xs (5 * k + 1)) (b := xs (5 * k + 2)) (o9 := o9) hS (by omega)
  unfold fL_law_j886 fX3_thrown
  dsimp only
  rw [ix1, ix2, gd_t (pin_nI (show 5 * k + 1 < L by omega) (by omega)), gd_t (pin_nI (show 5 * k + 2 < L by omega) (by omega)), nI_clamp (show 5 * k + 1 < 2 ^ 31 by omega), nI_clamp (show 5 * k + 2 < 2 ^ 31 by omega), e1, Option.bind_some, e2, Option.bind_some, Option.bind_some]
  dsimp only
  rw [if_pos e3]
  by_cases z : e = 0
  · rw [if_pos z, k0, if_pos ((lg_cmp_eq _ _).mpr (e4 z))]
    exact ⟨_, Lw_mk e5, rfl⟩
  · rw [if_neg z]
    exact ⟨_, Lw_mk e5, rfl⟩
theorem law_count (h : LwS k v) (hk : 5 * k + 5 ≤ L) (hL : L ≤ 2560) : ∃ v', LwS (k + 1) v' ∧ fL_law_j954 L xs K v = K v' := by
  obtain ⟨bo, now, pr, ex, sv, buf, mo, fn, ft, pa, tx, td, le, co, li, o9, oD, i⟩ := v
  obtain ⟨hS, hi⟩ := h
  dsimp only at hS hi
  subst hi
  obtain ⟨e, o', r, mo', e1, e2, e3, e4, e5⟩ := count_l (a := xs (5 * k + 1)) (o9 := o9) hS
  unfold fL_law_j954 fX3_thrown
  dsimp only
  rw [ix1, gd_t (pin_nI (show 5 * k + 1 < L by omega) (by omega)), nI_clamp (show 5 * k + 1 < 2 ^ 31 by omega), e1, Option.bind_some, e2, Option.bind_some, Option.bind_some]
  dsimp only
  rw [if_pos e3]
  by_cases z : e = 0
  · rw [if_pos z, k0, if_pos ((lg_cmp_eq _ _).mpr (e4 z))]
    exact ⟨_, Lw_mk e5, rfl⟩
  · rw [if_neg z]
    exact ⟨_, Lw_mk e5, rfl⟩
theorem law_setting (h : LwS k v) (hk : 5 * k + 5 ≤ L) (hL : L ≤ 2560) : ∃ v', LwS (k + 1) v' ∧ fL_law_j1010 L xs K v = K v' := by
  obtain ⟨bo, now, pr, ex, sv, buf, mo, fn, ft, pa, tx, td, le, co, li, o9, oD, i⟩ := v
  obtain ⟨hS, hi⟩ := h
  dsimp only at hS hi
  subst hi
  obtain ⟨e, o', r, mo', e1, e2, e3, e4, e5⟩ := setting_l (a := xs (5 * k + 1)) (o9 := o9) hS
  unfold fL_law_j1010 fX3_thrown
  dsimp only
  rw [ix1, gd_t (pin_nI (show 5 * k + 1 < L by omega) (by omega)), nI_clamp (show 5 * k + 1 < 2 ^ 31 by omega), e1, Option.bind_some, e2, Option.bind_some, Option.bind_some]
  dsimp only
  rw [if_pos e3]
  by_cases z : e = 0
  · rw [if_pos z, k0, if_pos ((lg_cmp_eq _ _).mpr (e4 z))]
    exact ⟨_, Lw_mk e5, rfl⟩
  · rw [if_neg z]
    exact ⟨_, Lw_mk e5, rfl⟩
theorem law_bestC (h : LwS k v) (hk : 5 * k + 5 ≤ L) (hL : L ≤ 2560) : ∃ v', LwS (k + 1) v' ∧ fL_law_j1066 L xs K v = K v' := by
  obtain ⟨bo, now, pr, ex, sv, buf, mo, fn, ft, pa, tx, td, le, co, li, o9, oD, i⟩ := v
  obtain ⟨hS, hi⟩ := h
  dsimp only at hS hi
  subst hi
  obtain ⟨e, pr', ex', o', r, mo', w, e1, e2, e3, e4, e5⟩ := bestC_l (pr := pr) (ex := ex) (ft := ft) (le := le) (co := co) (li := li) (a := xs (5 * k + 1)) (o9 := o9) hS (by omega)
  unfold fL_law_j1066 fX3_thrown
  dsimp only
  rw [ix1, gd_t (pin_nI (show 5 * k + 1 < L by omega) (by omega)), nI_clamp (show 5 * k + 1 < 2 ^ 31 by omega), e1, Option.bind_some, e2, Option.bind_some, Option.bind_some]
  dsimp only
  rw [if_pos e3]
  by_cases z : e = 0
  · rw [if_pos z, k0, if_pos ((lg_cmp_eq _ _).mpr (e4 z))]
    exact ⟨_, Lw_mk e5, rfl⟩
  · rw [if_neg z]
    exact ⟨_, Lw_mk e5, rfl⟩
theorem law_bestS (h : LwS k v) (hk : 5 * k + 5 ≤ L) (hL : L ≤ 2560) : ∃ v', LwS (k + 1) v' ∧ fL_law_j1122 L xs K v = K v' := by
  obtain ⟨bo, now, pr, ex, sv, buf, mo, fn, ft, pa, tx, td, le, co, li, o9, oD, i⟩ := v
  obtain ⟨hS, hi⟩ := h
  dsimp only at hS hi
  subst hi
  obtain ⟨e, pr', ex', o', r, mo', w, e1, e2, e3, e4, e5⟩ := bestS_l (pr := pr) (ex := ex) (ft := ft) (le := le) (co := co) (li := li) (a := xs (5 * k + 1)) (b := xs (5 * k + 2)) (o9 := o9) hS (by omega)
  unfold fL_law_j1122 fX3_thrown
  dsimp only
  rw [ix1, ix2, gd_t (pin_nI (show 5 * k + 1 < L by omega) (by omega)), gd_t (pin_nI (show 5 * k + 2 < L by omega) (by omega)), nI_clamp (show 5 * k + 1 < 2 ^ 31 by omega), nI_clamp (show 5 * k + 2 < 2 ^ 31 by omega), e1, Option.bind_some, e2, Option.bind_some, Option.bind_some]
  dsimp only
  rw [if_pos e3]
  by_cases z : e = 0
  · rw [if_pos z, k0, if_pos ((lg_cmp_eq _ _).mpr (e4 z))]
    exact ⟨_, Lw_mk e5, rfl⟩
  · rw [if_neg z]
    exact ⟨_, Lw_mk e5, rfl⟩
theorem law_ifShot (h : LwS k v) (hk : 5 * k + 5 ≤ L) (hL : L ≤ 2560) : ∃ v', LwS (k + 1) v' ∧ fL_law_j1190 L xs K v = K v' := by
  obtain ⟨bo, now, pr, ex, sv, buf, mo, fn, ft, pa, tx, td, le, co, li, o9, oD, i⟩ := v
  obtain ⟨hS, hi⟩ := h
  dsimp only at hS hi
  subst hi
  obtain ⟨e, pr', ex', o', r, mo', w, e1, e2, e3, e4, e5⟩ := ifShot_l (pr := pr) (ex := ex) (ft := ft) (le := le) (co := co) (li := li) (a := xs (5 * k + 1)) (b := xs (5 * k + 2)) (d := xs (5 * k + 3)) (o9 := o9) hS (by omega)
  unfold fL_law_j1190 fX3_thrown
  dsimp only
  rw [ix1, ix2, ix3, gd_t (pin_nI (show 5 * k + 1 < L by omega) (by omega)), gd_t (pin_nI (show 5 * k + 2 < L by omega) (by omega)), gd_t (pin_nI (show 5 * k + 3 < L by omega) (by omega)), nI_clamp (show 5 * k + 1 < 2 ^ 31 by omega), nI_clamp (show 5 * k + 2 < 2 ^ 31 by omega), nI_clamp (show 5 * k + 3 < 2 ^ 31 by omega), e1, Option.bind_some, e2, Option.bind_some, Option.bind_some]
  dsimp only
  rw [if_pos e3]
  by_cases z : e = 0
  · rw [if_pos z, k0, if_pos ((lg_cmp_eq _ _).mpr (e4 z))]
    exact ⟨_, Lw_mk e5, rfl⟩
  · rw [if_neg z]
    exact ⟨_, Lw_mk e5, rfl⟩
theorem law_good (h : LwS k v) (hk : 5 * k + 5 ≤ L) (hL : L ≤ 2560) : ∃ v', LwS (k + 1) v' ∧ fL_law_j1270 L xs K v = K v' := by
  obtain ⟨bo, now, pr, ex, sv, buf, mo, fn, ft, pa, tx, td, le, co, li, o9, oD, i⟩ := v
  obtain ⟨hS, hi⟩ := h
  dsimp only at hS hi
  subst hi
  obtain ⟨e, pr', ex', o', r, mo', w, e1, e2, e3, e4, e5⟩ := good_l (pr := pr) (ex := ex) (ft := ft) (le := le) (co := co) (li := li) (a := xs (5 * k + 1)) (b := xs (5 * k + 2)) (o9 := o9) hS (by omega)
  unfold fL_law_j1270 fX3_thrown
  dsimp only
  rw [ix1, ix2, gd_t (pin_nI (show 5 * k + 1 < L by omega) (by omega)), gd_t (pin_nI (show 5 * k + 2 < L by omega) (by omega)), nI_clamp (show 5 * k + 1 < 2 ^ 31 by omega), nI_clamp (show 5 * k + 2 < 2 ^ 31 by omega), e1, Option.bind_some, e2, Option.bind_some, Option.bind_some]
  dsimp only
  rw [if_pos e3]
  by_cases z : e = 0
  · rw [if_pos z, k0, if_pos ((lg_cmp_eq _ _).mpr (e4 z))]
    exact ⟨_, Lw_mk e5, rfl⟩
  · rw [if_neg z]
    exact ⟨_, Lw_mk e5, rfl⟩
theorem law_even (h : LwS k v) (hk : 5 * k + 5 ≤ L) (hL : L ≤ 2560) : ∃ v', LwS (k + 1) v' ∧ fL_law_j1338 L xs K v = K v' := by
  obtain ⟨bo, now, pr, ex, sv, buf, mo, fn, ft, pa, tx, td, le, co, li, o9, oD, i⟩ := v
  obtain ⟨hS, hi⟩ := h
  dsimp only at hS hi
  subst hi
  obtain ⟨e, ex', o', r, mo', w, e1, e2, e3, e4, e5⟩ := even_l (ex := ex) (le := le) (co := co) (li := li) (oD := oD) (a := xs (5 * k + 1)) hS (by omega)
  unfold fL_law_j1338 fX3_thrown
  dsimp only
  rw [ix1, gd_t (pin_nI (show 5 * k + 1 < L by omega) (by omega)), nI_clamp (show 5 * k + 1 < 2 ^ 31 by omega), e1, Option.bind_some, e2, Option.bind_some, Option.bind_some]
  dsimp only
  rw [if_pos e3]
  by_cases z : e = 0
  · rw [if_pos z, k0, if_pos (e4 z)]
    exact ⟨_, Lw_mk e5, rfl⟩
  · rw [if_neg z]
    exact ⟨_, Lw_mk e5, rfl⟩
theorem law_clear (h : LwS k v) (hk : 5 * k + 5 ≤ L) (hL : L ≤ 2560) : ∃ v', LwS (k + 1) v' ∧ fL_law_j624 L xs K v = K v' := by
  obtain ⟨bo, now, pr, ex, sv, buf, mo, fn, ft, pa, tx, td, le, co, li, o9, oD, i⟩ := v
  obtain ⟨hS, hi⟩ := h
  dsimp only at hS hi
  subst hi
  have hS2 := St_mo (N := 300 * k + 300) (mo' := mo) hS (by omega) rfl rfl
  have e : bo.2.2 = mo.2.1 := by
    obtain ⟨s, q, n, a1, a2, a3, a4, a5, a6, a7, a8, a9, a10⟩ := hS
    rw [a4, a6]
  unfold fL_law_j624 fX2_clearBuffer fX3_clearBuffer
  rw [Option.bind_some, Option.bind_some]
  dsimp only
  rw [if_pos e]
  exact ⟨_, Lw_mk (St_0 (mo' := (mo.1, 0, 0, mo.2.2.2.1, mo.2.2.2.2.1, mo.2.2.2.2.2)) hS2 rfl rfl), rfl⟩
theorem law_first (h : LwS k v) (hk : 5 * k + 5 ≤ L) (hL : L ≤ 2560) : ∃ v', LwS (k + 1) v' ∧ fL_law_j637 L xs K v = K v' := by
  obtain ⟨bo, now, pr, ex, sv, buf, mo, fn, ft, pa, tx, td, le, co, li, o9, oD, i⟩ := v
  obtain ⟨hS, hi⟩ := h
  dsimp only at hS hi
  subst hi
  obtain ⟨a, mo', td', e1, e2, e5⟩ := first_l (td := td) hS
  unfold fL_law_j637
  dsimp only
  rw [e1, Option.bind_some, e2, Option.bind_some]
  dsimp only
  rw [if_pos rfl]
  exact ⟨_, Lw_mk e5, rfl⟩
theorem law_digest (h : LwS k v) (hk : 5 * k + 5 ≤ L) (hL : L ≤ 2560) : ∃ v', LwS (k + 1) v' ∧ fL_law_j1415 L xs K v = K v' := by
  obtain ⟨bo, now, pr, ex, sv, buf, mo, fn, ft, pa, tx, td, le, co, li, o9, oD, i⟩ := v
  obtain ⟨hS, hi⟩ := h
  dsimp only at hS hi
  subst hi
  obtain ⟨d, r, w, e1, e2, e5⟩ := dig_l (pr := pr) (ex := ex) (ft := ft) (le := le) (co := co) (li := li) hS (by omega)
  unfold fL_law_j1415
  dsimp only
  rw [e1, Option.bind_some, e2, Option.bind_some]
  dsimp only
  rw [if_pos ((lg_cmp_eq _ _).mpr rfl)]
  exact ⟨_, Lw_mk e5, rfl⟩
theorem c5 : (5 : Int32).toInt = 5 := rfl
theorem lim_f (hk : 5 * k + 5 ≤ L) (hL : L ≤ 2560) : ¬ Int32.ofNat L - 5 < nI (5 * k) := by
  show ¬ nI L - 5 < nI (5 * k)
  rw [lt_i, ti_sub (by rw [nI_toInt (by omega), c5]; omega) (by rw [nI_toInt (by omega), c5]; omega), nI_toInt (by omega), nI_toInt (by omega), c5]
  omega
theorem lim_t (hk : L < 5 * k + 5) (hk2 : 5 * k ≤ L) (hL : L ≤ 2560) : Int32.ofNat L - 5 < nI (5 * k) := by
  show nI L - 5 < nI (5 * k)
  rw [lt_i, ti_sub (by rw [nI_toInt (by omega), c5]; omega) (by rw [nI_toInt (by omega), c5]; omega), nI_toInt (by omega), nI_toInt (by omega), c5]
  omega
theorem law_step (h : LwS k v) (hk : 5 * k + 5 ≤ L) (hL : L ≤ 2560) : ∃ v', LwS (k + 1) v' ∧ fL_law_l28 L xs K v = K v' := by
  have hi : v.2.2.2.2.2.2.2.2.2.2.2.2.2.2.2.2.2 = nI (5 * k) := h.2
  unfold fL_law_l28
  rw [hi, if_neg (lim_f hk hL), gd_t (pin_nI (show 5 * k < L by omega) (by omega))]
  generalize xs (Int32.toNatClampNeg (nI (5 * k))) &&& 31 = c
  by_cases c0 : c = 0
  · rw [if_pos c0]; exact law_wind h hk hL
  rw [if_neg c0]
  by_cases c1 : c = 1
  · rw [if_pos c1]; exact law_drag h hk hL
  rw [if_neg c1]
  by_cases c2 : c = 2
  · rw [if_pos c2]; exact law_clean h hk hL
  rw [if_neg c2]
  by_cases c3 : c = 3
  · rw [if_pos c3]; exact law_correct h hk hL
  rw [if_neg c3]
  by_cases c4 : c = 4
  · rw [if_pos c4]; exact law_set h hk hL
  rw [if_neg c4]
  by_cases c5 : c = 5
  · rw [if_pos c5]; exact law_shoot h hk hL
  rw [if_neg c5]
  by_cases c6 : c = 6
  · rw [if_pos c6]; exact law_append h hk hL
  rw [if_neg c6]
  by_cases c7 : c = 7
  · rw [if_pos c7]; exact law_clear h hk hL
  rw [if_neg c7]
  by_cases c8 : c = 8
  · rw [if_pos c8]; exact law_first h hk hL
  rw [if_neg c8]
  by_cases c9 : c = 9
  · rw [if_pos c9]; exact law_play h hk hL
  rw [if_neg c9]
  by_cases c10 : c = 10
  · rw [if_pos c10]; exact law_undo h hk hL
  rw [if_neg c10]
  by_cases c11 : c = 11
  · rw [if_pos c11]; exact law_curtain h hk hL
  rw [if_neg c11]
  by_cases c12 : c = 12
  · rw [if_pos c12]; exact law_column h hk hL
  rw [if_neg c12]
  by_cases c13 : c = 13
  · rw [if_pos c13]; exact law_speed h hk hL
  rw [if_neg c13]
  by_cases c14 : c = 14
  · rw [if_pos c14]; exact law_count h hk hL
  rw [if_neg c14]
  by_cases c15 : c = 15
  · rw [if_pos c15]; exact law_setting h hk hL
  rw [if_neg c15]
  by_cases c16 : c = 16
  · rw [if_pos c16]; exact law_bestC h hk hL
  rw [if_neg c16]
  by_cases c17 : c = 17
  · rw [if_pos c17]; exact law_bestS h hk hL
  rw [if_neg c17]
  by_cases c18 : c = 18
  · rw [if_pos c18]; exact law_ifShot h hk hL
  rw [if_neg c18]
  by_cases c19 : c = 19
  · rw [if_pos c19]; exact law_good h hk hL
  rw [if_neg c19]
  by_cases c20 : c = 20
  · rw [if_pos c20]; exact law_even h hk hL
  rw [if_neg c20]
  by_cases c21 : c = 21
  · rw [if_pos c21]; exact law_digest h hk hL
  rw [if_neg c21]
  exact ⟨_, Lw_mk (St_mo h.1 (by omega) rfl rfl), rfl⟩
theorem Inv_ini : Inv iniS 0 := ⟨by decide +kernel, by decide +kernel, by decide +kernel, by decide +kernel, by decide +kernel, by decide +kernel, by decide +kernel, by decide +kernel, by decide +kernel⟩
theorem Rel_ini : Rel iniS iniN 0 := ⟨by decide +kernel, by decide +kernel, by decide +kernel, by decide +kernel, by decide +kernel, by decide +kernel, by decide +kernel, by decide +kernel, by decide +kernel, by decide +kernel⟩
theorem Lw_ini : LwS 0 iniL := ⟨⟨0, 0, 0, by omega, by omega, by omega, rfl, rfl, rfl, fun j hj => absurd hj (by omega), Inv_ini, Rel_ini, fun j hj => absurd hj (by omega)⟩, rfl⟩
end
theorem law_true (L : Nat) (xs : Nat → Int32) (hL : L ≤ 2560) : fL_law L xs = some true := by
  have g := lp_rel (B := fL_law_l28 L xs) LwS (fun r => r = true) (L / 5) (fun k v K hk hP => law_step hP (by omega) hL) (fun v K hP => ?_) 2000 0 iniL (by omega) (by omega) Lw_ini
  · obtain ⟨r, e, rfl⟩ := g
    exact e
  · have hi : v.2.2.2.2.2.2.2.2.2.2.2.2.2.2.2.2.2 = nI (5 * (L / 5)) := hP.2
    refine ⟨true, ?_, rfl⟩
    unfold fL_law_l28
    rw [hi, if_pos (lim_t (by omega) (by omega) hL)]
