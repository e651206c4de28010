/-! the calls that change: class and reference answer alike, and their states stay alike -/
abbrev m0 (mo : MoT) : MoT := (mo.1, mo.2.1, 0, mo.2.2.2.1, mo.2.2.2.2.1, mo.2.2.2.2.2)
theorem o_set {o : Nat → Int64} {v : Int64} : vp_updL o (Int32.toNatClampNeg 0) v 0 = v := by rw [k0]; exact pk_uLs
section
variable {M : Nat} {bo : BoT} {now : ShT} {sv : Nat → ShT} {buf : Fn} {mo : MoT} {fn pa tx : Fn} {o9 : Nat → Int64}
theorem wind_l {a b : Int32} (h : St M bo now sv buf mo fn pa tx) : ∃ e bo' now' sv' o' r mo' fn' pa', fL_wind bo now sv a b o9 = some (e, bo', now', sv', o') ∧ fX3_wind mo fn pa a b = some (r, mo', fn', pa') ∧ mo'.2.2.1 = e ∧ (e = 0 → o' 0 = r.toInt64) ∧ St (M + 300) bo' now' sv' buf mo' fn' pa' tx := by
  unfold fL_wind fX2_wind fX3_wind
  rcases arg_c a with ⟨c, hc, rfl, e1, e2⟩ | ⟨e1, e2⟩
  · rw [e1, tb_inr, e2, Option.bind_some, if_neg bt]
    rcases arg_n b 1 99 (by decide) (by decide) with ⟨s, s1, s2, rfl, e3, e4⟩ | ⟨e3, e4⟩
    · obtain ⟨bo', sv', mo', pa', f1, f2, f3, _, f4⟩ := save_v (mo0 := m0 mo) h rfl
      rw [show fX3_in (nI s) 1 99 = _ from e4, Option.bind_some, if_neg bt, f2, Option.bind_some]
      unfold fX3_changes
      dsimp only
      rw [p4, gd_t (pin_nI (by omega) (by decide)), nI_clamp (by omega), R_sp (St_R h) hc, Option.bind_some]
      rw [show fX2_needRange (nI s) 1 99 = _ from e3, tb_inr, f1, Option.bind_some, at_nI _ hc (by decide), Option.bind_some, put_nI _ _ hc (by decide), Option.bind_some]
      exact ⟨0, bo', (upd now.1 c (nI s), now.2), sv', _, now.1 c, mo', _, pa', rfl, rfl, congrArg (fun z => z.2.1) f3, fun _ => o_set, f4 _ _ _ rfl (by omega) (Inv_up (Inv_Zs (St_I h) (by rw [nI_toInt (by omega)]; omega)) (by omega)) (Rel_sp hc (St_R h))⟩
    · rw [show fX3_in b 1 99 = _ from e4, Option.bind_some, if_pos bf, show fX2_needRange b 1 99 = _ from e3, tb_inl]
      exact ⟨2, bo, now, sv, o9, 0, (mo.1, mo.2.1, 2, mo.2.2.2.1, mo.2.2.2.2.1, mo.2.2.2.2.2), fn, pa, rfl, rfl, rfl, fun z => absurd z (by decide), St_mo h (by omega) rfl rfl⟩
  · rw [e2, Option.bind_some, if_pos bf, e1, tb_inl]
    exact ⟨1, bo, now, sv, o9, 0, (mo.1, mo.2.1, 1, mo.2.2.2.1, mo.2.2.2.2.1, mo.2.2.2.2.2), fn, pa, rfl, rfl, rfl, fun z => absurd z (by decide), St_mo h (by omega) rfl rfl⟩
theorem clean_l {a : Int32} (h : St M bo now sv buf mo fn pa tx) : ∃ e bo' now' sv' o' r mo' fn' pa', fL_clean bo now sv a o9 = some (e, bo', now', sv', o') ∧ fX3_clean mo fn pa a = some (r, mo', fn', pa') ∧ mo'.2.2.1 = e ∧ (e = 0 → o' 0 = r.toInt64) ∧ St (M + 300) bo' now' sv' buf mo' fn' pa' tx := by
  unfold fL_clean fX2_clean fX3_clean
  rcases arg_c a with ⟨c, hc, rfl, e1, e2⟩ | ⟨e1, e2⟩
  · obtain ⟨bo', sv', mo', pa', f1, f2, f3, _, f4⟩ := save_v (mo0 := m0 mo) h rfl
    rw [e2, Option.bind_some, if_neg bt, f2, Option.bind_some]
    unfold fX3_changes
    dsimp only
    rw [p6, gd_t (pin_nI (by omega) (by decide)), nI_clamp (by omega), R_si (St_R h) hc, Option.bind_some]
    rw [e1, tb_inr, f1, Option.bind_some, at_nI _ hc (by decide), Option.bind_some, put_nI _ _ hc (by decide), Option.bind_some]
    exact ⟨0, bo', (now.1, upd now.2.1 c 0, now.2.2), sv', _, now.2.1 c, mo', _, pa', rfl, rfl, congrArg (fun z => z.2.1) f3, fun _ => o_set, f4 _ _ _ rfl (by omega) (Inv_up (Inv_si (St_I h)) (by omega)) (Rel_si hc (St_R h))⟩
  · rw [e2, Option.bind_some, if_pos bf, e1, tb_inl]
    exact ⟨1, bo, now, sv, o9, 0, (mo.1, mo.2.1, 1, mo.2.2.2.1, mo.2.2.2.2.1, mo.2.2.2.2.2), fn, pa, rfl, rfl, rfl, fun z => absurd z (by decide), St_mo h (by omega) rfl rfl⟩
theorem correct_l {a b : Int32} (h : St M bo now sv buf mo fn pa tx) : ∃ e bo' now' sv' o' r mo' fn' pa', fL_correct bo now sv a b o9 = some (e, bo', now', sv', o') ∧ fX3_correct mo fn pa a b = some (r, mo', fn', pa') ∧ mo'.2.2.1 = e ∧ (e = 0 → o' 0 = r.toInt64) ∧ St (M + 300) bo' now' sv' buf mo' fn' pa' tx := by
  unfold fL_correct fX2_correct fX3_correct
  rcases arg_v a with ⟨c, hc, rfl, e1, e2⟩ | ⟨e1, e2⟩
  · rw [e1, tb_inr, e2, Option.bind_some, if_neg bt]
    rcases arg_r b (-50) 50 with ⟨s1, s2, e3, e4⟩ | ⟨e3, e4⟩
    · obtain ⟨bo', sv', mo', pa', f1, f2, f3, _, f4⟩ := save_v (mo0 := m0 mo) h rfl
      rw [e4, Option.bind_some, if_neg bt, f2, Option.bind_some]
      unfold fX3_changes
      dsimp only
      rw [p8, gd_t (pin_nI (by omega) (by decide)), nI_clamp (by omega), R_co (St_R h) hc, Option.bind_some]
      rw [e3, tb_inr, f1, Option.bind_some, at_nI _ hc (by decide), Option.bind_some, put_nI _ _ hc (by decide), Option.bind_some]
      rw [le_i, show (-50 : Int32).toInt = -50 from rfl] at s1
      rw [le_i, show (50 : Int32).toInt = 50 from rfl] at s2
      exact ⟨0, bo', (now.1, now.2.1, now.2.2.1, now.2.2.2.1, upd now.2.2.2.2.1 c b, now.2.2.2.2.2), sv', _, now.2.2.2.2.1 c + 100, mo', _, pa', rfl, rfl, congrArg (fun z => z.2.1) f3, fun _ => o_set, f4 _ _ _ rfl (by omega) (Inv_up (Inv_Zc (St_I h) ⟨s1, s2⟩) (by omega)) (Rel_co hc (St_R h))⟩
    · rw [e4, Option.bind_some, if_pos bf, e3, tb_inl]
      exact ⟨2, bo, now, sv, o9, 0, (mo.1, mo.2.1, 2, mo.2.2.2.1, mo.2.2.2.2.1, mo.2.2.2.2.2), fn, pa, rfl, rfl, rfl, fun z => absurd z (by decide), St_mo h (by omega) rfl rfl⟩
  · rw [e2, Option.bind_some, if_pos bf, e1, tb_inl]
    exact ⟨1, bo, now, sv, o9, 0, (mo.1, mo.2.1, 1, mo.2.2.2.1, mo.2.2.2.2.1, mo.2.2.2.2.2), fn, pa, rfl, rfl, rfl, fun z => absurd z (by decide), St_mo h (by omega) rfl rfl⟩
theorem set_k {c : Nat} (hc : c < 4) : ∃ lo hi, lo ≤ hi ∧ hi < 1000 ∧ fX2_leastValue (nI c) = some (nI lo) ∧ fX2_mostValue (nI c) = some (nI hi) ∧ (∀ w, fX3_isFor (nI c) w = (fX3_in w (nI lo) (nI hi)).bind (fun r => some r)) ∧ (∀ (x : ShT) N s, Inv x N → lo ≤ s → s ≤ hi → Inv (x.1, x.2.1, x.2.2.1, x.2.2.2.1, x.2.2.2.2.1, upd x.2.2.2.2.2.1 c (nI s), x.2.2.2.2.2.2) N) := by
  unfold fX2_leastValue fX2_mostValue fX3_isFor fX3_isFor_j16
  rcases (by omega : c = 0 ∨ c = 1 ∨ c = 2 ∨ c = 3) with rfl | rfl | rfl | rfl
  · refine ⟨0, 20, by omega, by omega, by decide +kernel, by decide +kernel, fun w => ?_, fun x N s h s1 s2 => ?_⟩
    · dsimp only
      rw [if_neg (show ¬ nI 0 = 1 by decide), if_neg (show ¬ nI 0 = 3 by decide), if_pos (show nI 0 = 0 from rfl)]
      rfl
    · have t : (nI s).toInt = s := nI_toInt (by omega)
      obtain ⟨h1, h2, h3, h4, h5, h6, h7, h8, h9⟩ := h
      exact ⟨h1, h2, h3, h4, h5, by dsimp only; rw [upd_eq, t]; omega, by dsimp only; rw [upd_ne (by decide)]; exact h7, by dsimp only; rw [upd_ne (by decide)]; exact h8, by dsimp only; rw [upd_ne (by decide)]; exact h9⟩
  · refine ⟨1, 99, by omega, by omega, by decide +kernel, by decide +kernel, fun w => ?_, fun x N s h s1 s2 => ?_⟩
    · dsimp only
      rw [if_pos (show nI 1 = 1 from rfl), if_neg (show ¬ nI 1 = 0 by decide), if_neg (show ¬ nI 1 = 2 by decide)]
      rfl
    · have t : (nI s).toInt = s := nI_toInt (by omega)
      obtain ⟨h1, h2, h3, h4, h5, h6, h7, h8, h9⟩ := h
      exact ⟨h1, h2, h3, h4, h5, by dsimp only; rw [upd_ne (by decide)]; exact h6, by dsimp only; rw [upd_eq, t]; omega, by dsimp only; rw [upd_ne (by decide)]; exact h8, by dsimp only; rw [upd_ne (by decide)]; exact h9⟩
  · refine ⟨0, 200, by omega, by omega, by decide +kernel, by decide +kernel, fun w => ?_, fun x N s h s1 s2 => ?_⟩
    · dsimp only
      rw [if_neg (show ¬ nI 2 = 1 by decide), if_neg (show ¬ nI 2 = 3 by decide), if_neg (show ¬ nI 2 = 0 by decide), if_pos (show nI 2 = 2 from rfl)]
      rfl
    · have t : (nI s).toInt = s := nI_toInt (by omega)
      obtain ⟨h1, h2, h3, h4, h5, h6, h7, h8, h9⟩ := h
      exact ⟨h1, h2, h3, h4, h5, by dsimp only; rw [upd_ne (by decide)]; exact h6, by dsimp only; rw [upd_ne (by decide)]; exact h7, by dsimp only; rw [upd_eq, t]; omega, by dsimp only; rw [upd_ne (by decide)]; exact h9⟩
  · refine ⟨1, 99, by omega, by omega, by decide +kernel, by decide +kernel, fun w => ?_, fun x N s h s1 s2 => ?_⟩
    · dsimp only
      rw [if_neg (show ¬ nI 3 = 1 by decide), if_pos (show nI 3 = 3 from rfl), if_neg (show ¬ nI 3 = 0 by decide), if_neg (show ¬ nI 3 = 2 by decide)]
      rfl
    · have t : (nI s).toInt = s := nI_toInt (by omega)
      obtain ⟨h1, h2, h3, h4, h5, h6, h7, h8, h9⟩ := h
      exact ⟨h1, h2, h3, h4, h5, by dsimp only; rw [upd_ne (by decide)]; exact h6, by dsimp only; rw [upd_ne (by decide)]; exact h7, by dsimp only; rw [upd_ne (by decide)]; exact h8, by dsimp only; rw [upd_eq, t]; omega⟩
theorem set_l {a b : Int32} (h : St M bo now sv buf mo fn pa tx) : ∃ e bo' now' sv' o' r mo' fn' pa', fL_set bo now sv a b o9 = some (e, bo', now', sv', o') ∧ fX3_set mo fn pa a b = some (r, mo', fn', pa') ∧ mo'.2.2.1 = e ∧ (e = 0 → o' 0 = r.toInt64) ∧ St (M + 300) bo' now' sv' buf mo' fn' pa' tx := by
  unfold fL_set fX2_set fX3_set
  rcases arg_s a with ⟨c, hc, rfl, e1, e2⟩ | ⟨e1, e2⟩
  · obtain ⟨lo, hi, l1, l2, g1, g2, g3, g4⟩ := set_k hc
    rw [e1, tb_inr, e2, Option.bind_some, if_neg bt, g1, Option.bind_some, g2, Option.bind_some, g3]
    rcases arg_n b lo hi l1 l2 with ⟨s, s1, s2, rfl, e3, e4⟩ | ⟨e3, e4⟩
    · obtain ⟨bo', sv', mo', pa', f1, f2, f3, _, f4⟩ := save_v (mo0 := m0 mo) h rfl
      rw [e4, Option.bind_some, Option.bind_some, if_neg bt, f2, Option.bind_some]
      unfold fX3_changes
      dsimp only
      rw [gd_t (pin_nI (by omega) (by decide)), nI_clamp (by omega), R_set (St_R h) hc, Option.bind_some]
      rw [e3, tb_inr, f1, Option.bind_some, at_nI _ hc (by decide), Option.bind_some, put_nI _ _ hc (by decide), Option.bind_some]
      exact ⟨0, bo', (now.1, now.2.1, now.2.2.1, now.2.2.2.1, now.2.2.2.2.1, upd now.2.2.2.2.2.1 c (nI s), now.2.2.2.2.2.2), sv', _, now.2.2.2.2.2.1 c, mo', _, pa', rfl, rfl, congrArg (fun z => z.2.1) f3, fun _ => o_set, f4 _ _ _ rfl (by omega) (Inv_up (g4 _ _ _ (St_I h) s1 s2) (by omega)) (Rel_set hc (St_R h))⟩
    · rw [e4, Option.bind_some, Option.bind_some, if_pos bf, e3, tb_inl]
      exact ⟨2, bo, now, sv, o9, 0, (mo.1, mo.2.1, 2, mo.2.2.2.1, mo.2.2.2.2.1, mo.2.2.2.2.2), fn, pa, rfl, rfl, rfl, fun z => absurd z (by decide), St_mo h (by omega) rfl rfl⟩
  · rw [e2, Option.bind_some, if_pos bf, e1, tb_inl]
    exact ⟨1, bo, now, sv, o9, 0, (mo.1, mo.2.1, 1, mo.2.2.2.1, mo.2.2.2.2.1, mo.2.2.2.2.2), fn, pa, rfl, rfl, rfl, fun z => absurd z (by decide), St_mo h (by omega) rfl rfl⟩
theorem drag_l {a b d f : Int32} (h : St M bo now sv buf mo fn pa tx) : ∃ e bo' now' sv' o' r mo' fn' pa', fL_drag bo now sv a b d f o9 = some (e, bo', now', sv', o') ∧ fX3_drag mo fn pa a b d f = some (r, mo', fn', pa') ∧ mo'.2.2.1 = e ∧ (e = 0 → o' 0 = r.toInt64) ∧ St (M + 300) bo' now' sv' buf mo' fn' pa' tx := by
  have bad : ∃ e bo' now' sv' o' r mo' fn' pa', (some (2, bo, now, sv, o9) : Option (Int32 × BoT × ShT × (Nat → ShT) × (Nat → Int64))) = some (e, bo', now', sv', o') ∧ some (0, ((mo.1, mo.2.1, 2, mo.2.2.2.1, mo.2.2.2.2.1, mo.2.2.2.2.2) : MoT), fn, pa) = some (r, mo', fn', pa') ∧ mo'.2.2.1 = e ∧ (e = 0 → o' 0 = Int32.toInt64 r) ∧ St (M + 300) bo' now' sv' buf mo' fn' pa' tx := ⟨2, bo, now, sv, o9, 0, (mo.1, mo.2.1, 2, mo.2.2.2.1, mo.2.2.2.2.1, mo.2.2.2.2.2), fn, pa, rfl, rfl, rfl, fun z => absurd z (by decide), St_mo h (by omega) rfl rfl⟩
  unfold fL_drag fX2_drag fX3_drag
  rcases arg_c a with ⟨c, hc, rfl, e1, e2⟩ | ⟨e1, e2⟩
  · rw [e1, tb_inr, e2, Option.bind_some, if_neg bt]
    unfold fX3_isColumn
    rcases arg_n b 0 23 (by decide) (by decide) with ⟨k, s1, s2, rfl, e3, e4⟩ | ⟨e3, e4⟩
    · rw [show fX3_in (nI k) 0 23 = _ from e4, Option.bind_some, Option.bind_some, if_neg bt, show fX2_needRange (nI k) 0 23 = _ from e3, tb_inr]
      rcases arg_n d k 23 s2 (by decide) with ⟨l, t1, t2, rfl, e5, e6⟩ | ⟨e5, e6⟩
      · rw [show fX2_needRange (nI l) (nI k) 23 = _ from e5, tb_inr, show fX3_in (nI l) (nI k) 23 = _ from e6, Option.bind_some, if_neg bt]
        rcases arg_r f 0 50 with ⟨u1, u2, e7, e8⟩ | ⟨e7, e8⟩
        · obtain ⟨bo', sv', mo', pa', f1, f2, f3, _, f4⟩ := save_v (mo0 := m0 mo) h rfl
          obtain ⟨fn', g1, g2⟩ := drag_r (mo := mo') (pa := pa') (w := f) hc t1 t2 (St_R h)
          rw [le_i, z_t] at u1
          rw [le_i, show (50 : Int32).toInt = 50 from rfl] at u2
          rw [e8, Option.bind_some, if_neg bt, f2, Option.bind_some]
          dsimp only
          rw [g1, e7, tb_inr, f1, Option.bind_some]
          have hI := Inv_up (Inv_Zd (c := c) (a := k) (j := l + 1 - k) (w := f) (St_I h) ⟨u1, u2⟩) (show M ≤ M + 300 by omega)
          unfold fX1_dragsOf
          rcases (by omega : c = 0 ∨ c = 1) with rfl | rfl
          · rw [if_pos (show nI 0 = 0 from rfl), if_pos (show nI 0 = 0 from rfl), Option.bind_some, drag_c0 t1 t2]
            exact ⟨0, bo', (now.1, now.2.1, Gk now.2.2.1 f k (l + 1 - k), now.2.2.2), sv', _, _, mo', fn', pa', rfl, rfl, congrArg (fun z => z.2.1) f3, fun _ => o_set, f4 _ _ _ rfl (by omega) hI g2⟩
          · rw [if_neg (show ¬ nI 1 = 0 by decide), if_neg (show ¬ nI 1 = 0 by decide), Option.bind_some, drag_c1 t1 t2]
            exact ⟨0, bo', (now.1, now.2.1, now.2.2.1, Gk now.2.2.2.1 f k (l + 1 - k), now.2.2.2.2), sv', _, _, mo', fn', pa', rfl, rfl, congrArg (fun z => z.2.1) f3, fun _ => o_set, f4 _ _ _ rfl (by omega) hI g2⟩
        · rw [e8, Option.bind_some, if_pos bf, e7, tb_inl]
          exact bad
      · rw [show fX3_in d (nI k) 23 = _ from e6, Option.bind_some, if_pos bf, show fX2_needRange d (nI k) 23 = _ from e5, tb_inl]
        exact bad
    · rw [show fX3_in b 0 23 = _ from e4, Option.bind_some, Option.bind_some, if_pos bf, show fX2_needRange b 0 23 = _ from e3, tb_inl]
      exact bad
  · rw [e2, Option.bind_some, if_pos bf, e1, tb_inl]
    exact ⟨1, bo, now, sv, o9, 0, (mo.1, mo.2.1, 1, mo.2.2.2.1, mo.2.2.2.2.1, mo.2.2.2.2.2), fn, pa, rfl, rfl, rfl, fun z => absurd z (by decide), St_mo h (by omega) rfl rfl⟩
theorem shoot_l {ex : ExT} {le co li : Fn} {a b : Int32} (h : St M bo now sv buf mo fn pa tx) (hM : M + 300 ≤ 200000) : ∃ e bo' now' ex' sv' o' r mo' fn' pa' w, fL_shoot bo now ex sv a b o9 = some (e, bo', now', ex', sv', o') ∧ fX3_shoot mo fn pa le co li a b = some (r, mo', fn', pa', w) ∧ mo'.2.2.1 = e ∧ (e = 0 → o' 0 = r.toInt64) ∧ St (M + 300) bo' now' sv' buf mo' fn' pa' tx := by
  unfold fL_shoot fX2_shoot fX3_shoot
  rcases arg_v a with ⟨v, hv, rfl, e1, e2⟩ | ⟨e1, e2⟩
  · rw [e1, tb_inr, e2, Option.bind_some, if_neg bt]
    rcases arg_n b 1 50 (by decide) (by decide) with ⟨s, s1, s2, rfl, e3, e4⟩ | ⟨e3, e4⟩
    · obtain ⟨bo', sv', mo', pa', f1, f2, f3, _, f4⟩ := save_v (mo0 := m0 mo) h rfl
      obtain ⟨⟨ex', x'⟩, g1, g2, g3⟩ := fire_eq (bo := bo') (ex := ex) (n := s) (St_I h) (by omega) hv (by omega)
      obtain ⟨⟨q1, q2, q3, q4⟩, k1, k2, k3⟩ := shots_eq (mo := mo') (le := le) (co := co) (li := li) (n := s) (St_R h) (St_I h) (by omega) hv (by omega)
      have hI := Inv_Tn (St_I h) hv (s - 1) (by omega)
      have hE := g3 (by omega)
      have hl := k3 (by omega)
      dsimp only at g2 k2 hE hl
      subst g2
      rw [show fX3_in (nI s) 1 50 = _ from e4, Option.bind_some, if_neg bt, f2, Option.bind_some]
      dsimp only
      rw [k1, Option.bind_some]
      dsimp only
      rw [tells_eq hI (by omega) hv hl, Option.bind_some]
      rw [show fX2_needRange (nI s) 1 50 = _ from e3, tb_inr, f1, Option.bind_some]
      dsimp only
      rw [g1, Option.bind_some]
      dsimp only
      rw [spread_eq hE, Option.bind_some]
      exact ⟨0, bo', Tn now v s, ex', sv', _, _, mo', q1, pa', _, rfl, rfl, congrArg (fun z => z.2.1) f3, fun _ => o_set, f4 _ _ _ rfl (by omega) (Inv_up (Inv_Tn (St_I h) hv s (by omega)) (by omega)) k2⟩
    · rw [show fX3_in b 1 50 = _ from e4, Option.bind_some, if_pos bf, show fX2_needRange b 1 50 = _ from e3, tb_inl]
      exact ⟨2, bo, now, ex, sv, o9, 0, (mo.1, mo.2.1, 2, mo.2.2.2.1, mo.2.2.2.2.1, mo.2.2.2.2.2), fn, pa, _, rfl, rfl, rfl, fun z => absurd z (by decide), St_mo h (by omega) rfl rfl⟩
  · rw [e2, Option.bind_some, if_pos bf, e1, tb_inl]
    exact ⟨1, bo, now, ex, sv, o9, 0, (mo.1, mo.2.1, 1, mo.2.2.2.1, mo.2.2.2.2.1, mo.2.2.2.2.2), fn, pa, _, rfl, rfl, rfl, fun z => absurd z (by decide), St_mo h (by omega) rfl rfl⟩
theorem append_l {a : Int32} (h : St M bo now sv buf mo fn pa tx) : ∃ e bo' buf' o' r mo' tx', fL_append bo buf a o9 = some (e, bo', buf', o') ∧ fX3_append mo tx a = some (r, mo', tx') ∧ mo'.2.2.1 = e ∧ (e = 0 → o' 0 = r.toInt64) ∧ St (M + 300) bo' now sv buf' mo' fn pa tx' := by
  unfold fL_append fX2_append fX3_append
  rcases arg_r a 33 126 with ⟨s1, s2, e1, e2⟩ | ⟨e1, e2⟩
  · rw [e2, Option.bind_some, if_neg bt, e1, tb_inr]
    have h0 := h
    obtain ⟨s, q, n, a1, a2, a3, a4, a5, a6, a7, a8, a9, a10⟩ := h
    rw [a6]
    subst a4
    dsimp only
    by_cases q6 : n = 60
    · subst q6
      rw [if_neg (show ¬ nI 60 < 60 by decide), if_pos (show nI 60 = 60 from rfl)]
      exact ⟨2, (nI s, nI q, nI 60), buf, o9, 0, (mo.1, nI 60, 2, mo.2.2.2.1, mo.2.2.2.2.1, mo.2.2.2.2.2), tx, rfl, rfl, rfl, fun z => absurd z (by decide), St_mo h0 (by omega) rfl a6.symm⟩
    · rw [if_neg (show ¬ nI n = 60 from nI_n (b := 60) (by omega) (by decide) q6), gd_t (pin_nI (by omega) (by decide)), nI_clamp (by omega), if_pos (show nI n < 60 from nI_lt (b := 60) (by omega) (by decide)), put_nI _ _ (show n < 60 by omega) (by decide), Option.bind_some, ← nI_succ]
      refine ⟨0, (nI s, nI q, nI (n + 1)), _, _, _, (mo.1, nI (n + 1), 0, mo.2.2.2.1, mo.2.2.2.2.1, mo.2.2.2.2.2), _, rfl, rfl, rfl, fun _ => o_set, s, q, n + 1, a1, a2, by omega, rfl, a5, rfl, fun j hj => ?_, Inv_up a8 (by omega), a9, Past_up a10 (by omega)⟩
      dsimp only
      by_cases e : j = n
      · subst e; rw [upd_eq, upd_eq]
      · rw [upd_ne e, upd_ne e]; exact a7 j (by omega)
  · rw [e2, Option.bind_some, if_pos bf, e1, tb_inl]
    exact ⟨1, bo, buf, o9, 0, (mo.1, mo.2.1, 1, mo.2.2.2.1, mo.2.2.2.2.1, mo.2.2.2.2.2), tx, rfl, rfl, rfl, fun z => absurd z (by decide), St_mo h (by omega) rfl rfl⟩
theorem St_0 {mo' : MoT} (h : St M bo now sv buf mo fn pa tx) (h1 : mo'.1 = mo.1) (h2 : mo'.2.1 = 0) : St M (bo.1, bo.2.1, 0) now sv buf mo' fn pa tx := by
  obtain ⟨s, q, n, a1, a2, a3, a4, a5, a6, a7, a8, a9, a10⟩ := h
  subst a4
  exact ⟨s, q, 0, a1, a2, by omega, rfl, h1.trans a5, h2, fun j hj => absurd hj (by omega), a8, a9, a10⟩
theorem undo_l (h : St M bo now sv buf mo fn pa tx) : ∃ e bo' now' o' r mo' fn', fL_undo bo now sv o9 = some (e, bo', now', o') ∧ fX3_undo mo fn pa = some (r, mo', fn') ∧ mo'.2.2.1 = e ∧ (e = 0 → o' 0 = r.toInt64) ∧ St (M + 300) bo' now' sv buf mo' fn' pa tx := by
  have h0 := h
  obtain ⟨s, q, n, a1, a2, a3, a4, a5, a6, a7, a8, a9, a10⟩ := h
  subst a4
  unfold fL_undo
  by_cases z : s = 0
  · subst z
    rw [undo_0, undo_r0 a5]
    exact ⟨1, _, now, o9, 0, (mo.1, mo.2.1, 1, mo.2.2.2), fn, rfl, rfl, rfl, fun z => absurd z (by decide), St_mo h0 (by omega) rfl rfl⟩
  · obtain ⟨fn', e1, e2, e3, e4⟩ := undo_r (mo := mo) (fn := fn) (by omega) a1 a2 a5 a10
    rw [undo_c (by omega) a1 a2, e1]
    exact ⟨0, (nI (s - 1), nI ((q + 5) % 6), nI n), mrgS (sv ((q + 5) % 6)) now, _, nI (s - 1), (nI (s - 1), mo.2.1, 0, mo.2.2.2), fn', rfl, rfl, rfl, fun _ => o_set, s - 1, (q + 5) % 6, n, by omega, by omega, a3, rfl, rfl, a6, a7, Inv_up (Inv_mrg e2) (by omega), Rel_mrg e3, Past_up e4 (by omega)⟩
theorem play_l {ex : ExT} {td le co li : Fn} (h : St M bo now sv buf mo fn pa tx) (hM : M + 300 ≤ 200000) : ∃ e bo' now' ex' sv' o' r mo' fn' pa' w, fL_play bo now ex sv buf o9 = some (e, bo', now', ex', sv', o') ∧ fX3_play mo fn pa tx td le co li = some (r, mo', fn', pa', w) ∧ mo'.2.2.1 = e ∧ (e = 0 → o' 0 = r.toInt64) ∧ St (M + 300) bo' now' sv' buf mo' fn' pa' tx := by
  have h0 := h
  obtain ⟨s, q, n, a1, a2, a3, a4, a5, a6, a7, a8, a9, a10⟩ := h
  obtain ⟨b, isF, e, N, td', e1, e2, _, e4⟩ := text_0 (bo := bo) (td := td) (mo := mo) (by rw [a4]) a3 a7 a6
  unfold fL_play fX2_play fX3_play
  rw [e1, Option.bind_some, e2, Option.bind_some]
  dsimp only
  by_cases hb : b = true
  · subst hb
    obtain ⟨r, rN, hT⟩ := e4 rfl
    subst rN
    have hr := Txt_r r 0 0 hT
    obtain ⟨bo', sv', mo', pa', f1, f2, f3, f4, f5⟩ := save_v (mo0 := (mo.1, nI n, 0, nI e, isF, nI (r + 1))) h0 rfl
    rw [if_neg bt, if_neg bt, f2, Option.bind_some, f1, Option.bind_some]
    dsimp only
    have hb' : bo'.2.2 = nI n := by rw [f4, a4]
    have hm : ((mo'.1, 0, mo'.2.2.1, mo'.2.2.2.1, mo'.2.2.2.2.1, mo'.2.2.2.2.2) : MoT).2.2.2.2.2 = nI (r + 1) := congrArg (fun z => z.2.2.2.2) f3
    obtain ⟨x', ex', fn', le', co', li', tot, g1, g2, g3, g4, g5, g6⟩ := go_v (tx := tx) (sv := sv') (pa := pa') (had := fn 20) hb' a3 hm (by omega) r 0 0 now ex fn le co li M 0 hT (by omega) a9 a8 (by omega)
    have g7 := f5 (M + 300) x' fn' a6.symm (by omega) (Inv_up g5 (by omega)) g4
    have c1 := g2 2000 (by omega)
    have c2 := g3 2000 (by omega)
    have c3 : fn' 20 - fn 20 = nI tot := by rw [R_sh g4, R_sh a9, g6, Int32.add_comm, Int32.add_sub_cancel]
    rw [c3] at c2
    rw [Int32.zero_add] at c1
    rw [show lp (fX2_play_l27 buf) 2000 (bo', now, ex, sv', 0, 0, 0) = _ from c1, k20, show lp (fX3_play_l37 tx) 2000 ((mo'.1, 0, mo'.2.2.1, mo'.2.2.2.1, mo'.2.2.2.2.1, mo'.2.2.2.2.2), fn, pa', td', le, co, li, fn 20, 0) = _ from c2]
    exact ⟨0, (bo'.1, bo'.2.1, 0), x', ex', sv', _, nI tot, (mo'.1, 0, mo'.2.2.1, mo'.2.2.2.1, mo'.2.2.2.2.1, mo'.2.2.2.2.2), fn', pa', _, rfl, rfl, congrArg (fun z => z.2.1) f3, fun _ => o_set, St_0 g7 rfl rfl⟩
  · obtain rfl : b = false := by cases b; rfl; exact absurd rfl hb
    rw [if_pos bf, if_pos bf]
    exact ⟨1, bo, now, ex, sv, o9, 0, (mo.1, nI n, 1, nI e, isF, N), fn, pa, _, rfl, rfl, rfl, fun z => absurd z (by decide), St_mo h0 (by omega) rfl a6.symm⟩
end
