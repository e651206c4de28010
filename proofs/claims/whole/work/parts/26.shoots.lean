theorem shoots_eq {mo : MoT} {x : ShT} {fs le co li : Nat → Int32} {M v : Nat} (hR : Rel x fs 0) (hI : Inv x M) (hM : M ≤ 200000) (hv : v < 6) : ∃ r, fX3_shoots mo fs le co li (nI v) = some r ∧ Rel (Ty x v) r.1 0 ∧ ∀ j, j < 24 → r.2.2.2 j = Lg x v j := by
  have s3 := hI.2.2.2.2.2.2.2.2
  obtain ⟨r1, e1, _, _, hl⟩ := lays_eq (mo := mo) (le := le) (co := co) (li := li) hR hI hM hv
  unfold fX3_shoots
  rw [e1, Option.bind_some, tells_eq hI hM hv hl, Option.bind_some, tells_eq hI hM hv hl, Option.bind_some, k21, k22, tl3, tl4, upd_ne (by decide), R_sr hR]
  have J : ∀ m, m = imax x.2.2.2.2.2.2.2.2.2 (Spr x v) → ∃ r, fX3_shoots_j42 mo (upd fs 21 (Sx x v).1, r1.1, r1.2.1, r1.2.2, nI v, m, 22) = some r ∧ Rel (Ty x v) r.1 0 ∧ ∀ j, j < 24 → r.2.2.2 j = Lg x v j := by
    intro m hm
    subst hm
    have f1 : (upd (upd fs 21 (Sx x v).1) 22 (imax x.2.2.2.2.2.2.2.2.2 (Spr x v))) (14 + v) = x.2.2.2.2.2.2.1 v := by rw [upd_ne (by omega), upd_ne (by omega)]; exact R_ma hR hv
    have f2 : (upd (upd (upd fs 21 (Sx x v).1) 22 (imax x.2.2.2.2.2.2.2.2.2 (Spr x v))) (14 + v) (x.2.2.2.2.2.2.1 v + 1)) 20 = x.2.2.2.2.2.2.2.1 := by rw [upd_ne (by omega), upd_ne (by omega), upd_ne (by omega)]; exact R_sh hR
    have r4 := Rel_sh (a := x.2.2.2.2.2.2.2.1 + 1) (Rel_ma hv (a := x.2.2.2.2.2.2.1 v + 1) (Rel_sr (a := imax x.2.2.2.2.2.2.2.2.2 (Spr x v)) (Rel_li (a := (Sx x v).1) hR)))
    unfold fX3_shoots_j42
    dsimp only
    rw [gd_t (by decide), p14, gd_t (pin_nI (by omega) (by decide)), nI_clamp (by omega), k22, k20, f1, f2]
    refine lp_rel (fun k (s : Fn × Fn × Fn × Fn × Int32) => s.2.2.2.2 = nI k ∧ Rel (Tyk x v (wears x) k) s.1 0 ∧ ∀ j, j < 24 → s.2.2.2.1 j = Lg x v j) (fun (r : Fn × Fn × Fn × Fn) => Rel (Ty x v) r.1 0 ∧ ∀ j, j < 24 → r.2.2.2 j = Lg x v j) 2 (fun k s K hk hP => ?_) (fun s K hP => ?_) 2000 0 _ (by omega) (by omega) ⟨rfl, by rw [Tyk_0]; exact r4, hl⟩
    · obtain ⟨g, a, b, c, d⟩ := s
      obtain ⟨h1, h2, h3⟩ := hP
      dsimp only at h1 h2 h3
      subst h1
      unfold fX3_shoots_l64
      dsimp only
      have v1 : g (6 + k) = x.2.1 k := (R_si h2 hk).trans (if_neg (by omega))
      have h4 := Rel_si hk (a := x.2.1 k + 1) h2
      have v2 : upd g (6 + k) (x.2.1 k + 1) (4 + k) = x.1 k := by
        refine (R_sp h4 hk).trans ?_
        by_cases w : wears x
        · exact (congrFun (if_pos w) k).trans (if_neg (by omega))
        · exact congrFun (if_neg w) k
      have v3 : upd g (6 + k) (x.2.1 k + 1) 3 = x.2.2.2.2.2.1 3 := R_set (j := 3) h4 (by decide)
      have v4 : upd g (6 + k) (x.2.1 k + 1) 20 = x.2.2.2.2.2.2.2.1 + 1 := R_sh h4
      rw [if_neg (n2 hk), p6, p4, gd_t (pin_nI (by omega) (by decide)), gd_t (pin_nI (by omega) (by decide)), nI_clamp (by omega), nI_clamp (by omega), k3, k20]
      simp only [v1, v2, v3, v4]
      rw [gd_t (nz_t (fun q => by rw [q, z_t] at s3; omega)), ← nI_succ]
      have es : upd (mrg k (fun j => x.2.1 j + 1) x.2.1) k (x.2.1 k + 1) = mrg (k + 1) (fun j => x.2.1 j + 1) x.2.1 := upd_to (f := fun j => x.2.1 j + 1) rfl
      have T : ∀ z, (wears x → z = imax 1 (x.1 k - 1)) → (¬ wears x → z = x.1 k) → Rel (Tyk x v (wears x) (k + 1)) (upd (upd g (6 + k) (x.2.1 k + 1)) (4 + k) z) 0 := by
        intro z q1 q2
        have h5 := Rel_sp hk (a := z) h4
        have ee : Tyk x v (wears x) (k + 1) = (upd (Tyk x v (wears x) k).1 k z, upd (Tyk x v (wears x) k).2.1 k (x.2.1 k + 1), (Tyk x v (wears x) k).2.2) := by
          unfold Tyk
          dsimp only
          rw [es]
          by_cases w : wears x
          · rw [if_pos w, if_pos w, q1 w]
            rw [show upd (mrg k (fun j => imax 1 (x.1 j - 1)) x.1) k (imax 1 (x.1 k - 1)) = mrg (k + 1) (fun j => imax 1 (x.1 j - 1)) x.1 from upd_to (f := fun j => imax 1 (x.1 j - 1)) rfl]
          · rw [if_neg w, if_neg w, q2 w]
            rw [show upd x.1 k (x.1 k) = x.1 from by funext j; unfold upd; by_cases e : j = k; · subst e; rw [if_pos rfl]
                                                     · rw [if_neg e]]
        rw [ee]; exact h5
      have s1 := hI.1 k hk
      by_cases w : wears x
      · rw [if_pos w]
        by_cases q : x.1 k ≤ 1
        · rw [if_pos q]
          refine ⟨_, ⟨rfl, T _ (fun _ => ?_) (fun n => absurd w n), h3⟩, rfl⟩
          rw [le_i, o_t] at q
          refine i_eq ?_
          rw [Int32.sub_zero, imax_t, ti_sub (by rw [o_t]; omega) (by rw [o_t]; omega), o_t]; omega
        · rw [if_neg q]
          refine ⟨_, ⟨rfl, T _ (fun _ => ?_) (fun n => absurd w n), h3⟩, rfl⟩
          rw [le_i, o_t] at q
          refine i_eq ?_
          rw [imax_t, ti_sub (by rw [o_t]; omega) (by rw [o_t]; omega), o_t]; omega
      · rw [if_neg w]
        exact ⟨_, ⟨rfl, T _ (fun n => absurd n w) (fun _ => Int32.sub_zero _), h3⟩, rfl⟩
    · obtain ⟨g, a, b, c, d⟩ := s
      obtain ⟨h1, h2, h3⟩ := hP
      dsimp only at h1 h2 h3
      subst h1
      unfold fX3_shoots_l64
      dsimp only
      rw [if_pos l2]
      exact ⟨_, rfl, h2, h3⟩
  by_cases q : (Sx x v).2.2.1 - (Sx x v).2.1 ≤ x.2.2.2.2.2.2.2.2.2
  · rw [if_pos q]; exact J _ (imax_le q).symm
  · rw [if_neg q]; exact J _ (imax_n q).symm
