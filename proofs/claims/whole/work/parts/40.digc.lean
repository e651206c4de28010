theorem dig_c {s q n : Nat} {bo : BoT} {x pr : ShT} {ex : ExT} {buf tx fn : Fn} {M : Nat} (hR : Rel x fn 0) (hI : Inv x M) (hM : M + 200 ≤ 200000) (hb : bo = (nI s, nI q, nI n)) (hn : n ≤ 60) (ht : ∀ j, j < n → tx j = buf j) : ∃ r, fX2_digest bo x pr ex buf = some (Hh (D9 (nI s) (nI n) fn) tx n, r) := by
  subst hb
  unfold fX2_digest
  refine (lp_run (r := lp (fX2_digest_l30 (nI s, nI q, nI n) x buf) 2000 (pr, ex, Hh 3191 (V1 (nI s) fn) 5, 0)) (fun k => (pr, ex, Hh 3191 (V1 (nI s) fn) k, nI k)) 5 (fun k K hk => ?_) (fun K => ?_) 2000 0 (by omega) (by omega)) ▸ ?_
  · unfold fX2_digest_l6
    dsimp only
    rw [if_neg (show ¬ (4 : Int32) < nI k from nI_nlt (b := k) (a := 4) (by omega) (by decide)), V1_c hR hI hk, tq_inr, ← nI_succ]
    rfl
  · unfold fX2_digest_l6
    dsimp only
    rw [if_pos (show (4 : Int32) < nI 5 by decide)]
  refine lp_q (fun k (z : ShT × ExT × Int64 × Int32) => z = (pr, ex, Hh (Hh 3191 (V1 (nI s) fn) 5) fn k, nI k)) (fun o => ∃ r, o = some (Hh (D9 (nI s) (nI n) fn) tx n, r)) 4 (fun k z K hk hP => ?_) (fun z K hP => ?_) 2000 0 (pr, ex, Hh 3191 (V1 (nI s) fn) 5, 0) (by omega) (by omega) rfl <;> subst hP <;> unfold fX2_digest_l30 <;> dsimp only
  · rw [if_neg (show ¬ (4 : Int32) ≤ nI k from nI_ge (b := 4) (by omega) (by decide)), setting_v hR hk, tq_inr, ← nI_succ]
    exact ⟨_, rfl, rfl⟩
  · rw [if_pos (show (4 : Int32) ≤ nI 4 by decide), curt_c hR hI (by omega), Option.bind_some]
    obtain ⟨ex1, e1⟩ := spd_c (bo := (nI s, nI q, nI n)) (ex := ex) (h := Hh (Hh (Hh 3191 (V1 (nI s) fn) 5) fn 4) (V3 fn) 56) hR hI (by omega)
    rw [e1, Option.bind_some]
    obtain ⟨ex2, e2⟩ := col_c (bo := (nI s, nI q, nI n)) (ex := ex1) (a := 0) (k := 0) (h := Hh (Hh (Hh (Hh 3191 (V1 (nI s) fn) 5) fn 4) (V3 fn) 56) (V4 fn) 54) hR hI (by omega) (by omega) (fun w hw => (colAt_w hw).1)
    obtain ⟨ex3, e3⟩ := col_c (bo := (nI s, nI q, nI n)) (ex := ex2) (a := 4) (k := 11) (h := Hh (Hh (Hh (Hh 3191 (V1 (nI s) fn) 5) fn 4) (V3 fn) 56) (V4 fn) 54) hR hI (by omega) (by omega) (fun w hw => (colAt_w hw).2.1)
    obtain ⟨ex4, e4⟩ := col_c (bo := (nI s, nI q, nI n)) (ex := ex3) (a := 8) (k := 23) (h := Hh (Hh (Hh (Hh 3191 (V1 (nI s) fn) 5) fn 4) (V3 fn) 56) (V4 fn) 54) hR hI (by omega) (by omega) (fun w hw => (colAt_w hw).2.2)
    rw [show fX2_mixColumn (nI s, nI q, nI n) x ex1 (Hh (Hh (Hh (Hh 3191 (V1 (nI s) fn) 5) fn 4) (V3 fn) 56) (V4 fn) 54) 0 = _ from e2, Option.bind_some]
    rw [show fX2_mixColumn (nI s, nI q, nI n) x ex2 (Hh (Hh (Hh (Hh (Hh 3191 (V1 (nI s) fn) 5) fn 4) (V3 fn) 56) (V4 fn) 54) (V5 fn) (0 + 4)) 11 = _ from e3, Option.bind_some]
    rw [show fX2_mixColumn (nI s, nI q, nI n) x ex3 (Hh (Hh (Hh (Hh (Hh 3191 (V1 (nI s) fn) 5) fn 4) (V3 fn) 56) (V4 fn) 54) (V5 fn) (4 + 4)) 23 = _ from e4, Option.bind_some]
    show ∃ r, tq (fX2_bestCorrection (nI s, nI q, nI n) x pr ex4 1) (fun r10 => (fX2_mix (D5 (nI s) fn) (Int32.toInt64 r10.1)).bind _) = some (Hh (D9 (nI s) (nI n) fn) tx n, r)
    obtain ⟨⟨p5, ex5⟩, e5⟩ := B1_c (bo := (nI s, nI q, nI n)) (pr := pr) (ex := ex4) hR hI (by omega)
    rw [show fX2_bestCorrection (nI s, nI q, nI n) x pr ex4 1 = _ from e5, tq_inr]
    dsimp only
    rw [show fX2_mix (D5 (nI s) fn) (Int32.toInt64 (B1 fn + 100)) = some (31 * D5 (nI s) fn + (B1 fn + 100).toInt64) from rfl, Option.bind_some]
    obtain ⟨⟨p6, ex6⟩, e6⟩ := B2_c (bo := (nI s, nI q, nI n)) (pr := p5) (ex := ex5) hR hI (by omega)
    rw [show fX2_bestSpring (nI s, nI q, nI n) x p5 ex5 1 2 = _ from e6, tq_inr]
    dsimp only
    rw [show fX2_mix (31 * D5 (nI s) fn + (B1 fn + 100).toInt64) (Int32.toInt64 (B2 fn)) = some (D6 (nI s) fn) from rfl, Option.bind_some]
    refine lp_q (fun k (z : ShT × ExT × Int64 × Int32) => z.2.2 = (Hh (D6 (nI s) fn) (V7 fn) k, nI k)) (fun o => ∃ r, o = some (Hh (D9 (nI s) (nI n) fn) tx n, r)) 3 (fun k z K hk hP => ?_) (fun z K hP => ?_) 2000 0 (p6, ex6, D6 (nI s) fn, 0) (by omega) (by omega) rfl <;> obtain ⟨p7, ex7, z⟩ := z <;> dsimp only at hP <;> subst hP <;> unfold fX2_digest_l112 <;> dsimp only
    · obtain ⟨⟨p8, ex8⟩, e8⟩ := V7_c (bo := (nI s, nI q, nI n)) (pr := p7) (ex := ex7) hR hI hM hk
      rw [if_neg (show ¬ (2 : Int32) < nI k from nI_nlt (b := k) (a := 2) (by omega) (by decide)), show fX2_ifShot (nI s, nI q, nI n) x p7 ex7 0 9 (nI k) = _ from e8, tq_inr, ← nI_succ]
      dsimp only
      exact ⟨(p8, ex8, Hh (D6 (nI s) fn) (V7 fn) (k + 1), nI (k + 1)), rfl, rfl⟩
    · obtain ⟨⟨p8, ex8⟩, e8⟩ := G8_c (bo := (nI s, nI q, nI n)) (pr := p7) (ex := ex7) hR hI hM
      obtain ⟨ex9, e9, e10⟩ := E9_c (bo := (nI s, nI q, nI n)) (ex := ex8) hR hI (by omega)
      rw [if_pos (show (2 : Int32) < nI 3 by decide), show fX2_goodFor (nI s, nI q, nI n) x p7 ex7 3 60 = _ from e8, tq_inr]
      dsimp only
      rw [show fX2_mix (Hh (D6 (nI s) fn) (V7 fn) 3) (Int32.toInt64 (G8 fn)) = some (31 * Hh (D6 (nI s) fn) (V7 fn) 3 + (G8 fn).toInt64) from rfl, Option.bind_some, show fX2_evenness (nI s, nI q, nI n) x ex8 2 = _ from e9, tq_inr]
      dsimp only
      rw [e10, Option.bind_some]
      show ∃ r, lp (fX2_digest_l175 (nI s, nI q, nI n) x buf) 2000 (p8, ex9, D9 (nI s) (nI n) fn, 0) = some (Hh (D9 (nI s) (nI n) fn) tx n, r)
      refine ⟨(p8, ex9), ?_⟩
      refine lp_run (fun k => (p8, ex9, Hh (D9 (nI s) (nI n) fn) tx k, nI k)) n (fun k K hk => ?_) (fun K => ?_) 2000 0 (by omega) (by omega) <;> unfold fX2_digest_l175 <;> dsimp only
      · rw [if_neg (nI_ge hk (by omega)), at_nI _ (show k < 60 by omega) (by decide), Option.bind_some, ← nI_succ, ← ht k hk]
        rfl
      · rw [if_pos (nI_le (Nat.le_refl _) (by omega))]
