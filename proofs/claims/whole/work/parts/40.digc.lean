/-! the digest, as the class makes it -/
theorem mix_v (a b : Int64) : fX2_mix a b = some (31 * a + b) := rfl
theorem Hh_s (h : Int64) (V : Nat → Int32) (k : Nat) : 31 * Hh h V k + (V k).toInt64 = Hh h V (k + 1) := rfl
section
variable {bo : BoT} {x pr : ShT} {ex : ExT} {buf tx fn : Fn} {M n : Nat} {h : Int64}
theorem dc175 (hb : bo.2.2 = nI n) (hn : n ≤ 60) (ht : ∀ j, j < n → tx j = buf j) : lp (fX2_digest_l175 bo x buf) 2000 (pr, ex, h, 0) = some (Hh h tx n, pr, ex) := by
  refine lp_run (fun k => (pr, ex, Hh h tx k, nI k)) n (fun k K hk => ?_) (fun K => ?_) 2000 0 (by omega) (by omega) <;> unfold fX2_digest_l175 <;> dsimp only
  · rw [hb, if_neg (nI_ge hk (by omega)), at_nI _ (show k < 60 by omega) (by decide), Option.bind_some, mix_v, Option.bind_some, ← nI_succ, ← ht k hk, Hh_s]
  · rw [hb, if_pos (nI_le (Nat.le_refl _) (by omega))]
theorem dc112 (hR : Rel x fn 0) (hI : Inv x M) (hM : M + 200 ≤ 200000) (hb : bo.2.2 = nI n) (hn : n ≤ 60) (ht : ∀ j, j < n → tx j = buf j) : ∃ r, lp (fX2_digest_l112 bo x buf) 2000 (pr, ex, h, 0) = some (Hh (31 * (31 * (31 * Hh h (V7 fn) 3 + (G8 fn).toInt64) + Z9 fn) + (nI n).toInt64) tx n, r) := by
  refine lp_q (fun k (z : ShT × ExT × Int64 × Int32) => ∃ p e, z = (p, e, Hh h (V7 fn) k, nI k)) (fun o => ∃ r, o = some (Hh (31 * (31 * (31 * Hh h (V7 fn) 3 + (G8 fn).toInt64) + Z9 fn) + (nI n).toInt64) tx n, r)) 3 (fun k z K hk hP => ?_) (fun z K hP => ?_) 2000 0 (pr, ex, h, 0) (by omega) (by omega) ⟨pr, ex, rfl⟩ <;> obtain ⟨p, e, rfl⟩ := hP <;> unfold fX2_digest_l112 <;> dsimp only
  · obtain ⟨⟨p8, ex8⟩, e8⟩ := V7_c (bo := bo) (pr := p) (ex := e) hR hI hM hk
    rw [if_neg (show ¬ (2 : Int32) < nI k from nI_nlt (b := k) (a := 2) (by omega) (by decide)), show fX2_ifShot bo x p e 0 9 (nI k) = _ from e8, tq_inr, ← nI_succ]
    dsimp only
    rw [mix_v, Option.bind_some, Hh_s]
    exact ⟨_, ⟨p8, ex8, rfl⟩, rfl⟩
  · obtain ⟨⟨p8, ex8⟩, e8⟩ := G8_c (bo := bo) (pr := p) (ex := e) hR hI hM
    obtain ⟨ex9, e9, e10⟩ := E9_c (bo := bo) (ex := ex8) hR hI (by omega)
    rw [if_pos (show (2 : Int32) < nI 3 by decide), show fX2_goodFor bo x p e 3 60 = _ from e8, tq_inr]
    dsimp only
    rw [mix_v, Option.bind_some, show fX2_evenness bo x ex8 2 = _ from e9, tq_inr]
    dsimp only
    rw [e10, Option.bind_some, mix_v, Option.bind_some, mix_v, Option.bind_some, hb, dc175 hb hn ht]
    exact ⟨_, rfl⟩
theorem dc_b (hR : Rel x fn 0) (hI : Inv x M) (hM : M + 200 ≤ 200000) (hb : bo.2.2 = nI n) (hn : n ≤ 60) (ht : ∀ j, j < n → tx j = buf j) : ∃ r, tq (fX2_bestCorrection bo x pr ex 1) (fun r10 => (fX2_mix h (Int32.toInt64 r10.1)).bind (fun r11 => tq (fX2_bestSpring bo x r10.2.1 r10.2.2 1 2) (fun r12 => (fX2_mix r11 (Int32.toInt64 r12.1)).bind (fun r13 => lp (fX2_digest_l112 bo x buf) 2000 (r12.2.1, r12.2.2, r13, 0))))) = some (Hh (31 * (31 * (31 * Hh (31 * (31 * h + (B1 fn + 100).toInt64) + (B2 fn).toInt64) (V7 fn) 3 + (G8 fn).toInt64) + Z9 fn) + (nI n).toInt64) tx n, r) := by
  obtain ⟨⟨p5, ex5⟩, e5⟩ := B1_c (bo := bo) (pr := pr) (ex := ex) hR hI (by omega)
  obtain ⟨⟨p6, ex6⟩, e6⟩ := B2_c (bo := bo) (pr := p5) (ex := ex5) hR hI (by omega)
  rw [show fX2_bestCorrection bo x pr ex 1 = _ from e5, tq_inr]
  dsimp only
  rw [mix_v, Option.bind_some, show fX2_bestSpring bo x p5 ex5 1 2 = _ from e6, tq_inr]
  dsimp only
  rw [mix_v, Option.bind_some]
  exact dc112 hR hI hM hb hn ht
theorem dc_s (hR : Rel x fn 0) (hI : Inv x M) (hM : M + 200 ≤ 200000) (hb : bo.2.2 = nI n) (hn : n ≤ 60) (ht : ∀ j, j < n → tx j = buf j) : ∃ r, (fX2_mixColumn bo x ex h 0).bind (fun r7 => (fX2_mixColumn bo x r7.2 r7.1 11).bind (fun r8 => (fX2_mixColumn bo x r8.2 r8.1 23).bind (fun r9 => tq (fX2_bestCorrection bo x pr r9.2 1) (fun r10 => (fX2_mix r9.1 (Int32.toInt64 r10.1)).bind (fun r11 => tq (fX2_bestSpring bo x r10.2.1 r10.2.2 1 2) (fun r12 => (fX2_mix r11 (Int32.toInt64 r12.1)).bind (fun r13 => lp (fX2_digest_l112 bo x buf) 2000 (r12.2.1, r12.2.2, r13, 0)))))))) = some (Hh (31 * (31 * (31 * Hh (31 * (31 * Hh h (V5 fn) 12 + (B1 fn + 100).toInt64) + (B2 fn).toInt64) (V7 fn) 3 + (G8 fn).toInt64) + Z9 fn) + (nI n).toInt64) tx n, r) := by
  obtain ⟨ex2, e2⟩ := col_c (bo := bo) (ex := ex) (a := 0) (k := 0) (h := h) hR hI (by omega) (by omega) (fun w hw => (colAt_w hw).1)
  obtain ⟨ex3, e3⟩ := col_c (bo := bo) (ex := ex2) (a := 4) (k := 11) (h := h) hR hI (by omega) (by omega) (fun w hw => (colAt_w hw).2.1)
  obtain ⟨ex4, e4⟩ := col_c (bo := bo) (ex := ex3) (a := 8) (k := 23) (h := h) hR hI (by omega) (by omega) (fun w hw => (colAt_w hw).2.2)
  have f2 : fX2_mixColumn bo x ex h 0 = some (Hh h (V5 fn) 4, ex2) := e2
  have f3 : fX2_mixColumn bo x ex2 (Hh h (V5 fn) 4) 11 = some (Hh h (V5 fn) 8, ex3) := e3
  have f4 : fX2_mixColumn bo x ex3 (Hh h (V5 fn) 8) 23 = some (Hh h (V5 fn) 12, ex4) := e4
  rw [f2, Option.bind_some]
  dsimp only
  rw [f3, Option.bind_some]
  dsimp only
  rw [f4, Option.bind_some]
  dsimp only
  exact dc_b hR hI hM hb hn ht
theorem dc30 (hR : Rel x fn 0) (hI : Inv x M) (hM : M + 200 ≤ 200000) (hb : bo.2.2 = nI n) (hn : n ≤ 60) (ht : ∀ j, j < n → tx j = buf j) : ∃ r, lp (fX2_digest_l30 bo x buf) 2000 (pr, ex, h, 0) = some (Hh (31 * (31 * (31 * Hh (31 * (31 * Hh (Hh (Hh (Hh h fn 4) (V3 fn) 56) (V4 fn) 54) (V5 fn) 12 + (B1 fn + 100).toInt64) + (B2 fn).toInt64) (V7 fn) 3 + (G8 fn).toInt64) + Z9 fn) + (nI n).toInt64) tx n, r) := by
  refine lp_q (fun k (z : ShT × ExT × Int64 × Int32) => z = (pr, ex, Hh h fn k, nI k)) (fun o => ∃ r, o = some (Hh (31 * (31 * (31 * Hh (31 * (31 * Hh (Hh (Hh (Hh h fn 4) (V3 fn) 56) (V4 fn) 54) (V5 fn) 12 + (B1 fn + 100).toInt64) + (B2 fn).toInt64) (V7 fn) 3 + (G8 fn).toInt64) + Z9 fn) + (nI n).toInt64) tx n, r)) 4 (fun k z K hk hP => ?_) (fun z K hP => ?_) 2000 0 (pr, ex, h, 0) (by omega) (by omega) rfl <;> subst hP <;> unfold fX2_digest_l30 <;> dsimp only
  · rw [if_neg (show ¬ (4 : Int32) ≤ nI k from nI_ge (b := 4) (by omega) (by decide)), setting_v hR hk, tq_inr, mix_v, Option.bind_some, ← nI_succ, Hh_s]
    exact ⟨_, rfl, rfl⟩
  · rw [if_pos (show (4 : Int32) ≤ nI 4 by decide), curt_c hR hI (by omega), Option.bind_some]
    obtain ⟨ex1, e1⟩ := spd_c (bo := bo) (ex := ex) (h := Hh (Hh h fn 4) (V3 fn) 56) hR hI (by omega)
    rw [e1, Option.bind_some]
    dsimp only
    exact dc_s hR hI hM hb hn ht
theorem dig_c {s q : Nat} (hR : Rel x fn 0) (hI : Inv x M) (hM : M + 200 ≤ 200000) (hb : bo = (nI s, nI q, nI n)) (hn : n ≤ 60) (ht : ∀ j, j < n → tx j = buf j) : ∃ r, fX2_digest bo x pr ex buf = some (Hh (D9 (nI s) (nI n) fn) tx n, r) := by
  subst hb
  unfold fX2_digest
  obtain ⟨r, e⟩ := dc30 (bo := (nI s, nI q, nI n)) (pr := pr) (ex := ex) (h := Hh 3191 (V1 (nI s) fn) 5) hR hI hM rfl hn ht
  refine ⟨r, ?_⟩
  unfold D9 D6 D5
  rw [← e]
  refine lp_run (fun k => (pr, ex, Hh 3191 (V1 (nI s) fn) k, nI k)) 5 (fun k K hk => ?_) (fun K => ?_) 2000 0 (by omega) (by omega) <;> unfold fX2_digest_l6 <;> dsimp only
  · rw [if_neg (show ¬ (4 : Int32) < nI k from nI_nlt (b := k) (a := 4) (by omega) (by decide)), V1_c hR hI hk, tq_inr, mix_v, Option.bind_some, ← nI_succ]
    rfl
  · rw [if_pos (show (4 : Int32) < nI 5 by decide)]
end
