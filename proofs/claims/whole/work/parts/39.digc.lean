theorem nI2 (a b : Nat) (hb : b < 2 ^ 31) (h : a < b) : ¬ nI b ≤ nI a := nI_ge h hb
theorem curt_c {bo : BoT} {x : ShT} {fn : Fn} {M : Nat} {h : Int64} (hR : Rel x fn 0) (hI : Inv x M) (hM : M ≤ 200000) : fX2_mixCurtains bo x h = some (Hh h (V3 fn) 56) := by
  unfold fX2_mixCurtains
  refine lp_run (fun c => (Hh h (V3 fn) (28 * c), nI c)) 2 (fun c K hc => ?_) (fun K => ?_) 2000 0 (by omega) (by omega) <;> unfold fX2_mixCurtains_l5 <;> dsimp only
  · rw [if_neg (n2 hc)]
    refine lp_run (fun w => (Hh h (V3 fn) (28 * c + w), nI c, nI w)) 4 (fun w K2 hw => ?_) (fun K2 => ?_) 2000 0 (by omega) (by omega) <;> unfold fX2_mixCurtains_l14 <;> dsimp only
    · rw [if_neg (show ¬ (3 : Int32) < nI w from nI_nlt (b := w) (a := 3) (by omega) (by decide)), A3_c hR hI hM hc hw, tq_inr, ← nI_succ]
      show (some (31 * Hh h (V3 fn) (28 * c + w) + (A3 fn c w).toInt64)).bind _ = _
      rw [Option.bind_some, ← V3_w hw]
      rfl
    · rw [if_pos (show (3 : Int32) < nI 4 by decide)]
      refine lp_run (fun k => (Hh h (V3 fn) (28 * c + 4 + k), nI c, nI k)) 24 (fun k K3 hk => ?_) (fun K3 => ?_) 2000 0 (by omega) (by omega) <;> unfold fX2_mixCurtains_l43 fX1_dragsOf <;> dsimp only
      · have e := R_dr hR hc hk
        rw [if_neg (n24 hk), ite_self, Option.bind_some, at_nI _ hk (by decide), at_nI _ hk (by decide), ← nI_succ]
        rcases (by omega : c = 0 ∨ c = 1) with rfl | rfl
        · rw [if_pos (show nI 0 = 0 from rfl), Option.bind_some]
          show (some (31 * Hh h (V3 fn) (28 * 0 + 4 + k) + (x.2.2.1 k).toInt64)).bind _ = _
          rw [Option.bind_some, show x.2.2.1 k = V3 fn (28 * 0 + 4 + k) by rw [V3_k hk, e]; rfl]
          rfl
        · rw [if_neg (show ¬ nI 1 = 0 by decide), Option.bind_some]
          show (some (31 * Hh h (V3 fn) (28 * 1 + 4 + k) + (x.2.2.2.1 k).toInt64)).bind _ = _
          rw [Option.bind_some, show x.2.2.2.1 k = V3 fn (28 * 1 + 4 + k) by rw [V3_k hk, e]; rfl]
          rfl
      · rw [if_pos l24, ← nI_succ, show 28 * c + 4 + 24 = 28 * (c + 1) by omega]
  · rw [if_pos l2]
theorem spd_c {bo : BoT} {ex : ExT} {x : ShT} {fn : Fn} {M : Nat} {h : Int64} (hR : Rel x fn 0) (hI : Inv x M) (hM : M ≤ 200000) : ∃ ex', fX2_mixSpeeds bo x ex h = some (Hh h (V4 fn) 54, ex') := by
  unfold fX2_mixSpeeds
  refine lp_q (fun v (s : ExT × Int64 × Int32) => s.2 = (Hh h (V4 fn) (9 * v), nI v)) (fun o => ∃ ex', o = some (Hh h (V4 fn) 54, ex')) 6 (fun v s K hv hP => ?_) (fun s K hP => ?_) 2000 0 (ex, h, 0) (by omega) (by omega) rfl <;> obtain ⟨e, s⟩ := s <;> dsimp only at hP <;> subst hP <;> unfold fX2_mixSpeeds_l5 <;> dsimp only
  · rw [if_neg (show ¬ (6 : Int32) ≤ nI v from nI_ge (b := 6) hv (by decide))]
    refine lp_q (fun w (s : ExT × Int64 × Int32 × Int32) => s.2 = (Hh h (V4 fn) (9 * v + w), nI v, nI w)) (fun o => ∃ s', (Prod.snd s' = (Hh h (V4 fn) (9 * (v + 1)), nI (v + 1))) ∧ o = K s') 9 (fun w s K2 hw hP => ?_) (fun s K2 hP => ?_) 2000 0 (e, Hh h (V4 fn) (9 * v), nI v, 0) (by omega) (by omega) rfl <;> obtain ⟨e2, s⟩ := s <;> dsimp only at hP <;> subst hP <;> unfold fX2_mixSpeeds_l15 <;> dsimp only
    · obtain ⟨e3, q⟩ := A4_c (bo := bo) (ex := e2) hR hI hM hv hw
      rw [if_neg (show ¬ (8 : Int32) < nI w from nI_nlt (b := w) (a := 8) (by omega) (by decide)), q, tq_inr, ← nI_succ]
      refine ⟨(e3, Hh h (V4 fn) (9 * v + (w + 1)), nI v, nI (w + 1)), rfl, ?_⟩
      show (some (31 * Hh h (V4 fn) (9 * v + w) + (A4 fn v w).toInt64)).bind _ = _
      rw [Option.bind_some, ← V4_w hw]
      rfl
    · rw [if_pos (show (8 : Int32) < nI 9 by decide), ← nI_succ]
      exact ⟨_, rfl, rfl⟩
  · rw [if_pos (show (6 : Int32) ≤ nI 6 by decide)]
    exact ⟨_, rfl⟩
theorem col_c {bo : BoT} {ex : ExT} {x : ShT} {fn : Fn} {M a k : Nat} {h : Int64} (hR : Rel x fn 0) (hI : Inv x M) (hM : M ≤ 200000) (hk : k < 24) (ha : ∀ w, w < 4 → V5 fn (a + w) = A5 fn k w) : ∃ ex', fX2_mixColumn bo x ex (Hh h (V5 fn) a) (nI k) = some (Hh h (V5 fn) (a + 4), ex') := by
  unfold fX2_mixColumn
  refine lp_q (fun w (s : ExT × Int32 × Int64 × Int32) => s.2 = (nI k, Hh h (V5 fn) (a + w), nI w)) (fun o => ∃ ex', o = some (Hh h (V5 fn) (a + 4), ex')) 4 (fun w s K hw hP => ?_) (fun s K hP => ?_) 2000 0 (ex, nI k, Hh h (V5 fn) a, 0) (by omega) (by omega) rfl <;> obtain ⟨e, s⟩ := s <;> dsimp only at hP <;> subst hP <;> unfold fX2_mixColumn_l6 <;> dsimp only
  · obtain ⟨e3, q⟩ := A5_c (bo := bo) (ex := e) (w := w) hR hI hM hk (by omega)
    rw [if_neg (show ¬ (3 : Int32) < nI w from nI_nlt (b := w) (a := 3) (by omega) (by decide)), show fX2_column bo x e 2 (nI k) (nI w) = _ from q, tq_inr, ← nI_succ]
    refine ⟨(e3, nI k, Hh h (V5 fn) (a + (w + 1)), nI (w + 1)), rfl, ?_⟩
    show (some (31 * Hh h (V5 fn) (a + w) + (A5 fn k w).toInt64)).bind _ = _
    rw [Option.bind_some, ← ha w hw]
    rfl
  · rw [if_pos (show (3 : Int32) < nI 4 by decide)]
    exact ⟨_, rfl⟩
theorem colAt_w {fn : Fn} {w : Nat} (hw : w < 4) : V5 fn (0 + w) = A5 fn 0 w ∧ V5 fn (4 + w) = A5 fn 11 w ∧ V5 fn (8 + w) = A5 fn 23 w := by
  unfold V5 colAt
  refine ⟨?_, ?_, ?_⟩
  · rw [if_pos (by omega), show (0 + w) % 4 = w by omega]
  · rw [if_neg (by omega), if_pos (by omega), show (4 + w) % 4 = w by omega]
  · rw [if_neg (by omega), if_neg (by omega), show (8 + w) % 4 = w by omega]
/-- the digest, as one number -/
def D5 (kept : Int32) (fn : Fn) : Int64 := Hh (Hh (Hh (Hh (Hh 3191 (V1 kept fn) 5) fn 4) (V3 fn) 56) (V4 fn) 54) (V5 fn) 12
def D6 (kept : Int32) (fn : Fn) : Int64 := 31 * (31 * D5 kept fn + (B1 fn + 100).toInt64) + (B2 fn).toInt64
def D9 (kept : Int32) (n : Int32) (fn : Fn) : Int64 := 31 * (31 * (31 * Hh (D6 kept fn) (V7 fn) 3 + (G8 fn).toInt64) + Z9 fn) + n.toInt64
