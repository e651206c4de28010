/-! blocks of 71 numbers; saving and undoing -/
theorem Rel_cp {x : ShT} {g h : Fn} {o p : Nat} (hR : Rel x g o) (e : ∀ i, i < 71 → h (p + i) = g (o + i)) : Rel x h p := by
  obtain ⟨h0, h1, h2, h3, h4, h5, h6, h7, h8, h9⟩ := hR
  refine ⟨fun j hj => ?_, fun j hj => ?_, fun j hj => ?_, fun j hj => ?_, fun j hj => ?_, ?_, ?_, ?_, fun j hj => ?_, fun j hj => ?_⟩
  · rw [e _ (by omega)]; exact h0 j hj
  · rw [Nat.add_assoc, e _ (by omega), ← Nat.add_assoc]; exact h1 j hj
  · rw [Nat.add_assoc, e _ (by omega), ← Nat.add_assoc]; exact h2 j hj
  · rw [Nat.add_assoc, e _ (by omega), ← Nat.add_assoc]; exact h3 j hj
  · rw [Nat.add_assoc, e _ (by omega), ← Nat.add_assoc]; exact h4 j hj
  · rw [e _ (by omega)]; exact h5
  · rw [e _ (by omega)]; exact h6
  · rw [e _ (by omega)]; exact h7
  · rw [Nat.add_assoc, e _ (by omega), ← Nat.add_assoc]; exact h8 j hj
  · rw [Nat.add_assoc, e _ (by omega), ← Nat.add_assoc]; exact h9 j hj
theorem n71 {k : Nat} (h : k < 71) : ¬ (71 : Int32) ≤ nI k := nI_ge (b := 71) h (by decide)
theorem l71 : (71 : Int32) ≤ nI 71 := by decide
def cpy (fr to : Fn) (i j : Nat) : Fn := fun m => if j ≤ m ∧ m < j + 71 then fr (i + (m - j)) else to m
theorem copies_eq {n nc : Nat} {fr to : Fn} {i j : Nat} (hi : i + 71 ≤ n) (hj : j + 71 ≤ nc) (hn : n < 1000) (hc : nc < 1000) : fX3_copies n fr nc to (nI i) (nI j) = some (cpy fr to i j) := by
  unfold fX3_copies
  have e0 : to = (fun m => if j ≤ m ∧ m < j + 0 then fr (i + (m - j)) else to m : Fn) := by funext m; rw [if_neg (by omega)]
  refine Eq.trans (congrArg (fun z => lp (fX3_copies_l3 n fr nc) 2000 (z, nI i, nI j, 0)) e0) ?_
  refine lp_run (fun k => ((fun m => if j ≤ m ∧ m < j + k then fr (i + (m - j)) else to m : Fn), nI i, nI j, nI k)) 71 (fun k K hk => ?_) (fun K => ?_) 2000 0 (by omega) (by omega) <;> unfold fX3_copies_l3 <;> dsimp only
  · rw [if_neg (n71 hk), nI_add, nI_add, gd_t (pin_nI (by omega) (by omega)), gd_t (pin_nI (by omega) (by omega)), nI_clamp (by omega), nI_clamp (by omega), ← nI_succ]
    have e1 : upd (fun m => if j ≤ m ∧ m < j + k then fr (i + (m - j)) else to m : Fn) (j + k) (fr (i + k)) = (fun m => if j ≤ m ∧ m < j + (k + 1) then fr (i + (m - j)) else to m : Fn) := by
      funext m
      unfold upd
      by_cases e : m = j + k
      · subst e; rw [if_pos rfl, if_pos (by omega), show j + k - j = k by omega]
      · rw [if_neg e]
        by_cases q : j ≤ m ∧ m < j + k
        · exact (if_pos q).trans (if_pos (by omega)).symm
        · exact (if_neg q).trans (if_neg (by omega)).symm
    rw [e1]
  · rw [if_pos l71]
    rfl
theorem cpy_in {fr to : Fn} {i j k : Nat} (h : k < 71) : cpy fr to i j (j + k) = fr (i + k) := by
  unfold cpy; rw [if_pos (by omega), show j + k - j = k by omega]
theorem cpy_out {fr to : Fn} {i j m : Nat} (h : ¬ (j ≤ m ∧ m < j + 71)) : cpy fr to i j m = to m := if_neg h
theorem Rel_cpy {x : ShT} {fr to : Fn} {i j : Nat} (h : Rel x fr i) : Rel x (cpy fr to i j) j := Rel_cp h (fun _ hk => cpy_in hk)
/-- what undo restores, on both sides; s kept, q the next place of the ring -/
def Past (s q M : Nat) (sv : Nat → ShT) (pa : Fn) : Prop := ∀ j, j < s → Inv (sv ((q + 6 - s + j) % 6)) M ∧ Rel (sv ((q + 6 - s + j) % 6)) pa (71 * j)
theorem vup_eq {α : Type} {f : Nat → α} {i : Nat} {a : α} : va_up f i a i = a := if_pos rfl
theorem vup_ne {α : Type} {f : Nat → α} {i j : Nat} {a : α} (h : j ≠ i) : va_up f i a j = f j := if_neg h
theorem save_c {s q n : Nat} {now : ShT} {sv : Nat → ShT} (hs : s ≤ 6) (hq : q < 6) : fX2_saveState (nI s, nI q, nI n) now sv = some ((nI (min (s + 1) 6), nI ((q + 1) % 6), nI n), va_up sv q (mrgS now (sv q))) := by
  have e1 : imin (nI s + 1) 6 = nI (min (s + 1) 6) := by
    rw [← nI_succ]
    by_cases h : s + 1 ≤ 6
    · rw [imin_le (show nI (s + 1) ≤ 6 from nI_le (b := 6) h (by decide)), Nat.min_eq_left h]
    · rw [imin_n (show ¬ nI (s + 1) ≤ 6 from nI_ge (a := 6) (by omega) (by omega)), Nat.min_eq_right (by omega)]; rfl
  unfold fX2_saveState fX2_savedAt
  dsimp only
  rw [gd_t (pin_nI hq (by decide)), Option.bind_some, become_eq, Option.bind_some, nI_clamp (by omega)]
  unfold fX2_saveState_j21 fX2_saveState_j40
  dsimp only
  rw [e1]
  by_cases h : 5 ≤ q
  · rw [if_pos (show (5 : Int32) ≤ nI q from nI_le (a := 5) h (by omega)), show (q + 1) % 6 = 0 by omega]; rfl
  · rw [if_neg (show ¬ (5 : Int32) ≤ nI q from nI_ge (b := 5) (by omega) (by decide)), ← nI_succ, show (q + 1) % 6 = q + 1 by omega]
theorem n355 {k : Nat} (h : k < 355) : ¬ (355 : Int32) ≤ nI k := nI_ge (b := 355) h (by decide)
theorem save_r {s q M : Nat} {now : ShT} {sv : Nat → ShT} {mo : MoT} {fn pa : Fn} (hs : s ≤ 6) (hq : q < 6) (hm : mo.1 = nI s) (hI : Inv now M) (hR : Rel now fn 0) (hP : Past s q M sv pa) : ∃ pa', fX3_saves mo fn pa = some ((nI (min (s + 1) 6), mo.2), pa') ∧ Past (min (s + 1) 6) ((q + 1) % 6) M (va_up sv q (mrgS now (sv q))) pa' := by
  obtain ⟨m1, m2⟩ := mo
  dsimp only at hm
  subst hm
  unfold fX3_saves
  dsimp only
  by_cases h6 : s = 6
  · subst h6
    rw [if_pos (show nI 6 = 6 from rfl)]
    refine ⟨cpy fn (fun j => if j < 355 then pa (j + 71) else pa j) 0 355, ?_, ?_⟩
    · refine lp_run (fun k => ((nI 6, m2), (fun j => if j < k then pa (j + 71) else pa j : Fn), nI k)) 355 (fun k K hk => ?_) (fun K => ?_) 2000 0 (by omega) (by omega) <;> unfold fX3_saves_l11 <;> dsimp only
      · rw [if_neg (n355 hk), show nI k + 71 = nI (k + 71) from nI_add k 71, gd_t (pin_nI (by omega) (by decide)), gd_t (pin_nI (by omega) (by decide)), nI_clamp (by omega), nI_clamp (by omega), if_neg (show ¬ k + 71 < k by omega), ← nI_succ]
        have e : upd (fun j => if j < k then pa (j + 71) else pa j : Fn) k (pa (k + 71)) = (fun j => if j < k + 1 then pa (j + 71) else pa j : Fn) := upd_if (f := fun j => pa (j + 71)) (g := pa)
        rw [e]
      · rw [if_pos (show (355 : Int32) ≤ nI 355 from by decide)]
        unfold fX3_saves_j49
        dsimp only
        rw [show (71 : Int32) * (nI 6 - 1) = nI 355 from by decide, show (0 : Int32) = nI 0 from rfl, copies_eq (by omega) (by omega) (by decide) (by decide), Option.bind_some, show nI 6 - 1 + 1 = nI (min (6 + 1) 6) from by decide]
    · intro j hj
      rw [show min (6 + 1) 6 = 6 from rfl] at hj ⊢
      by_cases e : j = 5
      · subst e
        rw [show ((q + 1) % 6 + 6 - 6 + 5) % 6 = q by omega, vup_eq]
        exact ⟨Inv_mrg hI, Rel_mrg (Rel_cpy (j := 355) hR)⟩
      · rw [show ((q + 1) % 6 + 6 - 6 + j) % 6 = (q + 6 - 6 + (j + 1)) % 6 by omega, vup_ne (by omega)]
        have h := hP (j + 1) (by omega)
        refine ⟨h.1, Rel_cp h.2 (fun i hi => ?_)⟩
        rw [cpy_out (by omega), if_pos (by omega), show 71 * j + i + 71 = 71 * (j + 1) + i by omega]
  · rw [if_neg (show ¬ nI s = 6 from fun e => h6 ((nI_eq (a := s) (b := 6) (by omega) (by decide)).mp e))]
    unfold fX3_saves_j49
    dsimp only
    rw [show (71 : Int32) * nI s = nI (71 * s) from nI_mul 71 s, show (0 : Int32) = nI 0 from rfl, copies_eq (by omega) (by omega) (by decide) (by decide), Option.bind_some, ← nI_succ, show min (s + 1) 6 = s + 1 by omega]
    refine ⟨_, rfl, fun j hj => ?_⟩
    by_cases e : j = s
    · subst e
      rw [show ((q + 1) % 6 + 6 - (j + 1) + j) % 6 = q by omega, vup_eq]
      exact ⟨Inv_mrg hI, Rel_mrg (Rel_cpy hR)⟩
    · rw [show ((q + 1) % 6 + 6 - (s + 1) + j) % 6 = (q + 6 - s + j) % 6 by omega, vup_ne (by omega)]
      have h := hP j (by omega)
      refine ⟨h.1, Rel_cp h.2 (fun i hi => ?_)⟩
      rw [cpy_out (by omega)]
theorem undo_c {s q n : Nat} {now : ShT} {sv : Nat → ShT} (h0 : 0 < s) (hs : s ≤ 6) (hq : q < 6) : fX2_undo (nI s, nI q, nI n) now sv = some (.inr (nI (s - 1), (nI (s - 1), nI ((q + 5) % 6), nI n), mrgS (sv ((q + 5) % 6)) now)) := by
  have e1 : nI s - 1 = nI (s - 1) := by
    obtain ⟨k, rfl⟩ : ∃ k, s = k + 1 := ⟨s - 1, by omega⟩
    exact nI_pred k
  unfold fX2_undo
  dsimp only
  rw [if_pos (show (1 : Int32) ≤ nI s from nI_le (a := 1) h0 (by omega))]
  have J : ∀ i, i < 6 → fX2_undo_j36 sv ((nI s, nI q, nI n), now, nI i) = some (.inr (nI (s - 1), (nI (s - 1), nI i, nI n), mrgS (sv i) now)) := by
    intro i hi
    unfold fX2_undo_j36 fX2_savedAt
    dsimp only
    rw [gd_t (pin_nI hi (by decide)), Option.bind_some, become_eq, Option.bind_some, nI_clamp (by omega), e1]
  by_cases h : q = 0
  · subst h
    rw [if_pos (show nI 0 ≤ 0 by decide)]
    exact J 5 (by decide)
  · rw [if_neg (nI_nle (by omega) (by omega))]
    obtain ⟨k, rfl⟩ : ∃ k, q = k + 1 := ⟨q - 1, by omega⟩
    rw [nI_pred k, show (k + 1 + 5) % 6 = k by omega]
    exact J k (by omega)
theorem undo_0 {q n : Nat} {now : ShT} {sv : Nat → ShT} : fX2_undo (nI 0, nI q, nI n) now sv = some (.inl 2) := by
  unfold fX2_undo
  dsimp only
  rw [if_neg (show ¬ (1 : Int32) ≤ nI 0 by decide)]
theorem undo_r {s q M : Nat} {sv : Nat → ShT} {mo : MoT} {fn pa : Fn} (h0 : 0 < s) (hs : s ≤ 6) (hq : q < 6) (hm : mo.1 = nI s) (hP : Past s q M sv pa) : ∃ fn', fX3_undo mo fn pa = some (nI (s - 1), (nI (s - 1), mo.2.1, 0, mo.2.2.2), fn') ∧ Inv (sv ((q + 5) % 6)) M ∧ Rel (sv ((q + 5) % 6)) fn' 0 ∧ Past (s - 1) ((q + 5) % 6) M sv pa := by
  obtain ⟨m1, m2⟩ := mo
  dsimp only at hm
  subst hm
  have e1 : nI s - 1 = nI (s - 1) := by
    obtain ⟨k, rfl⟩ : ∃ k, s = k + 1 := ⟨s - 1, by omega⟩
    exact nI_pred k
  unfold fX3_undo
  dsimp only
  rw [if_neg (nI_ne0 h0 (by omega)), e1, show (71 : Int32) * nI (s - 1) = nI (71 * (s - 1)) from nI_mul 71 _, show (0 : Int32) = nI 0 from rfl, copies_eq (by omega) (by omega) (by decide) (by decide), Option.bind_some]
  have h := hP (s - 1) (by omega)
  rw [show (q + 6 - s + (s - 1)) % 6 = (q + 5) % 6 by omega] at h
  refine ⟨_, rfl, h.1, Rel_cpy h.2, fun j hj => ?_⟩
  rw [show ((q + 5) % 6 + 6 - (s - 1) + j) % 6 = (q + 6 - s + j) % 6 by omega]
  exact hP j (by omega)
theorem undo_r0 {mo : MoT} {fn pa : Fn} (hm : mo.1 = nI 0) : fX3_undo mo fn pa = some (0, (mo.1, mo.2.1, 1, mo.2.2.2), fn) := by
  unfold fX3_undo fX3_fails
  rw [if_pos (show mo.1 = 0 from hm)]
  rfl
