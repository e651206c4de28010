theorem imin_le {a b : Int32} (h : a ≤ b) : imin a b = a := if_neg (fun q => by rw [lt_i] at q; rw [le_i] at h; omega)
theorem imin_n {a b : Int32} (h : ¬ a ≤ b) : imin a b = b := if_pos (by rw [le_i] at h; rw [lt_i]; omega)
theorem imax_le {a b : Int32} (h : b ≤ a) : imax a b = a := if_neg (fun q => by rw [lt_i] at q; rw [le_i] at h; omega)
theorem imax_n {a b : Int32} (h : ¬ b ≤ a) : imax a b = b := if_pos (by rw [le_i] at h; rw [lt_i]; omega)
theorem size_eq (a : Int32) : fX3_size a = some (iabs a) := by
  unfold fX3_size iabs
  by_cases h : 0 ≤ a
  · rw [if_pos h, if_pos h]
  · rw [if_neg h, if_neg h, Int32.zero_sub]
theorem Sm_succ (g : Nat → Int32) (w : Int32) (k : Nat) {al le mo ae we wc da : Int32} (h : Sm g w k = (al, le, mo, ae, we, wc, da)) : Sm g w (k + 1) = (al + g k, imin le (g k), imax mo (g k), ae + er g w k, if er g w k ≤ we then we else er g w k, if er g w k ≤ we then wc else nI k, if g k = 0 then da + 1 else da) := by
  show (match Sm g w k with | (al, le, mo, ae, we, wc, da) => (al + g k, imin le (g k), imax mo (g k), ae + er g w k, if er g w k ≤ we then we else er g w k, if er g w k ≤ we then wc else nI k, if g k = 0 then da + 1 else da) : SmT) = _
  rw [h]
/-- the column of the greatest error -/
theorem Sm_w {g : Nat → Int32} {w : Int32} (hp : ∀ k, k < 24 → 0 ≤ (er g w k).toInt) : ∀ k, 0 < k → k ≤ 24 → ∃ n, n < 24 ∧ (Sm g w k).2.2.2.2.2.1 = nI n ∧ (Sm g w k).2.2.2.2.1 = er g w n := by
  intro k
  induction k with
  | zero => intro h; omega
  | succ k ih =>
    intro _ hk
    rcases hs : Sm g w k with ⟨al, le, mo, ae, we, wc, da⟩
    rw [Sm_succ g w k hs]
    dsimp only
    by_cases z : k = 0
    · subst z
      have h0 : we = 0 ∧ wc = 0 := by
        have : (0, g 0, g 0, 0, 0, 0, 0) = ((al, le, mo, ae, we, wc, da) : SmT) := hs
        simp only [Prod.mk.injEq] at this
        exact ⟨this.2.2.2.2.1.symm, this.2.2.2.2.2.1.symm⟩
      refine ⟨0, by omega, ?_, ?_⟩
      · by_cases q : er g w 0 ≤ we
        · rw [if_pos q, h0.2]; rfl
        · rw [if_neg q]
      · by_cases q : er g w 0 ≤ we
        · rw [if_pos q, h0.1]; rw [h0.1, le_i, z_t] at q; have := hp 0 (by omega); exact i_eq (by rw [z_t]; omega)
        · rw [if_neg q]
    · obtain ⟨n, hn, e1, e2⟩ := ih (by omega) (by omega)
      rw [hs] at e1 e2
      dsimp only at e1 e2
      by_cases q : er g w k ≤ we
      · rw [if_pos q, if_pos q]; exact ⟨n, hn, e1, e2⟩
      · rw [if_neg q, if_neg q]; exact ⟨k, by omega, rfl, rfl⟩
def tl (s : SmT) (w : Int32) : Int32 := if w = 3 then s.1 else if w = 4 then s.2.2.1 - s.2.1 else if w = 5 then s.2.2.2.2.1 else if w = 6 then s.2.2.2.2.2.1 else if w = 7 then s.2.2.2.2.2.2 else if w = 8 then s.2.1 else if w = 9 then s.2.2.1 else s.2.2.2.1
theorem tells_eq {mo : MoT} {li : Nat → Int32} {x : ShT} {M v : Nat} (hI : Inv x M) (hM : M ≤ 200000) (hv : v < 6) (hl : ∀ j, j < 24 → li j = Lg x v j) (w : Int32) : fX3_tells mo li (nI v) w = some (tl (Sx x v) w) := by
  have hp : ∀ k, k < 24 → 0 ≤ (er (Lg x v) (Wv v) k).toInt := fun k hk => (er_b hI hM hv hk).1
  have hw : (20 : Int32) <<< (nI v &&& 31) = Wv v := rfl
  unfold fX3_tells
  rw [k0, hl 0 (by decide)]
  refine lp_run (fun k => (nI v, w, (Sm (Lg x v) (Wv v) k).1, (Sm (Lg x v) (Wv v) k).2.1, (Sm (Lg x v) (Wv v) k).2.2.1, (Sm (Lg x v) (Wv v) k).2.2.2.2.2.1, (Sm (Lg x v) (Wv v) k).2.2.2.2.2.2, (Sm (Lg x v) (Wv v) k).2.2.2.1, nI k)) 24 (fun k K hk => ?_) (fun K => ?_) 2000 0 (by omega) (by omega)
  · rcases hs : Sm (Lg x v) (Wv v) k with ⟨al, le, mx, ae, we, wc, da⟩
    rw [Sm_succ _ _ k hs]
    have hN : ∃ n, n < 24 ∧ wc = nI n ∧ ((er (Lg x v) (Wv v) k ≤ er (Lg x v) (Wv v) n) ↔ er (Lg x v) (Wv v) k ≤ we ∨ k = 0) := by
      by_cases z : k = 0
      · subst z
        have : (0, Lg x v 0, Lg x v 0, 0, 0, 0, 0) = ((al, le, mx, ae, we, wc, da) : SmT) := hs
        simp only [Prod.mk.injEq] at this
        exact ⟨0, by omega, this.2.2.2.2.2.1.symm, fun _ => Or.inr rfl, fun _ => by rw [le_i]; omega⟩
      · obtain ⟨n, hn, e1, e2⟩ := Sm_w hp k (by omega) (by omega)
        rw [hs] at e1 e2
        dsimp only at e1 e2
        exact ⟨n, hn, e1, by rw [e2]; exact ⟨Or.inl, fun q => q.resolve_right z⟩⟩
    obtain ⟨n, hn, en, hc⟩ := hN
    unfold fX3_tells_l30 fX3_wanted
    dsimp only
    rw [if_neg (n24 hk), gd_t (pin_nI hk (by decide)), Option.bind_some, nI_clamp (by omega), hl k hk, hw, size_eq, Option.bind_some]
    have J : ∀ (a b c : Int32), fX3_tells_j93 mo li K (nI v, w, a, b, wc, da, ae, nI k, Lg x v k, iabs (Lg x v k - Wv v), c) = K (nI v, w, a, b, c, (if er (Lg x v) (Wv v) k ≤ we then wc else nI k), (if Lg x v k = 0 then da + 1 else da), ae + er (Lg x v) (Wv v) k, nI (k + 1)) := by
      intro a b c
      unfold fX3_tells_j93 fX3_wanted
      dsimp only
      rw [en, gd_t (pin_nI hn (by decide)), Option.bind_some, nI_clamp (by omega), hl n hn, hw, size_eq, Option.bind_some]
      have J2 : ∀ q : Int32, fX3_tells_j122 mo li K (nI v, w, a, b, c, da, ae, nI k, Lg x v k, iabs (Lg x v k - Wv v), q) = K (nI v, w, a, b, c, q, (if Lg x v k = 0 then da + 1 else da), ae + er (Lg x v) (Wv v) k, nI (k + 1)) := by
        intro q
        unfold fX3_tells_j122
        dsimp only
        rw [← nI_succ]
        by_cases z : Lg x v k = 0
        · rw [if_pos z, if_pos z]
        · rw [if_neg z, if_neg z, Int32.add_zero]
      by_cases c1 : iabs (Lg x v k - Wv v) ≤ iabs (Lg x v n - Wv v)
      · rw [if_pos c1, J2]
        rcases hc.mp c1 with q | q
        · rw [if_pos q]
        · subst q
          by_cases q : er (Lg x v) (Wv v) 0 ≤ we
          · rw [if_pos q]
          · rw [if_neg q]
            have : (0, Lg x v 0, Lg x v 0, 0, 0, 0, 0) = ((al, le, mx, ae, we, wc, da) : SmT) := hs
            simp only [Prod.mk.injEq] at this
            rw [← en, ← this.2.2.2.2.2.1]; rfl
      · rw [if_neg c1, J2, if_neg (fun q => c1 (hc.mpr (Or.inl q)))]
    by_cases c1 : le ≤ Lg x v k
    · rw [if_pos c1, imin_le c1]
      by_cases c2 : Lg x v k ≤ mx
      · rw [if_pos c2, imax_le c2, J]
      · rw [if_neg c2, imax_n c2, J]
    · rw [if_neg c1, imin_n c1]
      by_cases c2 : Lg x v k ≤ mx
      · rw [if_pos c2, imax_le c2, J]
      · rw [if_neg c2, imax_n c2, J]
  · obtain ⟨n, hn, e1, e2⟩ := Sm_w hp 24 (by omega) (by omega)
    unfold fX3_tells_l30 fX3_wanted
    dsimp only
    rw [if_pos l24, e1, gd_t (pin_nI hn (by decide)), Option.bind_some, nI_clamp (by omega), hl n hn, hw, size_eq, Option.bind_some, show iabs (Lg x v n - Wv v) = (Sm (Lg x v) (Wv v) 24).2.2.2.2.1 from e2.symm, ← e1]
    unfold tl
    by_cases w3 : w = 3
    · rw [if_pos w3, if_pos w3]
    rw [if_neg w3, if_neg w3]
    by_cases w4 : w = 4
    · rw [if_pos w4, if_pos w4]
    rw [if_neg w4, if_neg w4]
    by_cases w5 : w = 5
    · rw [if_pos w5, if_pos w5]
    rw [if_neg w5, if_neg w5]
    by_cases w6 : w = 6
    · rw [if_pos w6, if_pos w6]
    rw [if_neg w6, if_neg w6]
    by_cases w7 : w = 7
    · rw [if_pos w7, if_pos w7]
    rw [if_neg w7, if_neg w7]
    by_cases w8 : w = 8
    · rw [if_pos w8, if_pos w8]
    rw [if_neg w8, if_neg w8]
    by_cases w9 : w = 9
    · rw [if_pos w9, if_pos w9]
    rw [if_neg w9, if_neg w9]
