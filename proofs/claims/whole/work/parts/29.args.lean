/-! arguments, on both sides -/
theorem bt : ¬ b2i true = 0 := by decide
theorem bf : b2i false = 0 := rfl
theorem tb_inr {α β : Type} (u : α) (K : α → Option (Nat ⊕ β)) : tb (some (.inr u)) K = K u := rfl
theorem tb_inl {α β : Type} (e : Nat) (K : α → Option (Nat ⊕ β)) : tb (some (.inl e)) K = some (.inl e) := rfl
theorem tq_inr {α β : Type} (u : α) (K : α → Option β) : tq (some (.inr u)) K = K u := rfl
theorem arg_i (v : Int32) (n : Nat) (hn : 0 < n) (h2 : n < 1000) : (∃ c, c < n ∧ v = nI c ∧ fX2_needIndex v (nI n) = some (.inr ()) ∧ fX3_in v 0 (nI (n - 1)) = some true) ∨ (fX2_needIndex v (nI n) = some (.inl 0) ∧ fX3_in v 0 (nI (n - 1)) = some false) := by
  unfold fX2_needIndex fX3_in
  by_cases h0 : v < 0
  · right; rw [if_pos h0, if_pos h0]; exact ⟨rfl, rfl⟩
  · obtain ⟨c, hc, rfl⟩ := nI_of h0
    by_cases h : c < n
    · left
      exact ⟨c, h, rfl, by rw [if_neg h0, if_pos (nI_lt h (by omega))], by rw [if_neg h0, if_neg (nI_nlt (by omega) (by omega))]⟩
    · right
      rw [if_neg h0, if_neg h0, if_neg (nI_nlt (by omega) (by omega)), if_pos (nI_lt (by omega) (by omega))]
      exact ⟨rfl, rfl⟩
theorem arg_r (v lo hi : Int32) : (lo ≤ v ∧ v ≤ hi ∧ fX2_needRange v lo hi = some (.inr ()) ∧ fX3_in v lo hi = some true) ∨ (fX2_needRange v lo hi = some (.inl 1) ∧ fX3_in v lo hi = some false) := by
  unfold fX2_needRange fX3_in
  by_cases h0 : v < lo
  · right; rw [if_pos h0, if_pos h0]; exact ⟨rfl, rfl⟩
  · by_cases h : v ≤ hi
    · left
      refine ⟨?_, h, ?_, ?_⟩
      · rw [le_i]; rw [lt_i] at h0; omega
      · rw [if_neg h0, if_pos h]
      · rw [if_neg h0, if_neg (fun q => by rw [lt_i] at q; rw [le_i] at h; omega)]
    · right
      rw [if_neg h0, if_neg h0, if_neg h, if_pos (by rw [lt_i]; rw [le_i] at h; omega)]
      exact ⟨rfl, rfl⟩
theorem nn_of {v : Int32} {a b : Nat} (hb : b < 1000) (h1 : nI a ≤ v) (h2 : v ≤ nI b) (ha : a ≤ b) : ∃ c, a ≤ c ∧ c ≤ b ∧ v = nI c := by
  rw [le_i, nI_toInt (by omega)] at h1 h2
  exact ⟨v.toInt.toNat, by omega, by omega, i_eq (by rw [nI_toInt (by omega)]; omega)⟩
theorem arg_n (v : Int32) (a b : Nat) (ha : a ≤ b) (hb : b < 1000) : (∃ c, a ≤ c ∧ c ≤ b ∧ v = nI c ∧ fX2_needRange v (nI a) (nI b) = some (.inr ()) ∧ fX3_in v (nI a) (nI b) = some true) ∨ (fX2_needRange v (nI a) (nI b) = some (.inl 1) ∧ fX3_in v (nI a) (nI b) = some false) := by
  rcases arg_r v (nI a) (nI b) with ⟨h1, h2, h3, h4⟩ | h
  · obtain ⟨c, q1, q2, q3⟩ := nn_of hb h1 h2 ha
    exact Or.inl ⟨c, q1, q2, q3, h3, h4⟩
  · exact Or.inr h
theorem arg_c (v : Int32) : (∃ c, c < 2 ∧ v = nI c ∧ fX2_needCurtain v = some (.inr ()) ∧ fX3_isCurtain v = some true) ∨ (fX2_needCurtain v = some (.inl 0) ∧ fX3_isCurtain v = some false) := by
  unfold fX2_needCurtain fX3_isCurtain
  rcases arg_i v 2 (by decide) (by decide) with ⟨c, h1, h2, h3, h4⟩ | ⟨h3, h4⟩
  · left; refine ⟨c, h1, h2, ?_, ?_⟩
    · rw [show fX2_needIndex v 2 = _ from h3]; rfl
    · rw [show fX3_in v 0 1 = _ from h4]; rfl
  · right; constructor
    · rw [show fX2_needIndex v 2 = _ from h3]; rfl
    · rw [show fX3_in v 0 1 = _ from h4]; rfl
theorem arg_v (v : Int32) : (∃ c, c < 6 ∧ v = nI c ∧ fX2_needSpeed v = some (.inr ()) ∧ fX3_isSpeed v = some true) ∨ (fX2_needSpeed v = some (.inl 0) ∧ fX3_isSpeed v = some false) := by
  unfold fX2_needSpeed fX3_isSpeed
  rcases arg_i v 6 (by decide) (by decide) with ⟨c, h1, h2, h3, h4⟩ | ⟨h3, h4⟩
  · left; refine ⟨c, h1, h2, ?_, ?_⟩
    · rw [show fX2_needIndex v 6 = _ from h3]; rfl
    · rw [show fX3_in v 0 5 = _ from h4]; rfl
  · right; constructor
    · rw [show fX2_needIndex v 6 = _ from h3]; rfl
    · rw [show fX3_in v 0 5 = _ from h4]; rfl
theorem arg_s (v : Int32) : (∃ c, c < 4 ∧ v = nI c ∧ fX2_needSetting v = some (.inr ()) ∧ fX3_in v 0 3 = some true) ∨ (fX2_needSetting v = some (.inl 0) ∧ fX3_in v 0 3 = some false) := by
  unfold fX2_needSetting
  rcases arg_i v 4 (by decide) (by decide) with ⟨c, h1, h2, h3, h4⟩ | ⟨h3, h4⟩
  · left; refine ⟨c, h1, h2, ?_, h4⟩
    · rw [show fX2_needIndex v 4 = _ from h3]; rfl
  · right; refine ⟨?_, h4⟩
    · rw [show fX2_needIndex v 4 = _ from h3]; rfl
theorem arg_k (v : Int32) : (∃ c, c < 24 ∧ v = nI c ∧ fX2_needIndex v 24 = some (.inr ()) ∧ fX3_isColumn v = some true) ∨ (fX2_needIndex v 24 = some (.inl 0) ∧ fX3_isColumn v = some false) := by
  unfold fX3_isColumn
  rcases arg_i v 24 (by decide) (by decide) with ⟨c, h1, h2, h3, h4⟩ | ⟨h3, h4⟩
  · left; refine ⟨c, h1, h2, h3, ?_⟩
    · rw [show fX3_in v 0 23 = _ from h4]; rfl
  · right; refine ⟨h3, ?_⟩
    · rw [show fX3_in v 0 23 = _ from h4]; rfl
theorem needC {c : Nat} (h : c < 2) : fX2_needCurtain (nI c) = some (.inr ()) := by
  rcases arg_c (nI c) with ⟨_, _, _, h3, _⟩ | ⟨h3, h4⟩
  · exact h3
  · exfalso
    rcases (by omega : c = 0 ∨ c = 1) with rfl | rfl <;> revert h4 <;> unfold fX3_isCurtain fX3_in <;> decide
theorem needV {c : Nat} (h : c < 6) : fX2_needSpeed (nI c) = some (.inr ()) := by
  unfold fX2_needSpeed fX2_needIndex
  rw [if_neg (nI_pos (by omega)), if_pos (show nI c < 6 from nI_lt (b := 6) h (by decide))]
  rfl
theorem needS {c : Nat} (h : c < 4) : fX2_needSetting (nI c) = some (.inr ()) := by
  unfold fX2_needSetting fX2_needIndex
  rw [if_neg (nI_pos (by omega)), if_pos (show nI c < 4 from nI_lt (b := 4) h (by decide))]
  rfl
theorem needK {c : Nat} (h : c < 24) : fX2_needIndex (nI c) 24 = some (.inr ()) := by
  unfold fX2_needIndex
  rw [if_neg (nI_pos (by omega)), if_pos (show nI c < 24 from nI_lt (b := 24) h (by decide))]
theorem needR {c a b : Nat} (h1 : a ≤ c) (h2 : c ≤ b) (hb : b < 1000) : fX2_needRange (nI c) (nI a) (nI b) = some (.inr ()) := by
  unfold fX2_needRange
  rw [if_neg (nI_nlt h1 (by omega)), if_pos (nI_le h2 (by omega))]
