theorem near_b {n d : Nat} (hd : 0 < d) (h1 : d * 4503599627370496 ≤ n) (h2 : n < d * 9007199254740992) : 4503599627370496 ≤ FP.Core.nearest n d ∧ FP.Core.nearest n d ≤ 9007199254740992 := by
  have a1 : 4503599627370496 ≤ n / d := (Nat.le_div_iff_mul_le hd).mpr (by rw [Nat.mul_comm]; exact h1)
  have a2 : n / d < 9007199254740992 := (Nat.div_lt_iff_lt_mul hd).mpr (by rw [Nat.mul_comm]; exact h2)
  unfold FP.Core.nearest
  by_cases c1 : 2 * (n % d) < d
  · rw [if_pos c1]; omega
  · rw [if_neg c1]
    by_cases c2 : d < 2 * (n % d)
    · rw [if_pos c2]; omega
    · rw [if_neg c2]; omega
theorem lead_cd {c d : Nat} (c1 : 4503599627370496 ≤ c) (c2 : c < 9007199254740992) (d1 : 4503599627370496 ≤ d) (d2 : d < 9007199254740992) : FP.Core.leading c d = if d ≤ c then 0 else -1 := by
  unfold FP.Core.leading
  rw [lg2 (n := c) (k := 52) (by omega) (by omega), lg2 (n := d) (k := 52) (by omega) (by omega)]
  dsimp only
  rw [show (((52 : Nat) : Int) - ((52 : Nat) : Int)) = 0 by omega, show (0 : Int).toNat = 0 from rfl, show (-(0 : Int)).toNat = 0 from rfl, Nat.pow_zero, Nat.mul_one, Nat.mul_one]
  rfl
theorem set_n {m : Nat} {q : Int} (h1 : 4503599627370496 ≤ m) (h2 : m ≤ 9007199254740992) (q1 : -1073 ≤ q) (q2 : q ≤ -53) : ∃ E T, 1 ≤ E ∧ E ≤ 1023 ∧ T < 4503599627370496 ∧ FP.Core.encode FP.Core.b64 (FP.Core.settle FP.Core.b64 false m q) = E * 4503599627370496 + T := by
  unfold FP.Core.settle FP.Core.bound
  rw [b_p, q_max]
  by_cases h : m < 2 ^ 53
  · rw [if_pos h, if_pos (by omega)]
    exact ⟨(q + 1075).toNat, m - 4503599627370496, by omega, by omega, by omega, enc_n h1 (by omega) (by omega)⟩
  · rw [if_neg h, b_t, if_pos (by omega)]
    refine ⟨(q + 1076).toNat, 0, by omega, by omega, by omega, ?_⟩
    rw [enc_n (E := (q + 1076).toNat) (by omega) (by omega) (by omega)]
theorem div_n {c d : Nat} {e : Int} (c1 : 4503599627370496 ≤ c) (c2 : c < 9007199254740992) (d1 : 4503599627370496 ≤ d) (d2 : d < 9007199254740992) (e1 : -100 ≤ e) (e2 : e < 0 ∨ (e = 0 ∧ c ≤ d)) : ∃ E T, 1 ≤ E ∧ E ≤ 1023 ∧ T < 4503599627370496 ∧ FP.Core.encode FP.Core.b64 (FP.Core.roundRatio FP.Core.b64 false c d e) = E * 4503599627370496 + T := by
  unfold FP.Core.roundRatio FP.Core.quantum
  rw [if_neg (by omega), lead_cd c1 c2 d1 d2, q_min, b_p]
  unfold FP.Core.roundAt FP.Core.unitsNum FP.Core.unitsDen
  by_cases h : d ≤ c
  · rw [if_pos h, show max (-1074 : Int) (0 + e - (((53 : Nat) : Int) - 1)) = e - 52 by omega, show (e - (e - 52)).toNat = 52 by omega, show (e - 52 - e).toNat = 0 by omega, Nat.pow_zero, Nat.mul_one]
    rcases e2 with e2 | ⟨rfl, e2⟩
    · obtain ⟨n1, n2⟩ := near_b (n := c * 2 ^ 52) (d := d) (by omega) (by omega) (by omega)
      exact set_n n1 n2 (by omega) (by omega)
    · obtain rfl : c = d := by omega
      refine ⟨1023, 0, by omega, by omega, by omega, ?_⟩
      unfold FP.Core.nearest
      rw [Nat.mul_mod_right, if_pos (by omega), Nat.mul_div_cancel_left _ (by omega)]
      decide
  · rw [if_neg h, show max (-1074 : Int) (-1 + e - (((53 : Nat) : Int) - 1)) = e - 53 by omega, show (e - (e - 53)).toNat = 53 by omega, show (e - 53 - e).toNat = 0 by omega, Nat.pow_zero, Nat.mul_one]
    obtain ⟨n1, n2⟩ := near_b (n := c * 2 ^ 53) (d := d) (by omega) (by omega) (by omega)
    exact set_n n1 n2 (by omega) (by omega)
theorem i2d_n {a l : Nat} (h1 : 2 ^ l ≤ a) (h2 : a < 2 ^ (l + 1)) (hl : l ≤ 30) : FP.i2d (nI a) = nv (l + 1023) (a * 2 ^ (52 - l) - 4503599627370496) ∧ 4503599627370496 ≤ a * 2 ^ (52 - l) ∧ a * 2 ^ (52 - l) < 9007199254740992 := by
  have b1 : 4503599627370496 ≤ a * 2 ^ (52 - l) := by
    have := Nat.mul_le_mul_right (2 ^ (52 - l)) h1
    rw [← Nat.pow_add, show l + (52 - l) = 52 by omega] at this
    exact this
  have b2 : a * 2 ^ (52 - l) < 9007199254740992 := by
    have := Nat.mul_lt_mul_of_pos_right h2 (Nat.two_pow_pos (52 - l))
    rw [← Nat.pow_add, show l + 1 + (52 - l) = 53 by omega] at this
    exact this
  have h3 : a < 2 ^ 31 := Nat.lt_of_lt_of_le h2 (Nat.pow_le_pow_right (by omega) (by omega))
  refine ⟨?_, b1, b2⟩
  show UInt64.ofNat (FP.Core.fromInt FP.Core.b64 (nI a).toInt) = _
  rw [nI_toInt h3]
  unfold FP.Core.fromInt FP.Core.ofInt FP.Core.round
  dsimp only
  rw [show decide ((a : Int) < 0) = false from decide_eq_false (by omega), Int.natAbs_natCast, rr2 h1 h2 (by omega) (by omega) (by omega), enc_n (E := l + 1023) b1 (by omega) (by omega)]
  rfl
theorem share_n {a b : Nat} (h0 : 0 < a) (h1 : a ≤ b) (h2 : b < 2 ^ 31) : ∃ E T, 1 ≤ E ∧ E ≤ 1023 ∧ T < 4503599627370496 ∧ FP.ddiv (FP.i2d (nI a)) (FP.i2d (nI b)) = nv E T := by
  have a1 : 2 ^ a.log2 ≤ a := Nat.log2_self_le (by omega)
  have a2 : a < 2 ^ (a.log2 + 1) := Nat.lt_log2_self
  have b1 : 2 ^ b.log2 ≤ b := Nat.log2_self_le (by omega)
  have b2 : b < 2 ^ (b.log2 + 1) := Nat.lt_log2_self
  have hb : b.log2 ≤ 30 := by have := (Nat.log2_lt (n := b) (k := 31) (by omega)).mpr h2; omega
  have hab : a.log2 ≤ b.log2 := (Nat.le_log2 (by omega)).mpr (Nat.le_trans a1 h1)
  obtain ⟨ea, ca1, ca2⟩ := i2d_n a1 a2 (by omega)
  obtain ⟨eb, cb1, cb2⟩ := i2d_n b1 b2 hb
  obtain ⟨E, T, q1, q2, q3, q4⟩ := div_n (e := (a.log2 : Int) - b.log2) ca1 ca2 cb1 cb2 (by omega) (by
    by_cases h : a.log2 = b.log2
    · right; refine ⟨by omega, ?_⟩; rw [h]; exact Nat.mul_le_mul_right _ h1
    · left; omega)
  refine ⟨E, T, q1, q2, q3, ?_⟩
  rw [ea, eb]
  show UInt64.ofNat (FP.Core.encode FP.Core.b64 (FP.Core.quotient FP.Core.b64 (FP.Core.decode FP.Core.b64 (nv (a.log2 + 1023) (a * 2 ^ (52 - a.log2) - 4503599627370496)).toNat) (FP.Core.decode FP.Core.b64 (nv (b.log2 + 1023) (b * 2 ^ (52 - b.log2) - 4503599627370496)).toNat))) = _
  rw [nv_t (by omega) (by omega), nv_t (by omega) (by omega), dec_n (by omega) (by omega) (by omega), dec_n (by omega) (by omega) (by omega)]
  unfold FP.Core.quotient
  dsimp only
  rw [if_neg (by omega), show 4503599627370496 + (a * 2 ^ (52 - a.log2) - 4503599627370496) = a * 2 ^ (52 - a.log2) by omega, show 4503599627370496 + (b * 2 ^ (52 - b.log2) - 4503599627370496) = b * 2 ^ (52 - b.log2) by omega, show (((a.log2 + 1023 : Nat) : Int) - 1075 - (((b.log2 + 1023 : Nat) : Int) - 1075)) = (a.log2 : Int) - b.log2 by omega, show (false != false) = false from rfl, q4]
  rfl
theorem share_0 {b : Nat} (h0 : 0 < b) (h2 : b < 2 ^ 31) : FP.ddiv (FP.i2d (nI 0)) (FP.i2d (nI b)) = 0 := by
  have b1 : 2 ^ b.log2 ≤ b := Nat.log2_self_le (by omega)
  have b2 : b < 2 ^ (b.log2 + 1) := Nat.lt_log2_self
  have hb : b.log2 ≤ 30 := by have := (Nat.log2_lt (n := b) (k := 31) (by omega)).mpr h2; omega
  obtain ⟨eb, cb1, cb2⟩ := i2d_n b1 b2 hb
  rw [eb, show FP.i2d (nI 0) = 0 by decide +kernel]
  show UInt64.ofNat (FP.Core.encode FP.Core.b64 (FP.Core.quotient FP.Core.b64 (FP.Core.decode FP.Core.b64 (0 : UInt64).toNat) (FP.Core.decode FP.Core.b64 (nv (b.log2 + 1023) (b * 2 ^ (52 - b.log2) - 4503599627370496)).toNat))) = _
  rw [nv_t (by omega) (by omega), dec_n (by omega) (by omega) (by omega), zero_d]
  unfold FP.Core.quotient FP.Core.roundRatio
  dsimp only
  rw [if_neg (by omega), if_pos rfl, q_min]
  decide
/-- a share is not NaN, and its bits are worked out as the library does -/
theorem share_v {a b : Nat} (h1 : a ≤ b) (h0 : 0 < b) (h2 : b < 2 ^ 31) : nn64 (FP.ddiv (FP.i2d (nI a)) (FP.i2d (nI b))) = true ∧ FP.dcmp (FP.ddiv (FP.i2d (nI a)) (FP.i2d (nI b))) (FP.ddiv (FP.i2d (nI a)) (FP.i2d (nI b))) = some .eq ∧ ∃ z, fX2_bitsOfShare (FP.ddiv (FP.i2d (nI a)) (FP.i2d (nI b))) = some z ∧ fJxe99ae_doubleToLongBits_ccdee (FP.ddiv (FP.i2d (nI a)) (FP.i2d (nI b))) = some z := by
  by_cases h : a = 0
  · subst h
    rw [share_0 h0 h2]
    exact ⟨by decide +kernel, by decide +kernel, 0, bits_0, jbits_0⟩
  · obtain ⟨E, T, q1, q2, q3, q4⟩ := share_n (by omega) h1 h2
    rw [q4]
    exact ⟨nn_nv (by omega) q3, cmp_self q1 (by omega) q3, _, bits_n q1 q2 q3, jbits_n q1 (by omega) q3⟩
theorem share_1 : FP.dcmp FP.dconst1 FP.dconst1 = some .eq ∧ ∃ z, fX2_bitsOfShare FP.dconst1 = some z ∧ fJxe99ae_doubleToLongBits_ccdee FP.dconst1 = some z := by
  rw [one_nv]
  exact ⟨cmp_self (by omega) (by omega) (by omega), _, bits_n (by omega) (by omega) (by omega), jbits_n (by omega) (by omega) (by omega)⟩
