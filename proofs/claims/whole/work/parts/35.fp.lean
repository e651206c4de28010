theorem sub_nv {T l : Nat} (h1 : 2 ^ l ≤ T) (h2 : T < 2 ^ (l + 1)) (hl : l ≤ 51) (hT : T < 4503599627370496) : FP.dsub (nv 1023 T) (nv 1023 0) = nv (l + 971) (T * 2 ^ (52 - l) - 4503599627370496) := by
  have b1 : 4503599627370496 ≤ T * 2 ^ (52 - l) := by
    have := Nat.mul_le_mul_right (2 ^ (52 - l)) h1
    rw [← Nat.pow_add, show l + (52 - l) = 52 by omega] at this
    exact this
  have b2 : T * 2 ^ (52 - l) < 9007199254740992 := by
    have := Nat.mul_lt_mul_of_pos_right h2 (Nat.two_pow_pos (52 - l))
    rw [← Nat.pow_add, show l + 1 + (52 - l) = 53 by omega] at this
    exact this
  show UInt64.ofNat (FP.Core.encode FP.Core.b64 (FP.Core.round FP.Core.b64 (FP.Core.exactSum (FP.Core.decode FP.Core.b64 (nv 1023 T).toNat) (FP.Core.negate (FP.Core.decode FP.Core.b64 (nv 1023 0).toNat))))) = _
  rw [nv_t (by omega) hT, nv_t (by omega) (by omega), dec_n (by omega) (by omega) hT, dec_n (by omega) (by omega) (by omega)]
  have es : FP.Core.sumUnits false (4503599627370496 + T) (((1023 : Nat) : Int) - 1075) (!false) (4503599627370496 + 0) (((1023 : Nat) : Int) - 1075) (min (((1023 : Nat) : Int) - 1075) (((1023 : Nat) : Int) - 1075)) = T := by
    unfold FP.Core.sumUnits FP.Core.signed FP.Core.inUnits
    rw [show (((1023 : Nat) : Int) - 1075 - min (((1023 : Nat) : Int) - 1075) (((1023 : Nat) : Int) - 1075)).toNat = 0 by omega, Nat.pow_zero, Nat.mul_one, Nat.mul_one, Bool.not_false, if_neg (by decide), if_pos rfl]
    omega
  have hn : T ≠ 0 := by have := Nat.two_pow_pos l; omega
  unfold FP.Core.negate FP.Core.exactSum
  dsimp only
  rw [es]
  unfold FP.Core.sumSign
  rw [if_neg (by omega), Int.natAbs_natCast, show decide ((T : Int) < 0) = false from decide_eq_false (by omega)]
  unfold FP.Core.round
  dsimp only
  rw [rr2 h1 h2 (by omega) (by omega) (by omega), enc_n (E := l + 971) b1 (by omega) (by omega)]
  rfl
theorem mul_nv {E T : Nat} (h1 : 1 ≤ E) (h2 : E ≤ 1022) (hT : T < 4503599627370496) : FP.dmul (nv E T) (nv 1075 0) = nv (E + 52) T := by
  show UInt64.ofNat (FP.Core.encode FP.Core.b64 (FP.Core.round FP.Core.b64 (FP.Core.exactProduct (FP.Core.decode FP.Core.b64 (nv E T).toNat) (FP.Core.decode FP.Core.b64 (nv 1075 0).toNat)))) = nv (E + 52) T
  rw [nv_t (by omega) hT, nv_t (by omega) (by omega), dec_n h1 (by omega) hT, dec_n (by omega) (by omega) (by omega)]
  show UInt64.ofNat (FP.Core.encode FP.Core.b64 (FP.Core.roundRatio FP.Core.b64 false ((4503599627370496 + T) * 2 ^ 52) 1 (((E : Int) - 1075) + (((1075 : Nat) : Int) - 1075)))) = nv (E + 52) T
  rw [rr1 (by omega) (by omega) (by omega) (by omega), enc_n (E := E + 52) (by omega) (by omega) (by omega)]
  exact congrArg UInt64.ofNat (by omega)
theorem d2l_nv {T l : Nat} (h1 : 2 ^ l ≤ T) (h2 : T < 2 ^ (l + 1)) (hl : l ≤ 51) (hT : T < 4503599627370496) : FP.d2l (nv (l + 1023) (T * 2 ^ (52 - l) - 4503599627370496)) = lN T := by
  have b1 : 4503599627370496 ≤ T * 2 ^ (52 - l) := by
    have := Nat.mul_le_mul_right (2 ^ (52 - l)) h1
    rw [← Nat.pow_add, show l + (52 - l) = 52 by omega] at this
    exact this
  have b2 : T * 2 ^ (52 - l) < 9007199254740992 := by
    have := Nat.mul_lt_mul_of_pos_right h2 (Nat.two_pow_pos (52 - l))
    rw [← Nat.pow_add, show l + 1 + (52 - l) = 53 by omega] at this
    exact this
  show FP.Core.toL (FP.Core.decode FP.Core.b64 (nv (l + 1023) (T * 2 ^ (52 - l) - 4503599627370496)).toNat) = lN T
  rw [nv_t (by omega) (by omega), dec_n (by omega) (by omega) (by omega)]
  unfold FP.Core.toL FP.Core.toInt FP.Core.truncate FP.Core.signed
  dsimp only
  rw [show 4503599627370496 + (T * 2 ^ (52 - l) - 4503599627370496) = T * 2 ^ (52 - l) by omega, show ((((l + 1023 : Nat) : Int)) - 1075).toNat = 0 by omega, show (-((((l + 1023 : Nat) : Int)) - 1075)).toNat = 52 - l by omega, Nat.pow_zero, Nat.mul_one, Nat.mul_div_cancel _ (Nat.two_pow_pos _), if_neg (by decide)]
  rw [show max (-2 ^ 63 : Int) (min (2 ^ 63 - 1) (T : Int)) = (T : Int) by omega]
  rfl
theorem shl52 {E : Nat} (h : E ≤ 2046) : lN E <<< ((52 : Int32).toInt64 &&& 63) = lN (E * 4503599627370496) := by
  have e1 : ((52 : Int32).toInt64 &&& 63) = (52 : Int64) := by decide
  have e2 : (52 : Int64).toBitVec.smod 64 = 52#64 := by decide
  have e3 : (52#64).toNat = 52 := by decide
  rw [e1]
  apply Int64.toBitVec_inj.mp
  rw [Int64.toBitVec_shiftLeft, e2, BitVec.shiftLeft_eq', e3]
  apply BitVec.eq_of_toNat_eq
  unfold lN
  rw [BitVec.toNat_shiftLeft, Nat.shiftLeft_eq, Int64.toBitVec_ofNat', Int64.toBitVec_ofNat', BitVec.toNat_ofNat, BitVec.toNat_ofNat]
  omega
theorem nv_l (E T : Nat) : (nv E T).toInt64 = lN (E * 4503599627370496 + T) := rfl
theorem bits_t {E T : Nat} (h : E ≤ 2046) (hT : T < 4503599627370496) : fX2_bitsOfShare_j51 (lN E, nv 1023 T) = some (nv E T).toInt64 := by
  unfold fX2_bitsOfShare_j51
  dsimp only
  rw [one_nv, big_nv, shl52 h, nv_l]
  by_cases h0 : T = 0
  · subst h0
    rw [show FP.dsub (nv 1023 0) (nv 1023 0) = 0 by decide +kernel, show FP.dmul 0 (nv 1075 0) = 0 by decide +kernel, gd_t (by decide), show FP.d2l 0 = lN 0 by decide +kernel, lN_add]
    exact gd_t (by decide)
  · have h1 : 2 ^ T.log2 ≤ T := Nat.log2_self_le h0
    have h2 : T < 2 ^ (T.log2 + 1) := Nat.lt_log2_self
    have hl : T.log2 ≤ 51 := by have := (Nat.log2_lt h0 (k := 52)).mpr hT; omega
    have b2 : T * 2 ^ (52 - T.log2) < 9007199254740992 := by
      have := Nat.mul_lt_mul_of_pos_right h2 (Nat.two_pow_pos (52 - T.log2))
      rw [← Nat.pow_add, show T.log2 + 1 + (52 - T.log2) = 53 by omega] at this
      exact this
    rw [sub_nv h1 h2 hl hT, mul_nv (by omega) (by omega) (by omega), gd_t (nn_nv (by omega) (by omega)), gd_t (nn_nv (by omega) (by omega)), show T.log2 + 971 + 52 = T.log2 + 1023 by omega, d2l_nv h1 h2 hl hT, lN_add]
theorem bits_n {E T : Nat} (h1 : 1 ≤ E) (h2 : E ≤ 1023) (hT : T < 4503599627370496) : fX2_bitsOfShare (nv E T) = some (nv E T).toInt64 := by
  unfold fX2_bitsOfShare
  rw [cmp_0 h1 (by omega) hT, if_pos (by decide)]
  refine lp_from (fun k => (lN (1023 - k), nv (E + k) T, nI k)) 0 (1023 - E) (fun k K _ hk => ?_) (fun K => ?_) 2000 0 (by omega) (by omega) (by omega) <;> unfold fX2_bitsOfShare_l18 <;> dsimp only
  · rw [if_neg (show ¬ (1022 : Int32) ≤ nI k from nI_ge (b := 1022) (by omega) (by decide)), cmp_lt (by omega) (by omega) hT, if_neg (by decide), two_nv, dbl_nv (by omega) (by omega) hT, gd_t (nn_nv (by omega) hT), ← nI_succ, show lN (1023 - k) - 1 = lN (1023 - (k + 1)) from (lN_sub (a := 1023 - k) (b := 1) (by omega))]
    rfl
  · rw [show 1023 - (1023 - E) = E by omega, show E + (1023 - E) = 1023 by omega, bits_t (by omega) hT]
    rcases cmp_ge hT with e | e <;> rw [e, if_pos (show (0 : Int32) ≤ _ by decide), ite_self]
theorem bits_0 : fX2_bitsOfShare 0 = some 0 := by decide +kernel
theorem jbits_n {E T : Nat} (h1 : 1 ≤ E) (h2 : E ≤ 2046) (hT : T < 4503599627370496) : fJxe99ae_doubleToLongBits_ccdee (nv E T) = some (nv E T).toInt64 := by
  unfold fJxe99ae_doubleToLongBits_ccdee fJxe99ae_isNaN_b9ae7
  rw [cmp_self h1 h2 hT, if_pos (by decide), Option.bind_some, if_pos bf]
theorem jbits_0 : fJxe99ae_doubleToLongBits_ccdee 0 = some 0 := by decide +kernel
