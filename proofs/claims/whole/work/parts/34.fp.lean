theorem ci_lt {a b : Int} (h : a < b) : compare a b = .lt := by show compareOfLessAndEq a b = _; unfold compareOfLessAndEq; rw [if_pos h]
theorem ci_eq {a : Int} : compare a a = .eq := by show compareOfLessAndEq a a = _; unfold compareOfLessAndEq; rw [if_neg (by omega), if_pos rfl]
theorem ci_gt {a b : Int} (h : b < a) : compare a b = .gt := by show compareOfLessAndEq a b = _; unfold compareOfLessAndEq; rw [if_neg (by omega), if_neg (by omega)]
theorem dbl_nv {E T : Nat} (h1 : 1 ≤ E) (h2 : E ≤ 1022) (hT : T < 4503599627370496) : FP.dmul (nv E T) (nv 1024 0) = nv (E + 1) T := by
  show UInt64.ofNat (FP.Core.encode FP.Core.b64 (FP.Core.round FP.Core.b64 (FP.Core.exactProduct (FP.Core.decode FP.Core.b64 (nv E T).toNat) (FP.Core.decode FP.Core.b64 (nv 1024 0).toNat)))) = nv (E + 1) T
  rw [nv_t (by omega) hT, nv_t (by omega) (by omega), dec_n h1 (by omega) hT, dec_n (by omega) (by omega) (by omega)]
  show UInt64.ofNat (FP.Core.encode FP.Core.b64 (FP.Core.roundRatio FP.Core.b64 false ((4503599627370496 + T) * 2 ^ 52) 1 (((E : Int) - 1075) + (((1024 : Nat) : Int) - 1075)))) = nv (E + 1) T
  rw [rr1 (by omega) (by omega) (by omega) (by omega), enc_n (E := E + 1) (by omega) (by omega) (by omega)]
  exact congrArg UInt64.ofNat (by omega)
theorem cmp_lt {E T : Nat} (h1 : 1 ≤ E) (h2 : E ≤ 1022) (hT : T < 4503599627370496) : FP.dcmp (nv E T) FP.dconst1 = some .lt := by
  rw [one_nv]
  show FP.Core.order (FP.Core.decode FP.Core.b64 (nv E T).toNat) (FP.Core.decode FP.Core.b64 (nv 1023 0).toNat) = _
  rw [nv_t (by omega) hT, nv_t (by omega) (by omega), dec_n h1 (by omega) hT, dec_n (by omega) (by omega) (by omega)]
  unfold FP.Core.order FP.Core.signed FP.Core.inUnits
  simp only [Bool.false_eq_true, if_false]
  rw [show min ((E : Int) - 1075) (((1023 : Nat) : Int) - 1075) = (E : Int) - 1075 by omega, show ((E : Int) - 1075 - ((E : Int) - 1075)).toNat = 0 by omega, show (((1023 : Nat) : Int) - 1075 - ((E : Int) - 1075)).toNat = (1022 - E) + 1 by omega, Nat.pow_zero, Nat.mul_one, Nat.pow_succ]
  have hp := Nat.two_pow_pos (1022 - E)
  generalize 2 ^ (1022 - E) = z at hp
  have : (((4503599627370496 + T : Nat) : Int)) < (((4503599627370496 + 0) * (z * 2) : Nat) : Int) := by omega
  exact congrArg some (ci_lt this)
theorem cmp_ge {T : Nat} (hT : T < 4503599627370496) : FP.dcmp (nv 1023 T) FP.dconst1 = some .gt ∨ FP.dcmp (nv 1023 T) FP.dconst1 = some .eq := by
  rw [one_nv]
  show FP.Core.order (FP.Core.decode FP.Core.b64 (nv 1023 T).toNat) (FP.Core.decode FP.Core.b64 (nv 1023 0).toNat) = _ ∨ FP.Core.order (FP.Core.decode FP.Core.b64 (nv 1023 T).toNat) (FP.Core.decode FP.Core.b64 (nv 1023 0).toNat) = _
  rw [nv_t (by omega) hT, nv_t (by omega) (by omega), dec_n (by omega) (by omega) hT, dec_n (by omega) (by omega) (by omega)]
  unfold FP.Core.order FP.Core.signed FP.Core.inUnits
  simp only [Bool.false_eq_true, if_false]
  rw [show min (((1023 : Nat) : Int) - 1075) (((1023 : Nat) : Int) - 1075) = ((1023 : Nat) : Int) - 1075 by omega, show (((1023 : Nat) : Int) - 1075 - (((1023 : Nat) : Int) - 1075)).toNat = 0 by omega, Nat.pow_zero, Nat.mul_one, Nat.mul_one]
  by_cases h : T = 0
  · subst h; right; exact congrArg some ci_eq
  · left; exact congrArg some (ci_gt (show ((4503599627370496 + 0 : Nat) : Int) < ((4503599627370496 + T : Nat) : Int) by omega))
theorem cmp_0 {E T : Nat} (h1 : 1 ≤ E) (h2 : E ≤ 2046) (hT : T < 4503599627370496) : FP.dcmp (nv E T) FP.dconst0 = some .gt := by
  show FP.Core.order (FP.Core.decode FP.Core.b64 (nv E T).toNat) (FP.Core.decode FP.Core.b64 (0 : UInt64).toNat) = _
  rw [nv_t (by omega) hT, dec_n h1 (by omega) hT, zero_d]
  unfold FP.Core.order FP.Core.signed FP.Core.inUnits
  simp only [Bool.false_eq_true, if_false]
  rw [Nat.zero_mul]
  have hp := Nat.two_pow_pos (((E : Int) - 1075 - min ((E : Int) - 1075) (-1074)).toNat)
  have : 0 < (4503599627370496 + T) * 2 ^ (((E : Int) - 1075 - min ((E : Int) - 1075) (-1074)).toNat) := Nat.mul_pos (by omega) hp
  exact congrArg some (ci_gt (show ((0 : Nat) : Int) < (((4503599627370496 + T) * 2 ^ (((E : Int) - 1075 - min ((E : Int) - 1075) (-1074)).toNat) : Nat) : Int) by omega))
theorem cmp_self {E T : Nat} (h1 : 1 ≤ E) (h2 : E ≤ 2046) (hT : T < 4503599627370496) : FP.dcmp (nv E T) (nv E T) = some .eq := by
  show FP.Core.order (FP.Core.decode FP.Core.b64 (nv E T).toNat) (FP.Core.decode FP.Core.b64 (nv E T).toNat) = _
  rw [nv_t (by omega) hT, dec_n h1 (by omega) hT]
  unfold FP.Core.order
  exact congrArg some ci_eq
