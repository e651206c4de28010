/-! doubles: shares of whole numbers, and their bits -/
theorem lg2 {n k : Nat} (h1 : 2 ^ k ≤ n) (h2 : n < 2 ^ (k + 1)) : n.log2 = k := by
  have h0 : n ≠ 0 := by have := Nat.two_pow_pos k; omega
  have a := (Nat.log2_lt h0).mpr h2
  have b := (Nat.le_log2 h0).mpr h1
  omega
theorem q_min : FP.Core.b64.qmin = -1074 := by decide
theorem q_max : FP.Core.b64.qmax = 971 := by decide
theorem b_p : FP.Core.b64.p = 53 := rfl
theorem b_t : FP.Core.b64.tails = 4503599627370496 := by decide
theorem b_e : FP.Core.b64.exps = 2048 := by decide
theorem lead1 {n l : Nat} (h1 : 2 ^ l ≤ n) (h2 : n < 2 ^ (l + 1)) : FP.Core.leading n 1 = l := by
  unfold FP.Core.leading
  rw [lg2 h1 h2, show Nat.log2 1 = 0 by decide]
  dsimp only
  rw [show ((l : Int) - ((0 : Nat) : Int)) = l by omega, Int.toNat_natCast, show (-(l : Int)).toNat = 0 by omega, if_pos (by omega)]
theorem rr1 {c j : Nat} {e : Int} (h1 : 4503599627370496 ≤ c) (h2 : c < 9007199254740992) (hq1 : -1074 ≤ e + j) (hq2 : e + j ≤ 971) : FP.Core.roundRatio FP.Core.b64 false (c * 2 ^ j) 1 e = .fin false c (e + j) := by
  have hp := Nat.two_pow_pos j
  have a1 : 2 ^ (52 + j) ≤ c * 2 ^ j := by rw [Nat.pow_add]; exact Nat.mul_le_mul_right _ h1
  have a2 : c * 2 ^ j < 2 ^ (52 + j + 1) := by rw [show 52 + j + 1 = 53 + j by omega, Nat.pow_add]; exact Nat.mul_lt_mul_of_pos_right h2 hp
  have hn : c * 2 ^ j ≠ 0 := by have := Nat.two_pow_pos (52 + j); omega
  unfold FP.Core.roundRatio FP.Core.quantum
  rw [if_neg hn, lead1 a1 a2, q_min, b_p, show max (-1074 : Int) (((52 + j : Nat) : Int) + e - (((53 : Nat) : Int) - 1)) = e + j by omega]
  unfold FP.Core.roundAt FP.Core.unitsNum FP.Core.unitsDen FP.Core.nearest
  rw [show (e - (e + (j : Int))).toNat = 0 by omega, show (e + (j : Int) - e).toNat = j by omega, Nat.pow_zero, Nat.mul_one, Nat.one_mul, Nat.mul_mod_left, if_pos (by omega), Nat.mul_div_cancel _ hp]
  unfold FP.Core.settle FP.Core.bound
  rw [b_p, if_pos h2, q_max, if_pos hq2]
theorem rr2 {t l : Nat} {e : Int} (h1 : 2 ^ l ≤ t) (h2 : t < 2 ^ (l + 1)) (hl : l ≤ 52) (hq1 : -1074 ≤ e + l - 52) (hq2 : e + l - 52 ≤ 971) : FP.Core.roundRatio FP.Core.b64 false t 1 e = .fin false (t * 2 ^ (52 - l)) (e + l - 52) := by
  have hp := Nat.two_pow_pos l
  have hn : t ≠ 0 := by omega
  have a2 : t * 2 ^ (52 - l) < 2 ^ 53 := by
    have := Nat.mul_lt_mul_of_pos_right h2 (Nat.two_pow_pos (52 - l))
    rw [← Nat.pow_add, show l + 1 + (52 - l) = 53 by omega] at this
    exact this
  unfold FP.Core.roundRatio FP.Core.quantum
  rw [if_neg hn, lead1 h1 h2, q_min, b_p, show max (-1074 : Int) ((l : Int) + e - (((53 : Nat) : Int) - 1)) = e + l - 52 by omega]
  unfold FP.Core.roundAt FP.Core.unitsNum FP.Core.unitsDen FP.Core.nearest
  rw [show (e - (e + (l : Int) - 52)).toNat = 52 - l by omega, show (e + (l : Int) - 52 - e).toNat = 0 by omega, Nat.pow_zero, Nat.mod_one, if_pos (by omega), Nat.mul_one, Nat.div_one]
  unfold FP.Core.settle FP.Core.bound
  rw [b_p, if_pos a2, q_max, if_pos hq2]
theorem rr0 {e : Int} : FP.Core.roundRatio FP.Core.b64 false 0 1 e = .fin false 0 (-1074) := by
  unfold FP.Core.roundRatio
  rw [if_pos rfl, q_min]
/-- the bits of a normal number -/
theorem enc_n {c : Nat} {q : Int} {E : Nat} (h1 : 4503599627370496 ≤ c) (h0 : -1074 ≤ q) (hE : q + 1075 = E) : FP.Core.encode FP.Core.b64 (.fin false c q) = E * 4503599627370496 + (c - 4503599627370496) := by
  unfold FP.Core.encode FP.Core.assemble
  dsimp only
  rw [b_t, if_neg (by omega), q_min, b_e]
  rw [show (q - -1074).toNat + 1 = E by omega]
  simp
theorem dec_n {E T : Nat} (h1 : 1 ≤ E) (h2 : E ≤ 2046) (hT : T < 4503599627370496) : FP.Core.decode FP.Core.b64 (E * 4503599627370496 + T) = .fin false (4503599627370496 + T) ((E : Int) - 1075) := by
  have e1 : FP.Core.fieldE FP.Core.b64 (E * 4503599627370496 + T) = E := by unfold FP.Core.fieldE; rw [b_t, b_e]; omega
  have e2 : FP.Core.fieldT FP.Core.b64 (E * 4503599627370496 + T) = T := by unfold FP.Core.fieldT; rw [b_t]; omega
  have e3 : FP.Core.fieldS FP.Core.b64 (E * 4503599627370496 + T) = false := by
    unfold FP.Core.fieldS; rw [b_t, b_e]
    rw [show (E * 4503599627370496 + T) / 4503599627370496 / 2048 % 2 = 0 by omega]; rfl
  unfold FP.Core.decode
  rw [e1, e2, e3, b_e, if_neg (by omega), if_neg (by omega), b_t, q_min]
  congr 1
  omega
def nv (E T : Nat) : UInt64 := UInt64.ofNat (E * 4503599627370496 + T)
theorem nv_t {E T : Nat} (h2 : E ≤ 2046) (hT : T < 4503599627370496) : (nv E T).toNat = E * 4503599627370496 + T := by
  unfold nv
  rw [UInt64.toNat_ofNat']
  omega
theorem nn_nv {E T : Nat} (h2 : E ≤ 2046) (hT : T < 4503599627370496) : nn64 (nv E T) = true := by
  refine decide_eq_true ?_
  rw [UInt64.le_iff_toNat_le, UInt64.toNat_and, nv_t h2 hT, show (0x7fffffffffffffff : UInt64).toNat = 2 ^ 63 - 1 by decide, Nat.and_two_pow_sub_one_eq_mod, show (0x7ff0000000000000 : UInt64).toNat = 9218868437227405312 by decide]
  omega
theorem two_nv : (4611686018427387904 : UInt64) = nv 1024 0 := by decide
theorem one_nv : FP.dconst1 = nv 1023 0 := by decide
theorem big_nv : (4841369599423283200 : UInt64) = nv 1075 0 := by decide
theorem zero_d : FP.Core.decode FP.Core.b64 (0 : UInt64).toNat = .fin false 0 (-1074) := by decide
