theorem lg2 {n k : Nat} (h1 : 2 ^ k ≤ n) (h2 : n < 2 ^ (k + 1)) : n.log2 = k := by
  have h0 : n ≠ 0 := by have := Nat.two_pow_pos k; omega
  have a := (Nat.log2_lt h0).mpr h2
  have b := (Nat.le_log2 h0).mpr h1
  omega
theorem q_min : FP.Core.b64.qmin = -1074 := by decide
theorem q_max : FP.Core.b64.qmax = 971 := by decide
theorem b_p : FP.Core.b64.p = 53 := rfl
theorem b_t : FP.Core.b64.tails = 4503599627370496 := by decide
theorem b_e : FP.Core.b64.exps = 2048 := by decide
theorem lead1 {n l : Nat} (h1 : 2 ^ l ≤ n) (h2 : n < 2 ^ (l + 1)) : FP.Core.leading n 1 = l := by
  unfold FP.Core.leading
  rw [lg2 h1 h2, show Nat.log2 1 = 0 by decide]
  dsimp only
  rw [show ((l : Int) - ((0 : Nat) : Int)) = l by omega, Int.toNat_natCast, show (-(l : Int)).toNat = 0 by omega, if_pos (by omega)]
theorem rr2 {t l : Nat} {e : Int} (h1 : 2 ^ l ≤ t) (h2 : t < 2 ^ (l + 1)) (hl : l ≤ 52) (hq1 : -1074 ≤ e + l - 52) (hq2 : e + l - 52 ≤ 971) : FP.Core.roundRatio FP.Core.b64 false t 1 e = .fin false (t * 2 ^ (52 - l)) (e + l - 52) := by
  have hp := Nat.two_pow_pos l
  have hn : t ≠ 0 := by omega
  have a2 : t * 2 ^ (52 - l) < 2 ^ 53 := by
    have := Nat.mul_lt_mul_of_pos_right h2 (Nat.two_pow_pos (52 - l))
    rw [← Nat.pow_add, show l + 1 + (52 - l) = 53 by omega] at this
    exact this
  unfold FP.Core.roundRatio FP.Core.quantum
  rw [if_neg hn, lead1 h1 h2, q_min, b_p, show max (-1074 : Int) ((l : Int) + e - (((53 : Nat) : Int) - 1)) = e + l - 52 by omega]
  unfold FP.Core.roundAt FP.Core.unitsNum FP.Core.unitsDen FP.Core.nearest
  rw [show (e - (e + (l : Int) - 52)).toNat = 52 - l by omega, show (e + (l : Int) - 52 - e).toNat = 0 by omega, Nat.pow_zero, Nat.mod_one, if_pos (by omega), Nat.mul_one, Nat.div_one]
  unfold FP.Core.settle FP.Core.bound
  rw [b_p, if_pos a2, q_max, if_pos hq2]
theorem enc_n {c : Nat} {q : Int} {E : Nat} (h1 : 4503599627370496 ≤ c) (h0 : -1074 ≤ q) (hE : q + 1075 = E) : FP.Core.encode FP.Core.b64 (.fin false c q) = E * 4503599627370496 + (c - 4503599627370496) := by
  unfold FP.Core.encode FP.Core.assemble
  dsimp only
  rw [b_t, if_neg (by omega), q_min, b_e]
  rw [show (q - -1074).toNat + 1 = E by omega]
  simp
theorem dec_n {E T : Nat} (h1 : 1 ≤ E) (h2 : E ≤ 2046) (hT : T < 4503599627370496) : FP.Core.decode FP.Core.b64 (E * 4503599627370496 + T) = .fin false (4503599627370496 + T) ((E : Int) - 1075) := by
  have e1 : FP.Core.fieldE FP.Core.b64 (E * 4503599627370496 + T) = E := by unfold FP.Core.fieldE; rw [b_t, b_e]; omega
  have e2 : FP.Core.fieldT FP.Core.b64 (E * 4503599627370496 + T) = T := by unfold FP.Core.fieldT; rw [b_t]; omega
  have e3 : FP.Core.fieldS FP.Core.b64 (E * 4503599627370496 + T) = false := by
    unfold FP.Core.fieldS; rw [b_t, b_e]
    rw [show (E * 4503599627370496 + T) / 4503599627370496 / 2048 % 2 = 0 by omega]; rfl
  unfold FP.Core.decode
  rw [e1, e2, e3, b_e, if_neg (by omega), if_neg (by omega), b_t, q_min]
  congr 1
  omega
def nv (E T : Nat) : UInt64 := UInt64.ofNat (E * 4503599627370496 + T)
theorem nv_t {E T : Nat} (h2 : E ≤ 2046) (hT : T < 4503599627370496) : (nv E T).toNat = E * 4503599627370496 + T := by
  unfold nv
  rw [UInt64.toNat_ofNat']
  omega
theorem nn_nv {E T : Nat} (h2 : E ≤ 2046) (hT : T < 4503599627370496) : nn64 (nv E T) = true := by
  refine decide_eq_true ?_
  rw [UInt64.le_iff_toNat_le, UInt64.toNat_and, nv_t h2 hT, show (0x7fffffffffffffff : UInt64).toNat = 2 ^ 63 - 1 by decide, Nat.and_two_pow_sub_one_eq_mod, show (0x7ff0000000000000 : UInt64).toNat = 9218868437227405312 by decide]
  omega
theorem one_nv : FP.dconst1 = nv 1023 0 := by decide
theorem zero_d : FP.Core.decode FP.Core.b64 (0 : UInt64).toNat = .fin false 0 (-1074) := by decide
theorem ci_lt {a b : Int} (h : a < b) : compare a b = .lt := by show compareOfLessAndEq a b = _; unfold compareOfLessAndEq; rw [if_pos h]
theorem ci_eq {a : Int} : compare a a = .eq := by show compareOfLessAndEq a a = _; unfold compareOfLessAndEq; rw [if_neg (by omega), if_pos rfl]
theorem ci_gt {a b : Int} (h : b < a) : compare a b = .gt := by show compareOfLessAndEq a b = _; unfold compareOfLessAndEq; rw [if_neg (by omega), if_neg (by omega)]
theorem cmp_lt {E T : Nat} (h1 : 1 ≤ E) (h2 : E ≤ 1022) (hT : T < 4503599627370496) : FP.dcmp (nv E T) FP.dconst1 = some .lt := by
  rw [one_nv]
  show FP.Core.order (FP.Core.decode FP.Core.b64 (nv E T).toNat) (FP.Core.decode FP.Core.b64 (nv 1023 0).toNat) = _
  rw [nv_t (by omega) hT, nv_t (by omega) (by omega), dec_n h1 (by omega) hT, dec_n (by omega) (by omega) (by omega)]
  unfold FP.Core.order FP.Core.signed FP.Core.inUnits
  simp only [Bool.false_eq_true, if_false]
  rw [show min ((E : Int) - 1075) (((1023 : Nat) : Int) - 1075) = (E : Int) - 1075 by omega, show ((E : Int) - 1075 - ((E : Int) - 1075)).toNat = 0 by omega, show (((1023 : Nat) : Int) - 1075 - ((E : Int) - 1075)).toNat = (1022 - E) + 1 by omega, Nat.pow_zero, Nat.mul_one, Nat.pow_succ]
  have hp := Nat.two_pow_pos (1022 - E)
  generalize 2 ^ (1022 - E) = z at hp
  have : (((4503599627370496 + T : Nat) : Int)) < (((4503599627370496 + 0) * (z * 2) : Nat) : Int) := by omega
  exact congrArg some (ci_lt this)
theorem cmp_0 {E T : Nat} (h1 : 1 ≤ E) (h2 : E ≤ 2046) (hT : T < 4503599627370496) : FP.dcmp (nv E T) FP.dconst0 = some .gt := by
  show FP.Core.order (FP.Core.decode FP.Core.b64 (nv E T).toNat) (FP.Core.decode FP.Core.b64 (0 : UInt64).toNat) = _
  rw [nv_t (by omega) hT, dec_n h1 (by omega) hT, zero_d]
  unfold FP.Core.order FP.Core.signed FP.Core.inUnits
  simp only [Bool.false_eq_true, if_false]
  rw [Nat.zero_mul]
  have hp := Nat.two_pow_pos (((E : Int) - 1075 - min ((E : Int) - 1075) (-1074)).toNat)
  have : 0 < (4503599627370496 + T) * 2 ^ (((E : Int) - 1075 - min ((E : Int) - 1075) (-1074)).toNat) := Nat.mul_pos (by omega) hp
  exact congrArg some (ci_gt (show ((0 : Nat) : Int) < (((4503599627370496 + T) * 2 ^ (((E : Int) - 1075 - min ((E : Int) - 1075) (-1074)).toNat) : Nat) : Int) by omega))
theorem cmp_self {E T : Nat} (h1 : 1 ≤ E) (h2 : E ≤ 2046) (hT : T < 4503599627370496) : FP.dcmp (nv E T) (nv E T) = some .eq := by
  show FP.Core.order (FP.Core.decode FP.Core.b64 (nv E T).toNat) (FP.Core.decode FP.Core.b64 (nv E T).toNat) = _
  rw [nv_t (by omega) hT, dec_n h1 (by omega) hT]
  unfold FP.Core.order
  exact congrArg some ci_eq
theorem near_b {n d : Nat} (hd : 0 < d) (h1 : d * 4503599627370496 ≤ n) (h2 : n < d * 9007199254740992) : 4503599627370496 ≤ FP.Core.nearest n d ∧ FP.Core.nearest n d ≤ 9007199254740992 := by
  have a1 : 4503599627370496 ≤ n / d := (Nat.le_div_iff_mul_le hd).mpr (by rw [Nat.mul_comm]; exact h1)
  have a2 : n / d < 9007199254740992 := (Nat.div_lt_iff_lt_mul hd).mpr (by rw [Nat.mul_comm]; exact h2)
  unfold FP.Core.nearest
  by_cases c1 : 2 * (n % d) < d
  · rw [if_pos c1]; omega
  · rw [if_neg c1]
    by_cases c2 : d < 2 * (n % d)
    · rw [if_pos c2]; omega
    · rw [if_neg c2]; omega
theorem lead_cd {c d : Nat} (c1 : 4503599627370496 ≤ c) (c2 : c < 9007199254740992) (d1 : 4503599627370496 ≤ d) (d2 : d < 9007199254740992) : FP.Core.leading c d = if d ≤ c then 0 else -1 := by
  unfold FP.Core.leading
  rw [lg2 (n := c) (k := 52) (by omega) (by omega), lg2 (n := d) (k := 52) (by omega) (by omega)]
  dsimp only
  rw [show (((52 : Nat) : Int) - ((52 : Nat) : Int)) = 0 by omega, show (0 : Int).toNat = 0 from rfl, show (-(0 : Int)).toNat = 0 from rfl, Nat.pow_zero, Nat.mul_one, Nat.mul_one]
  rfl
theorem set_n {m : Nat} {q : Int} (h1 : 4503599627370496 ≤ m) (h2 : m ≤ 9007199254740992) (q1 : -1073 ≤ q) (q2 : q ≤ -53) : ∃ E T, 1 ≤ E ∧ E ≤ 1023 ∧ T < 4503599627370496 ∧ (E ≤ 1022 ∨ T = 0) ∧ FP.Core.encode FP.Core.b64 (FP.Core.settle FP.Core.b64 false m q) = E * 4503599627370496 + T := by
  unfold FP.Core.settle FP.Core.bound
  rw [b_p, q_max]
  by_cases h : m < 2 ^ 53
  · rw [if_pos h, if_pos (by omega)]
    exact ⟨(q + 1075).toNat, m - 4503599627370496, by omega, by omega, by omega, Or.inl (by omega), enc_n h1 (by omega) (by omega)⟩
  · rw [if_neg h, b_t, if_pos (by omega)]
    refine ⟨(q + 1076).toNat, 0, by omega, by omega, by omega, Or.inr rfl, ?_⟩
    rw [enc_n (E := (q + 1076).toNat) (by omega) (by omega) (by omega)]
theorem div_n {c d : Nat} {e : Int} (c1 : 4503599627370496 ≤ c) (c2 : c < 9007199254740992) (d1 : 4503599627370496 ≤ d) (d2 : d < 9007199254740992) (e1 : -100 ≤ e) (e2 : e < 0 ∨ (e = 0 ∧ c ≤ d)) : ∃ E T, 1 ≤ E ∧ E ≤ 1023 ∧ T < 4503599627370496 ∧ (E ≤ 1022 ∨ T = 0) ∧ FP.Core.encode FP.Core.b64 (FP.Core.roundRatio FP.Core.b64 false c d e) = E * 4503599627370496 + T := by
  unfold FP.Core.roundRatio FP.Core.quantum
  rw [if_neg (by omega), lead_cd c1 c2 d1 d2, q_min, b_p]
  unfold FP.Core.roundAt FP.Core.unitsNum FP.Core.unitsDen
  by_cases h : d ≤ c
  · rw [if_pos h, show max (-1074 : Int) (0 + e - (((53 : Nat) : Int) - 1)) = e - 52 by omega, show (e - (e - 52)).toNat = 52 by omega, show (e - 52 - e).toNat = 0 by omega, Nat.pow_zero, Nat.mul_one]
    rcases e2 with e2 | ⟨rfl, e2⟩
    · obtain ⟨n1, n2⟩ := near_b (n := c * 2 ^ 52) (d := d) (by omega) (by omega) (by omega)
      exact set_n n1 n2 (by omega) (by omega)
    · obtain rfl : c = d := by omega
      refine ⟨1023, 0, by omega, by omega, by omega, Or.inr rfl, ?_⟩
      unfold FP.Core.nearest
      rw [Nat.mul_mod_right, if_pos (by omega), Nat.mul_div_cancel_left _ (by omega)]
      decide
  · rw [if_neg h, show max (-1074 : Int) (-1 + e - (((53 : Nat) : Int) - 1)) = e - 53 by omega, show (e - (e - 53)).toNat = 53 by omega, show (e - 53 - e).toNat = 0 by omega, Nat.pow_zero, Nat.mul_one]
    obtain ⟨n1, n2⟩ := near_b (n := c * 2 ^ 53) (d := d) (by omega) (by omega) (by omega)
    exact set_n n1 n2 (by omega) (by omega)
theorem i2d_n {a l : Nat} (h1 : 2 ^ l ≤ a) (h2 : a < 2 ^ (l + 1)) (hl : l ≤ 30) : FP.i2d (nI a) = nv (l + 1023) (a * 2 ^ (52 - l) - 4503599627370496) ∧ 4503599627370496 ≤ a * 2 ^ (52 - l) ∧ a * 2 ^ (52 - l) < 9007199254740992 := by
  have b1 : 4503599627370496 ≤ a * 2 ^ (52 - l) := by
    have := Nat.mul_le_mul_right (2 ^ (52 - l)) h1
    rw [← Nat.pow_add, show l + (52 - l) = 52 by omega] at this
    exact this
  have b2 : a * 2 ^ (52 - l) < 9007199254740992 := by
    have := Nat.mul_lt_mul_of_pos_right h2 (Nat.two_pow_pos (52 - l))
    rw [← Nat.pow_add, show l + 1 + (52 - l) = 53 by omega] at this
    exact this
  have h3 : a < 2 ^ 31 := Nat.lt_of_lt_of_le h2 (Nat.pow_le_pow_right (by omega) (by omega))
  refine ⟨?_, b1, b2⟩
  show UInt64.ofNat (FP.Core.fromInt FP.Core.b64 (nI a).toInt) = _
  rw [nI_toInt h3]
  unfold FP.Core.fromInt FP.Core.ofInt FP.Core.round
  dsimp only
  rw [show decide ((a : Int) < 0) = false from decide_eq_false (by omega), Int.natAbs_natCast, rr2 h1 h2 (by omega) (by omega) (by omega), enc_n (E := l + 1023) b1 (by omega) (by omega)]
  rfl
theorem share_n {a b : Nat} (h0 : 0 < a) (h1 : a ≤ b) (h2 : b < 2 ^ 31) : ∃ E T, 1 ≤ E ∧ E ≤ 1023 ∧ T < 4503599627370496 ∧ (E ≤ 1022 ∨ T = 0) ∧ FP.ddiv (FP.i2d (nI a)) (FP.i2d (nI b)) = nv E T := by
  have a1 : 2 ^ a.log2 ≤ a := Nat.log2_self_le (by omega)
  have a2 : a < 2 ^ (a.log2 + 1) := Nat.lt_log2_self
  have b1 : 2 ^ b.log2 ≤ b := Nat.log2_self_le (by omega)
  have b2 : b < 2 ^ (b.log2 + 1) := Nat.lt_log2_self
  have hb : b.log2 ≤ 30 := by have := (Nat.log2_lt (n := b) (k := 31) (by omega)).mpr h2; omega
  have hab : a.log2 ≤ b.log2 := (Nat.le_log2 (by omega)).mpr (Nat.le_trans a1 h1)
  obtain ⟨ea, ca1, ca2⟩ := i2d_n a1 a2 (by omega)
  obtain ⟨eb, cb1, cb2⟩ := i2d_n b1 b2 hb
  obtain ⟨E, T, q1, q2, q3, q5, q4⟩ := div_n (e := (a.log2 : Int) - b.log2) ca1 ca2 cb1 cb2 (by omega) (by
    by_cases h : a.log2 = b.log2
    · right; refine ⟨by omega, ?_⟩; rw [h]; exact Nat.mul_le_mul_right _ h1
    · left; omega)
  refine ⟨E, T, q1, q2, q3, q5, ?_⟩
  rw [ea, eb]
  show UInt64.ofNat (FP.Core.encode FP.Core.b64 (FP.Core.quotient FP.Core.b64 (FP.Core.decode FP.Core.b64 (nv (a.log2 + 1023) (a * 2 ^ (52 - a.log2) - 4503599627370496)).toNat) (FP.Core.decode FP.Core.b64 (nv (b.log2 + 1023) (b * 2 ^ (52 - b.log2) - 4503599627370496)).toNat))) = _
  rw [nv_t (by omega) (by omega), nv_t (by omega) (by omega), dec_n (by omega) (by omega) (by omega), dec_n (by omega) (by omega) (by omega)]
  unfold FP.Core.quotient
  dsimp only
  rw [if_neg (by omega), show 4503599627370496 + (a * 2 ^ (52 - a.log2) - 4503599627370496) = a * 2 ^ (52 - a.log2) by omega, show 4503599627370496 + (b * 2 ^ (52 - b.log2) - 4503599627370496) = b * 2 ^ (52 - b.log2) by omega, show (((a.log2 + 1023 : Nat) : Int) - 1075 - (((b.log2 + 1023 : Nat) : Int) - 1075)) = (a.log2 : Int) - b.log2 by omega, show (false != false) = false from rfl, q4]
  rfl
theorem share_0 {b : Nat} (h0 : 0 < b) (h2 : b < 2 ^ 31) : FP.ddiv (FP.i2d (nI 0)) (FP.i2d (nI b)) = 0 := by
  have b1 : 2 ^ b.log2 ≤ b := Nat.log2_self_le (by omega)
  have b2 : b < 2 ^ (b.log2 + 1) := Nat.lt_log2_self
  have hb : b.log2 ≤ 30 := by have := (Nat.log2_lt (n := b) (k := 31) (by omega)).mpr h2; omega
  obtain ⟨eb, cb1, cb2⟩ := i2d_n b1 b2 hb
  rw [eb, show FP.i2d (nI 0) = 0 by decide +kernel]
  show UInt64.ofNat (FP.Core.encode FP.Core.b64 (FP.Core.quotient FP.Core.b64 (FP.Core.decode FP.Core.b64 (0 : UInt64).toNat) (FP.Core.decode FP.Core.b64 (nv (b.log2 + 1023) (b * 2 ^ (52 - b.log2) - 4503599627370496)).toNat))) = _
  rw [nv_t (by omega) (by omega), dec_n (by omega) (by omega) (by omega), zero_d]
  unfold FP.Core.quotient FP.Core.roundRatio
  dsimp only
  rw [if_neg (by omega), if_pos rfl, q_min]
  decide
theorem Sm_lm {g : Fn} {w : Int32} {B : Int} (hg : ∀ k, k < 24 → 0 ≤ (g k).toInt ∧ (g k).toInt ≤ B) : ∀ k, k ≤ 24 → 0 ≤ (Sm g w k).2.1.toInt ∧ (Sm g w k).2.1.toInt ≤ (Sm g w k).2.2.1.toInt ∧ (Sm g w k).2.2.1.toInt ≤ B := by
  intro k
  induction k with
  | zero => intro _; have h := hg 0 (by omega); exact ⟨h.1, Int.le_refl _, h.2⟩
  | succ k ih =>
    intro hk
    obtain ⟨a, b, c⟩ := ih (by omega)
    have h := hg k (by omega)
    rcases hs : Sm g w k with ⟨al, le, mo, ae, we, wc, da⟩
    rw [hs] at a b c
    dsimp only at a b c
    rw [Sm_succ g w k hs]
    dsimp only
    rw [imin_t, imax_t]
    omega
