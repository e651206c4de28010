/-! the digest, as the reference makes it -/
theorem nI_sub {a b : Nat} (h : b ≤ a) : nI a - nI b = nI (a - b) := by
  have e : nI a = nI (a - b) + nI b := by rw [nI_add, show a - b + b = a by omega]
  rw [e, Int32.add_sub_cancel]
theorem nI_div {a b : Nat} (ha : a < 2 ^ 31) (h0 : 0 < b) (hb : b < 2 ^ 31) : nI a / nI b = nI (a / b) := by
  have h : a / b ≤ a := Nat.div_le_self _ _
  refine i_eq ?_
  rw [ti_div (by rw [nI_toInt ha]; omega) (by rw [nI_toInt hb]; omega), nI_toInt ha, nI_toInt hb, nI_toInt (by omega)]
  rfl
theorem nI_rem {a b : Nat} (ha : a < 2 ^ 31) (h0 : 0 < b) (hb : b < 2 ^ 31) : nI a - nI a / nI b * nI b = nI (a % b) := by
  rw [nI_div ha h0 hb, nI_mul, nI_sub (Nat.div_mul_le_self _ _), Nat.mod_eq_sub_div_mul]
theorem BF_b (E : Int32 → Int32) (lo : Int32) : ∀ k, ∃ j, j ≤ k ∧ (BF E lo k).1 = lo + nI j := by
  intro k
  induction k with
  | zero => exact ⟨0, Nat.le_refl _, (Int32.add_zero lo).symm⟩
  | succ k ih =>
    obtain ⟨j, hj, e⟩ := ih
    show ∃ j, j ≤ k + 1 ∧ (if (BF E lo k).2 = -1 then (lo + nI k, E (lo + nI k)) else if (BF E lo k).2 ≤ E (lo + nI k) then BF E lo k else (lo + nI k, E (lo + nI k))).1 = lo + nI j
    by_cases c1 : (BF E lo k).2 = -1
    · rw [if_pos c1]; exact ⟨k, by omega, rfl⟩
    · rw [if_neg c1]
      by_cases c2 : (BF E lo k).2 ≤ E (lo + nI k)
      · rw [if_pos c2]; exact ⟨j, by omega, e⟩
      · rw [if_neg c2]; exact ⟨k, by omega, rfl⟩
theorem l_add {a b : Int32} (h1 : -2147483648 ≤ a.toInt + b.toInt) (h2 : a.toInt + b.toInt < 2147483648) : (a + b).toInt64 = a.toInt64 + b.toInt64 := by
  refine Int64.toInt_inj.mp ?_
  have ba := a.toInt_lt
  have bb := b.toInt_lt
  have ca := a.le_toInt
  have cb := b.le_toInt
  rw [Int64.toInt_add, Int32.toInt_toInt64, Int32.toInt_toInt64, Int32.toInt_toInt64, ti_add h1 h2]
  exact (Int.bmod_eq_of_le (by omega) (by omega)).symm
abbrev DgT : Type := MoT × Fn × Fn × Fn × Fn × Int64 × Int32
abbrev DgR : Type := Int64 × MoT × Fn × Fn × Fn × Fn
def DgQ (m : MoT) (X : Int64) (o : Option DgR) : Prop := ∃ r, o = some (X, m, r)
section
variable {x : ShT} {fn tx ft le co li : Fn} {M n : Nat} {m : MoT} {h : Int64}
theorem B1_b (hR : Rel x fn 0) (hI : Inv x M) (hM : M ≤ 200000) : (B1 fn + 100).toInt64 = (B1 fn).toInt64 + 100 := by
  obtain ⟨r', e2⟩ := bestC_r (mo := zm) (ft := zf) (le := zf) (co := zf) (li := zf) (Inv_mrg (x := iniS) hI) hM (show 1 < 6 by decide) (Rel_mrg (x := iniS) hR)
  have e : B1 fn = (BF (fun a => tl (Sx (Zc (mrgS x iniS) 1 a) 1) 10) (-50) 101).1 := by
    unfold B1
    rw [show fX3_best zm fn zf zf zf zf (nI 9) (-50) 50 (nI 1) 10 = _ from e2, Vo_s]
  obtain ⟨j, hj, ej⟩ := BF_b (fun a => tl (Sx (Zc (mrgS x iniS) 1 a) 1) 10) (-50) 101
  rw [e, ej]
  have i := it_c (k := j) hj
  exact l_add (b := 100) (by rw [i, show (100 : Int32).toInt = 100 from rfl]; omega) (by rw [i, show (100 : Int32).toInt = 100 from rfl]; omega)
theorem dg344 (hm : m.2.1 = nI n) (hn : n ≤ 60) : lp (fX3_digest_l344 fn tx) 2000 (m, ft, le, co, li, h, 0) = some (Hh h tx n, m, ft, le, co, li) := by
  refine lp_run (fun k => (m, ft, le, co, li, Hh h tx k, nI k)) n (fun k K hk => ?_) (fun K => ?_) 2000 0 (by omega) (by omega) <;> unfold fX3_digest_l344 <;> dsimp only
  · rw [hm, if_neg (nI_ge hk (by omega)), gd_t (pin_nI (by omega) (by decide)), nI_clamp (by omega), ← nI_succ, Hh_s]
  · rw [hm, if_pos (nI_le (Nat.le_refl _) (by omega))]
theorem dg275 (hR : Rel x fn 0) (hI : Inv x M) (hM : M + 200 ≤ 200000) (hm : m.2.1 = nI n) (hn : n ≤ 60) : DgQ m (Hh (31 * (31 * (31 * Hh h (V7 fn) 3 + (G8 fn).toInt64) + Z9 fn) + (nI n).toInt64) tx n) (lp (fX3_digest_l275 fn tx) 2000 (m, ft, le, co, li, h, 0)) := by
  refine lp_q (fun k (s : DgT) => ∃ a b c d, s = (m, a, b, c, d, Hh h (V7 fn) k, nI k)) (DgQ m (Hh (31 * (31 * (31 * Hh h (V7 fn) 3 + (G8 fn).toInt64) + Z9 fn) + (nI n).toInt64) tx n)) 3 (fun k s K hk hP => ?_) (fun s K hP => ?_) 2000 0 (m, ft, le, co, li, h, 0) (by omega) (by omega) ⟨ft, le, co, li, rfl⟩ <;> obtain ⟨a, b, c, d, rfl⟩ := hP <;> unfold fX3_digest_l275 <;> dsimp only
  · obtain ⟨⟨r1, r2, r3, r4⟩, e⟩ := V7_r (mo := m) (ft := a) (le := b) (co := c) (li := d) hR hI hM hk
    rw [if_neg (show ¬ (3 : Int32) ≤ nI k from nI_ge (b := 3) hk (by decide)), show fX3_byShooting m fn a b c d 0 9 (nI k) = _ from e, Option.bind_some, ← nI_succ]
    dsimp only
    rw [Hh_s]
    exact ⟨_, ⟨r1, r2, r3, r4, rfl⟩, rfl⟩
  · obtain ⟨⟨r1, r2, r3, r4⟩, e⟩ := G8_r (mo := m) (ft := a) (le := b) (co := c) (li := d) hR hI hM
    obtain ⟨⟨s1, s2, s3⟩, e1, e2⟩ := E9_r (mo := m) (le := r2) (co := r3) (li := r4) hR hI (by omega)
    rw [if_pos (show (3 : Int32) ≤ nI 3 by decide), show fX3_good m fn a b c d 3 60 = _ from e, Option.bind_some]
    dsimp only
    rw [show fX3_share m fn r2 r3 r4 2 = _ from e1, Option.bind_some]
    dsimp only
    rw [e2, Option.bind_some, dg344 hm hn, hm]
    exact ⟨_, rfl⟩
theorem dg215 {K : DgT → Option DgR} {k j : Nat} {H : Int64} (hR : Rel x fn 0) (hI : Inv x M) (hM : M ≤ 200000) (hk : k < 12) (hj : j = colAt k) : ∃ b c d, fX3_digest_j215 fn tx K (m, ft, le, co, li, nI k, nI j, 2, 31 * H) = K (m, ft, b, c, d, 31 * H + (V5 fn k).toInt64, nI (k + 1)) := by
  subst hj
  have hc : colAt k < 24 := by
    unfold colAt
    by_cases q : k < 4
    · rw [if_pos q]; omega
    · rw [if_neg q]
      by_cases q : k < 8
      · rw [if_pos q]; omega
      · rw [if_neg q]; omega
  obtain ⟨⟨r1, r2, r3⟩, e⟩ := A5_r (mo := m) (le := le) (co := co) (li := li) (k := colAt k) (w := k % 4) hR hI hM hc (by omega)
  unfold fX3_digest_j215
  dsimp only
  rw [show nI k - nI k / 4 * 4 = nI (k % 4) from nI_rem (b := 4) (by omega) (by decide) (by decide), show fX3_ofColumn m fn le co li 2 (nI (colAt k)) (nI (k % 4)) = _ from e, Option.bind_some, ← nI_succ]
  exact ⟨r1, r2, r3, rfl⟩
theorem dg180 (hR : Rel x fn 0) (hI : Inv x M) (hM : M + 200 ≤ 200000) (hm : m.2.1 = nI n) (hn : n ≤ 60) : DgQ m (Hh (31 * (31 * (31 * Hh (31 * (31 * Hh h (V5 fn) 12 + (B1 fn + 100).toInt64) + (B2 fn).toInt64) (V7 fn) 3 + (G8 fn).toInt64) + Z9 fn) + (nI n).toInt64) tx n) (lp (fX3_digest_l180 fn tx) 2000 (m, ft, le, co, li, h, 0)) := by
  refine lp_q (fun k (s : DgT) => ∃ a b c d, s = (m, a, b, c, d, Hh h (V5 fn) k, nI k)) (DgQ m (Hh (31 * (31 * (31 * Hh (31 * (31 * Hh h (V5 fn) 12 + (B1 fn + 100).toInt64) + (B2 fn).toInt64) (V7 fn) 3 + (G8 fn).toInt64) + Z9 fn) + (nI n).toInt64) tx n)) 12 (fun k s K hk hP => ?_) (fun s K hP => ?_) 2000 0 (m, ft, le, co, li, h, 0) (by omega) (by omega) ⟨ft, le, co, li, rfl⟩ <;> obtain ⟨a, b, c, d, rfl⟩ := hP <;> unfold fX3_digest_l180 <;> dsimp only
  · rw [if_neg (show ¬ (12 : Int32) ≤ nI k from nI_ge (b := 12) hk (by decide))]
    by_cases q : k < 4
    · obtain ⟨u, v, w, e⟩ := dg215 (tx := tx) (m := m) (ft := a) (le := b) (co := c) (li := d) (K := K) (k := k) (j := 0) (H := Hh h (V5 fn) k) hR hI (by omega) hk (by unfold colAt; rw [if_pos q])
      rw [if_neg (show ¬ (4 : Int32) ≤ nI k from nI_ge (b := 4) q (by decide)), show fX3_digest_j215 fn tx K (m, a, b, c, d, nI k, 0, 2, 31 * Hh h (V5 fn) k) = _ from e, Hh_s]
      exact ⟨_, ⟨a, u, v, w, rfl⟩, rfl⟩
    · rw [if_pos (show (4 : Int32) ≤ nI k from nI_le (a := 4) (by omega) (by omega))]
      by_cases q2 : k < 8
      · obtain ⟨u, v, w, e⟩ := dg215 (tx := tx) (m := m) (ft := a) (le := b) (co := c) (li := d) (K := K) (k := k) (j := 11) (H := Hh h (V5 fn) k) hR hI (by omega) hk (by unfold colAt; rw [if_neg q, if_pos q2])
        rw [if_neg (show ¬ (8 : Int32) ≤ nI k from nI_ge (b := 8) q2 (by decide)), show fX3_digest_j215 fn tx K (m, a, b, c, d, nI k, 11, 2, 31 * Hh h (V5 fn) k) = _ from e, Hh_s]
        exact ⟨_, ⟨a, u, v, w, rfl⟩, rfl⟩
      · obtain ⟨u, v, w, e⟩ := dg215 (tx := tx) (m := m) (ft := a) (le := b) (co := c) (li := d) (K := K) (k := k) (j := 23) (H := Hh h (V5 fn) k) hR hI (by omega) hk (by unfold colAt; rw [if_neg q, if_neg q2])
        rw [if_pos (show (8 : Int32) ≤ nI k from nI_le (a := 8) (by omega) (by omega)), show fX3_digest_j215 fn tx K (m, a, b, c, d, nI k, 23, 2, 31 * Hh h (V5 fn) k) = _ from e, Hh_s]
        exact ⟨_, ⟨a, u, v, w, rfl⟩, rfl⟩
  · obtain ⟨⟨r1, r2, r3, r4⟩, e⟩ := B1_r (mo := m) (ft := a) (le := b) (co := c) (li := d) hR hI (by omega)
    obtain ⟨⟨s1, s2, s3, s4⟩, e1⟩ := B2_r (mo := m) (ft := r1) (le := r2) (co := r3) (li := r4) hR hI (by omega)
    rw [if_pos (show (12 : Int32) ≤ nI 12 by decide), show fX3_best m fn a b c d 9 (-50) 50 1 10 = _ from e, Option.bind_some]
    dsimp only
    rw [show fX3_best m fn r1 r2 r3 r4 5 1 99 2 4 = _ from e1, Option.bind_some]
    dsimp only
    rw [B1_b hR hI (by omega), ← Int64.add_assoc]
    exact dg275 hR hI hM hm hn
theorem dg146 (hR : Rel x fn 0) (hI : Inv x M) (hM : M + 200 ≤ 200000) (hm : m.2.1 = nI n) (hn : n ≤ 60) : DgQ m (Hh (31 * (31 * (31 * Hh (31 * (31 * Hh (Hh h (V4 fn) 54) (V5 fn) 12 + (B1 fn + 100).toInt64) + (B2 fn).toInt64) (V7 fn) 3 + (G8 fn).toInt64) + Z9 fn) + (nI n).toInt64) tx n) (lp (fX3_digest_l146 fn tx) 2000 (m, ft, le, co, li, h, 0)) := by
  refine lp_q (fun k (s : DgT) => ∃ a b c d, s = (m, a, b, c, d, Hh h (V4 fn) k, nI k)) (DgQ m (Hh (31 * (31 * (31 * Hh (31 * (31 * Hh (Hh h (V4 fn) 54) (V5 fn) 12 + (B1 fn + 100).toInt64) + (B2 fn).toInt64) (V7 fn) 3 + (G8 fn).toInt64) + Z9 fn) + (nI n).toInt64) tx n)) 54 (fun k s K hk hP => ?_) (fun s K hP => ?_) 2000 0 (m, ft, le, co, li, h, 0) (by omega) (by omega) ⟨ft, le, co, li, rfl⟩ <;> obtain ⟨a, b, c, d, rfl⟩ := hP <;> unfold fX3_digest_l146 <;> dsimp only
  · obtain ⟨⟨r1, r2, r3⟩, e⟩ := A4_r (mo := m) (le := b) (co := c) (li := d) (v := k / 9) (w := k % 9) hR hI (by omega) (by omega) (by omega)
    rw [if_neg (show ¬ (54 : Int32) ≤ nI k from nI_ge (b := 54) hk (by decide)), show nI k - nI k / 9 * 9 = nI (k % 9) from nI_rem (b := 9) (by omega) (by decide) (by decide), show nI k / 9 = nI (k / 9) from nI_div (b := 9) (by omega) (by decide) (by decide), e, Option.bind_some, ← nI_succ]
    dsimp only
    rw [show A4 fn (k / 9) (k % 9) = V4 fn k from rfl, Hh_s]
    exact ⟨_, ⟨a, r1, r2, r3, rfl⟩, rfl⟩
  · rw [if_pos (show (54 : Int32) ≤ nI 54 by decide)]
    exact dg180 hR hI hM hm hn
theorem dg102 {K : DgT → Option DgR} {u : Nat} (hu : u < 2) : lp (fX3_digest_l102 fn tx K) 2000 (m, ft, le, co, li, Hh h (V3 fn) (28 * u + 4), nI u, 0) = K (m, ft, le, co, li, Hh h (V3 fn) (28 * (u + 1)), nI (u + 1)) := by
  refine lp_run (fun k => (m, ft, le, co, li, Hh h (V3 fn) (28 * u + 4 + k), nI u, nI k)) 24 (fun k K2 hk => ?_) (fun K2 => ?_) 2000 0 (by omega) (by omega) <;> unfold fX3_digest_l102 <;> dsimp only
  · rw [if_neg (n24 hk), pdr, gd_t (pin_nI (by omega) (by decide)), nI_clamp (by omega), ← nI_succ, ← V3_k (fn := fn) (c := u) hk, Hh_s]
    rfl
  · rw [if_pos l24, ← nI_succ, show 28 * u + 4 + 24 = 28 * (u + 1) by omega]
theorem dg64 (hR : Rel x fn 0) (hI : Inv x M) (hM : M ≤ 200000) : lp (fX3_digest_l64 fn tx) 2000 (m, ft, le, co, li, h, 0) = lp (fX3_digest_l146 fn tx) 2000 (m, ft, le, co, li, Hh h (V3 fn) 56, 0) := by
  refine lp_run (fun k => (m, ft, le, co, li, Hh h (V3 fn) (28 * k), nI k)) 2 (fun u K hu => ?_) (fun K => ?_) 2000 0 (by omega) (by omega) <;> unfold fX3_digest_l64 <;> dsimp only
  · rw [if_neg (n2 hu)]
    refine lp_run (fun k => (m, ft, le, co, li, Hh h (V3 fn) (28 * u + k), nI u, nI k)) 4 (fun w K2 hw => ?_) (fun K2 => ?_) 2000 0 (by omega) (by omega) <;> unfold fX3_digest_l72 <;> dsimp only
    · rw [if_neg (show ¬ (4 : Int32) ≤ nI w from nI_ge (b := 4) hw (by decide)), A3_r hR hI hM hu hw, Option.bind_some, ← nI_succ, ← V3_w hw, Hh_s]
      rfl
    · rw [if_pos (show (4 : Int32) ≤ nI 4 by decide)]
      exact dg102 hu
  · rw [if_pos l2]
theorem dig_r {mo : MoT} (hR : Rel x fn 0) (hI : Inv x M) (hM : M + 200 ≤ 200000) (hm : mo.2.1 = nI n) (hn : n ≤ 60) : ∃ r, fX3_digest mo fn ft tx le co li = some (Hh (D9 mo.1 (nI n) fn) tx n, (mo.1, mo.2.1, 0, mo.2.2.2.1, mo.2.2.2.2.1, mo.2.2.2.2.2), r) := by
  unfold fX3_digest
  generalize hq : ((mo.1, mo.2.1, 0, mo.2.2.2.1, mo.2.2.2.2.1, mo.2.2.2.2.2) : MoT) = q
  have q1 : q.1 = mo.1 := by rw [← hq]
  have q2 : q.2.1 = nI n := by rw [← hq]; exact hm
  have e1 : lp (fX3_digest_l11 fn tx) 2000 (q, ft, le, co, li, 3191, 0) = lp (fX3_digest_l37 fn tx) 2000 (q, ft, le, co, li, Hh 3191 (V1 mo.1 fn) 5, 0) := by
    refine lp_run (fun k => (q, ft, le, co, li, Hh 3191 (V1 mo.1 fn) k, nI k)) 5 (fun k K hk => ?_) (fun K => ?_) 2000 0 (by omega) (by omega) <;> unfold fX3_digest_l11 <;> dsimp only
    · rw [if_neg (show ¬ (5 : Int32) ≤ nI k from nI_ge (b := 5) hk (by decide)), V1_r hR hI hk, Option.bind_some, ← nI_succ, q1, Hh_s]
    · rw [if_pos (show (5 : Int32) ≤ nI 5 by decide)]
  have e2 : lp (fX3_digest_l37 fn tx) 2000 (q, ft, le, co, li, Hh 3191 (V1 mo.1 fn) 5, 0) = lp (fX3_digest_l64 fn tx) 2000 (q, ft, le, co, li, Hh (Hh 3191 (V1 mo.1 fn) 5) fn 4, 0) := by
    refine lp_run (fun k => (q, ft, le, co, li, Hh (Hh 3191 (V1 mo.1 fn) 5) fn k, nI k)) 4 (fun k K hk => ?_) (fun K => ?_) 2000 0 (by omega) (by omega) <;> unfold fX3_digest_l37 <;> dsimp only
    · rw [if_neg (show ¬ (4 : Int32) ≤ nI k from nI_ge (b := 4) hk (by decide)), gd_t (pin_nI (by omega) (by decide)), nI_clamp (by omega), ← nI_succ, Hh_s]
    · rw [if_pos (show (4 : Int32) ≤ nI 4 by decide)]
  rw [e1, e2, dg64 hR hI (by omega)]
  exact dg146 hR hI hM q2 hn
end
