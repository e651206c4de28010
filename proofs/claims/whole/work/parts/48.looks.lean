/-! the calls that only look: class and reference answer alike -/
theorem of_set {o : Nat → UInt64} {v : UInt64} : vf_upd o (Int32.toNatClampNeg 0) v 0 = v := by rw [k0]; exact if_pos rfl
theorem cmp_z : Op.cmpValue (some .eq) CmpOp.l = 0 := by decide
section
variable {M : Nat} {bo : BoT} {now pr : ShT} {ex : ExT} {sv : Nat → ShT} {buf : Fn} {mo : MoT} {fn ft pa tx le co li : Fn} {o9 : Nat → Int64}
theorem curtain_l {a b : Int32} (h : St M bo now sv buf mo fn pa tx) (hM : M + 300 ≤ 200000) : ∃ e o' r mo', fL_curtain bo now a b o9 = some (e, o') ∧ fX3_curtain mo fn a b = some (r, mo') ∧ mo'.2.2.1 = e ∧ (e = 0 → o' 0 = r.toInt64) ∧ St (M + 300) bo now sv buf mo' fn pa tx := by
  unfold fL_curtain fX3_curtain
  rcases arg_c a with ⟨c, hc, rfl, e1, e2⟩ | ⟨e1, e2⟩
  · rcases arg_n b 0 3 (by decide) (by decide) with ⟨w, _, w2, rfl, e3, e4⟩ | ⟨e3, e4⟩
    · obtain ⟨y, e5, e6⟩ := curtain_v (bo := bo) (mo := m0 mo) (St_R h) (St_I h) (by omega) hc (show w < 4 by omega)
      rw [e2, Option.bind_some, if_neg bt, show fX3_in (nI w) 0 3 = _ from e4, Option.bind_some, if_neg bt, e6, Option.bind_some, e5]
      exact ⟨0, _, y, m0 mo, rfl, rfl, rfl, fun _ => o_set, St_mo h (by omega) rfl rfl⟩
    · unfold fX2_curtain
      rw [e2, Option.bind_some, if_neg bt, show fX3_in b 0 3 = _ from e4, Option.bind_some, if_pos bf, e1, tb_inr, show fX2_needRange b 0 3 = _ from e3, tb_inl]
      exact ⟨2, o9, 0, (mo.1, mo.2.1, 2, mo.2.2.2.1, mo.2.2.2.2.1, mo.2.2.2.2.2), rfl, rfl, rfl, fun z => absurd z (by decide), St_mo h (by omega) rfl rfl⟩
  · unfold fX2_curtain
    rw [e2, Option.bind_some, if_pos bf, e1, tb_inl]
    exact ⟨1, o9, 0, (mo.1, mo.2.1, 1, mo.2.2.2.1, mo.2.2.2.2.1, mo.2.2.2.2.2), rfl, rfl, rfl, fun z => absurd z (by decide), St_mo h (by omega) rfl rfl⟩
theorem column_l {a b d : Int32} (h : St M bo now sv buf mo fn pa tx) (hM : M + 300 ≤ 200000) : ∃ e ex' o' r mo' w, fL_column bo now ex a b d o9 = some (e, ex', o') ∧ fX3_column mo fn le co li a b d = some (r, mo', w) ∧ mo'.2.2.1 = e ∧ (e = 0 → o' 0 = r.toInt64) ∧ St (M + 300) bo now sv buf mo' fn pa tx := by
  unfold fL_column fX3_column
  rcases arg_v a with ⟨v, hv, rfl, e1, e2⟩ | ⟨e1, e2⟩
  · rcases arg_k b with ⟨k, hk, rfl, g1, g2⟩ | ⟨g1, g2⟩
    · rcases arg_n d 0 5 (by decide) (by decide) with ⟨w, _, w2, rfl, e3, e4⟩ | ⟨e3, e4⟩
      · obtain ⟨y, ex', r, e5, e6⟩ := column_v (bo := bo) (mo := m0 mo) (ex := ex) (le := le) (co := co) (li := li) (St_R h) (St_I h) (by omega) hv hk (show w < 6 by omega)
        rw [e2, Option.bind_some, if_neg bt, g2, Option.bind_some, if_neg bt, show fX3_in (nI w) 0 5 = _ from e4, Option.bind_some, if_neg bt, e6, Option.bind_some, e5]
        exact ⟨0, ex', _, y, m0 mo, _, rfl, rfl, rfl, fun _ => o_set, St_mo h (by omega) rfl rfl⟩
      · unfold fX2_column
        rw [e2, Option.bind_some, if_neg bt, g2, Option.bind_some, if_neg bt, show fX3_in d 0 5 = _ from e4, Option.bind_some, if_pos bf, e1, tb_inr, g1, tb_inr, show fX2_needRange d 0 5 = _ from e3, tb_inl]
        exact ⟨2, ex, o9, 0, (mo.1, mo.2.1, 2, mo.2.2.2.1, mo.2.2.2.2.1, mo.2.2.2.2.2), _, rfl, rfl, rfl, fun z => absurd z (by decide), St_mo h (by omega) rfl rfl⟩
    · unfold fX2_column
      rw [e2, Option.bind_some, if_neg bt, g2, Option.bind_some, if_pos bf, e1, tb_inr, g1, tb_inl]
      exact ⟨1, ex, o9, 0, (mo.1, mo.2.1, 1, mo.2.2.2.1, mo.2.2.2.2.1, mo.2.2.2.2.2), _, rfl, rfl, rfl, fun z => absurd z (by decide), St_mo h (by omega) rfl rfl⟩
  · unfold fX2_column
    rw [e2, Option.bind_some, if_pos bf, e1, tb_inl]
    exact ⟨1, ex, o9, 0, (mo.1, mo.2.1, 1, mo.2.2.2.1, mo.2.2.2.2.1, mo.2.2.2.2.2), _, rfl, rfl, rfl, fun z => absurd z (by decide), St_mo h (by omega) rfl rfl⟩
theorem speed_l {a b : Int32} (h : St M bo now sv buf mo fn pa tx) (hM : M + 300 ≤ 200000) : ∃ e ex' o' r mo' w, fL_speed bo now ex a b o9 = some (e, ex', o') ∧ fX3_speed mo fn le co li a b = some (r, mo', w) ∧ mo'.2.2.1 = e ∧ (e = 0 → o' 0 = r.toInt64) ∧ St (M + 300) bo now sv buf mo' fn pa tx := by
  unfold fL_speed fX3_speed
  rcases arg_v a with ⟨v, hv, rfl, e1, e2⟩ | ⟨e1, e2⟩
  · rcases arg_n b 0 8 (by decide) (by decide) with ⟨w, _, w2, rfl, e3, e4⟩ | ⟨e3, e4⟩
    · obtain ⟨y, ex', r, e5, e6⟩ := speed_v (bo := bo) (mo := m0 mo) (ex := ex) (le := le) (co := co) (li := li) (St_R h) (St_I h) (by omega) hv (show w < 9 by omega)
      rw [e2, Option.bind_some, if_neg bt, show fX3_in (nI w) 0 8 = _ from e4, Option.bind_some, if_neg bt, e6, Option.bind_some, e5]
      exact ⟨0, ex', _, y, m0 mo, _, rfl, rfl, rfl, fun _ => o_set, St_mo h (by omega) rfl rfl⟩
    · unfold fX2_speed
      rw [e2, Option.bind_some, if_neg bt, show fX3_in b 0 8 = _ from e4, Option.bind_some, if_pos bf, e1, tb_inr, show fX2_needRange b 0 8 = _ from e3, tb_inl]
      exact ⟨2, ex, o9, 0, (mo.1, mo.2.1, 2, mo.2.2.2.1, mo.2.2.2.2.1, mo.2.2.2.2.2), _, rfl, rfl, rfl, fun z => absurd z (by decide), St_mo h (by omega) rfl rfl⟩
  · unfold fX2_speed
    rw [e2, Option.bind_some, if_pos bf, e1, tb_inl]
    exact ⟨1, ex, o9, 0, (mo.1, mo.2.1, 1, mo.2.2.2.1, mo.2.2.2.2.1, mo.2.2.2.2.2), _, rfl, rfl, rfl, fun z => absurd z (by decide), St_mo h (by omega) rfl rfl⟩
theorem count_l {a : Int32} (h : St M bo now sv buf mo fn pa tx) : ∃ e o' r mo', fL_count bo now a o9 = some (e, o') ∧ fX3_count mo fn a = some (r, mo') ∧ mo'.2.2.1 = e ∧ (e = 0 → o' 0 = r.toInt64) ∧ St (M + 300) bo now sv buf mo' fn pa tx := by
  unfold fL_count fX3_count
  rcases arg_n a 0 4 (by decide) (by decide) with ⟨w, _, w2, rfl, e3, e4⟩ | ⟨e3, e4⟩
  · obtain ⟨y, e5, e6⟩ := count_v (bo := bo) (mo := m0 mo) (St_R h) (St_I h) (St_b h) (show w < 5 by omega)
    rw [show fX3_in (nI w) 0 4 = _ from e4, Option.bind_some, if_neg bt, e6, Option.bind_some, e5]
    exact ⟨0, _, y, m0 mo, rfl, rfl, rfl, fun _ => o_set, St_mo h (by omega) rfl rfl⟩
  · unfold fX2_count
    rw [show fX3_in a 0 4 = _ from e4, Option.bind_some, if_pos bf, show fX2_needRange a 0 4 = _ from e3, tb_inl]
    exact ⟨1, o9, 0, (mo.1, mo.2.1, 1, mo.2.2.2.1, mo.2.2.2.2.1, mo.2.2.2.2.2), rfl, rfl, rfl, fun z => absurd z (by decide), St_mo h (by omega) rfl rfl⟩
theorem setting_l {a : Int32} (h : St M bo now sv buf mo fn pa tx) : ∃ e o' r mo', fL_setting bo now a o9 = some (e, o') ∧ fX3_setting mo fn a = some (r, mo') ∧ mo'.2.2.1 = e ∧ (e = 0 → o' 0 = r.toInt64) ∧ St (M + 300) bo now sv buf mo' fn pa tx := by
  unfold fL_setting fX3_setting
  rcases arg_s a with ⟨w, hw, rfl, e3, e4⟩ | ⟨e3, e4⟩
  · rw [e4, Option.bind_some, if_neg bt, gd_t (pin_nI (by omega) (by decide)), nI_clamp (by omega), setting_v (St_R h) hw]
    exact ⟨0, _, fn w, m0 mo, rfl, rfl, rfl, fun _ => o_set, St_mo h (by omega) rfl rfl⟩
  · unfold fX2_setting
    rw [e4, Option.bind_some, if_pos bf, e3, tb_inl]
    exact ⟨1, o9, 0, (mo.1, mo.2.1, 1, mo.2.2.2.1, mo.2.2.2.2.1, mo.2.2.2.2.2), rfl, rfl, rfl, fun z => absurd z (by decide), St_mo h (by omega) rfl rfl⟩
theorem bestC_l {a : Int32} (h : St M bo now sv buf mo fn pa tx) (hM : M + 300 ≤ 200000) : ∃ e pr' ex' o' r mo' w, fL_bestCorrection bo now pr ex a o9 = some (e, pr', ex', o') ∧ fX3_bestCorrection mo fn ft le co li a = some (r, mo', w) ∧ mo'.2.2.1 = e ∧ (e = 0 → o' 0 = r.toInt64) ∧ St (M + 300) bo now sv buf mo' fn pa tx := by
  unfold fL_bestCorrection fX3_bestCorrection
  rcases arg_v a with ⟨v, hv, rfl, e1, e2⟩ | ⟨e1, e2⟩
  · obtain ⟨y, ⟨pr', ex'⟩, r, e5, e6⟩ := bestC_v (bo := bo) (mo := m0 mo) (pr := pr) (ex := ex) (ft := ft) (le := le) (co := co) (li := li) (St_R h) (St_I h) (by omega) hv
    rw [e2, Option.bind_some, if_neg bt, p8, e6, Option.bind_some, e5]
    exact ⟨0, pr', ex', _, y + 100, m0 mo, _, rfl, rfl, rfl, fun _ => o_set, St_mo h (by omega) rfl rfl⟩
  · unfold fX2_bestCorrection
    rw [e2, Option.bind_some, if_pos bf, e1, tb_inl]
    exact ⟨1, pr, ex, o9, 0, (mo.1, mo.2.1, 1, mo.2.2.2.1, mo.2.2.2.2.1, mo.2.2.2.2.2), _, rfl, rfl, rfl, fun z => absurd z (by decide), St_mo h (by omega) rfl rfl⟩
theorem bestS_l {a b : Int32} (h : St M bo now sv buf mo fn pa tx) (hM : M + 300 ≤ 200000) : ∃ e pr' ex' o' r mo' w, fL_bestSpring bo now pr ex a b o9 = some (e, pr', ex', o') ∧ fX3_bestSpring mo fn ft le co li a b = some (r, mo', w) ∧ mo'.2.2.1 = e ∧ (e = 0 → o' 0 = r.toInt64) ∧ St (M + 300) bo now sv buf mo' fn pa tx := by
  unfold fL_bestSpring fX3_bestSpring
  rcases arg_c a with ⟨c, hc, rfl, g1, g2⟩ | ⟨g1, g2⟩
  · rcases arg_v b with ⟨v, hv, rfl, e1, e2⟩ | ⟨e1, e2⟩
    · obtain ⟨y, ⟨pr', ex'⟩, r, e5, e6⟩ := bestS_v (bo := bo) (mo := m0 mo) (pr := pr) (ex := ex) (ft := ft) (le := le) (co := co) (li := li) (St_R h) (St_I h) (by omega) hc hv
      rw [g2, Option.bind_some, if_neg bt, e2, Option.bind_some, if_neg bt, p4, e6, Option.bind_some, e5]
      exact ⟨0, pr', ex', _, y, m0 mo, _, rfl, rfl, rfl, fun _ => o_set, St_mo h (by omega) rfl rfl⟩
    · unfold fX2_bestSpring
      rw [g2, Option.bind_some, if_neg bt, e2, Option.bind_some, if_pos bf, g1, tb_inr, e1, tb_inl]
      exact ⟨1, pr, ex, o9, 0, (mo.1, mo.2.1, 1, mo.2.2.2.1, mo.2.2.2.2.1, mo.2.2.2.2.2), _, rfl, rfl, rfl, fun z => absurd z (by decide), St_mo h (by omega) rfl rfl⟩
  · unfold fX2_bestSpring
    rw [g2, Option.bind_some, if_pos bf, g1, tb_inl]
    exact ⟨1, pr, ex, o9, 0, (mo.1, mo.2.1, 1, mo.2.2.2.1, mo.2.2.2.2.1, mo.2.2.2.2.2), _, rfl, rfl, rfl, fun z => absurd z (by decide), St_mo h (by omega) rfl rfl⟩
theorem ifShot_l {a b d : Int32} (h : St M bo now sv buf mo fn pa tx) (hM : M + 300 ≤ 200000) : ∃ e pr' ex' o' r mo' w, fL_ifShot bo now pr ex a b d o9 = some (e, pr', ex', o') ∧ fX3_ifShot mo fn ft le co li a b d = some (r, mo', w) ∧ mo'.2.2.1 = e ∧ (e = 0 → o' 0 = r.toInt64) ∧ St (M + 300) bo now sv buf mo' fn pa tx := by
  unfold fL_ifShot fX3_ifShot
  rcases arg_v a with ⟨v, hv, rfl, e1, e2⟩ | ⟨e1, e2⟩
  · rcases arg_n b 1 50 (by decide) (by decide) with ⟨n, n1, n2, rfl, g1, g2⟩ | ⟨g1, g2⟩
    · rcases arg_n d 0 2 (by decide) (by decide) with ⟨w, _, w2, rfl, e3, e4⟩ | ⟨e3, e4⟩
      · obtain ⟨y, ⟨pr', ex'⟩, r, e5, e6⟩ := ifShot_v (bo := bo) (mo := m0 mo) (pr := pr) (ex := ex) (ft := ft) (le := le) (co := co) (li := li) (St_R h) (St_I h) (by omega) hv n1 n2 (show w < 3 by omega)
        rw [e2, Option.bind_some, if_neg bt, show fX3_in (nI n) 1 50 = _ from g2, Option.bind_some, if_neg bt, show fX3_in (nI w) 0 2 = _ from e4, Option.bind_some, if_neg bt, e6, Option.bind_some, e5]
        exact ⟨0, pr', ex', _, y, m0 mo, _, rfl, rfl, rfl, fun _ => o_set, St_mo h (by omega) rfl rfl⟩
      · unfold fX2_ifShot
        rw [e2, Option.bind_some, if_neg bt, show fX3_in (nI n) 1 50 = _ from g2, Option.bind_some, if_neg bt, show fX3_in d 0 2 = _ from e4, Option.bind_some, if_pos bf, e1, tb_inr, show fX2_needRange (nI n) 1 50 = _ from g1, tb_inr, show fX2_needRange d 0 2 = _ from e3, tb_inl]
        exact ⟨2, pr, ex, o9, 0, (mo.1, mo.2.1, 2, mo.2.2.2.1, mo.2.2.2.2.1, mo.2.2.2.2.2), _, rfl, rfl, rfl, fun z => absurd z (by decide), St_mo h (by omega) rfl rfl⟩
    · unfold fX2_ifShot
      rw [e2, Option.bind_some, if_neg bt, show fX3_in b 1 50 = _ from g2, Option.bind_some, if_pos bf, e1, tb_inr, show fX2_needRange b 1 50 = _ from g1, tb_inl]
      exact ⟨2, pr, ex, o9, 0, (mo.1, mo.2.1, 2, mo.2.2.2.1, mo.2.2.2.2.1, mo.2.2.2.2.2), _, rfl, rfl, rfl, fun z => absurd z (by decide), St_mo h (by omega) rfl rfl⟩
  · unfold fX2_ifShot
    rw [e2, Option.bind_some, if_pos bf, e1, tb_inl]
    exact ⟨1, pr, ex, o9, 0, (mo.1, mo.2.1, 1, mo.2.2.2.1, mo.2.2.2.2.1, mo.2.2.2.2.2), _, rfl, rfl, rfl, fun z => absurd z (by decide), St_mo h (by omega) rfl rfl⟩
theorem good_l {a b : Int32} (h : St M bo now sv buf mo fn pa tx) (hM : M + 300 ≤ 200000) : ∃ e pr' ex' o' r mo' w, fL_goodFor bo now pr ex a b o9 = some (e, pr', ex', o') ∧ fX3_goodFor mo fn ft le co li a b = some (r, mo', w) ∧ mo'.2.2.1 = e ∧ (e = 0 → o' 0 = r.toInt64) ∧ St (M + 300) bo now sv buf mo' fn pa tx := by
  unfold fL_goodFor fX3_goodFor
  rcases arg_v a with ⟨v, hv, rfl, e1, e2⟩ | ⟨e1, e2⟩
  · rcases arg_n b 0 999 (by decide) (by decide) with ⟨n, _, n2, rfl, g1, g2⟩ | ⟨g1, g2⟩
    · obtain ⟨y, ⟨pr', ex'⟩, r, e5, e6⟩ := goodFor_v (bo := bo) (mo := m0 mo) (pr := pr) (ex := ex) (ft := ft) (le := le) (co := co) (li := li) (St_R h) (St_I h) (by omega) hv n2
      rw [e2, Option.bind_some, if_neg bt, show fX3_in (nI n) 0 999 = _ from g2, Option.bind_some, if_neg bt, e6, Option.bind_some, e5]
      exact ⟨0, pr', ex', _, y, m0 mo, _, rfl, rfl, rfl, fun _ => o_set, St_mo h (by omega) rfl rfl⟩
    · unfold fX2_goodFor
      rw [e2, Option.bind_some, if_neg bt, show fX3_in b 0 999 = _ from g2, Option.bind_some, if_pos bf, e1, tb_inr, show fX2_needRange b 0 999 = _ from g1, tb_inl]
      exact ⟨2, pr, ex, o9, 0, (mo.1, mo.2.1, 2, mo.2.2.2.1, mo.2.2.2.2.1, mo.2.2.2.2.2), _, rfl, rfl, rfl, fun z => absurd z (by decide), St_mo h (by omega) rfl rfl⟩
  · unfold fX2_goodFor
    rw [e2, Option.bind_some, if_pos bf, e1, tb_inl]
    exact ⟨1, pr, ex, o9, 0, (mo.1, mo.2.1, 1, mo.2.2.2.1, mo.2.2.2.2.1, mo.2.2.2.2.2), _, rfl, rfl, rfl, fun z => absurd z (by decide), St_mo h (by omega) rfl rfl⟩
theorem even_l {a : Int32} {oD : Nat → UInt64} (h : St M bo now sv buf mo fn pa tx) (hM : M + 300 ≤ 200000) : ∃ e ex' o' r mo' w, fL_evenness bo now ex a oD = some (e, ex', o') ∧ fX3_evenness mo fn le co li a = some (r, mo', w) ∧ mo'.2.2.1 = e ∧ (e = 0 → Op.cmpValue (FP.dcmp (o' 0) r) CmpOp.l = 0) ∧ St (M + 300) bo now sv buf mo' fn pa tx := by
  unfold fL_evenness fX3_evenness
  rcases arg_v a with ⟨v, hv, rfl, e1, e2⟩ | ⟨e1, e2⟩
  · obtain ⟨y, ex', r, e5, e6, e7, _⟩ := even_v (bo := bo) (mo := m0 mo) (ex := ex) (le := le) (co := co) (li := li) (St_R h) (St_I h) (by omega) hv
    rw [e2, Option.bind_some, if_neg bt, e6, Option.bind_some, e5]
    exact ⟨0, ex', _, y, m0 mo, _, rfl, rfl, rfl, fun _ => by rw [of_set, e7]; exact cmp_z, St_mo h (by omega) rfl rfl⟩
  · unfold fX2_evenness
    rw [e2, Option.bind_some, if_pos bf, e1, tb_inl]
    exact ⟨1, ex, oD, _, (mo.1, mo.2.1, 1, mo.2.2.2.1, mo.2.2.2.2.1, mo.2.2.2.2.2), _, rfl, rfl, rfl, fun z => absurd z (by decide), St_mo h (by omega) rfl rfl⟩
theorem dig_l (h : St M bo now sv buf mo fn pa tx) (hM : M + 300 ≤ 200000) : ∃ d r w, fX2_digest bo now pr ex buf = some (d, r) ∧ fX3_digest mo fn ft tx le co li = some (d, m0 mo, w) ∧ St (M + 300) bo now sv buf (m0 mo) fn pa tx := by
  have h0 := h
  obtain ⟨s, q, n, a1, a2, a3, a4, a5, a6, a7, a8, a9, a10⟩ := h
  obtain ⟨r, e1⟩ := dig_c (pr := pr) (ex := ex) a9 a8 (by omega) a4 a3 a7
  obtain ⟨w, e2⟩ := dig_r (tx := tx) (ft := ft) (le := le) (co := co) (li := li) a9 a8 (by omega) a6 a3
  rw [show D9 mo.1 (nI n) fn = D9 (nI s) (nI n) fn by rw [a5]] at e2
  exact ⟨_, r, w, e1, e2, St_mo h0 (by omega) rfl rfl⟩
theorem first_l {td : Fn} (h : St M bo now sv buf mo fn pa tx) : ∃ a mo' td', fX2_firstError bo buf = some a ∧ fX3_firstError mo tx td = some (a, mo', td') ∧ St (M + 300) bo now sv buf mo' fn pa tx := by
  have h0 := h
  obtain ⟨s, q, n, a1, a2, a3, a4, a5, a6, a7, a8, a9, a10⟩ := h
  obtain ⟨a, mo', td', e1, e2, e3, e4⟩ := first_v (bo := bo) (td := td) (mo := mo) (by rw [a4]) a3 a7 a6
  exact ⟨a, mo', td', e1, e2, St_mo h0 (by omega) e3 (e4.trans a6.symm)⟩
end
