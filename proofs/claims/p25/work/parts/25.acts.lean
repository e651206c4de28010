/-! the state of a run -/
def Sf (f : Fn) : Nat → Int32
  | 0 => 0
  | k + 1 => Sf f k + f k
theorem Sf_c {f g : Fn} : ∀ k, (∀ j, j < k → f j = g j) → Sf f k = Sf g k := by
  intro k
  induction k with
  | zero => intro _; rfl
  | succ k ih =>
    intro h
    show Sf f k + f k = Sf g k + g k
    rw [ih (fun j hj => h j (by omega)), h k (by omega)]
theorem Sf_u {f : Fn} {v : Nat} {a : Int32} : ∀ k, Sf (upd f v (f v + a)) k = if v < k then Sf f k + a else Sf f k := by
  intro k
  induction k with
  | zero => rw [if_neg (by omega)]; rfl
  | succ k ih =>
    show Sf (upd f v (f v + a)) k + upd f v (f v + a) k = if v < k + 1 then (Sf f k + f k) + a else Sf f k + f k
    rw [ih]
    by_cases q : k = v
    · rw [q, if_neg (by omega), if_pos (by omega), upd_eq, Int32.add_assoc]
    · rw [upd_ne q]
      by_cases r : v < k
      · rw [if_pos r, if_pos (by omega), Int32.add_assoc, Int32.add_assoc, Int32.add_comm a]
      · rw [if_neg r, if_neg (by omega)]
def Iv (x : ShT) (M : Nat) : Prop := Inv x M ∧ x.2.2.2.2.2.2.2.1 = Sf x.2.2.2.2.2.2.1 6
theorem Iv_mrg {y x : ShT} {M : Nat} (h : Iv y M) : Iv (mrgS y x) M := ⟨Inv_mrg h.1, h.2.trans (Sf_c 6 (fun _ hj => (mrg_lt hj).symm))⟩
theorem Iv_up {x : ShT} {M N : Nat} (h : Iv x M) (hN : M ≤ N) : Iv x N := ⟨Inv_up h.1 hN, h.2⟩
theorem Iv_Ty {x : ShT} {M v : Nat} (h : Iv x M) (hM : M ≤ 200000) (hv : v < 6) : Iv (Ty x v) (M + 1) := by
  refine ⟨Inv_Ty h.1 hM hv, ?_⟩
  show x.2.2.2.2.2.2.2.1 + 1 = Sf (upd x.2.2.2.2.2.2.1 v (x.2.2.2.2.2.2.1 v + 1)) 6
  rw [Sf_u, if_pos hv, h.2]
theorem Iv_Tn {x : ShT} {M v : Nat} (h : Iv x M) (hv : v < 6) : ∀ k, M + k ≤ 200000 → Iv (Tn x v k) (M + k) := by
  intro k
  induction k with
  | zero => intro _; exact h
  | succ k ih => intro hk; exact Iv_Ty (M := M + k) (ih (by omega)) (by omega) hv
theorem Tn_sh (x : ShT) (v : Nat) : ∀ k, (Tn x v k).2.2.2.2.2.2.2.1 = x.2.2.2.2.2.2.2.1 + nI k := by
  intro k
  induction k with
  | zero => exact (Int32.add_zero _).symm
  | succ k ih =>
    show (Tn x v k).2.2.2.2.2.2.2.1 + 1 = _
    rw [ih, nI_succ, Int32.add_assoc]
theorem Tn_sp {x : ShT} {M v : Nat} (h : Inv x M) (hv : v < 6) : ∀ k, M + k ≤ 200000 → ((Tn x v k).1 0).toInt ≤ (x.1 0).toInt := by
  intro k
  induction k with
  | zero => intro _; exact Int.le_refl _
  | succ k ih =>
    intro hk
    have a := ih (by omega)
    have b := (Inv_Tn h hv k (by omega)).1 0 (by omega)
    show ((if wears (Tn x v k) then mrg 2 (fun j => imax 1 ((Tn x v k).1 j - 1)) (Tn x v k).1 else (Tn x v k).1) 0).toInt ≤ _
    by_cases q : wears (Tn x v k)
    · rw [if_pos q, mrg_lt (by omega), imax_t, ti_sub (by rw [o_t]; omega) (by rw [o_t]; omega), o_t]
      omega
    · rw [if_neg q]; exact a
theorem Tn_gs (x : ShT) (v : Nat) : ∀ k, x.2.2.2.2.2.2.2.2.2.toInt ≤ (Tn x v k).2.2.2.2.2.2.2.2.2.toInt := by
  intro k
  induction k with
  | zero => exact Int.le_refl _
  | succ k ih =>
    show _ ≤ (imax (Tn x v k).2.2.2.2.2.2.2.2.2 (Spr (Tn x v k) v)).toInt
    rw [imax_t]; omega
theorem Tn_g1 (x : ShT) (v k : Nat) : (Spr (Tn x v k) v).toInt ≤ (Tn x v (k + 1)).2.2.2.2.2.2.2.2.2.toInt := by
  show _ ≤ (imax (Tn x v k).2.2.2.2.2.2.2.2.2 (Spr (Tn x v k) v)).toInt
  rw [imax_t]; omega
theorem Spr_0 {x : ShT} {M v : Nat} (hI : Inv x M) (hM : M ≤ 200000) (hv : v < 6) : 0 ≤ (Spr x v).toInt := by
  obtain ⟨b1, b2, b3⟩ := Sm_lm (g := Lg x v) (w := Wv v) (fun k hk => Lg_b hI hM hv hk) 24 (by omega)
  unfold Spr Sx
  rw [ti_sub (by omega) (by omega)]
  omega
def St (M : Nat) (bo : BoT) (now : ShT) (sv : Nat → ShT) : Prop := ∃ s q, s ≤ 6 ∧ q < 6 ∧ bo = (nI s, nI q, nI 0) ∧ Iv now M ∧ ∀ j, j < s → Iv (sv ((q + 6 - s + j) % 6)) M
theorem St_I {M : Nat} {bo : BoT} {now : ShT} {sv : Nat → ShT} (h : St M bo now sv) : Iv now M := by
  obtain ⟨s, q, -, -, -, h, -⟩ := h
  exact h
theorem St_up {M N : Nat} {bo : BoT} {now : ShT} {sv : Nat → ShT} (h : St M bo now sv) (hN : M ≤ N) : St N bo now sv := by
  obtain ⟨s, q, h1, h2, h3, h4, h5⟩ := h
  exact ⟨s, q, h1, h2, h3, Iv_up h4 hN, fun j hj => Iv_up (h5 j hj) hN⟩
theorem save_v {M : Nat} {bo : BoT} {now : ShT} {sv : Nat → ShT} (h : St M bo now sv) : ∃ bo' sv', fX2_saveState bo now sv = some (bo', sv') ∧ ∀ N now', M ≤ N → Iv now' N → St N bo' now' sv' := by
  obtain ⟨s, q, h1, h2, rfl, h4, h5⟩ := h
  refine ⟨_, _, save_c h1 h2, fun N now' hN hI => ⟨min (s + 1) 6, (q + 1) % 6, by omega, by omega, rfl, hI, fun j hj => ?_⟩⟩
  by_cases e : ((q + 1) % 6 + 6 - min (s + 1) 6 + j) % 6 = q
  · rw [e, vup_eq]
    exact Iv_mrg (Iv_up h4 hN)
  · rw [vup_ne e]
    obtain ⟨i, i1, i2⟩ : ∃ i, i < s ∧ (q + 6 - s + i) % 6 = ((q + 1) % 6 + 6 - min (s + 1) 6 + j) % 6 := by
      by_cases h6 : s = 6
      · exact ⟨j + 1, by omega, by omega⟩
      · exact ⟨j, by omega, by omega⟩
    rw [← i2]
    exact Iv_up (h5 i i1) hN
theorem undo_v {M : Nat} {bo : BoT} {now : ShT} {sv : Nat → ShT} (h : St M bo now sv) : (∃ r, fX2_undo bo now sv = some (.inr r) ∧ 0 ≤ r.1.toInt ∧ St M r.2.1 r.2.2 sv) ∨ fX2_undo bo now sv = some (.inl 2) := by
  obtain ⟨s, q, h1, h2, rfl, h4, h5⟩ := h
  by_cases h0 : s = 0
  · subst h0
    exact Or.inr undo_0
  · left
    refine ⟨_, undo_c (by omega) h1 h2, ?_, s - 1, (q + 5) % 6, by omega, by omega, rfl, ?_, fun j hj => ?_⟩
    · show 0 ≤ (nI (s - 1)).toInt
      rw [nI_toInt (by omega)]; omega
    · have e := h5 (s - 1) (by omega)
      rw [show (q + 6 - s + (s - 1)) % 6 = (q + 5) % 6 by omega] at e
      exact Iv_mrg e
    · rw [show ((q + 5) % 6 + 6 - (s - 1) + j) % 6 = (q + 6 - s + j) % 6 by omega]
      exact h5 j (by omega)
/-! the calls that change -/
theorem wind_v {M c s : Nat} {bo : BoT} {now : ShT} {sv : Nat → ShT} (h : St M bo now sv) (hc : c < 2) (s1 : 1 ≤ s) (s2 : s ≤ 99) : ∃ bo' sv', fX2_wind bo now sv (nI c) (nI s) = some (.inr (now.1 c, bo', Zs now c (nI s), sv')) ∧ St M bo' (Zs now c (nI s)) sv' := by
  obtain ⟨bo', sv', f1, f2⟩ := save_v h
  refine ⟨bo', sv', ?_, f2 _ _ (Nat.le_refl _) ⟨Inv_Zs (St_I h).1 (by rw [nI_toInt (by omega)]; omega), (St_I h).2⟩⟩
  unfold fX2_wind
  rw [needC hc, tb_inr, show fX2_needRange (nI s) 1 99 = some (.inr ()) from needR (a := 1) (b := 99) s1 s2 (by omega), tb_inr, f1, Option.bind_some, at_nI _ hc (by decide), Option.bind_some, put_nI _ _ hc (by decide), Option.bind_some]
  rfl
theorem clean_v {M c : Nat} {bo : BoT} {now : ShT} {sv : Nat → ShT} (h : St M bo now sv) (hc : c < 2) : ∃ bo' sv', fX2_clean bo now sv (nI c) = some (.inr (now.2.1 c, bo', (now.1, upd now.2.1 c 0, now.2.2), sv')) ∧ St M bo' (now.1, upd now.2.1 c 0, now.2.2) sv' := by
  obtain ⟨bo', sv', f1, f2⟩ := save_v h
  refine ⟨bo', sv', ?_, f2 _ _ (Nat.le_refl _) ⟨Inv_si (St_I h).1, (St_I h).2⟩⟩
  unfold fX2_clean
  rw [needC hc, tb_inr, f1, Option.bind_some, at_nI _ hc (by decide), Option.bind_some, put_nI _ _ hc (by decide), Option.bind_some]
theorem correct_v {M c : Nat} {w : Int32} {bo : BoT} {now : ShT} {sv : Nat → ShT} (h : St M bo now sv) (hc : c < 6) (w1 : -50 ≤ w.toInt) (w2 : w.toInt ≤ 50) : ∃ bo' sv', fX2_correct bo now sv (nI c) w = some (.inr (now.2.2.2.2.1 c + 100, bo', Zc now c w, sv')) ∧ St M bo' (Zc now c w) sv' := by
  obtain ⟨bo', sv', f1, f2⟩ := save_v h
  refine ⟨bo', sv', ?_, f2 _ _ (Nat.le_refl _) ⟨Inv_Zc (St_I h).1 ⟨w1, w2⟩, (St_I h).2⟩⟩
  have e : fX2_needRange w (-50) 50 = some (.inr ()) := by
    unfold fX2_needRange
    rw [if_neg (show ¬ w < -50 by rw [lt_i, show (-50 : Int32).toInt = -50 from rfl]; omega), if_pos (show w ≤ 50 by rw [le_i, show (50 : Int32).toInt = 50 from rfl]; omega)]
  unfold fX2_correct
  rw [needV hc, tb_inr, e, tb_inr, f1, Option.bind_some, at_nI _ hc (by decide), Option.bind_some, put_nI _ _ hc (by decide), Option.bind_some]
  rfl
def Zt (x : ShT) (c : Nat) (a : Int32) : ShT := (x.1, x.2.1, x.2.2.1, x.2.2.2.1, x.2.2.2.2.1, upd x.2.2.2.2.2.1 c a, x.2.2.2.2.2.2)
theorem set_v {M c lo hi s : Nat} {bo : BoT} {now : ShT} {sv : Nat → ShT} (h : St M bo now sv) (hc : c < 4) (g1 : fX2_leastValue (nI c) = some (nI lo)) (g2 : fX2_mostValue (nI c) = some (nI hi)) (s1 : lo ≤ s) (s2 : s ≤ hi) (hb : hi < 1000) (hI : Inv (Zt now c (nI s)) M) : ∃ bo' sv', fX2_set bo now sv (nI c) (nI s) = some (.inr (now.2.2.2.2.2.1 c, bo', Zt now c (nI s), sv')) ∧ St M bo' (Zt now c (nI s)) sv' := by
  obtain ⟨bo', sv', f1, f2⟩ := save_v h
  refine ⟨bo', sv', ?_, f2 _ _ (Nat.le_refl _) ⟨hI, (St_I h).2⟩⟩
  unfold fX2_set
  rw [needS hc, tb_inr, g1, Option.bind_some, g2, Option.bind_some, needR s1 s2 hb, tb_inr, f1, Option.bind_some, at_nI _ hc (by decide), Option.bind_some, put_nI _ _ hc (by decide), Option.bind_some]
  rfl
theorem Dc_n (f : Fn) (w : Int32) (a : Nat) : ∀ j, ∃ i, i ≤ j ∧ Dc f w a j = nI i := by
  intro j
  induction j with
  | zero => exact ⟨0, Nat.le_refl _, rfl⟩
  | succ j ih =>
    obtain ⟨i, h1, h2⟩ := ih
    show ∃ i, i ≤ j + 1 ∧ (if f (a + j) = w then Dc f w a j else Dc f w a j + 1) = nI i
    by_cases q : f (a + j) = w
    · rw [if_pos q]; exact ⟨i, by omega, h2⟩
    · rw [if_neg q, h2]; exact ⟨i + 1, by omega, (nI_succ i).symm⟩
theorem drag_v {M c k l d : Nat} {bo : BoT} {now : ShT} {sv : Nat → ShT} (h : St M bo now sv) (hc : c < 2) (h1 : k ≤ l) (h2 : l ≤ 23) (h3 : d ≤ 50) : ∃ r, fX2_drag bo now sv (nI c) (nI k) (nI l) (nI d) = some (.inr r) ∧ 0 ≤ r.1.toInt ∧ St M r.2.1 r.2.2.1 r.2.2.2 := by
  obtain ⟨bo', sv', f1, f2⟩ := save_v h
  have hI : ∀ c, Inv (Zd now c (Gk (Dr now c) (nI d) k (l + 1 - k))) M := fun c => Inv_Zd (c := c) (a := k) (j := l + 1 - k) (w := nI d) (St_I h).1 (by rw [nI_toInt (by omega)]; omega)
  unfold fX2_drag fX1_dragsOf
  rw [needC hc, tb_inr, show fX2_needRange (nI k) 0 23 = some (.inr ()) from needR (a := 0) (b := 23) (by omega) (by omega) (by omega), tb_inr, show fX2_needRange (nI l) (nI k) 23 = some (.inr ()) from needR (b := 23) h1 h2 (by omega), tb_inr, show fX2_needRange (nI d) 0 50 = some (.inr ()) from needR (a := 0) (b := 50) (by omega) h3 (by omega), tb_inr, f1, Option.bind_some]
  rcases (by omega : c = 0 ∨ c = 1) with rfl | rfl
  · rw [if_pos (show nI 0 = 0 from rfl), if_pos (show nI 0 = 0 from rfl), Option.bind_some, drag_c0 h1 h2]
    obtain ⟨i, i1, i2⟩ := Dc_n now.2.2.1 (nI d) k (l + 1 - k)
    refine ⟨_, rfl, ?_, f2 _ _ (Nat.le_refl _) ⟨hI 0, (St_I h).2⟩⟩
    show 0 ≤ (Dc now.2.2.1 (nI d) k (l + 1 - k)).toInt
    rw [i2, nI_toInt (by omega)]; omega
  · rw [if_neg (show ¬ nI 1 = 0 by decide), if_neg (show ¬ nI 1 = 0 by decide), Option.bind_some, drag_c1 h1 h2]
    obtain ⟨i, i1, i2⟩ := Dc_n now.2.2.2.1 (nI d) k (l + 1 - k)
    refine ⟨_, rfl, ?_, f2 _ _ (Nat.le_refl _) ⟨hI 1, (St_I h).2⟩⟩
    show 0 ≤ (Dc now.2.2.2.1 (nI d) k (l + 1 - k)).toInt
    rw [i2, nI_toInt (by omega)]; omega
theorem shoot_v {M v n : Nat} {bo : BoT} {now : ShT} {sv : Nat → ShT} (h : St M bo now sv) (hM : M + n ≤ 200000) (hv : v < 6) (h1 : 1 ≤ n) (h2 : n ≤ 50) (ex : ExT) : ∃ bo' ex' sv', fX2_shoot bo now ex sv (nI v) (nI n) = some (.inr (Spr (Tn now v (n - 1)) v, bo', Tn now v n, ex', sv')) ∧ St (M + n) bo' (Tn now v n) sv' := by
  obtain ⟨bo', sv', f1, f2⟩ := save_v h
  obtain ⟨⟨ex', x'⟩, g1, g2, g3⟩ := fire_eq (bo := bo') (ex := ex) (n := n) (St_I h).1 (by omega) hv (by omega)
  have hE := g3 (by omega)
  dsimp only at g2 hE
  subst g2
  refine ⟨bo', ex', sv', ?_, f2 _ _ (by omega) (Iv_Tn (St_I h) hv n hM)⟩
  unfold fX2_shoot
  rw [needV hv, tb_inr, show fX2_needRange (nI n) 1 50 = some (.inr ()) from needR (a := 1) (b := 50) h1 h2 (by omega), tb_inr, f1, Option.bind_some]
  dsimp only
  rw [g1, Option.bind_some]
  dsimp only
  rw [spread_eq hE, Option.bind_some]
/-! the script -/
theorem and_nn (v : Int32) : 0 ≤ (v &&& 2147483647).toInt := by
  have h : (v &&& 2147483647).toBitVec.msb = false := by
    rw [Int32.toBitVec_and, BitVec.msb_and, show (2147483647 : Int32).toBitVec.msb = false by decide, Bool.and_false]
  rw [← Int32.toInt_toBitVec]
  exact BitVec.toInt_nonneg_of_msb_false h
def lw (v : Int32) (m : Nat) : Nat := ((v &&& 2147483647) - (v &&& 2147483647) / nI m * nI m).toInt.toNat
theorem low_v (v : Int32) {m : Nat} (h0 : 0 < m) (h1 : m < 1000) : fL_low v (nI m) = some (nI (lw v m)) ∧ lw v m < m := by
  have a := and_nn v
  have b : (v &&& 2147483647).toInt < 2147483648 := (v &&& 2147483647).toInt_lt
  unfold fL_low lw
  rw [gd_t (nz_t (nI_ne0 h0 (by omega)))]
  generalize v &&& 2147483647 = x at a b
  have t : (nI m).toInt = m := nI_toInt (by omega)
  have e1 : (x / nI m).toInt = x.toInt / m := by rw [ti_div a (by rw [t]; omega), t]
  have p0 : 0 ≤ x.toInt / m * m := Int.mul_nonneg (Int.ediv_nonneg a (by omega)) (by omega)
  have p1 : x.toInt / m * m ≤ x.toInt := Int.ediv_mul_le _ (by omega)
  have e2 : (x / nI m * nI m).toInt = x.toInt / m * m := by rw [ti_mul (by rw [e1, t]; omega) (by rw [e1, t]; omega), e1, t]
  have e3 : (x - x / nI m * nI m).toInt = x.toInt % m := by
    rw [ti_sub (by rw [e2]; omega) (by rw [e2]; omega), e2, Int.emod_def, Int.mul_comm]
  have r0 : 0 ≤ x.toInt % m := Int.emod_nonneg _ (by omega)
  have r1 : x.toInt % m < m := Int.emod_lt_of_pos _ (by omega)
  refine ⟨congrArg some (i_eq ?_), by rw [e3]; omega⟩
  rw [nI_toInt (by rw [e3]; omega), e3]
  omega
theorem cell_v {L j : Nat} {xs : Nat → Int32} (hj : j < L) (hL : L ≤ 260) : fL_cell L xs (nI j) = some (xs j) := by
  unfold fL_cell
  rw [if_neg (show ¬ Int32.ofNat L ≤ nI j from nI_ge hj (by omega)), gd_t (pin_nI hj (by omega)), nI_clamp (by omega)]
/-! what is done -/
def Done (M : Nat) (bo : BoT) (now : ShT) (r : Int32 × BoT × ShT × ExT × (Nat → ShT)) : Prop := St M r.2.1 r.2.2.1 r.2.2.2.2 ∧ (0 ≤ r.1.toInt ∨ (r.2.1 = bo ∧ r.2.2.1 = now))
theorem b116 {M L c : Nat} {xs : Nat → Int32} {bo : BoT} {now : ShT} {ex : ExT} {sv : Nat → ShT} {b : Int32} (h : St M bo now sv) (hc : c < 2) : ∃ r, fL_act_j116 L xs (bo, now, ex, sv, b, nI c) = some r ∧ Done M bo now r := by
  obtain ⟨l1, l2⟩ := low_v b (m := 99) (by omega) (by omega)
  obtain ⟨bo', sv', g1, g2⟩ := wind_v (s := 1 + lw b 99) h hc (by omega) (by omega)
  have s := (St_I h).1.1 c hc
  unfold fL_act_j116
  dsimp only
  rw [show fL_low b 99 = _ from l1, Option.bind_some, show (1 : Int32) + nI (lw b 99) = nI (1 + lw b 99) from nI_add 1 _, g1, tq_inr]
  exact ⟨_, rfl, g2, Or.inl (by show 0 ≤ (now.1 c).toInt; omega)⟩
theorem b132 {M L c f : Nat} {xs : Nat → Int32} {bo : BoT} {now : ShT} {ex : ExT} {sv : Nat → ShT} {b : Int32} (h : St M bo now sv) (hc : c < 2) (hf : f < 24) : ∃ r, fL_act_j132 L xs (bo, now, ex, sv, b, nI c, nI f) = some r ∧ Done M bo now r := by
  have e : (24 : Int32) - nI f = nI (24 - f) := by
    have t : (nI f).toInt = f := nI_toInt (by omega)
    have t2 : (24 : Int32).toInt = 24 := rfl
    exact i_eq (by rw [ti_sub (by omega) (by omega), t, nI_toInt (n := 24 - f) (by omega)]; omega)
  obtain ⟨l1, l2⟩ := low_v b (m := 24 - f) (by omega) (by omega)
  obtain ⟨k1, k2⟩ := low_v (b >>> (5 &&& 31)) (m := 51) (by omega) (by omega)
  obtain ⟨r, g1, g2, g3⟩ := drag_v (k := f) (l := f + lw b (24 - f)) (d := lw (b >>> (5 &&& 31)) 51) h hc (by omega) (by omega) (by omega)
  unfold fL_act_j132
  dsimp only
  rw [e, l1, Option.bind_some, show fL_low (b >>> (5 &&& 31)) 51 = _ from k1, Option.bind_some, nI_add, g1, tq_inr]
  exact ⟨_, rfl, g3, Or.inl g2⟩
theorem b258 {M L : Nat} {xs : Nat → Int32} {bo : BoT} {now : ShT} {ex : ExT} {sv : Nat → ShT} {a b : Int32} (h : St M bo now sv) (hM : M ≤ 1000) : ∃ r, fL_act_j258 L xs (bo, now, ex, sv, a, b) = some r ∧ Done (M + 12) bo now r ∧ r.1 = Spr (Tn now (lw a 6) (lw b 12)) (lw a 6) ∧ r.2.2.1 = Tn now (lw a 6) (1 + lw b 12) := by
  obtain ⟨l1, l2⟩ := low_v a (m := 6) (by omega) (by omega)
  obtain ⟨k1, k2⟩ := low_v b (m := 12) (by omega) (by omega)
  obtain ⟨bo', ex', sv', g1, g2⟩ := shoot_v (n := 1 + lw b 12) h (by omega) l2 (by omega) (by omega) ex
  rw [show 1 + lw b 12 - 1 = lw b 12 by omega] at g1
  unfold fL_act_j258
  dsimp only
  rw [show fL_low a 6 = _ from l1, Option.bind_some, show fL_low b 12 = _ from k1, Option.bind_some, show (1 : Int32) + nI (lw b 12) = nI (1 + lw b 12) from nI_add 1 _, g1, tq_inr]
  exact ⟨_, rfl, ⟨St_up g2 (by omega), Or.inl (Spr_0 (Inv_Tn (St_I h).1 l2 _ (by omega)) (by omega) l2)⟩, rfl, rfl⟩
theorem bset {M c lo hi s : Nat} {bo : BoT} {now : ShT} {ex : ExT} {sv : Nat → ShT} (h : St M bo now sv) (hc : c < 4) (g1 : fX2_leastValue (nI c) = some (nI lo)) (g2 : fX2_mostValue (nI c) = some (nI hi)) (s1 : lo ≤ s) (s2 : s ≤ hi) (hb : hi < 1000) (hI : Inv (Zt now c (nI s)) M) : ∃ r, tq (fX2_set bo now sv (nI c) (nI s)) (fun r => some (r.1, r.2.1, r.2.2.1, ex, r.2.2.2)) = some r ∧ Done M bo now r := by
  obtain ⟨bo', sv', e1, e2⟩ := set_v h hc g1 g2 s1 s2 hb hI
  obtain ⟨-, -, -, -, -, h6, h7, h8, h9⟩ := (St_I h).1
  rw [e1, tq_inr]
  refine ⟨_, rfl, e2, Or.inl ?_⟩
  show 0 ≤ (now.2.2.2.2.2.1 c).toInt
  rcases (by omega : c = 0 ∨ c = 1 ∨ c = 2 ∨ c = 3) with rfl | rfl | rfl | rfl <;> omega
theorem bs0 {M s : Nat} {bo : BoT} {now : ShT} {ex : ExT} {sv : Nat → ShT} (h : St M bo now sv) (s1 : 0 ≤ s) (s2 : s ≤ 20) : ∃ r, tq (fX2_set bo now sv 0 (nI s)) (fun r => some (r.1, r.2.1, r.2.2.1, ex, r.2.2.2)) = some r ∧ Done M bo now r := by
  have t : (nI s).toInt = s := nI_toInt (by omega)
  obtain ⟨h1, h2, h3, h4, h5, h6, h7, h8, h9⟩ := (St_I h).1
  exact bset (c := 0) (lo := 0) (hi := 20) h (by omega) (by decide +kernel) (by decide +kernel) s1 s2 (by omega) ⟨h1, h2, h3, h4, h5, by show _ ≤ (upd now.2.2.2.2.2.1 0 (nI s) 0).toInt ∧ (upd now.2.2.2.2.2.1 0 (nI s) 0).toInt ≤ _; rw [upd_eq, t]; omega, by show _ ≤ (upd now.2.2.2.2.2.1 0 (nI s) 1).toInt ∧ (upd now.2.2.2.2.2.1 0 (nI s) 1).toInt ≤ _; rw [upd_ne (by decide)]; exact h7, by show _ ≤ (upd now.2.2.2.2.2.1 0 (nI s) 2).toInt ∧ (upd now.2.2.2.2.2.1 0 (nI s) 2).toInt ≤ _; rw [upd_ne (by decide)]; exact h8, by show _ ≤ (upd now.2.2.2.2.2.1 0 (nI s) 3).toInt ∧ (upd now.2.2.2.2.2.1 0 (nI s) 3).toInt ≤ _; rw [upd_ne (by decide)]; exact h9⟩
theorem bs1 {M s : Nat} {bo : BoT} {now : ShT} {ex : ExT} {sv : Nat → ShT} (h : St M bo now sv) (s1 : 1 ≤ s) (s2 : s ≤ 99) : ∃ r, tq (fX2_set bo now sv 1 (nI s)) (fun r => some (r.1, r.2.1, r.2.2.1, ex, r.2.2.2)) = some r ∧ Done M bo now r := by
  have t : (nI s).toInt = s := nI_toInt (by omega)
  obtain ⟨h1, h2, h3, h4, h5, h6, h7, h8, h9⟩ := (St_I h).1
  exact bset (c := 1) (lo := 1) (hi := 99) h (by omega) (by decide +kernel) (by decide +kernel) s1 s2 (by omega) ⟨h1, h2, h3, h4, h5, by show _ ≤ (upd now.2.2.2.2.2.1 1 (nI s) 0).toInt ∧ (upd now.2.2.2.2.2.1 1 (nI s) 0).toInt ≤ _; rw [upd_ne (by decide)]; exact h6, by show _ ≤ (upd now.2.2.2.2.2.1 1 (nI s) 1).toInt ∧ (upd now.2.2.2.2.2.1 1 (nI s) 1).toInt ≤ _; rw [upd_eq, t]; omega, by show _ ≤ (upd now.2.2.2.2.2.1 1 (nI s) 2).toInt ∧ (upd now.2.2.2.2.2.1 1 (nI s) 2).toInt ≤ _; rw [upd_ne (by decide)]; exact h8, by show _ ≤ (upd now.2.2.2.2.2.1 1 (nI s) 3).toInt ∧ (upd now.2.2.2.2.2.1 1 (nI s) 3).toInt ≤ _; rw [upd_ne (by decide)]; exact h9⟩
theorem bs2 {M s : Nat} {bo : BoT} {now : ShT} {ex : ExT} {sv : Nat → ShT} (h : St M bo now sv) (s1 : 0 ≤ s) (s2 : s ≤ 200) : ∃ r, tq (fX2_set bo now sv 2 (nI s)) (fun r => some (r.1, r.2.1, r.2.2.1, ex, r.2.2.2)) = some r ∧ Done M bo now r := by
  have t : (nI s).toInt = s := nI_toInt (by omega)
  obtain ⟨h1, h2, h3, h4, h5, h6, h7, h8, h9⟩ := (St_I h).1
  exact bset (c := 2) (lo := 0) (hi := 200) h (by omega) (by decide +kernel) (by decide +kernel) s1 s2 (by omega) ⟨h1, h2, h3, h4, h5, by show _ ≤ (upd now.2.2.2.2.2.1 2 (nI s) 0).toInt ∧ (upd now.2.2.2.2.2.1 2 (nI s) 0).toInt ≤ _; rw [upd_ne (by decide)]; exact h6, by show _ ≤ (upd now.2.2.2.2.2.1 2 (nI s) 1).toInt ∧ (upd now.2.2.2.2.2.1 2 (nI s) 1).toInt ≤ _; rw [upd_ne (by decide)]; exact h7, by show _ ≤ (upd now.2.2.2.2.2.1 2 (nI s) 2).toInt ∧ (upd now.2.2.2.2.2.1 2 (nI s) 2).toInt ≤ _; rw [upd_eq, t]; omega, by show _ ≤ (upd now.2.2.2.2.2.1 2 (nI s) 3).toInt ∧ (upd now.2.2.2.2.2.1 2 (nI s) 3).toInt ≤ _; rw [upd_ne (by decide)]; exact h9⟩
theorem bs3 {M s : Nat} {bo : BoT} {now : ShT} {ex : ExT} {sv : Nat → ShT} (h : St M bo now sv) (s1 : 1 ≤ s) (s2 : s ≤ 99) : ∃ r, tq (fX2_set bo now sv 3 (nI s)) (fun r => some (r.1, r.2.1, r.2.2.1, ex, r.2.2.2)) = some r ∧ Done M bo now r := by
  have t : (nI s).toInt = s := nI_toInt (by omega)
  obtain ⟨h1, h2, h3, h4, h5, h6, h7, h8, h9⟩ := (St_I h).1
  exact bset (c := 3) (lo := 1) (hi := 99) h (by omega) (by decide +kernel) (by decide +kernel) s1 s2 (by omega) ⟨h1, h2, h3, h4, h5, by show _ ≤ (upd now.2.2.2.2.2.1 3 (nI s) 0).toInt ∧ (upd now.2.2.2.2.2.1 3 (nI s) 0).toInt ≤ _; rw [upd_ne (by decide)]; exact h6, by show _ ≤ (upd now.2.2.2.2.2.1 3 (nI s) 1).toInt ∧ (upd now.2.2.2.2.2.1 3 (nI s) 1).toInt ≤ _; rw [upd_ne (by decide)]; exact h7, by show _ ≤ (upd now.2.2.2.2.2.1 3 (nI s) 2).toInt ∧ (upd now.2.2.2.2.2.1 3 (nI s) 2).toInt ≤ _; rw [upd_ne (by decide)]; exact h8, by show _ ≤ (upd now.2.2.2.2.2.1 3 (nI s) 3).toInt ∧ (upd now.2.2.2.2.2.1 3 (nI s) 3).toInt ≤ _; rw [upd_eq, t]; omega⟩
theorem Done_up {M N : Nat} {bo : BoT} {now : ShT} {r : Int32 × BoT × ShT × ExT × (Nat → ShT)} (h : Done M bo now r) (hN : M ≤ N) : Done N bo now r := ⟨St_up h.1 hN, h.2⟩
theorem ix1 (k : Nat) : nI k + 1 = nI (k + 1) := nI_add _ 1
theorem ix2 (k : Nat) : nI k + 2 = nI (k + 2) := nI_add _ 2
theorem ix3 (k : Nat) : (3 : Int32) * nI k = nI (3 * k) := (Int32.ofNat_mul 3 k).symm
theorem act_v {M L k : Nat} {xs : Nat → Int32} {bo : BoT} {now : ShT} {sv : Nat → ShT} (h : St M bo now sv) (hM : M ≤ 900) (hk : k + 2 < L) (hL : L ≤ 260) (ex : ExT) : ∃ r, fL_act L xs bo now ex sv (nI k) = some r ∧ Done (M + 12) bo now r ∧
    (10 ≤ lw (xs k) 16 → lw (xs k) 16 ≤ 13 → r.1 = Spr (Tn now (lw (xs (k + 1)) 6) (lw (xs (k + 2)) 12)) (lw (xs (k + 1)) 6) ∧ r.2.2.1 = Tn now (lw (xs (k + 1)) 6) (1 + lw (xs (k + 2)) 12)) ∧
    (lw (xs k) 16 = 5 → r.2.2.1.2.1 (lw (xs (k + 1)) 2) = 0) := by
  obtain ⟨c1, c2⟩ := low_v (xs (k + 1)) (m := 2) (by omega) (by omega)
  obtain ⟨f1, f2⟩ := low_v (xs (k + 1) >>> (2 &&& 31)) (m := 24) (by omega) (by omega)
  obtain ⟨s1, s2⟩ := low_v (xs k) (m := 16) (by omega) (by omega)
  unfold fL_act
  rw [ix1, ix2, cell_v (show k + 1 < L by omega) hL, Option.bind_some, cell_v (show k + 2 < L by omega) hL, Option.bind_some, show fL_low (xs (k + 1)) 2 = _ from c1, Option.bind_some, show fL_low (xs (k + 1) >>> (2 &&& 31)) 24 = _ from f1, Option.bind_some, cell_v (show k < L by omega) hL, Option.bind_some, show fL_low (xs k) 16 = _ from s1, Option.bind_some]
  generalize lw (xs k) 16 = s at s2
  generalize lw (xs (k + 1) >>> (2 &&& 31)) 24 = f at f2
  have up : ∀ {o : Option (Int32 × BoT × ShT × ExT × (Nat → ShT))}, (∃ r, o = some r ∧ Done M bo now r) → ¬ (10 ≤ s ∧ s ≤ 13) → ¬ s = 5 → ∃ r, o = some r ∧ Done (M + 12) bo now r ∧
      (10 ≤ s → s ≤ 13 → r.1 = Spr (Tn now (lw (xs (k + 1)) 6) (lw (xs (k + 2)) 12)) (lw (xs (k + 1)) 6) ∧ r.2.2.1 = Tn now (lw (xs (k + 1)) 6) (1 + lw (xs (k + 2)) 12)) ∧
      (s = 5 → r.2.2.1.2.1 (lw (xs (k + 1)) 2) = 0) := fun {o} h1 h2 h3 => by
    obtain ⟨r, e1, e2⟩ := h1
    exact ⟨r, e1, Done_up e2 (by omega), fun a b => absurd ⟨a, b⟩ h2, fun a => absurd a h3⟩
  have sh : 10 ≤ s → ∃ r, fL_act_j258 L xs (bo, now, ex, sv, xs (k + 1), xs (k + 2)) = some r ∧ Done (M + 12) bo now r ∧
      (10 ≤ s → s ≤ 13 → r.1 = Spr (Tn now (lw (xs (k + 1)) 6) (lw (xs (k + 2)) 12)) (lw (xs (k + 1)) 6) ∧ r.2.2.1 = Tn now (lw (xs (k + 1)) 6) (1 + lw (xs (k + 2)) 12)) ∧
      (s = 5 → r.2.2.1.2.1 (lw (xs (k + 1)) 2) = 0) := fun h10 => by
    obtain ⟨r, e1, e2, e3, e4⟩ := b258 (L := L) (xs := xs) (ex := ex) (a := xs (k + 1)) (b := xs (k + 2)) h (by omega)
    exact ⟨r, e1, e2, fun _ _ => ⟨e3, e4⟩, fun a => absurd a (by omega)⟩
  have tl : s = 14 ∨ s = 15 → ∃ r, (fL_undo bo now sv).bind (fun r35 => some (r35.1, r35.2.1, r35.2.2, ex, sv)) = some r ∧ Done M bo now r := fun _ => by
    unfold fL_undo
    rcases undo_v h with ⟨r, e1, e2, e3⟩ | e1
    · rw [e1, Option.bind_some]
      exact ⟨_, rfl, e3, Or.inl e2⟩
    · rw [e1, Option.bind_some]
      exact ⟨(-3, bo, now, ex, sv), rfl, h, Or.inr ⟨rfl, rfl⟩⟩
  rcases (by omega : s = 0 ∨ s = 1 ∨ s = 2 ∨ s = 3 ∨ s = 4 ∨ s = 5 ∨ s = 6 ∨ s = 7 ∨ s = 8 ∨ s = 9 ∨ s = 10 ∨ s = 11 ∨ s = 12 ∨ s = 13 ∨ s = 14 ∨ s = 15) with rfl | rfl | rfl | rfl | rfl | rfl | rfl | rfl | rfl | rfl | rfl | rfl | rfl | rfl | rfl | rfl
  · rw [if_pos (show nI 0 = 0 from rfl)]
    exact up (b116 h c2) (by omega) (by omega)
  · rw [if_neg (show ¬ nI 1 = 0 by decide), if_pos (show nI 1 = 1 from rfl)]
    exact up (b116 h c2) (by omega) (by omega)
  · rw [if_neg (show ¬ nI 2 = 0 by decide), if_neg (show ¬ nI 2 = 1 by decide), if_pos (show nI 2 = 2 from rfl)]
    exact up (b132 h c2 f2) (by omega) (by omega)
  · rw [if_neg (show ¬ nI 3 = 0 by decide), if_neg (show ¬ nI 3 = 1 by decide), if_neg (show ¬ nI 3 = 2 by decide), if_pos (show nI 3 = 3 from rfl)]
    exact up (b132 h c2 f2) (by omega) (by omega)
  · rw [if_neg (show ¬ nI 4 = 0 by decide), if_neg (show ¬ nI 4 = 1 by decide), if_neg (show ¬ nI 4 = 2 by decide), if_neg (show ¬ nI 4 = 3 by decide), if_pos (show nI 4 = 4 from rfl)]
    exact up (b132 h c2 f2) (by omega) (by omega)
  · rw [if_neg (show ¬ nI 5 = 0 by decide), if_neg (show ¬ nI 5 = 1 by decide), if_neg (show ¬ nI 5 = 2 by decide), if_neg (show ¬ nI 5 = 3 by decide), if_neg (show ¬ nI 5 = 4 by decide), if_pos (show nI 5 = 5 from rfl)]
    obtain ⟨bo', sv', g1, g2⟩ := clean_v h c2
    have q := (St_I h).1.2.1 _ c2
    rw [g1, tq_inr]
    exact ⟨_, rfl, ⟨St_up g2 (by omega), Or.inl q.1⟩, fun a => absurd a (by omega), fun _ => upd_eq⟩
  · rw [if_neg (show ¬ nI 6 = 0 by decide), if_neg (show ¬ nI 6 = 1 by decide), if_neg (show ¬ nI 6 = 2 by decide), if_neg (show ¬ nI 6 = 3 by decide), if_neg (show ¬ nI 6 = 4 by decide), if_neg (show ¬ nI 6 = 5 by decide), if_pos (show nI 6 = 6 from rfl)]
    obtain ⟨a1, a2⟩ := low_v (xs (k + 1)) (m := 6) (by omega) (by omega)
    obtain ⟨b1, b2⟩ := low_v (xs (k + 2)) (m := 101) (by omega) (by omega)
    have t : (nI (lw (xs (k + 2)) 101)).toInt = lw (xs (k + 2)) 101 := nI_toInt (by omega)
    have t2 : (nI (lw (xs (k + 2)) 101) - 50).toInt = (lw (xs (k + 2)) 101 : Int) - 50 := by rw [ti_sub (by rw [t, show (50 : Int32).toInt = 50 from rfl]; omega) (by rw [t, show (50 : Int32).toInt = 50 from rfl]; omega), t]; rfl
    obtain ⟨bo', sv', g1, g2⟩ := correct_v (w := nI (lw (xs (k + 2)) 101) - 50) h a2 (by omega) (by omega)
    have q := (St_I h).1.2.2.2.2.1 _ a2
    rw [show fL_low (xs (k + 1)) 6 = _ from a1, Option.bind_some, show fL_low (xs (k + 2)) 101 = _ from b1, Option.bind_some, g1, tq_inr]
    refine up ⟨_, rfl, g2, Or.inl ?_⟩ (by omega) (by omega)
    show 0 ≤ (now.2.2.2.2.1 (lw (xs (k + 1)) 6) + 100).toInt
    rw [ti_add (by rw [show (100 : Int32).toInt = 100 from rfl]; omega) (by rw [show (100 : Int32).toInt = 100 from rfl]; omega), show (100 : Int32).toInt = 100 from rfl]
    omega
  · rw [if_neg (show ¬ nI 7 = 0 by decide), if_neg (show ¬ nI 7 = 1 by decide), if_neg (show ¬ nI 7 = 2 by decide), if_neg (show ¬ nI 7 = 3 by decide), if_neg (show ¬ nI 7 = 4 by decide), if_neg (show ¬ nI 7 = 5 by decide), if_neg (show ¬ nI 7 = 6 by decide), if_pos (show nI 7 = 7 from rfl)]
    obtain ⟨b1, b2⟩ := low_v (xs (k + 2)) (m := 21) (by omega) (by omega)
    rw [show fL_low (xs (k + 2)) 21 = _ from b1, Option.bind_some]
    exact up (bs0 h (by omega) (by omega)) (by omega) (by omega)
  · rw [if_neg (show ¬ nI 8 = 0 by decide), if_neg (show ¬ nI 8 = 1 by decide), if_neg (show ¬ nI 8 = 2 by decide), if_neg (show ¬ nI 8 = 3 by decide), if_neg (show ¬ nI 8 = 4 by decide), if_neg (show ¬ nI 8 = 5 by decide), if_neg (show ¬ nI 8 = 6 by decide), if_neg (show ¬ nI 8 = 7 by decide), if_pos (show nI 8 = 8 from rfl)]
    rw [Option.bind_some]
    by_cases z : nI (lw (xs (k + 1)) 2) = 0
    · obtain ⟨b1, b2⟩ := low_v (xs (k + 2)) (m := 99) (by omega) (by omega)
      rw [if_pos z, show fL_low (xs (k + 2)) 99 = _ from b1, Option.bind_some, show (1 : Int32) + nI (lw (xs (k + 2)) 99) = nI (1 + lw (xs (k + 2)) 99) from nI_add 1 _]
      exact up (bs1 h (by omega) (by omega)) (by omega) (by omega)
    · obtain ⟨b1, b2⟩ := low_v (xs (k + 2)) (m := 201) (by omega) (by omega)
      rw [if_neg z, show fL_low (xs (k + 2)) 201 = _ from b1, Option.bind_some]
      exact up (bs2 h (by omega) (by omega)) (by omega) (by omega)
  · rw [if_neg (show ¬ nI 9 = 0 by decide), if_neg (show ¬ nI 9 = 1 by decide), if_neg (show ¬ nI 9 = 2 by decide), if_neg (show ¬ nI 9 = 3 by decide), if_neg (show ¬ nI 9 = 4 by decide), if_neg (show ¬ nI 9 = 5 by decide), if_neg (show ¬ nI 9 = 6 by decide), if_neg (show ¬ nI 9 = 7 by decide), if_neg (show ¬ nI 9 = 8 by decide), if_pos (show nI 9 = 9 from rfl)]
    obtain ⟨b1, b2⟩ := low_v (xs (k + 2)) (m := 30) (by omega) (by omega)
    rw [show fL_low (xs (k + 2)) 30 = _ from b1, Option.bind_some, show (1 : Int32) + nI (lw (xs (k + 2)) 30) = nI (1 + lw (xs (k + 2)) 30) from nI_add 1 _]
    exact up (bs3 h (by omega) (by omega)) (by omega) (by omega)
  · rw [if_neg (show ¬ nI 10 = 0 by decide), if_neg (show ¬ nI 10 = 1 by decide), if_neg (show ¬ nI 10 = 2 by decide), if_neg (show ¬ nI 10 = 3 by decide), if_neg (show ¬ nI 10 = 4 by decide), if_neg (show ¬ nI 10 = 5 by decide), if_neg (show ¬ nI 10 = 6 by decide), if_neg (show ¬ nI 10 = 7 by decide), if_neg (show ¬ nI 10 = 8 by decide), if_neg (show ¬ nI 10 = 9 by decide), if_pos (show nI 10 = 10 from rfl)]
    exact sh (by omega)
  · rw [if_neg (show ¬ nI 11 = 0 by decide), if_neg (show ¬ nI 11 = 1 by decide), if_neg (show ¬ nI 11 = 2 by decide), if_neg (show ¬ nI 11 = 3 by decide), if_neg (show ¬ nI 11 = 4 by decide), if_neg (show ¬ nI 11 = 5 by decide), if_neg (show ¬ nI 11 = 6 by decide), if_neg (show ¬ nI 11 = 7 by decide), if_neg (show ¬ nI 11 = 8 by decide), if_neg (show ¬ nI 11 = 9 by decide), if_neg (show ¬ nI 11 = 10 by decide), if_pos (show nI 11 = 11 from rfl)]
    exact sh (by omega)
  · rw [if_neg (show ¬ nI 12 = 0 by decide), if_neg (show ¬ nI 12 = 1 by decide), if_neg (show ¬ nI 12 = 2 by decide), if_neg (show ¬ nI 12 = 3 by decide), if_neg (show ¬ nI 12 = 4 by decide), if_neg (show ¬ nI 12 = 5 by decide), if_neg (show ¬ nI 12 = 6 by decide), if_neg (show ¬ nI 12 = 7 by decide), if_neg (show ¬ nI 12 = 8 by decide), if_neg (show ¬ nI 12 = 9 by decide), if_neg (show ¬ nI 12 = 10 by decide), if_neg (show ¬ nI 12 = 11 by decide), if_pos (show nI 12 = 12 from rfl)]
    exact sh (by omega)
  · rw [if_neg (show ¬ nI 13 = 0 by decide), if_neg (show ¬ nI 13 = 1 by decide), if_neg (show ¬ nI 13 = 2 by decide), if_neg (show ¬ nI 13 = 3 by decide), if_neg (show ¬ nI 13 = 4 by decide), if_neg (show ¬ nI 13 = 5 by decide), if_neg (show ¬ nI 13 = 6 by decide), if_neg (show ¬ nI 13 = 7 by decide), if_neg (show ¬ nI 13 = 8 by decide), if_neg (show ¬ nI 13 = 9 by decide), if_neg (show ¬ nI 13 = 10 by decide), if_neg (show ¬ nI 13 = 11 by decide), if_neg (show ¬ nI 13 = 12 by decide), if_pos (show nI 13 = 13 from rfl)]
    exact sh (by omega)
  · rw [if_neg (show ¬ nI 14 = 0 by decide), if_neg (show ¬ nI 14 = 1 by decide), if_neg (show ¬ nI 14 = 2 by decide), if_neg (show ¬ nI 14 = 3 by decide), if_neg (show ¬ nI 14 = 4 by decide), if_neg (show ¬ nI 14 = 5 by decide), if_neg (show ¬ nI 14 = 6 by decide), if_neg (show ¬ nI 14 = 7 by decide), if_neg (show ¬ nI 14 = 8 by decide), if_neg (show ¬ nI 14 = 9 by decide), if_neg (show ¬ nI 14 = 10 by decide), if_neg (show ¬ nI 14 = 11 by decide), if_neg (show ¬ nI 14 = 12 by decide), if_neg (show ¬ nI 14 = 13 by decide)]
    exact up (tl (by omega)) (by omega) (by omega)
  · rw [if_neg (show ¬ nI 15 = 0 by decide), if_neg (show ¬ nI 15 = 1 by decide), if_neg (show ¬ nI 15 = 2 by decide), if_neg (show ¬ nI 15 = 3 by decide), if_neg (show ¬ nI 15 = 4 by decide), if_neg (show ¬ nI 15 = 5 by decide), if_neg (show ¬ nI 15 = 6 by decide), if_neg (show ¬ nI 15 = 7 by decide), if_neg (show ¬ nI 15 = 8 by decide), if_neg (show ¬ nI 15 = 9 by decide), if_neg (show ¬ nI 15 = 10 by decide), if_neg (show ¬ nI 15 = 11 by decide), if_neg (show ¬ nI 15 = 12 by decide), if_neg (show ¬ nI 15 = 13 by decide)]
    exact up (tl (by omega)) (by omega) (by omega)
