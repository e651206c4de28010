/-! the law's turns -/
theorem lp_any {σ R : Type} {B : (σ → Option R) → σ → Option R} (P : Nat → σ → Prop) (Q : Option R → Prop) (N : Nat) (step : ∀ (k : Nat) (s : σ) (K : σ → Option R), k < N → P k s → ∃ s', P (k + 1) s' ∧ B K s = K s') (last : ∀ (s : σ) (K : σ → Option R), P N s → Q (B K s)) : ∀ (fu k : Nat) (s : σ), k ≤ N → N < k + fu → P k s → Q (lp B fu s) := by
  intro fu
  induction fu with
  | zero => intro k s h1 h2; omega
  | succ fu ih =>
    intro k s h1 h2 h3
    show Q (B (lp B fu) s)
    by_cases e : k = N
    · subst e; exact last s _ h3
    · obtain ⟨s', g1, g2⟩ := step k s (lp B fu) (by omega) h3
      rw [g2]
      exact ih (k + 1) s' (by omega) (by omega) g1
theorem tn_e {L : Nat} (hL : L ≤ 260) : tn L = nI (min (L / 3) 40) := by
  have t : (Int32.ofNat L).toInt = L := nI_toInt (n := L) (by omega)
  have e : (Int32.ofNat L / 3).toInt = (L : Int) / 3 := by rw [ti_div (b := 3) (by rw [t]; omega) (by decide), t]; rfl
  have f : (40 : Int32).toInt = 40 := rfl
  unfold tn
  by_cases h : Int32.ofNat L / 3 ≤ 40
  · rw [if_pos h]
    rw [le_i, e, f] at h
    exact i_eq (by rw [e, nI_toInt (by omega)]; omega)
  · rw [if_neg h]
    rw [le_i, e, f] at h
    exact i_eq (by rw [f, nI_toInt (by omega)]; omega)
theorem i6 : (6 : Int32) ≤ nI 6 := by decide
theorem law_357 {L M v : Nat} {xs : Nat → Int32} {K : LwT → Option Bool} {bo : BoT} {now pr : ShT} {ex : ExT} {sv : Nat → ShT} {tu k : Int32} (hI : Iv now M) (hM : M ≤ 1000) (hv : v < 6) : ∃ e', lp (fL_law_l357 L xs K) 2000 (bo, now, pr, ex, sv, 1, tu, k, nI v, 0, 0) = K (bo, now, pr, e', sv, 1, tu, k + 1) := by
  refine lp_any (B := fL_law_l357 L xs K) (fun n s => ∃ e, s = (bo, now, pr, e, sv, 1, tu, k, nI v, Sf now.2.2.2.2.2.2.1 n, nI n)) (fun o => ∃ e', o = K (bo, now, pr, e', sv, 1, tu, k + 1)) 6 (fun n s K' hn hP => ?_) (fun s K' hP => ?_) 2000 0 _ (by omega) (by omega) ⟨ex, rfl⟩
  · obtain ⟨e, rfl⟩ := hP
    refine ⟨(bo, now, pr, Exp e now n, sv, 1, tu, k, nI v, Sf now.2.2.2.2.2.2.1 (n + 1), nI (n + 1)), ⟨_, rfl⟩, ?_⟩
    unfold fL_law_l357
    dsimp only
    rw [if_neg (show ¬ 6 ≤ nI n from nI_ge (b := 6) hn (by decide)), sp8 hI.1 hn, tq_inr, ← nI_succ]
    rfl
  · obtain ⟨e, rfl⟩ := hP
    have s0 := hI.1.1 0 (by omega)
    have s1 := hI.1.1 1 (by omega)
    obtain ⟨e', h⟩ := light_v (bo := bo) hI.1 hM hv e
    refine ⟨e', ?_⟩
    unfold fL_law_l357
    dsimp only
    rw [if_pos i6, if_neg (show ¬ (1 : Int32) = 0 by decide), cn0, tq_inr, if_pos hI.2.symm, cu00, tq_inr, if_neg (show ¬ now.1 0 < 1 by rw [lt_i, o_t]; omega), cu10, tq_inr, if_neg (show ¬ now.1 1 < 1 by rw [lt_i, o_t]; omega), h, Option.bind_some]
    dsimp only
    rw [if_neg (show ¬ b2i true = 0 by decide)]
theorem law_317 {L M v k s : Nat} {xs : Nat → Int32} {K : LwT → Option Bool} {bo : BoT} {now pr : ShT} {ex : ExT} {sv : Nat → ShT} {tu : Int32} (hI : Iv now M) (hM : M ≤ 1000) (hv : v < 6) (hs : s < 16) (hk : 3 * k + 2 < L) (hL : L ≤ 260) (h5 : s = 5 → now.2.1 (lw (xs (3 * k + 1)) 2) = 0) : ∃ e', fL_law_j317 L xs K (bo, now, pr, ex, sv, tu, nI k, nI s, nI v) = K (bo, now, pr, e', sv, 1, tu, nI k + 1) := by
  unfold fL_law_j317
  dsimp only
  by_cases q : s = 5
  · obtain ⟨l1, l2⟩ := low_v (xs (3 * k + 1)) (m := 2) (by omega) (by omega)
    rw [if_pos (show nI s = 5 by rw [q]; rfl), ix3, ix1, cell_v (show 3 * k + 1 < L by omega) hL, Option.bind_some, show fL_low (xs (3 * k + 1)) 2 = _ from l1, Option.bind_some, cu1 l2, tq_inr, if_pos (h5 q)]
    exact law_357 hI hM hv
  · rw [if_neg (show ¬ nI s = 5 from fun z => q ((nI_eq (b := 5) (by omega) (by decide)).mp z))]
    exact law_357 hI hM hv
theorem law_240 {L M v k s : Nat} {xs : Nat → Int32} {K : LwT → Option Bool} {bo : BoT} {now pr : ShT} {ex : ExT} {sv : Nat → ShT} {tu sh many spread spring had most told : Int32} (hI : Iv now M) (hM : M ≤ 1000) (hv : v < 6) (hs : s < 16) (hk : 3 * k + 2 < L) (hL : L ≤ 260) (h5 : s = 5 → now.2.1 (lw (xs (3 * k + 1)) 2) = 0)
    (h10 : 10 ≤ s → s ≤ 13 → told = spread ∧ now.1 0 = spring ∧ ¬ had < spring ∧ now.2.2.2.2.2.2.2.1 = sh + many ∧ ¬ now.2.2.2.2.2.2.2.2.2 < spread ∧ ¬ now.2.2.2.2.2.2.2.2.2 < most) : ∃ e', fL_law_j240 L xs K (bo, now, pr, ex, sv, tu, nI k, sh, nI s, nI v, many, spread, spring, had, most, told, 1) = K (bo, now, pr, e', sv, 1, tu, nI k + 1) := by
  have go := law_317 (K := K) (bo := bo) (pr := pr) (ex := ex) (sv := sv) (tu := tu) hI hM hv hs hk hL h5
  unfold fL_law_j240
  dsimp only
  rw [if_neg (show ¬ (1 : Int32) = 0 by decide)]
  by_cases a : s < 10
  · rw [if_pos (show nI s < 10 from nI_lt (b := 10) a (by decide))]
    exact go
  · rw [if_neg (show ¬ nI s < 10 from nI_nlt (b := 10) (by omega) (by omega))]
    by_cases b : 13 < s
    · rw [if_pos (show 13 < nI s from nI_lt (a := 13) b (by omega))]
      exact go
    · obtain ⟨g1, g2, g3, g4, g5, g6⟩ := h10 (by omega) (by omega)
      rw [if_neg (show ¬ 13 < nI s from nI_nlt (a := 13) (by omega) (by decide)), if_pos g1, cu00, tq_inr, if_pos g2, if_neg g3, cn0, tq_inr, if_pos g4, cn3, tq_inr, if_neg g5, tq_inr, if_neg g6]
      exact go
theorem law_179 {L k : Nat} {xs : Nat → Int32} {K : LwT → Option Bool} {bo : BoT} {now pr : ShT} {ex : ExT} {sv : Nat → ShT} {tu g : Int32} (h : St (12 * k) bo now sv) (hk : 3 * k + 2 < L) (hL : L ≤ 260) (hk4 : k < 40) : ∃ bo' now' e' sv', St (12 * (k + 1)) bo' now' sv' ∧ fL_law_j179 L xs K (bo, now, pr, ex, sv, tu, nI k, bo.1, now.2.2.2.2.2.2.2.1, nI (lw (xs (3 * k)) 16), nI (lw (xs (3 * k + 1)) 6), nI (1 + lw (xs (3 * k + 2)) 12), Spr (Tn now (lw (xs (3 * k + 1)) 6) (lw (xs (3 * k + 2)) 12)) (lw (xs (3 * k + 1)) 6), (Tn now (lw (xs (3 * k + 1)) 6) (1 + lw (xs (3 * k + 2)) 12)).1 0, now.1 0, now.2.2.2.2.2.2.2.2.2, g, g) = K (bo', now', pr, e', sv', 1, tu, nI k + 1) := by
  obtain ⟨r, e1, ⟨e2, e3⟩, e4, e5⟩ := act_v (M := 12 * k) (k := 3 * k) (xs := xs) h (by omega) hk hL ex
  obtain ⟨-, s2⟩ := low_v (xs (3 * k)) (m := 16) (by omega) (by omega)
  obtain ⟨-, v2⟩ := low_v (xs (3 * k + 1)) (m := 6) (by omega) (by omega)
  obtain ⟨-, n2⟩ := low_v (xs (3 * k + 2)) (m := 12) (by omega) (by omega)
  have e2 : St (12 * (k + 1)) r.2.1 r.2.2.1 r.2.2.2.2 := e2
  have i := (St_I h).1
  have h10 : 10 ≤ lw (xs (3 * k)) 16 → lw (xs (3 * k)) 16 ≤ 13 → r.1 = Spr (Tn now (lw (xs (3 * k + 1)) 6) (lw (xs (3 * k + 2)) 12)) (lw (xs (3 * k + 1)) 6) ∧ r.2.2.1.1 0 = (Tn now (lw (xs (3 * k + 1)) 6) (1 + lw (xs (3 * k + 2)) 12)).1 0 ∧ ¬ now.1 0 < (Tn now (lw (xs (3 * k + 1)) 6) (1 + lw (xs (3 * k + 2)) 12)).1 0 ∧ r.2.2.1.2.2.2.2.2.2.2.1 = now.2.2.2.2.2.2.2.1 + nI (1 + lw (xs (3 * k + 2)) 12) ∧ ¬ r.2.2.1.2.2.2.2.2.2.2.2.2 < Spr (Tn now (lw (xs (3 * k + 1)) 6) (lw (xs (3 * k + 2)) 12)) (lw (xs (3 * k + 1)) 6) ∧ ¬ r.2.2.1.2.2.2.2.2.2.2.2.2 < now.2.2.2.2.2.2.2.2.2 := fun a b => by
    obtain ⟨f1, f2⟩ := e4 a b
    have t1 := Tn_sp i v2 (1 + lw (xs (3 * k + 2)) 12) (by omega)
    have t2 := Tn_g1 now (lw (xs (3 * k + 1)) 6) (lw (xs (3 * k + 2)) 12)
    have t3 := Tn_gs now (lw (xs (3 * k + 1)) 6) (1 + lw (xs (3 * k + 2)) 12)
    rw [f2]
    rw [show lw (xs (3 * k + 2)) 12 + 1 = 1 + lw (xs (3 * k + 2)) 12 by omega] at t2
    exact ⟨f1, rfl, by rw [lt_i]; omega, Tn_sh _ _ _, by rw [lt_i]; omega, by rw [lt_i]; omega⟩
  obtain ⟨e', go⟩ := law_240 (K := K) (bo := r.2.1) (pr := pr) (ex := r.2.2.2.1) (sv := r.2.2.2.2) (tu := tu) (St_I e2) (by omega) v2 s2 hk hL e5 h10
  refine ⟨r.2.1, r.2.2.1, e', r.2.2.2.2, e2, ?_⟩
  unfold fL_law_j179
  dsimp only
  rw [ix3, e1, Option.bind_some, if_pos rfl]
  by_cases q : 0 ≤ r.1
  · rw [if_pos q]
    exact go
  · have q2 := q
    rw [le_i, z_t] at q2
    rcases e3 with e3 | ⟨f1, f2⟩
    · exact absurd e3 q2
    · rw [if_neg q, cn4, tq_inr, if_pos (show r.2.1.1 = bo.1 by rw [f1]), cn0, tq_inr, if_pos (show r.2.2.1.2.2.2.2.2.2.2.1 = now.2.2.2.2.2.2.2.1 by rw [f2]), cu00, tq_inr, if_pos (show r.2.2.1.1 0 = now.1 0 by rw [f2])]
      exact go
theorem law_32 {L k : Nat} {xs : Nat → Int32} {K : LwT → Option Bool} {bo : BoT} {now pr : ShT} {ex : ExT} {sv : Nat → ShT} (h : St (12 * k) bo now sv) (hk : k < min (L / 3) 40) (hL : L ≤ 260) : ∃ bo' now' pr' e' sv', St (12 * (k + 1)) bo' now' sv' ∧ fL_law_l32 L xs K (bo, now, pr, ex, sv, 1, tn L, nI k) = K (bo', now', pr', e', sv', 1, tn L, nI (k + 1)) := by
  have hk3 : 3 * k + 2 < L := by omega
  have i := (St_I h).1
  obtain ⟨s1, s2⟩ := low_v (xs (3 * k)) (m := 16) (by omega) (by omega)
  obtain ⟨v1, v2⟩ := low_v (xs (3 * k + 1)) (m := 6) (by omega) (by omega)
  obtain ⟨n1, n2⟩ := low_v (xs (3 * k + 2)) (m := 12) (by omega) (by omega)
  obtain ⟨⟨r1, w1⟩, -⟩ := if_w (bo := bo) (pr := pr) (ex := ex) (n := 1 + lw (xs (3 * k + 2)) 12) i (by omega) v2 (by omega) (by omega)
  obtain ⟨-, ⟨r2, w2⟩⟩ := if_w (bo := bo) (pr := r1.1) (ex := r1.2) (n := 1 + lw (xs (3 * k + 2)) 12) i (by omega) v2 (by omega) (by omega)
  obtain ⟨a, r3, w3, a1, a2⟩ := gf_v (bo := bo) (pr := r2.1) (ex := r2.2) i (by omega) v2
  rw [show 1 + lw (xs (3 * k + 2)) 12 - 1 = lw (xs (3 * k + 2)) 12 by omega] at w1
  unfold fL_law_l32
  dsimp only
  rw [if_neg (show ¬ tn L ≤ nI k by rw [tn_e hL]; exact nI_ge hk (by omega)), if_neg (show ¬ (1 : Int32) = 0 by decide), cn4, tq_inr, cn0, tq_inr, ix3, ix1, ix2, cell_v (show 3 * k < L by omega) hL, Option.bind_some, show fL_low (xs (3 * k)) 16 = _ from s1, Option.bind_some, cell_v (show 3 * k + 1 < L by omega) hL, Option.bind_some, show fL_low (xs (3 * k + 1)) 6 = _ from v1, Option.bind_some, cell_v hk3 hL, Option.bind_some, show fL_low (xs (3 * k + 2)) 12 = _ from n1, Option.bind_some, show (1 : Int32) + nI (lw (xs (3 * k + 2)) 12) = nI (1 + lw (xs (3 * k + 2)) 12) from nI_add 1 _, w1, tq_inr]
  dsimp only
  rw [w2, tq_inr, cu00, tq_inr, cn3, tq_inr]
  dsimp only
  rw [w3, tq_inr]
  dsimp only
  by_cases q : (Sx now (lw (xs (3 * k + 1)) 6)).2.2.2.2.1 ≤ 100
  · have ha := a2.mpr q
    rw [if_neg (nI_nle ha (by omega))]
    unfold fL_law_j160
    dsimp only
    rw [sp5 i v2, tq_inr]
    dsimp only
    rw [if_neg (show ¬ 100 < (Sx now (lw (xs (3 * k + 1)) 6)).2.2.2.2.1 by rw [lt_i]; rw [le_i] at q; omega)]
    obtain ⟨bo', now', e', sv', g1, g2⟩ := law_179 (xs := xs) (K := K) (pr := r3.1) (ex := Exp r3.2 now (lw (xs (3 * k + 1)) 6)) (tu := tn L) (g := 1) h hk3 hL (by omega)
    exact ⟨bo', now', _, e', sv', g1, g2.trans (by rw [← nI_succ])⟩
  · have ha : a = 0 := by
      by_cases z : 0 < a
      · exact absurd (a2.mp z) q
      · omega
    rw [if_pos (show nI a ≤ 0 by rw [ha]; decide)]
    unfold fL_law_j160
    dsimp only
    rw [sp5 i v2, tq_inr]
    dsimp only
    rw [if_pos (show 100 < (Sx now (lw (xs (3 * k + 1)) 6)).2.2.2.2.1 by rw [lt_i]; rw [le_i] at q; omega)]
    obtain ⟨bo', now', e', sv', g1, g2⟩ := law_179 (xs := xs) (K := K) (pr := r3.1) (ex := Exp r3.2 now (lw (xs (3 * k + 1)) 6)) (tu := tn L) (g := 0) h hk3 hL (by omega)
    exact ⟨bo', now', _, e', sv', g1, g2.trans (by rw [← nI_succ])⟩
theorem Inv_ini : Inv iniS 0 := ⟨by decide +kernel, by decide +kernel, by decide +kernel, by decide +kernel, by decide +kernel, by decide +kernel, by decide +kernel, by decide +kernel, by decide +kernel⟩
theorem St_ini : St (12 * 0) (0, 0, 0) iniS (fun _ => iniS) := ⟨0, 0, by omega, by omega, rfl, ⟨Inv_ini, by decide +kernel⟩, fun j hj => absurd hj (by omega)⟩
theorem law_true (L : Nat) (xs : Nat → Int32) (hL : L ≤ 260) : fL_law L xs = some true := by
  unfold fL_law
  refine lp_any (B := fL_law_l32 L xs) (fun k s => ∃ bo now pr e sv, St (12 * k) bo now sv ∧ s = (bo, now, pr, e, sv, 1, tn L, nI k)) (fun o => o = some true) (min (L / 3) 40) (fun k s K hk hP => ?_) (fun s K hP => ?_) 2000 0 _ (by omega) (by omega) ⟨_, _, _, _, _, St_ini, rfl⟩
  · obtain ⟨bo, now, pr, e, sv, h, rfl⟩ := hP
    obtain ⟨bo', now', pr', e', sv', g1, g2⟩ := law_32 (xs := xs) (K := K) (pr := pr) (ex := e) h hk hL
    exact ⟨_, ⟨bo', now', pr', e', sv', g1, rfl⟩, g2⟩
  · obtain ⟨bo, now, pr, e, sv, h, rfl⟩ := hP
    unfold fL_law_l32
    dsimp only
    rw [if_pos (show tn L ≤ nI (min (L / 3) 40) by rw [tn_e hL]; exact nI_le (Nat.le_refl _) (by omega)), if_pos rfl]
