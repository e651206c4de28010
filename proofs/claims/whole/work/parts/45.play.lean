/-! what a text does: reference and class -/
theorem Tn_sh {x : ShT} {v : Nat} : ∀ n, (Tn x v n).2.2.2.2.2.2.2.1 = x.2.2.2.2.2.2.2.1 + nI n := by
  intro n
  induction n with
  | zero => exact (Int32.add_zero _).symm
  | succ n ih =>
    show (Tn x v n).2.2.2.2.2.2.2.1 + 1 = _
    rw [ih, nI_succ, Int32.add_assoc]
theorem Inv_si {x : ShT} {M c : Nat} (h : Inv x M) : Inv (x.1, upd x.2.1 c 0, x.2.2) M := by
  refine ⟨h.1, fun j hj => ?_, h.2.2⟩
  show 0 ≤ (upd x.2.1 c 0 j).toInt ∧ (upd x.2.1 c 0 j).toInt ≤ M
  by_cases e : j = c
  · subst e; rw [upd_eq, z_t]; omega
  · rw [upd_ne e]; exact h.2.1 j hj
theorem nI_n {a b : Nat} (ha : a < 1000) (hb : b < 1000) (h : ¬ a = b) : ¬ nI a = nI b := fun z => h ((nI_eq (by omega) (by omega)).mp z)
section
variable {bo : BoT} {buf tx td : Fn} {n p q i : Nat}
theorem digit_v {c : Nat} (hp : p < 60) (h : buf p = nI (48 + c)) : fX2_digitAt bo buf (nI p) = some (nI c) := by
  unfold fX2_digitAt
  rw [at_nI _ hp (by decide), Option.bind_some, h]
  exact congrArg some ((nI_sub (a := 48 + c) (b := 48) (by omega)).trans (by rw [show 48 + c - 48 = c by omega]))
theorem td_i {i N : Nat} (h : i < N) (hN : N ≤ 31) : 3 * i + 2 < 93 := by omega
/-- one part: what it does -/
theorem prt_v {ex : ExT} {x : ShT} {fn le co li : Fn} {M N : Nat} {m : MoT} (hR : Rel x fn 0) (hI : Inv x M) (hM : M + 9 ≤ 200000) (hq : q ≤ n) (hn : n ≤ 60) (hm : m.2.2.2.2.2 = nI N) (hN : N ≤ 31) (hi : i < N) (h : Prt buf td i p q) :
    ∃ sh x' ex' fn' le' co' li', sh ≤ 9 ∧ fX2_playPart bo x ex buf (nI p) (nI q) = some (nI sh, x', ex') ∧ (∀ K pa had, fX3_play_l37 tx K (m, fn, pa, td, le, co, li, had, nI i) = K (m, fn', pa, td, le', co', li', had, nI (i + 1))) ∧ Rel x' fn' 0 ∧ Inv x' (M + 9) ∧ x'.2.2.2.2.2.2.2.1 = x.2.2.2.2.2.2.2.1 + nI sh ∧ ∀ j, p ≤ j → j < q → ¬ buf j = 59 := by
  have i1 : (3 : Int32) * nI i = nI (3 * i) := nI_mul 3 i
  have i2 : nI (3 * i) + 1 = nI (3 * i + 1) := nI_add _ 1
  have i3 : nI (3 * i) + 2 = nI (3 * i + 2) := nI_add _ 2
  unfold fX2_playPart fX3_play_l37
  rcases h with ⟨h1, t1, c, s, d, hc, hs1, hs2, h2, h3, t2, t3, hd1, hd2, h4, h5⟩ | ⟨h1, t1, rfl, c, hc, h2, t2⟩ | ⟨v, hv, h1, t1, t2, h2⟩
  · have hq4 : p + 4 ≤ q := by rcases h5 with ⟨h5, _⟩ | ⟨h5, _⟩ <;> omega
    have es : fX2_springOfText bo buf (nI p + 3) (nI q) = some (nI s) := by
      unfold fX2_springOfText
      rw [show nI p + 3 = nI (p + 3) from nI_add p 3, digit_v (by omega) h4, Option.bind_some]
      rcases h5 with ⟨rfl, rfl⟩ | ⟨rfl, f, f1, f2, rfl⟩
      · rw [nI_sub (by omega), show p + 4 - (p + 3) = 1 by omega, if_pos (show nI 1 ≤ 1 by decide)]
      · rw [nI_sub (by omega), show p + 5 - (p + 3) = 2 by omega, if_neg (show ¬ nI 2 ≤ 1 by decide), ← nI_succ, digit_v (p := p + 3 + 1) (by omega) f2, Option.bind_some, show (10 : Int32) * nI d = nI (10 * d) from nI_mul 10 d, nI_add]
    refine ⟨0, (upd x.1 c (nI s), x.2), ex, upd fn (4 + c) (nI s), le, co, li, by omega, ?_, fun K pa had => ?_, Rel_sp hc hR, Inv_up (Inv_Zs (c := c) hI (by rw [nI_toInt (by omega)]; omega)) (by omega), (Int32.add_zero _).symm, fun j j1 j2 => ?_⟩
    · rw [at_nI _ (show p < 60 by omega) (by decide), Option.bind_some, h1, if_pos rfl, ← nI_succ, digit_v (p := p + 1) (by omega) h2, Option.bind_some, es, Option.bind_some, put_nI _ _ hc (by decide), Option.bind_some]
      rfl
    · dsimp only
      rw [hm, if_neg (nI_ge hi (by omega)), i1, i2, i3, gd_t (pin_nI (by omega) (by decide)), gd_t (pin_nI (by omega) (by decide)), nI_clamp (show 3 * i < 2 ^ 31 by omega), if_pos t1, gd_t (pin_nI (by omega) (by decide)), nI_clamp (show 3 * i + 1 < 2 ^ 31 by omega), t2, nI_clamp (show 3 * i + 2 < 2 ^ 31 by omega), t3, p4, gd_t (pin_nI (by omega) (by decide)), nI_clamp (by omega), ← nI_succ]
    · intro z
      rcases (by omega : j = p ∨ j = p + 1 ∨ j = p + 2 ∨ j = p + 3 ∨ j = p + 4) with rfl | rfl | rfl | rfl | rfl
      · rw [h1] at z; exact absurd z (by decide)
      · rw [h2] at z; exact nI_n (a := 48 + c) (b := 59) (by omega) (by omega) (by omega) z
      · rw [h3] at z; exact absurd z (by decide)
      · rw [h4] at z; exact nI_n (a := 48 + d) (b := 59) (by omega) (by omega) (by omega) z
      · rcases h5 with ⟨h5, _⟩ | ⟨_, f, f1, f2, _⟩
        · omega
        · rw [f2] at z; exact nI_n (a := 48 + f) (b := 59) (by omega) (by omega) (by omega) z
  · refine ⟨0, (x.1, upd x.2.1 c 0, x.2.2), ex, upd fn (6 + c) 0, le, co, li, by omega, ?_, fun K pa had => ?_, Rel_si hc hR, Inv_up (Inv_si hI) (by omega), (Int32.add_zero _).symm, fun j j1 j2 => ?_⟩
    · rw [at_nI _ (show p < 60 by omega) (by decide), Option.bind_some, h1, if_neg (show ¬ (99 : Int32) = 119 by decide), if_pos rfl, ← nI_succ, digit_v (p := p + 1) (by omega) h2, Option.bind_some, put_nI _ _ hc (by decide), Option.bind_some]
      rfl
    · dsimp only
      rw [hm, if_neg (nI_ge hi (by omega)), i1, i2, i3, gd_t (pin_nI (by omega) (by decide)), gd_t (pin_nI (by omega) (by decide)), nI_clamp (show 3 * i < 2 ^ 31 by omega), if_neg (show ¬ td (3 * i) = 119 by rw [t1]; decide), if_pos t1, nI_clamp (show 3 * i + 1 < 2 ^ 31 by omega), t2, p6, gd_t (pin_nI (by omega) (by decide)), nI_clamp (by omega), ← nI_succ]
    · intro z
      rcases (by omega : j = p ∨ j = p + 1) with rfl | rfl
      · rw [h1] at z; exact absurd z (by decide)
      · rw [h2] at z; exact nI_n (a := 48 + c) (b := 59) (by omega) (by omega) (by omega) z
  · have n1 : ¬ nI (48 + v) = 119 := nI_n (a := 48 + v) (b := 119) (by omega) (by omega) (by omega)
    have n2 : ¬ nI (48 + v) = 99 := nI_n (a := 48 + v) (b := 99) (by omega) (by omega) (by omega)
    have hq1 : p + 1 ≤ q := by rcases h2 with ⟨h2, _⟩ | ⟨h2, _⟩ <;> omega
    obtain ⟨mm, m0, m9, t3, hp3⟩ : ∃ mm, 1 ≤ mm ∧ mm ≤ 9 ∧ td (3 * i + 2) = nI mm ∧ (if nI q - nI p ≤ 1 then fX2_playPart_j86 bo buf (x, ex, nI p, 1) else (fX2_digitAt bo buf (nI p + 2)).bind (fun r5 => fX2_playPart_j86 bo buf (x, ex, nI p, r5))) = fX2_playPart_j86 bo buf (x, ex, nI p, nI mm) := by
      rcases h2 with ⟨rfl, t3⟩ | ⟨rfl, _, mm, m1, m2, m3, t3⟩
      · refine ⟨1, by omega, by omega, t3, ?_⟩
        rw [nI_sub (by omega), show p + 1 - p = 1 by omega, if_pos (show nI 1 ≤ 1 by decide)]
        rfl
      · refine ⟨mm, by omega, m2, t3, ?_⟩
        rw [nI_sub (by omega), show p + 3 - p = 3 by omega, if_neg (show ¬ nI 3 ≤ 1 by decide), show nI p + 2 = nI (p + 2) from nI_add p 2, digit_v (by omega) m3, Option.bind_some]
    obtain ⟨⟨ex', x'⟩, e1, e2, e3⟩ := fire_eq (bo := bo) (ex := ex) (n := mm) hI (by omega) hv (by omega)
    obtain ⟨⟨f1, f2, f3, f4⟩, g1, g2, g3⟩ := shots_eq (mo := m) (le := le) (co := co) (li := li) (n := mm) hR hI (by omega) hv (by omega)
    dsimp only at e2 g2
    subst e2
    refine ⟨mm, Tn x v mm, ex', f1, f2, f3, f4, m9, ?_, fun K pa had => ?_, g2, Inv_up (Inv_Tn hI hv mm (by omega)) (by omega), Tn_sh mm, fun j j1 j2 => ?_⟩
    · rw [at_nI _ (show p < 60 by omega) (by decide), Option.bind_some, h1, if_neg n1, if_neg n2, hp3]
      unfold fX2_playPart_j86
      dsimp only
      rw [digit_v (by omega) h1, Option.bind_some, e1, Option.bind_some]
    · dsimp only
      rw [hm, if_neg (nI_ge hi (by omega)), i1, i2, i3, gd_t (pin_nI (by omega) (by decide)), gd_t (pin_nI (by omega) (by decide)), nI_clamp (show 3 * i < 2 ^ 31 by omega), if_neg (show ¬ td (3 * i) = 119 by rw [t1]; exact n1), if_neg (show ¬ td (3 * i) = 99 by rw [t1]; exact n2), gd_t (pin_nI (by omega) (by decide)), nI_clamp (show 3 * i + 1 < 2 ^ 31 by omega), t2, nI_clamp (show 3 * i + 2 < 2 ^ 31 by omega), t3, g1, Option.bind_some, ← nI_succ]
    · intro z
      rcases h2 with ⟨h2, _⟩ | ⟨h2, h3, mm', m1, m2, m3, _⟩
      · obtain rfl : j = p := by omega
        rw [h1] at z; exact nI_n (a := 48 + v) (b := 59) (by omega) (by omega) (by omega) z
      · rcases (by omega : j = p ∨ j = p + 1 ∨ j = p + 2) with rfl | rfl | rfl
        · rw [h1] at z; exact nI_n (a := 48 + v) (b := 59) (by omega) (by omega) (by omega) z
        · rw [h3] at z; exact absurd z (by decide)
        · rw [m3] at z; exact nI_n (a := 48 + mm') (b := 59) (by omega) (by omega) (by omega) z
/-! the loops over the parts -/
theorem pl_s {K : BoT × ShT × ExT × (Nat → ShT) × Int32 × Int32 × Int32 → Option (Nat ⊕ (Int32 × BoT × ShT × ExT × (Nat → ShT)))} {x : ShT} {ex : ExT} {sv : Nat → ShT} {ma st : Int32} {k : Nat} (hb : bo.2.2 = nI n) (hn : n ≤ 60) (hk : k < n) (h : ¬ buf k = 59) : fX2_play_l27 buf K (bo, x, ex, sv, ma, st, nI k) = K (bo, x, ex, sv, ma, st, nI (k + 1)) := by
  unfold fX2_play_l27
  dsimp only
  rw [hb, if_neg (nI_nlt (by omega) (by omega)), if_neg (nI_n (by omega) (by omega) (by omega)), at_nI _ (show k < 60 by omega) (by decide), Option.bind_some, if_neg h, ← nI_succ]
theorem pl_p {K : BoT × ShT × ExT × (Nat → ShT) × Int32 × Int32 × Int32 → Option (Nat ⊕ (Int32 × BoT × ShT × ExT × (Nat → ShT)))} {x x' : ShT} {ex ex' : ExT} {sv : Nat → ShT} {ma st sh : Int32} {k : Nat} (hb : bo.2.2 = nI n) (hn : n ≤ 60) (hk : k ≤ n) (h : k < n → buf k = 59) (e : fX2_playPart bo x ex buf st (nI k) = some (sh, x', ex')) : fX2_play_l27 buf K (bo, x, ex, sv, ma, st, nI k) = K (bo, x', ex', sv, ma + sh, nI (k + 1), nI (k + 1)) := by
  have j : fX2_play_j56 buf K (bo, x, ex, sv, ma, st, nI k) = K (bo, x', ex', sv, ma + sh, nI (k + 1), nI (k + 1)) := by
    unfold fX2_play_j56
    dsimp only
    rw [e, Option.bind_some, ← nI_succ]
  unfold fX2_play_l27
  dsimp only
  rw [hb, if_neg (nI_nlt (by omega) (by omega))]
  by_cases q : k = n
  · subst q
    rw [if_pos rfl, j]
  · rw [if_neg (nI_n (by omega) (by omega) q), at_nI _ (show k < 60 by omega) (by decide), Option.bind_some, if_pos (h (by omega)), j]
theorem pl_e {K : BoT × ShT × ExT × (Nat → ShT) × Int32 × Int32 × Int32 → Option (Nat ⊕ (Int32 × BoT × ShT × ExT × (Nat → ShT)))} {x : ShT} {ex : ExT} {sv : Nat → ShT} {ma st : Int32} (hb : bo.2.2 = nI n) (hn : n ≤ 60) : fX2_play_l27 buf K (bo, x, ex, sv, ma, st, nI (n + 1)) = some (.inr (ma, (bo.1, bo.2.1, 0), x, ex, sv)) := by
  unfold fX2_play_l27
  dsimp only
  rw [hb, if_pos (nI_lt (by omega) (by omega))]
theorem pl_sk {x : ShT} {ex : ExT} {sv : Nat → ShT} {ma st : Int32} (hb : bo.2.2 = nI n) (hn : n ≤ 60) : ∀ d k fu, (∀ j, k ≤ j → j < k + d → ¬ buf j = 59) → k + d ≤ n → lp (fX2_play_l27 buf) (fu + d) (bo, x, ex, sv, ma, st, nI k) = lp (fX2_play_l27 buf) fu (bo, x, ex, sv, ma, st, nI (k + d)) := by
  intro d
  induction d with
  | zero => intro k fu _ _; rfl
  | succ d ih =>
    intro k fu h1 h2
    have e : lp (fX2_play_l27 buf) (fu + (d + 1)) (bo, x, ex, sv, ma, st, nI k) = lp (fX2_play_l27 buf) (fu + d) (bo, x, ex, sv, ma, st, nI (k + 1)) := pl_s hb hn (by omega) (h1 k (by omega) (by omega))
    rw [e, ih (k + 1) fu (fun j j1 j2 => h1 j (by omega) (by omega)) (by omega), show k + 1 + d = k + (d + 1) by omega]
theorem rl_e {K : MoT × Fn × Fn × Fn × Fn × Fn × Fn × Int32 × Int32 → Option (Int32 × MoT × Fn × Fn × Fn × Fn × Fn × Fn)} {m : MoT} {fn pa le co li : Fn} {had : Int32} {N : Nat} (hm : m.2.2.2.2.2 = nI N) (hN : N ≤ 31) : fX3_play_l37 tx K (m, fn, pa, td, le, co, li, had, nI N) = some (fn 20 - had, m, fn, pa, td, le, co, li) := by
  unfold fX3_play_l37
  dsimp only
  rw [hm, if_pos (nI_le (Nat.le_refl _) (by omega)), k20]
theorem go_v {sv : Nat → ShT} {m : MoT} {pa : Fn} {had : Int32} {N : Nat} (hb : bo.2.2 = nI n) (hn : n ≤ 60) (hm : m.2.2.2.2.2 = nI N) (hN : N ≤ 31) :
    ∀ r i p x ex fn le co li M ma, Txt n buf td r i p → i + r + 1 = N → Rel x fn 0 → Inv x M → M + 9 * (r + 1) ≤ 200000 →
    ∃ x' ex' fn' le' co' li' tot, tot ≤ 9 * (r + 1) ∧ (∀ fu, n + 1 < p + fu → lp (fX2_play_l27 buf) fu (bo, x, ex, sv, ma, nI p, nI p) = some (.inr (ma + nI tot, (bo.1, bo.2.1, 0), x', ex', sv))) ∧ (∀ fu, N < i + fu → lp (fX3_play_l37 tx) fu (m, fn, pa, td, le, co, li, had, nI i) = some (fn' 20 - had, m, fn', pa, td, le', co', li')) ∧ Rel x' fn' 0 ∧ Inv x' (M + 9 * (r + 1)) ∧ x'.2.2.2.2.2.2.2.1 = x.2.2.2.2.2.2.2.1 + nI tot := by
  intro r
  induction r with
  | zero =>
    intro i p x ex fn le co li M ma hT hr hR hI hM
    obtain ⟨hp, hT⟩ := hT
    obtain ⟨sh, x', ex', fn', le', co', li', a1, a2, a3, a4, a5, a6, a7⟩ := prt_v (bo := bo) (tx := tx) (ex := ex) (le := le) (co := co) (li := li) hR hI (by omega) (Nat.le_refl n) hn hm hN (show i < N by omega) hT
    refine ⟨x', ex', fn', le', co', li', sh, by omega, fun fu hf => ?_, fun fu hf => ?_, a4, a5, a6⟩
    · obtain ⟨g, rfl⟩ : ∃ g, fu = g + 2 + (n - p) := ⟨fu - 2 - (n - p), by omega⟩
      rw [pl_sk hb hn (n - p) p (g + 2) (fun j j1 j2 => a7 j j1 (by omega)) (by omega), show p + (n - p) = n by omega]
      exact (pl_p hb hn (Nat.le_refl n) (fun z => absurd z (by omega)) a2).trans (pl_e hb hn)
    · obtain ⟨g, rfl⟩ : ∃ g, fu = g + 2 := ⟨fu - 2, by omega⟩
      refine (a3 _ pa had).trans ?_
      rw [show i + 1 = N by omega]
      exact rl_e hm hN
  | succ r ih =>
    intro i p x ex fn le co li M ma hT hr hR hI hM
    obtain ⟨q, hpq, hqn, hT, hq, hT2⟩ := hT
    obtain ⟨sh, x', ex', fn', le', co', li', a1, a2, a3, a4, a5, a6, a7⟩ := prt_v (bo := bo) (tx := tx) (ex := ex) (le := le) (co := co) (li := li) hR hI (by omega) (Nat.le_of_lt hqn) hn hm hN (show i < N by omega) hT
    obtain ⟨x2, ex2, fn2, le2, co2, li2, tot, b1, b2, b3, b4, b5, b6⟩ := ih (i + 1) (q + 1) x' ex' fn' le' co' li' (M + 9) (ma + nI sh) hT2 (by omega) a4 a5 (by omega)
    refine ⟨x2, ex2, fn2, le2, co2, li2, sh + tot, by omega, fun fu hf => ?_, fun fu hf => ?_, b4, Inv_up b5 (by omega), ?_⟩
    · obtain ⟨g, rfl⟩ : ∃ g, fu = g + 1 + (q - p) := ⟨fu - 1 - (q - p), by omega⟩
      rw [pl_sk hb hn (q - p) p (g + 1) (fun j j1 j2 => a7 j j1 (by omega)) (by omega), show p + (q - p) = q by omega]
      refine (pl_p hb hn (Nat.le_of_lt hqn) (fun _ => hq) a2).trans ?_
      rw [show nI (sh + tot) = nI sh + nI tot from (nI_add sh tot).symm, ← Int32.add_assoc]
      exact b2 g (by omega)
    · obtain ⟨g, rfl⟩ : ∃ g, fu = g + 1 := ⟨fu - 1, by omega⟩
      exact (a3 _ pa had).trans (b3 g (by omega))
    · rw [b6, a6, show nI (sh + tot) = nI sh + nI tot from (nI_add sh tot).symm, Int32.add_assoc]
theorem Txt_r {t : Fn} : ∀ r i p, Txt n t td r i p → p + 2 * r < n := by
  intro r
  induction r with
  | zero =>
    intro i p h
    obtain ⟨h, _⟩ := h
    omega
  | succ r ih =>
    intro i p h
    obtain ⟨q, h1, h2, _, _, h3⟩ := h
    have := ih _ _ h3
    omega
end
