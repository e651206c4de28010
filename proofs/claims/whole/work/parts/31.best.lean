/-! best, ifShot, goodFor -/
theorem upd_upd {f : Fn} {i : Nat} {a b : Int32} : upd (upd f i a) i b = upd f i b := by
  funext j
  by_cases e : j = i
  · subst e; rw [upd_eq, upd_eq]
  · rw [upd_ne e, upd_ne e, upd_ne e]
theorem upd_self {f : Fn} {i : Nat} : upd f i (f i) = f := by
  funext j
  by_cases e : j = i
  · subst e; rw [upd_eq]
  · rw [upd_ne e]
def Zc (y : ShT) (v : Nat) (a : Int32) : ShT := (y.1, y.2.1, y.2.2.1, y.2.2.2.1, upd y.2.2.2.2.1 v a, y.2.2.2.2.2)
def Zs (y : ShT) (c : Nat) (a : Int32) : ShT := (upd y.1 c a, y.2)
theorem Inv_Zc {y : ShT} {M v : Nat} {a : Int32} (h : Inv y M) (ha : -50 ≤ a.toInt ∧ a.toInt ≤ 50) : Inv (Zc y v a) M := by
  refine ⟨h.1, h.2.1, h.2.2.1, h.2.2.2.1, fun j hj => ?_, h.2.2.2.2.2⟩
  show -50 ≤ (upd y.2.2.2.2.1 v a j).toInt ∧ (upd y.2.2.2.2.1 v a j).toInt ≤ 50
  by_cases e : j = v
  · subst e; rw [upd_eq]; exact ha
  · rw [upd_ne e]; exact h.2.2.2.2.1 j hj
theorem Inv_Zs {y : ShT} {M c : Nat} {a : Int32} (h : Inv y M) (ha : 1 ≤ a.toInt ∧ a.toInt ≤ 99) : Inv (Zs y c a) M := by
  refine ⟨fun j hj => ?_, h.2⟩
  show 1 ≤ (upd y.1 c a j).toInt ∧ (upd y.1 c a j).toInt ≤ 99
  by_cases e : j = c
  · subst e; rw [upd_eq]; exact ha
  · rw [upd_ne e]; exact h.1 j hj
theorem Rel_Zc {y : ShT} {v : Nat} {a b : Int32} {g : Fn} (hv : v < 6) (h : Rel (Zc y v a) g 0) : Rel (Zc y v b) (upd g (8 + v) b) 0 := by
  have q := Rel_co hv (a := b) h
  have e : Zc y v b = (y.1, y.2.1, y.2.2.1, y.2.2.2.1, upd (upd y.2.2.2.2.1 v a) v b, y.2.2.2.2.2) := by rw [upd_upd]; rfl
  rw [e]; exact q
theorem Rel_Zs {y : ShT} {c : Nat} {a b : Int32} {g : Fn} (hc : c < 2) (h : Rel (Zs y c a) g 0) : Rel (Zs y c b) (upd g (4 + c) b) 0 := by
  have q := Rel_sp hc (a := b) h
  have e : Zs y c b = (upd (upd y.1 c a) c b, y.2) := by rw [upd_upd]; rfl
  rw [e]; exact q
def BF (E : Int32 → Int32) (lo : Int32) : Nat → Int32 × Int32
  | 0 => (lo, -1)
  | k + 1 => if (BF E lo k).2 = -1 then (lo + nI k, E (lo + nI k)) else if (BF E lo k).2 ≤ E (lo + nI k) then BF E lo k else (lo + nI k, E (lo + nI k))
theorem its_succ (lo : Int32) (k : Nat) : lo + nI k + 1 = lo + nI (k + 1) := by rw [nI_succ, Int32.add_assoc]
theorem best_r {mo : MoT} {fn ft le co li : Fn} {Z : Int32 → ShT} {ix N M v : Nat} {lo hi w a0 : Int32} (hx : ix < 71) (hN : N ≤ 200) (hM : M ≤ 200000) (hv : v < 6) (hZ : ∀ a b g, Rel (Z a) g 0 → Rel (Z b) (upd g ix b) 0) (hI : ∀ k, k < N → Inv (Z (lo + nI k)) M) (hlt : ∀ k, k < N → ¬ hi < lo + nI k) (hend : hi < lo + nI N) (h0 : Rel (Z a0) fn 0) : ∃ r, fX3_best mo fn ft le co li (nI ix) lo hi (nI v) w = some ((BF (fun a => tl (Sx (Z a) v) w) lo N).1, r) := by
  unfold fX3_best
  rw [show (0 : Int32) = nI 0 from rfl, copies_eq (by omega) (by omega) (by decide) (by decide), Option.bind_some]
  have g := lp_rel (B := fX3_best_l22 mo fn) (fun k (s : Fn × Fn × Fn × Fn × Int32 × Int32 × Int32 × Int32 × Int32 × Int32 × Int32) => (∃ a, Rel (Z a) s.1 0) ∧ s.2.2.2.2 = (nI ix, hi, nI v, w, (BF (fun a => tl (Sx (Z a) v) w) lo k).1, (BF (fun a => tl (Sx (Z a) v) w) lo k).2, lo + nI k)) (fun r => r.1 = (BF (fun a => tl (Sx (Z a) v) w) lo N).1) N (fun k s K hk hP => ?_) (fun s K hP => ?_) 2000 0 (cpy fn ft 0 0, le, co, li, nI ix, hi, nI v, w, lo, -1, lo) (by omega) (by omega) ⟨⟨a0, Rel_cpy h0⟩, by
    show (nI ix, hi, nI v, w, lo, -1, lo) = (nI ix, hi, nI v, w, lo, (-1 : Int32), lo + nI 0)
    rw [show nI 0 = (0 : Int32) from rfl, Int32.add_zero]⟩
  · obtain ⟨r, e1, e2⟩ := g
    exact ⟨r.2, by rw [← e2]; exact e1⟩
  · obtain ⟨g, p, q, u, z⟩ := s
    obtain ⟨⟨a, ha⟩, hz⟩ := hP
    dsimp only at ha hz
    subst hz
    have hR := hZ a (lo + nI k) g ha
    obtain ⟨r, f1, f2, f3, f4⟩ := lays_eq (mo := mo) (le := p) (co := q) (li := u) hR (hI k hk) hM hv
    unfold fX3_best_l22
    dsimp only
    rw [if_neg (hlt k hk), gd_t (pin_nI hx (by decide)), nI_clamp (by omega), f1, Option.bind_some, tells_eq (hI k hk) hM hv f4, Option.bind_some]
    unfold fX3_best_j76
    dsimp only
    rw [its_succ]
    refine ⟨(upd g ix (lo + nI k), r.1, r.2.1, r.2.2, nI ix, hi, nI v, w, (BF (fun a => tl (Sx (Z a) v) w) lo (k + 1)).1, (BF (fun a => tl (Sx (Z a) v) w) lo (k + 1)).2, lo + nI (k + 1)), ⟨⟨_, hR⟩, rfl⟩, ?_⟩
    have e : BF (fun a => tl (Sx (Z a) v) w) lo (k + 1) = if (BF (fun a => tl (Sx (Z a) v) w) lo k).2 = -1 then (lo + nI k, tl (Sx (Z (lo + nI k)) v) w) else if (BF (fun a => tl (Sx (Z a) v) w) lo k).2 ≤ tl (Sx (Z (lo + nI k)) v) w then BF (fun a => tl (Sx (Z a) v) w) lo k else (lo + nI k, tl (Sx (Z (lo + nI k)) v) w) := rfl
    rw [e]
    generalize BF (fun a => tl (Sx (Z a) v) w) lo k = b
    by_cases c1 : b.2 = -1
    · rw [if_pos c1, if_pos c1, if_pos c1]
    · rw [if_neg c1, if_neg c1, if_neg c1]
      by_cases c2 : b.2 ≤ tl (Sx (Z (lo + nI k)) v) w
      · rw [if_pos c2, if_pos c2, if_pos c2, if_neg c1]
      · rw [if_neg c2, if_neg c2, if_neg c2, if_neg c1]
  · obtain ⟨g, p, q, u, z⟩ := s
    obtain ⟨_, hz⟩ := hP
    dsimp only at hz
    subst hz
    unfold fX3_best_l22
    dsimp only
    rw [if_pos hend]
    exact ⟨_, rfl, rfl⟩
theorem it_c {k : Nat} (h : k ≤ 101) : ((-50 : Int32) + nI k).toInt = (k : Int) - 50 := by
  rw [ti_add (by rw [nI_toInt (by omega), show (-50 : Int32).toInt = -50 from rfl]; omega) (by rw [nI_toInt (by omega), show (-50 : Int32).toInt = -50 from rfl]; omega), nI_toInt (by omega), show (-50 : Int32).toInt = -50 from rfl]; omega
theorem it_s {k : Nat} (h : k ≤ 99) : ((1 : Int32) + nI k).toInt = (k : Int) + 1 := by
  rw [ti_add (by rw [nI_toInt (by omega), o_t]; omega) (by rw [nI_toInt (by omega), o_t]; omega), nI_toInt (by omega), o_t]; omega
theorem bestC_c {bo : BoT} {now pr : ShT} {ex : ExT} {M v : Nat} (hI : Inv now M) (hv : v < 6) : ∃ r, fX2_bestCorrection bo now pr ex (nI v) = some (.inr ((BF (fun a => tl (Sx (Zc (mrgS now pr) v a) v) 10) (-50) 101).1 + 100, r)) := by
  unfold fX2_bestCorrection
  rw [needV hv, tb_inr, become_eq, Option.bind_some]
  have g := lp_rel (B := fX2_bestCorrection_l24 bo now) (fun k (s : ShT × ExT × Int32 × Int32 × Int32 × Int32) => (∃ a, s.1 = Zc (mrgS now pr) v a) ∧ s.2.2 = (nI v, (BF (fun a => tl (Sx (Zc (mrgS now pr) v a) v) 10) (-50) k).1, (BF (fun a => tl (Sx (Zc (mrgS now pr) v a) v) 10) (-50) k).2, (-50) + nI k)) (fun r => ∃ z, r = .inr ((BF (fun a => tl (Sx (Zc (mrgS now pr) v a) v) 10) (-50) 101).1 + 100, z)) 101 (fun k s K hk hP => ?_) (fun s K hP => ?_) 2000 0 (mrgS now pr, ex, nI v, (-50), (-1), (-50)) (by omega) (by omega) ⟨⟨(mrgS now pr).2.2.2.2.1 v, by unfold Zc; rw [upd_self]⟩, rfl⟩
  · obtain ⟨r, e1, z, rfl⟩ := g
    exact ⟨z, e1⟩
  · obtain ⟨p, q, z⟩ := s
    obtain ⟨⟨a, ha⟩, hz⟩ := hP
    dsimp only at ha hz
    subst ha hz
    have ii := it_c (k := k) (by omega)
    obtain ⟨ex', e1, e2⟩ := expose_eq (ex := q) (Inv_Zc (v := v) (a := (-50) + nI k) (Inv_mrg (x := pr) hI) (by omega)) hv
    unfold fX2_bestCorrection_l24
    dsimp only
    have eu : ((Zc (mrgS now pr) v a).1, (Zc (mrgS now pr) v a).2.1, (Zc (mrgS now pr) v a).2.2.1, (Zc (mrgS now pr) v a).2.2.2.1, upd (Zc (mrgS now pr) v a).2.2.2.2.1 v ((-50) + nI k), (Zc (mrgS now pr) v a).2.2.2.2.2.1, (Zc (mrgS now pr) v a).2.2.2.2.2.2.1, (Zc (mrgS now pr) v a).2.2.2.2.2.2.2.1, (Zc (mrgS now pr) v a).2.2.2.2.2.2.2.2.1, (Zc (mrgS now pr) v a).2.2.2.2.2.2.2.2.2) = Zc (mrgS now pr) v ((-50) + nI k) := by
      unfold Zc; rw [upd_upd]
    rw [if_neg (by rw [lt_i, ii, show (50 : Int32).toInt = 50 from rfl]; omega), put_nI _ _ hv (by decide), Option.bind_some, eu, e1, Option.bind_some, its_succ, E_ae e2]
    refine ⟨(Zc (mrgS now pr) v ((-50) + nI k), ex', nI v, (BF (fun a => tl (Sx (Zc (mrgS now pr) v a) v) 10) (-50) (k + 1)).1, (BF (fun a => tl (Sx (Zc (mrgS now pr) v a) v) 10) (-50) (k + 1)).2, (-50) + nI (k + 1)), ⟨⟨_, rfl⟩, rfl⟩, ?_⟩
    have e : BF (fun a => tl (Sx (Zc (mrgS now pr) v a) v) 10) (-50) (k + 1) = if (BF (fun a => tl (Sx (Zc (mrgS now pr) v a) v) 10) (-50) k).2 = -1 then ((-50) + nI k, tl (Sx (Zc (mrgS now pr) v ((-50) + nI k)) v) 10) else if (BF (fun a => tl (Sx (Zc (mrgS now pr) v a) v) 10) (-50) k).2 ≤ tl (Sx (Zc (mrgS now pr) v ((-50) + nI k)) v) 10 then BF (fun a => tl (Sx (Zc (mrgS now pr) v a) v) 10) (-50) k else ((-50) + nI k, tl (Sx (Zc (mrgS now pr) v ((-50) + nI k)) v) 10) := rfl
    rw [e, tl10]
    generalize BF (fun a => tl (Sx (Zc (mrgS now pr) v a) v) 10) (-50) k = b
    by_cases c1 : b.2 = -1
    · rw [if_pos c1, if_pos c1]
    · rw [if_neg c1, if_neg c1]
      by_cases c2 : b.2 ≤ (Sx (Zc (mrgS now pr) v ((-50) + nI k)) v).2.2.2.1
      · rw [if_pos c2, if_pos c2]
      · rw [if_neg c2, if_neg c2]
  · obtain ⟨p, q, z⟩ := s
    obtain ⟨_, hz⟩ := hP
    dsimp only at hz
    subst hz
    unfold fX2_bestCorrection_l24
    dsimp only
    rw [if_pos (by decide)]
    exact ⟨_, rfl, _, rfl⟩
theorem bestS_c {bo : BoT} {now pr : ShT} {ex : ExT} {M c v : Nat} (hI : Inv now M) (hc : c < 2) (hv : v < 6) : ∃ r, fX2_bestSpring bo now pr ex (nI c) (nI v) = some (.inr ((BF (fun a => tl (Sx (Zs (mrgS now pr) c a) v) 4) 1 99).1, r)) := by
  unfold fX2_bestSpring
  rw [needC hc, tb_inr, needV hv, tb_inr, become_eq, Option.bind_some]
  have g := lp_rel (B := fX2_bestSpring_l27 bo now) (fun k (s : ShT × ExT × Int32 × Int32 × Int32 × Int32 × Int32) => (∃ a, s.1 = Zs (mrgS now pr) c a) ∧ s.2.2 = (nI c, nI v, (BF (fun a => tl (Sx (Zs (mrgS now pr) c a) v) 4) 1 k).1, (BF (fun a => tl (Sx (Zs (mrgS now pr) c a) v) 4) 1 k).2, 1 + nI k)) (fun r => ∃ z, r = .inr ((BF (fun a => tl (Sx (Zs (mrgS now pr) c a) v) 4) 1 99).1, z)) 99 (fun k s K hk hP => ?_) (fun s K hP => ?_) 2000 0 (mrgS now pr, ex, nI c, nI v, 1, (-1), 1) (by omega) (by omega) ⟨⟨(mrgS now pr).1 c, by unfold Zs; rw [upd_self]⟩, rfl⟩
  · obtain ⟨r, e1, z, rfl⟩ := g
    exact ⟨z, e1⟩
  · obtain ⟨p, q, z⟩ := s
    obtain ⟨⟨a, ha⟩, hz⟩ := hP
    dsimp only at ha hz
    subst ha hz
    have ii := it_s (k := k) (by omega)
    obtain ⟨ex', e1, e2⟩ := expose_eq (ex := q) (Inv_Zs (c := c) (a := 1 + nI k) (Inv_mrg (x := pr) hI) (by omega)) hv
    unfold fX2_bestSpring_l27 fX2_bestSpring_j77
    dsimp only
    have eu : (upd (Zs (mrgS now pr) c a).1 c (1 + nI k), (Zs (mrgS now pr) c a).2.1, (Zs (mrgS now pr) c a).2.2.1, (Zs (mrgS now pr) c a).2.2.2.1, (Zs (mrgS now pr) c a).2.2.2.2.1, (Zs (mrgS now pr) c a).2.2.2.2.2.1, (Zs (mrgS now pr) c a).2.2.2.2.2.2.1, (Zs (mrgS now pr) c a).2.2.2.2.2.2.2.1, (Zs (mrgS now pr) c a).2.2.2.2.2.2.2.2.1, (Zs (mrgS now pr) c a).2.2.2.2.2.2.2.2.2) = Zs (mrgS now pr) c (1 + nI k) := by
      unfold Zs; rw [upd_upd]
    rw [if_neg (by rw [lt_i, ii, show (99 : Int32).toInt = 99 from rfl]; omega), put_nI _ _ hc (by decide), Option.bind_some, eu, e1, Option.bind_some, its_succ, spread_eq e2, Option.bind_some, Option.bind_some]
    refine ⟨(Zs (mrgS now pr) c (1 + nI k), ex', nI c, nI v, (BF (fun a => tl (Sx (Zs (mrgS now pr) c a) v) 4) 1 (k + 1)).1, (BF (fun a => tl (Sx (Zs (mrgS now pr) c a) v) 4) 1 (k + 1)).2, 1 + nI (k + 1)), ⟨⟨_, rfl⟩, rfl⟩, ?_⟩
    have e : BF (fun a => tl (Sx (Zs (mrgS now pr) c a) v) 4) 1 (k + 1) = if (BF (fun a => tl (Sx (Zs (mrgS now pr) c a) v) 4) 1 k).2 = -1 then (1 + nI k, tl (Sx (Zs (mrgS now pr) c (1 + nI k)) v) 4) else if (BF (fun a => tl (Sx (Zs (mrgS now pr) c a) v) 4) 1 k).2 ≤ tl (Sx (Zs (mrgS now pr) c (1 + nI k)) v) 4 then BF (fun a => tl (Sx (Zs (mrgS now pr) c a) v) 4) 1 k else (1 + nI k, tl (Sx (Zs (mrgS now pr) c (1 + nI k)) v) 4) := rfl
    rw [e, tl4]
    generalize BF (fun a => tl (Sx (Zs (mrgS now pr) c a) v) 4) 1 k = b
    by_cases c1 : b.2 = -1
    · rw [if_pos c1, if_pos c1]
    · rw [if_neg c1, if_neg c1]
      by_cases c2 : b.2 ≤ Spr (Zs (mrgS now pr) c (1 + nI k)) v
      · rw [if_pos c2, if_pos c2]
      · rw [if_neg c2, if_neg c2]
  · obtain ⟨p, q, z⟩ := s
    obtain ⟨_, hz⟩ := hP
    dsimp only at hz
    subst hz
    unfold fX2_bestSpring_l27
    dsimp only
    rw [if_pos (by decide)]
    exact ⟨_, rfl, _, rfl⟩
theorem bestC_r {mo : MoT} {fn ft le co li : Fn} {y : ShT} {M v : Nat} (hI : Inv y M) (hM : M ≤ 200000) (hv : v < 6) (hR : Rel y fn 0) : ∃ r, fX3_best mo fn ft le co li (nI (8 + v)) (-50) 50 (nI v) 10 = some ((BF (fun a => tl (Sx (Zc y v a) v) 10) (-50) 101).1, r) :=
  best_r (Z := Zc y v) (a0 := y.2.2.2.2.1 v) (by omega) (by omega) hM hv (fun a b g h => Rel_Zc hv h) (fun k hk => Inv_Zc hI (by have := it_c (k := k) (by omega); omega)) (fun k hk q => by have := it_c (k := k) (by omega); rw [lt_i, this, show (50 : Int32).toInt = 50 from rfl] at q; omega) (by decide) (by unfold Zc; rw [upd_self]; exact hR)
theorem bestS_r {mo : MoT} {fn ft le co li : Fn} {y : ShT} {M c v : Nat} (hI : Inv y M) (hM : M ≤ 200000) (hc : c < 2) (hv : v < 6) (hR : Rel y fn 0) : ∃ r, fX3_best mo fn ft le co li (nI (4 + c)) 1 99 (nI v) 4 = some ((BF (fun a => tl (Sx (Zs y c a) v) 4) 1 99).1, r) :=
  best_r (Z := Zs y c) (a0 := y.1 c) (by omega) (by omega) hM hv (fun a b g h => Rel_Zs hc h) (fun k hk => Inv_Zs hI (by have := it_s (k := k) (by omega); omega)) (fun k hk q => by have := it_s (k := k) (by omega); rw [lt_i, this, show (99 : Int32).toInt = 99 from rfl] at q; omega) (by decide) (by unfold Zs; rw [upd_self]; exact hR)
theorem bestC_v {bo : BoT} {mo : MoT} {now pr : ShT} {ex : ExT} {fn ft le co li : Fn} {M v : Nat} (hR : Rel now fn 0) (hI : Inv now M) (hM : M ≤ 200000) (hv : v < 6) : ∃ a r r', fX2_bestCorrection bo now pr ex (nI v) = some (.inr (a + 100, r)) ∧ fX3_best mo fn ft le co li (nI (8 + v)) (-50) 50 (nI v) 10 = some (a, r') := by
  obtain ⟨r, e1⟩ := bestC_c (bo := bo) (pr := pr) (ex := ex) hI hv
  obtain ⟨r', e2⟩ := bestC_r (mo := mo) (ft := ft) (le := le) (co := co) (li := li) (Inv_mrg (x := pr) hI) hM hv (Rel_mrg (x := pr) hR)
  exact ⟨_, _, _, e1, e2⟩
theorem bestS_v {bo : BoT} {mo : MoT} {now pr : ShT} {ex : ExT} {fn ft le co li : Fn} {M c v : Nat} (hR : Rel now fn 0) (hI : Inv now M) (hM : M ≤ 200000) (hc : c < 2) (hv : v < 6) : ∃ a r r', fX2_bestSpring bo now pr ex (nI c) (nI v) = some (.inr (a, r)) ∧ fX3_best mo fn ft le co li (nI (4 + c)) 1 99 (nI v) 4 = some (a, r') := by
  obtain ⟨r, e1⟩ := bestS_c (bo := bo) (pr := pr) (ex := ex) hI hc hv
  obtain ⟨r', e2⟩ := bestS_r (mo := mo) (ft := ft) (le := le) (co := co) (li := li) (Inv_mrg (x := pr) hI) hM hc hv (Rel_mrg (x := pr) hR)
  exact ⟨_, _, _, e1, e2⟩
