theorem ifShot_v {bo : BoT} {mo : MoT} {now pr : ShT} {ex : ExT} {fn ft le co li : Fn} {M v n w : Nat} (hR : Rel now fn 0) (hI : Inv now M) (hM : M + 50 ≤ 200000) (hv : v < 6) (h1 : 1 ≤ n) (h2 : n ≤ 50) (hw : w < 3) : ∃ a r r', fX2_ifShot bo now pr ex (nI v) (nI n) (nI w) = some (.inr (a, r)) ∧ fX3_byShooting mo fn ft le co li (nI v) (nI n) (nI w) = some (a, r') := by
  have hi := Inv_mrg (x := pr) hI
  have hr : Rel (mrgS now pr) (cpy fn ft 0 0) 0 := Rel_cpy (Rel_mrg (x := pr) hR)
  obtain ⟨r, e1, e2, e3⟩ := fire_eq (bo := bo) (ex := ex) (n := n) hi (by omega) hv (by omega)
  obtain ⟨g, f1, f2, f3⟩ := shots_eq (mo := mo) (le := le) (co := co) (li := li) (n := n) hr hi (by omega) hv (by omega)
  have hi1 := Inv_Tn hi hv (n - 1) (by omega)
  have e4 := e3 (by omega)
  have f4 := f3 (by omega)
  unfold fX2_ifShot fX3_byShooting
  rw [needV hv, tb_inr, show fX2_needRange (nI n) 1 50 = some (.inr ()) from needR (a := 1) (b := 50) h1 h2 (by omega), tb_inr, show fX2_needRange (nI w) 0 2 = some (.inr ()) from needR (a := 0) (b := 2) (by omega) (by omega) (by omega), tb_inr, become_eq, Option.bind_some, e1, Option.bind_some, show (0 : Int32) = nI 0 from rfl, copies_eq (by omega) (by omega) (by decide) (by decide), Option.bind_some, f1, Option.bind_some, e2, spread_eq e4, E_we e4, tells_eq hi1 (by omega) hv f4, tells_eq hi1 (by omega) hv f4, k4, show fX2_at 2 (Tn (mrgS now pr) v n).1 (nI 0) = some ((Tn (mrgS now pr) v n).1 0) from at_nI _ (by decide) (by decide), show g.1 4 = (Tn (mrgS now pr) v n).1 0 from R_sp (j := 0) f2 (by decide)]
  rcases (by omega : w = 0 ∨ w = 1 ∨ w = 2) with rfl | rfl | rfl
  · refine ⟨Spr (Tn (mrgS now pr) v (n - 1)) v, (Tn (mrgS now pr) v n, r.1), g, ?_, ?_⟩
    · rw [if_pos rfl, Option.bind_some]
    · rw [if_neg (show ¬ nI 0 = 1 by decide), if_pos rfl, Option.bind_some, tl4]
  · refine ⟨(Tn (mrgS now pr) v n).1 0, (Tn (mrgS now pr) v n, r.1), g, ?_, ?_⟩
    · rw [if_neg (show ¬ nI 1 = nI 0 by decide), if_pos (show nI 1 = 1 from rfl), Option.bind_some]
    · rw [if_pos (show nI 1 = 1 from rfl)]
  · refine ⟨(Sx (Tn (mrgS now pr) v (n - 1)) v).2.2.2.2.1, (Tn (mrgS now pr) v n, r.1), g, ?_, ?_⟩
    · rw [if_neg (show ¬ nI 2 = nI 0 by decide), if_neg (show ¬ nI 2 = 1 by decide)]
    · rw [if_neg (show ¬ nI 2 = 1 by decide), if_neg (show ¬ nI 2 = nI 0 by decide), Option.bind_some, tl5]
def Gd (y : ShT) (v : Nat) (err : Int32) : Nat → Nat → Nat
  | 0, k => k
  | f + 1, k => if (Sx (Tn y v k) v).2.2.2.2.1 ≤ err then Gd y v err f (k + 1) else k
theorem n200 {k : Nat} (h : k < 200) : ¬ (200 : Int32) ≤ nI k := nI_ge (b := 200) h (by decide)
theorem good_c {bo : BoT} {now y : ShT} {M v : Nat} {err : Int32} (hI : Inv y M) (hM : M + 200 ≤ 200000) (hv : v < 6) : ∀ f k fu ex, k + f = 200 → f < fu → ∃ r, lp (fX2_goodFor_l25 bo now) fu (Tn y v k, ex, nI v, err, nI k) = some (.inr (nI (Gd y v err f k), r)) := by
  intro f
  induction f with
  | zero =>
    intro k fu ex hk hf
    obtain ⟨fu, rfl⟩ : ∃ z, fu = z + 1 := ⟨fu - 1, by omega⟩
    obtain rfl : k = 200 := by omega
    refine ⟨(Tn y v 200, ex), ?_⟩
    show fX2_goodFor_l25 bo now (lp _ fu) _ = _
    unfold fX2_goodFor_l25
    dsimp only
    rw [if_pos (show (200 : Int32) ≤ nI 200 by decide)]
    rfl
  | succ f ih =>
    intro k fu ex hk hf
    obtain ⟨fu, rfl⟩ : ∃ z, fu = z + 1 := ⟨fu - 1, by omega⟩
    obtain ⟨ex', e1, e2⟩ := expose_eq (ex := ex) (Inv_Tn hI hv k (by omega)) hv
    show ∃ r, fX2_goodFor_l25 bo now (lp _ fu) _ = _
    unfold fX2_goodFor_l25
    dsimp only
    rw [if_neg (n200 (by omega)), e1, Option.bind_some, E_we e2]
    show ∃ r, _ = some (Sum.inr (nI (if (Sx (Tn y v k) v).2.2.2.2.1 ≤ err then Gd y v err f (k + 1) else k), r))
    by_cases q : (Sx (Tn y v k) v).2.2.2.2.1 ≤ err
    · rw [if_pos q, if_pos q, tally_eq (Inv_Tn hI hv k (by omega)) hv e2, Option.bind_some, ← nI_succ]
      exact ih (k + 1) fu ex' (by omega) (by omega)
    · rw [if_neg q, if_neg q]
      exact ⟨_, rfl⟩
theorem good_r {mo : MoT} {fn : Fn} {y : ShT} {M v : Nat} {err : Int32} (hI : Inv y M) (hM : M + 200 ≤ 200000) (hv : v < 6) : ∀ f k fu ft le co li, k + f = 200 → f + 1 < fu → Rel (Tn y v k) ft 0 → ∃ r, lp (fX3_good_l18 mo fn) fu (ft, le, co, li, nI v, err, nI k, 1) = some (nI (Gd y v err f k), r) := by
  intro f
  induction f with
  | zero =>
    intro k fu ft le co li hk hf hR
    obtain ⟨fu, rfl⟩ : ∃ z, fu = z + 1 := ⟨fu - 1, by omega⟩
    obtain rfl : k = 200 := by omega
    refine ⟨(ft, le, co, li), ?_⟩
    show fX3_good_l18 mo fn (lp _ fu) _ = _
    unfold fX3_good_l18
    dsimp only
    rw [if_pos (show (200 : Int32) ≤ nI 200 by decide)]
    rfl
  | succ f ih =>
    intro k fu ft le co li hk hf hR
    obtain ⟨fu, rfl⟩ : ∃ z, fu = z + 2 := ⟨fu - 2, by omega⟩
    obtain ⟨r, e1, e2, e3⟩ := shoots_eq (mo := mo) (le := le) (co := co) (li := li) hR (Inv_Tn hI hv k (by omega)) (by omega) hv
    show ∃ r, fX3_good_l18 mo fn (lp _ (fu + 1)) _ = _
    rw [show fX3_good_l18 mo fn (lp (fX3_good_l18 mo fn) (fu + 1)) (ft, le, co, li, nI v, err, nI k, 1) = (if err < (Sx (Tn y v k) v).2.2.2.2.1 then lp (fX3_good_l18 mo fn) (fu + 1) (r.1, r.2.1, r.2.2.1, r.2.2.2, nI v, err, nI k + 0, 0) else lp (fX3_good_l18 mo fn) (fu + 1) (r.1, r.2.1, r.2.2.1, r.2.2.2, nI v, err, nI k + 1, 1)) by
      rw [fX3_good_l18]
      dsimp only
      rw [if_neg (n200 (by omega)), if_neg (by decide), e1, Option.bind_some, tells_eq (Inv_Tn hI hv k (by omega)) (by omega) hv e3, Option.bind_some, tl5]]
    show ∃ r, _ = some (nI (if (Sx (Tn y v k) v).2.2.2.2.1 ≤ err then Gd y v err f (k + 1) else k), r)
    by_cases q : (Sx (Tn y v k) v).2.2.2.2.1 ≤ err
    · rw [if_pos q, if_neg (fun z => by rw [le_i] at q; rw [lt_i] at z; omega), ← nI_succ]
      exact ih (k + 1) (fu + 1) r.1 r.2.1 r.2.2.1 r.2.2.2 (by omega) (by omega) e2
    · rw [if_neg q, if_pos (by rw [le_i] at q; rw [lt_i]; omega), Int32.add_zero]
      refine ⟨r, ?_⟩
      show fX3_good_l18 mo fn (lp _ fu) _ = _
      unfold fX3_good_l18
      dsimp only
      rw [if_neg (n200 (by omega)), if_pos rfl]
theorem goodFor_v {bo : BoT} {mo : MoT} {now pr : ShT} {ex : ExT} {fn ft le co li : Fn} {M v n : Nat} (hR : Rel now fn 0) (hI : Inv now M) (hM : M + 200 ≤ 200000) (hv : v < 6) (hn : n ≤ 999) : ∃ a r r', fX2_goodFor bo now pr ex (nI v) (nI n) = some (.inr (a, r)) ∧ fX3_good mo fn ft le co li (nI v) (nI n) = some (a, r') := by
  have hi := Inv_mrg (x := pr) hI
  have hr : Rel (mrgS now pr) (cpy fn ft 0 0) 0 := Rel_cpy (Rel_mrg (x := pr) hR)
  obtain ⟨r, e1⟩ := good_c (bo := bo) (now := now) (err := nI n) hi hM hv 200 0 2000 ex (by omega) (by omega)
  obtain ⟨r', e2⟩ := good_r (mo := mo) (fn := fn) (err := nI n) hi hM hv 200 0 2000 (cpy fn ft 0 0) le co li (by omega) (by omega) hr
  refine ⟨nI (Gd (mrgS now pr) v (nI n) 200 0), r, r', ?_, ?_⟩
  · unfold fX2_goodFor
    rw [needV hv, tb_inr, show fX2_needRange (nI n) 0 999 = some (.inr ()) from needR (a := 0) (b := 999) (by omega) (by omega) (by omega), tb_inr, become_eq, Option.bind_some]
    exact e1
  · unfold fX3_good
    rw [show (0 : Int32) = nI 0 from rfl, copies_eq (by omega) (by omega) (by decide) (by decide), Option.bind_some]
    exact e2
