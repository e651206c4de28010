/-! the digest: its numbers, one by one -/
theorem lp_q {σ R : Type} {B : (σ → Option R) → σ → Option R} (P : Nat → σ → Prop) (Q : Option R → Prop) (N : Nat) (step : ∀ (k : Nat) (s : σ) (K : σ → Option R), k < N → P k s → ∃ s', P (k + 1) s' ∧ B K s = K s') (last : ∀ (s : σ) (K : σ → Option R), P N s → Q (B K s)) : ∀ (fu k : Nat) (s : σ), k ≤ N → N < k + fu → P k s → Q (lp B fu s) := by
  intro fu
  induction fu with
  | zero => intro k s h1 h2; omega
  | succ fu ih =>
    intro k s h1 h2 hP
    show Q (B (lp B fu) s)
    by_cases e : k = N
    · subst e; exact last s _ hP
    · obtain ⟨s', hP', e'⟩ := step k s (lp B fu) (by omega) hP
      rw [e']
      exact ih (k + 1) s' (by omega) (by omega) hP'
def Vo {α R : Type} (d : α) (o : Option (α × R)) : α := match o with | some p => p.1 | none => d
theorem Vo_s {α R : Type} {d a : α} {r : R} : Vo d (some (a, r)) = a := rfl
def Hh (h : Int64) (V : Nat → Int32) : Nat → Int64
  | 0 => h
  | k + 1 => 31 * Hh h V k + (V k).toInt64
abbrev zf : Fn := fun _ => 0
abbrev zm : MoT := (0, 0, 0, 0, 0, 0)
section
variable {x : ShT} {fn : Fn} {M : Nat}
def V1 (kept : Int32) (fn : Fn) (w : Nat) : Int32 := (fX3_counted (kept, 0, 0, 0, 0, 0) fn (nI w)).getD 0
theorem V1_c {bo : BoT} {w : Nat} (hR : Rel x fn 0) (hI : Inv x M) (hw : w < 5) : fX2_count bo x (nI w) = some (.inr (V1 bo.1 fn w)) := by
  obtain ⟨a, e1, e2⟩ := count_v (bo := bo) (mo := (bo.1, 0, 0, 0, 0, 0)) hR hI rfl hw
  unfold V1
  rw [e1, e2]
  rfl
theorem V1_r {mo : MoT} {w : Nat} (hR : Rel x fn 0) (hI : Inv x M) (hw : w < 5) : fX3_counted mo fn (nI w) = some (V1 mo.1 fn w) := by
  obtain ⟨a, e1, e2⟩ := count_v (bo := (mo.1, 0, 0)) (mo := mo) hR hI rfl hw
  have e3 := V1_c (bo := (mo.1, 0, 0)) hR hI hw
  rw [e1] at e3
  rw [e2, Sum.inr.inj (Option.some.inj e3)]
def A3 (fn : Fn) (c w : Nat) : Int32 := (fX3_ofCurtain zm fn (nI c) (nI w)).getD 0
theorem A3_c {bo : BoT} {c w : Nat} (hR : Rel x fn 0) (hI : Inv x M) (hM : M ≤ 200000) (hc : c < 2) (hw : w < 4) : fX2_curtain bo x (nI c) (nI w) = some (.inr (A3 fn c w)) := by
  obtain ⟨a, e1, e2⟩ := curtain_v (bo := bo) (mo := zm) hR hI hM hc hw
  unfold A3
  rw [e1, e2]
  rfl
theorem A3_r {mo : MoT} {c w : Nat} (hR : Rel x fn 0) (hI : Inv x M) (hM : M ≤ 200000) (hc : c < 2) (hw : w < 4) : fX3_ofCurtain mo fn (nI c) (nI w) = some (A3 fn c w) := by
  obtain ⟨a, e1, e2⟩ := curtain_v (bo := (0, 0, 0)) (mo := mo) hR hI hM hc hw
  have e3 := A3_c (bo := (0, 0, 0)) hR hI hM hc hw
  rw [e1] at e3
  rw [e2, Sum.inr.inj (Option.some.inj e3)]
def V3 (fn : Fn) (k : Nat) : Int32 := if k % 28 < 4 then A3 fn (k / 28) (k % 28) else fn (23 + 24 * (k / 28) + (k % 28 - 4))
theorem V3_w {c w : Nat} (hw : w < 4) : V3 fn (28 * c + w) = A3 fn c w := by
  unfold V3
  rw [show (28 * c + w) % 28 = w by omega, show (28 * c + w) / 28 = c by omega, if_pos hw]
theorem V3_k {c k : Nat} (hk : k < 24) : V3 fn (28 * c + 4 + k) = fn (23 + 24 * c + k) := by
  unfold V3
  rw [show (28 * c + 4 + k) % 28 = 4 + k by omega, show (28 * c + 4 + k) / 28 = c by omega, if_neg (by omega), show 4 + k - 4 = k by omega]
def A4 (fn : Fn) (v w : Nat) : Int32 := Vo 0 (fX3_ofSpeed zm fn zf zf zf (nI v) (nI w))
theorem A4_c {bo : BoT} {ex : ExT} {v w : Nat} (hR : Rel x fn 0) (hI : Inv x M) (hM : M ≤ 200000) (hv : v < 6) (hw : w < 9) : ∃ ex', fX2_speed bo x ex (nI v) (nI w) = some (.inr (A4 fn v w, ex')) := by
  obtain ⟨a, ex', r, e1, e2⟩ := speed_v (bo := bo) (mo := zm) (ex := ex) (le := zf) (co := zf) (li := zf) hR hI hM hv hw
  refine ⟨ex', ?_⟩
  unfold A4
  rw [e1, e2]
  rfl
theorem A4_r {mo : MoT} {le co li : Fn} {v w : Nat} (hR : Rel x fn 0) (hI : Inv x M) (hM : M ≤ 200000) (hv : v < 6) (hw : w < 9) : ∃ r, fX3_ofSpeed mo fn le co li (nI v) (nI w) = some (A4 fn v w, r) := by
  obtain ⟨a, ex', r, e1, e2⟩ := speed_v (bo := (0, 0, 0)) (mo := mo) (ex := iniE) (le := le) (co := co) (li := li) hR hI hM hv hw
  obtain ⟨ex2, e3⟩ := A4_c (bo := (0, 0, 0)) (ex := iniE) hR hI hM hv hw
  rw [e1] at e3
  have e4 := congrArg Prod.fst (Sum.inr.inj (Option.some.inj e3))
  dsimp only at e4
  exact ⟨r, by rw [e2, e4]⟩
def V4 (fn : Fn) (k : Nat) : Int32 := A4 fn (k / 9) (k % 9)
theorem V4_w {v w : Nat} (hw : w < 9) : V4 fn (9 * v + w) = A4 fn v w := by
  unfold V4
  rw [show (9 * v + w) % 9 = w by omega, show (9 * v + w) / 9 = v by omega]
def A5 (fn : Fn) (k w : Nat) : Int32 := Vo 0 (fX3_ofColumn zm fn zf zf zf (nI 2) (nI k) (nI w))
theorem A5_c {bo : BoT} {ex : ExT} {k w : Nat} (hR : Rel x fn 0) (hI : Inv x M) (hM : M ≤ 200000) (hk : k < 24) (hw : w < 6) : ∃ ex', fX2_column bo x ex (nI 2) (nI k) (nI w) = some (.inr (A5 fn k w, ex')) := by
  obtain ⟨a, ex', r, e1, e2⟩ := column_v (bo := bo) (mo := zm) (ex := ex) (le := zf) (co := zf) (li := zf) (v := 2) hR hI hM (by decide) hk hw
  refine ⟨ex', ?_⟩
  unfold A5
  rw [e1, e2]
  rfl
theorem A5_r {mo : MoT} {le co li : Fn} {k w : Nat} (hR : Rel x fn 0) (hI : Inv x M) (hM : M ≤ 200000) (hk : k < 24) (hw : w < 6) : ∃ r, fX3_ofColumn mo fn le co li (nI 2) (nI k) (nI w) = some (A5 fn k w, r) := by
  obtain ⟨a, ex', r, e1, e2⟩ := column_v (bo := (0, 0, 0)) (mo := mo) (ex := iniE) (le := le) (co := co) (li := li) (v := 2) hR hI hM (by decide) hk hw
  obtain ⟨ex2, e3⟩ := A5_c (bo := (0, 0, 0)) (ex := iniE) hR hI hM hk hw
  rw [e1] at e3
  have e4 := congrArg Prod.fst (Sum.inr.inj (Option.some.inj e3))
  dsimp only at e4
  exact ⟨r, by rw [e2, e4]⟩
def colAt (k : Nat) : Nat := if k < 4 then 0 else if k < 8 then 11 else 23
def V5 (fn : Fn) (k : Nat) : Int32 := A5 fn (colAt k) (k % 4)
def B1 (fn : Fn) : Int32 := Vo 0 (fX3_best zm fn zf zf zf zf (nI 9) (-50) 50 (nI 1) 10)
theorem B1_c {bo : BoT} {pr : ShT} {ex : ExT} (hR : Rel x fn 0) (hI : Inv x M) (hM : M ≤ 200000) : ∃ r, fX2_bestCorrection bo x pr ex (nI 1) = some (.inr (B1 fn + 100, r)) := by
  obtain ⟨a, r, r', e1, e2⟩ := bestC_v (bo := bo) (mo := zm) (pr := pr) (ex := ex) (ft := zf) (le := zf) (co := zf) (li := zf) (v := 1) hR hI hM (by decide)
  refine ⟨r, ?_⟩
  unfold B1
  rw [e1, show fX3_best zm fn zf zf zf zf (nI 9) (-50) 50 (nI 1) 10 = _ from e2]
  rfl
theorem B1_r {mo : MoT} {ft le co li : Fn} (hR : Rel x fn 0) (hI : Inv x M) (hM : M ≤ 200000) : ∃ r, fX3_best mo fn ft le co li (nI 9) (-50) 50 (nI 1) 10 = some (B1 fn, r) := by
  obtain ⟨a, r, r', e1, e2⟩ := bestC_v (bo := (0, 0, 0)) (mo := mo) (pr := iniS) (ex := iniE) (ft := ft) (le := le) (co := co) (li := li) (v := 1) hR hI hM (by decide)
  obtain ⟨ex2, e3⟩ := B1_c (bo := (0, 0, 0)) (pr := iniS) (ex := iniE) hR hI hM
  rw [e1] at e3
  have e4 := congrArg Prod.fst (Sum.inr.inj (Option.some.inj e3))
  dsimp only at e4
  have e5 : a = B1 fn := (Int32.add_left_inj 100).mp e4
  exact ⟨r', by rw [← e5]; exact e2⟩
def B2 (fn : Fn) : Int32 := Vo 0 (fX3_best zm fn zf zf zf zf (nI 5) 1 99 (nI 2) 4)
theorem B2_c {bo : BoT} {pr : ShT} {ex : ExT} (hR : Rel x fn 0) (hI : Inv x M) (hM : M ≤ 200000) : ∃ r, fX2_bestSpring bo x pr ex (nI 1) (nI 2) = some (.inr (B2 fn, r)) := by
  obtain ⟨a, r, r', e1, e2⟩ := bestS_v (bo := bo) (mo := zm) (pr := pr) (ex := ex) (ft := zf) (le := zf) (co := zf) (li := zf) (c := 1) (v := 2) hR hI hM (by decide) (by decide)
  refine ⟨r, ?_⟩
  unfold B2
  rw [e1, show fX3_best zm fn zf zf zf zf (nI 5) 1 99 (nI 2) 4 = _ from e2]
  rfl
theorem B2_r {mo : MoT} {ft le co li : Fn} (hR : Rel x fn 0) (hI : Inv x M) (hM : M ≤ 200000) : ∃ r, fX3_best mo fn ft le co li (nI 5) 1 99 (nI 2) 4 = some (B2 fn, r) := by
  obtain ⟨a, r, r', e1, e2⟩ := bestS_v (bo := (0, 0, 0)) (mo := mo) (pr := iniS) (ex := iniE) (ft := ft) (le := le) (co := co) (li := li) (c := 1) (v := 2) hR hI hM (by decide) (by decide)
  obtain ⟨ex2, e3⟩ := B2_c (bo := (0, 0, 0)) (pr := iniS) (ex := iniE) hR hI hM
  rw [e1] at e3
  have e4 := congrArg Prod.fst (Sum.inr.inj (Option.some.inj e3))
  dsimp only at e4
  exact ⟨r', by rw [← e4]; exact e2⟩
def V7 (fn : Fn) (w : Nat) : Int32 := Vo 0 (fX3_byShooting zm fn zf zf zf zf (nI 0) (nI 9) (nI w))
theorem V7_c {bo : BoT} {pr : ShT} {ex : ExT} {w : Nat} (hR : Rel x fn 0) (hI : Inv x M) (hM : M + 200 ≤ 200000) (hw : w < 3) : ∃ r, fX2_ifShot bo x pr ex (nI 0) (nI 9) (nI w) = some (.inr (V7 fn w, r)) := by
  obtain ⟨a, r, r', e1, e2⟩ := ifShot_v (bo := bo) (mo := zm) (pr := pr) (ex := ex) (ft := zf) (le := zf) (co := zf) (li := zf) (v := 0) (n := 9) hR hI (by omega) (by decide) (by decide) (by decide) hw
  refine ⟨r, ?_⟩
  unfold V7
  rw [e1, e2]
  rfl
theorem V7_r {mo : MoT} {ft le co li : Fn} {w : Nat} (hR : Rel x fn 0) (hI : Inv x M) (hM : M + 200 ≤ 200000) (hw : w < 3) : ∃ r, fX3_byShooting mo fn ft le co li (nI 0) (nI 9) (nI w) = some (V7 fn w, r) := by
  obtain ⟨a, r, r', e1, e2⟩ := ifShot_v (bo := (0, 0, 0)) (mo := mo) (pr := iniS) (ex := iniE) (ft := ft) (le := le) (co := co) (li := li) (v := 0) (n := 9) hR hI (by omega) (by decide) (by decide) (by decide) hw
  obtain ⟨ex2, e3⟩ := V7_c (bo := (0, 0, 0)) (pr := iniS) (ex := iniE) hR hI hM hw
  rw [e1] at e3
  have e4 := congrArg Prod.fst (Sum.inr.inj (Option.some.inj e3))
  dsimp only at e4
  exact ⟨r', by rw [← e4]; exact e2⟩
def G8 (fn : Fn) : Int32 := Vo 0 (fX3_good zm fn zf zf zf zf (nI 3) (nI 60))
theorem G8_c {bo : BoT} {pr : ShT} {ex : ExT} (hR : Rel x fn 0) (hI : Inv x M) (hM : M + 200 ≤ 200000) : ∃ r, fX2_goodFor bo x pr ex (nI 3) (nI 60) = some (.inr (G8 fn, r)) := by
  obtain ⟨a, r, r', e1, e2⟩ := goodFor_v (bo := bo) (mo := zm) (pr := pr) (ex := ex) (ft := zf) (le := zf) (co := zf) (li := zf) (v := 3) (n := 60) hR hI hM (by decide) (by decide)
  refine ⟨r, ?_⟩
  unfold G8
  rw [e1, e2]
  rfl
theorem G8_r {mo : MoT} {ft le co li : Fn} (hR : Rel x fn 0) (hI : Inv x M) (hM : M + 200 ≤ 200000) : ∃ r, fX3_good mo fn ft le co li (nI 3) (nI 60) = some (G8 fn, r) := by
  obtain ⟨a, r, r', e1, e2⟩ := goodFor_v (bo := (0, 0, 0)) (mo := mo) (pr := iniS) (ex := iniE) (ft := ft) (le := le) (co := co) (li := li) (v := 3) (n := 60) hR hI hM (by decide) (by decide)
  obtain ⟨ex2, e3⟩ := G8_c (bo := (0, 0, 0)) (pr := iniS) (ex := iniE) hR hI hM
  rw [e1] at e3
  have e4 := congrArg Prod.fst (Sum.inr.inj (Option.some.inj e3))
  dsimp only at e4
  exact ⟨r', by rw [← e4]; exact e2⟩
def E9 (fn : Fn) : UInt64 := Vo 0 (fX3_share zm fn zf zf zf (nI 2))
def Z9 (fn : Fn) : Int64 := (fX2_bitsOfShare (E9 fn)).getD 0
theorem E9_c {bo : BoT} {ex : ExT} (hR : Rel x fn 0) (hI : Inv x M) (hM : M ≤ 200000) : ∃ r, fX2_evenness bo x ex (nI 2) = some (.inr (E9 fn, r)) ∧ fX2_bitsOfShare (E9 fn) = some (Z9 fn) := by
  obtain ⟨a, r, r', e1, e2, _, z, e3, e4⟩ := even_v (bo := bo) (mo := zm) (ex := ex) (le := zf) (co := zf) (li := zf) (v := 2) hR hI hM (by decide)
  have e5 : E9 fn = a := by unfold E9; rw [e2]; rfl
  refine ⟨r, by rw [e5]; exact e1, ?_⟩
  unfold Z9
  rw [e5, e3]
  rfl
theorem E9_r {mo : MoT} {le co li : Fn} (hR : Rel x fn 0) (hI : Inv x M) (hM : M ≤ 200000) : ∃ r, fX3_share mo fn le co li (nI 2) = some (E9 fn, r) ∧ fJxe99ae_doubleToLongBits_ccdee (E9 fn) = some (Z9 fn) := by
  obtain ⟨a, r, r', e1, e2, _, z, e3, e4⟩ := even_v (bo := (0, 0, 0)) (mo := mo) (ex := iniE) (le := le) (co := co) (li := li) (v := 2) hR hI hM (by decide)
  obtain ⟨ex2, e5, e6⟩ := E9_c (bo := (0, 0, 0)) (ex := iniE) hR hI hM
  rw [e1] at e5
  have e7 := congrArg Prod.fst (Sum.inr.inj (Option.some.inj e5))
  dsimp only at e7
  subst e7
  rw [e3] at e6
  refine ⟨r', e2, ?_⟩
  rw [e4, e6]
end
