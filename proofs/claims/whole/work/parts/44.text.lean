/-! the whole text: reference and class -/
def Txt (n : Nat) (t td : Fn) : Nat → Nat → Nat → Prop
  | 0, i, p => p < n ∧ Prt t td i p n
  | r + 1, i, p => ∃ q, p < q ∧ q < n ∧ Prt t td i p q ∧ t q = 59 ∧ Txt n t td r (i + 1) (q + 1)
theorem Prt_congr {t td td' : Fn} {i p q : Nat} (e : ∀ j, j < 3 * (i + 1) → td' j = td j) (h : Prt t td i p q) : Prt t td' i p q := by
  unfold Prt at h ⊢
  rw [e (3 * i) (by omega), e (3 * i + 1) (by omega), e (3 * i + 2) (by omega)]
  exact h
section
variable {bo : BoT} {buf tx td : Fn} {n p i : Nat} {k th : Int32}
theorem tx_f {K : MoT × Fn × Int32 → Option (Bool × MoT × Fn)} {m m' : MoT} {td' : Fn} (e : fX3_isPart m tx td = some (false, m', td')) : fX3_isText_l17 tx K (m, td, 1) = some (false, m', td') := by
  unfold fX3_isText_l17
  dsimp only
  rw [if_neg (show ¬ (1 : Int32) = 0 by decide), e, Option.bind_some]
  dsimp only
  rw [if_pos bf]
theorem tx_t {K : MoT × Fn × Int32 → Option (Bool × MoT × Fn)} {m : MoT} {td' : Fn} {q : Nat} (e : fX3_isPart m tx td = some (true, (k, nI n, th, nI q, 0, nI i), td')) (ea : fX3_isAt (k, nI n, th, nI q, 0, nI (i + 1)) tx 59 59 = some true) : fX3_isText_l17 tx K (m, td, 1) = K ((k, nI n, th, nI (q + 1), 0, nI (i + 1)), td', 1) := by
  unfold fX3_isText_l17
  dsimp only
  rw [if_neg (show ¬ (1 : Int32) = 0 by decide), e, Option.bind_some]
  dsimp only
  rw [if_neg bt, ← nI_succ, ea, Option.bind_some, if_neg bt, ← nI_succ]
  rfl
theorem tx_u {K : MoT × Fn × Int32 → Option (Bool × MoT × Fn)} {m : MoT} {td' : Fn} {q : Nat} (e : fX3_isPart m tx td = some (true, (k, nI n, th, nI q, 0, nI i), td')) (ea : fX3_isAt (k, nI n, th, nI q, 0, nI (i + 1)) tx 59 59 = some false) : fX3_isText_l17 tx K (m, td, 1) = K ((k, nI n, th, nI q, 0, nI (i + 1)), td', 0) := by
  unfold fX3_isText_l17
  dsimp only
  rw [if_neg (show ¬ (1 : Int32) = 0 by decide), e, Option.bind_some]
  dsimp only
  rw [if_neg bt, ← nI_succ, ea, Option.bind_some, if_pos bf, Int32.add_zero]
  rfl
theorem tx_0 {K : MoT × Fn × Int32 → Option (Bool × MoT × Fn)} {q : Nat} {ti : Int32} (hn : n ≤ 60) (hq : q < n) : fX3_isText_l17 tx K ((k, nI n, th, nI q, 0, ti), td, 0) = some (false, (k, nI n, th, nI q, 1, ti), td) := by
  unfold fX3_isText_l17
  dsimp only
  rw [if_pos rfl, if_neg (nI_ge hq (by omega)), if_neg (fun z => by have := (nI_eq (a := q) (b := n) (by omega) (by omega)).mp z; omega)]
theorem tx_n {K : MoT × Fn × Int32 → Option (Bool × MoT × Fn)} {ti : Int32} (hn : n ≤ 60) : fX3_isText_l17 tx K ((k, nI n, th, nI n, 0, ti), td, 0) = some (true, (k, nI n, th, nI n, 0, ti), td) := by
  unfold fX3_isText_l17
  dsimp only
  rw [if_pos rfl, if_pos (nI_le (Nat.le_refl _) (by omega)), if_pos rfl]
theorem s_n9 {s : Int32} (h : s = 1 ∨ s = 3 ∨ s = 7) : ¬ s = 9 := by
  rcases h with rfl | rfl | rfl <;> decide
theorem text_v (hb : bo.2.2 = nI n) (hn : n ≤ 60) (ht : ∀ j, j < n → tx j = buf j) : ∀ f p i td, p ≤ n → n < p + f → 2 * i ≤ p → ∃ b isF e N td', (∀ fu, f < fu → lp (fX3_isText_l17 tx) fu ((k, nI n, th, nI p, 0, nI i), td, 1) = some (b, (k, nI n, th, nI e, isF, N), td')) ∧ (∀ j, j < 3 * i → td' j = td j) ∧ Cls bo buf n 0 p b (if b2i b = 0 then (if isF = 0 then nI n else nI e) else nI n) ∧ (b = true → ∃ r, N = nI (i + r + 1) ∧ Txt n buf td' r i p) := by
  intro f
  induction f with
  | zero => intro p i td h1 h2; omega
  | succ f ih =>
    intro p i td hp hf hi2
    rcases part_v (k := k) (th := th) (tx := tx) (td := td) hb hn ht hp hi2 with ⟨e, isF, td', h1, e1, e2, e3⟩ | ⟨q, s, td', h1, h2, e1, e2, e3, e4, e5, e6⟩
    · refine ⟨false, isF, e, nI i, td', fun fu hu => ?_, e2, ?_, fun z => absurd z (by decide)⟩
      · obtain ⟨g, rfl⟩ : ∃ g, fu = g + 1 := ⟨fu - 1, by omega⟩
        exact tx_f e1
      · rw [if_pos bf]; exact e3
    · by_cases c1 : q < n
      · by_cases c2 : buf q = 59
        · obtain ⟨b, isF, e, N, td2, a1, a2, a3, a4⟩ := ih (q + 1) (i + 1) td' (by omega) (by omega) (by omega)
          have ea : fX3_isAt (k, nI n, th, nI q, 0, nI (i + 1)) tx 59 59 = some true := isAt_t hn c1 (by rw [ht q c1, c2]; decide) (by rw [ht q c1, c2]; decide)
          refine ⟨b, isF, e, N, td2, fun fu hu => ?_, fun j hj => (a2 j (by omega)).trans (e2 j hj), ?_, fun z => ?_⟩
          · obtain ⟨g, rfl⟩ : ∃ g, fu = g + 1 := ⟨fu - 1, by omega⟩
            exact (tx_t e1 ea).trans (a1 g (by omega))
          · exact e6 _ _ (cl_step hb hn c1 (s_n9 e4) (by decide) (by rw [e5 c1, if_pos c2]) a3)
          · obtain ⟨r, r1, r2⟩ := a4 z
            exact ⟨r + 1, by rw [r1, show i + 1 + r + 1 = i + (r + 1) + 1 by omega], q, h1, c1, Prt_congr a2 e3, c2, r2⟩
        · have ea : fX3_isAt (k, nI n, th, nI q, 0, nI (i + 1)) tx 59 59 = some false := by
            refine isAt_f hn c1 (fun z => c2 ?_)
            rw [ht q c1, le_i, le_i] at z
            exact i_eq (by omega)
          refine ⟨false, 1, q, nI (i + 1), td', fun fu hu => ?_, e2, ?_, fun z => absurd z (by decide)⟩
          · obtain ⟨g, rfl⟩ : ∃ g, fu = g + 2 := ⟨fu - 2, by omega⟩
            exact (tx_u e1 ea).trans (tx_0 hn c1)
          · rw [if_pos bf, if_neg (by decide)]
            exact e6 _ _ (cl_bad hb hn c1 (s_n9 e4) (by rw [e5 c1, if_neg c2]))
      · have c3 : q = n := by omega
        rw [c3] at e1 e3 e6
        have ea : fX3_isAt (k, nI n, th, nI n, 0, nI (i + 1)) tx 59 59 = some false := isAt_e hn
        refine ⟨true, 0, n, nI (i + 1), td', fun fu hu => ?_, e2, ?_, fun _ => ⟨0, rfl, by omega, e3⟩⟩
        · obtain ⟨g, rfl⟩ : ∃ g, fu = g + 2 := ⟨fu - 2, by omega⟩
          exact (tx_u e1 ea).trans (tx_n hn)
        · rw [if_neg bt]
          exact e6 _ _ (cl_end hb hn (j37_t e4))
/-- isText and isComplete, and firstError -/
theorem text_0 {mo : MoT} (hb : bo.2.2 = nI n) (hn : n ≤ 60) (ht : ∀ j, j < n → tx j = buf j) (hm : mo.2.1 = nI n) : ∃ b isF e N td', fX3_isText (mo.1, mo.2.1, 0, mo.2.2.2.1, mo.2.2.2.2.1, mo.2.2.2.2.2) tx td = some (b, (mo.1, nI n, 0, nI e, isF, N), td') ∧ fX2_isComplete bo buf = some b ∧ fX2_firstError bo buf = some (if b2i b = 0 then (if isF = 0 then nI n else nI e) else nI n) ∧ (b = true → ∃ r, N = nI (r + 1) ∧ Txt n buf td' r 0 0) := by
  obtain ⟨b, isF, e, N, td', a1, a2, a3, a4⟩ := text_v (k := mo.1) (th := 0) hb hn ht (n + 1) 0 0 td (by omega) (by omega) (by omega)
  refine ⟨b, isF, e, N, td', ?_, a3.2 2000 (by omega), a3.1 2000 (by omega), fun z => ?_⟩
  · unfold fX3_isText
    dsimp only
    rw [hm]
    exact a1 2000 (by omega)
  · obtain ⟨r, r1, r2⟩ := a4 z
    exact ⟨r, by rw [r1, Nat.zero_add], r2⟩
theorem first_v {mo : MoT} (hb : bo.2.2 = nI n) (hn : n ≤ 60) (ht : ∀ j, j < n → tx j = buf j) (hm : mo.2.1 = nI n) : ∃ a mo' td', fX2_firstError bo buf = some a ∧ fX3_firstError mo tx td = some (a, mo', td') ∧ mo'.1 = mo.1 ∧ mo'.2.1 = nI n := by
  obtain ⟨b, isF, e, N, td', e1, _, e3, _⟩ := text_0 (td := td) hb hn ht hm
  refine ⟨_, (mo.1, nI n, 0, nI e, isF, N), td', e3, ?_, rfl, rfl⟩
  unfold fX3_firstError
  rw [e1, Option.bind_some]
  dsimp only
  by_cases q : b2i b = 0
  · rw [if_pos q, if_pos q]
    by_cases z : isF = 0
    · rw [if_pos z, if_pos z]
    · rw [if_neg z, if_neg z]
  · rw [if_neg q, if_neg q]
end
