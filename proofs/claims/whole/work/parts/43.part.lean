/-! one part of the text: reference and class -/
def Prt (t td : Fn) (i p q : Nat) : Prop :=
  (t p = 119 ∧ td (3 * i) = 119 ∧ ∃ c s d, c < 2 ∧ 1 ≤ s ∧ s ≤ 99 ∧ t (p + 1) = nI (48 + c) ∧ t (p + 2) = 58 ∧ td (3 * i + 1) = nI c ∧ td (3 * i + 2) = nI s ∧ 1 ≤ d ∧ d ≤ 9 ∧ t (p + 3) = nI (48 + d) ∧ ((q = p + 4 ∧ s = d) ∨ (q = p + 5 ∧ ∃ f, f ≤ 9 ∧ t (p + 4) = nI (48 + f) ∧ s = 10 * d + f))) ∨
  (t p = 99 ∧ td (3 * i) = 99 ∧ q = p + 2 ∧ ∃ c, c < 2 ∧ t (p + 1) = nI (48 + c) ∧ td (3 * i + 1) = nI c) ∨
  (∃ v, v < 6 ∧ t p = nI (48 + v) ∧ td (3 * i) = nI (48 + v) ∧ td (3 * i + 1) = nI v ∧ ((q = p + 1 ∧ td (3 * i + 2) = nI 1) ∨ (q = p + 3 ∧ t (p + 1) = 42 ∧ ∃ m, 2 ≤ m ∧ m ≤ 9 ∧ t (p + 2) = nI (48 + m) ∧ td (3 * i + 2) = nI m)))
theorem dgt_of {v : Int32} (a b : Nat) (h1 : nI (48 + a) ≤ v) (h2 : v ≤ nI (48 + b)) (hab : a ≤ b) (hb : b ≤ 9) : ∃ c, a ≤ c ∧ c ≤ b ∧ v = nI (48 + c) ∧ v - 48 = nI c := by
  obtain ⟨c, q1, q2, rfl⟩ := nn_of (a := 48 + a) (b := 48 + b) (by omega) h1 h2 (by omega)
  refine ⟨c - 48, by omega, by omega, by rw [show 48 + (c - 48) = c by omega], ?_⟩
  exact nI_sub (a := c) (b := 48) (by omega)
abbrev PartF (bo : BoT) (buf tx td : Fn) (n p i : Nat) (k th : Int32) (o : Option (Bool × MoT × Fn)) : Prop :=
  ∃ e isF td', e ≤ n ∧ o = some (false, (k, nI n, th, nI e, isF, nI i), td') ∧ (∀ j, j < 3 * i → td' j = td j) ∧ Cls bo buf n 0 p false (if isF = 0 then nI n else nI e)
abbrev PartT (bo : BoT) (buf tx td : Fn) (n p i : Nat) (k th : Int32) (o : Option (Bool × MoT × Fn)) : Prop :=
  ∃ q s td', p < q ∧ q ≤ n ∧ o = some (true, (k, nI n, th, nI q, 0, nI i), td') ∧ (∀ j, j < 3 * i → td' j = td j) ∧ Prt buf td' i p q ∧ (s = 1 ∨ s = 3 ∨ s = 7) ∧ (q < n → fX2_placeAfter s (buf q) = if buf q = 59 then some 0 else some 9) ∧ ∀ b e, Cls bo buf n s q b e → Cls bo buf n 0 p b e
section
variable {bo : BoT} {buf tx td : Fn} {n p i : Nat} {k th : Int32}
theorem part_c (hb : bo.2.2 = nI n) (hn : n ≤ 60) (ht : ∀ j, j < n → tx j = buf j) (hp : p < n) (hi2 : 2 * i ≤ p) (h0 : buf p = 99) :
    PartF bo buf tx td n p i k th (fX3_isPart_j24 tx ((k, nI n, th, nI p, 0, nI i), td, 99)) ∨ PartT bo buf tx td n p i k th (fX3_isPart_j24 tx ((k, nI n, th, nI p, 0, nI i), td, 99)) := by
  have st : ∀ b e, Cls bo buf n 8 (p + 1) b e → Cls bo buf n 0 p b e := fun b e h => cl_step hb hn hp (by decide) (by decide) (by rw [h0]; exact pf_c) h
  unfold fX3_isPart_j24
  dsimp only
  rw [show (3 : Int32) * nI i = nI (3 * i) from nI_mul 3 i, gd_t (pin_nI (by omega) (by decide)), if_neg (show ¬ (99 : Int32) = 119 by decide), if_pos rfl, nI_clamp (by omega), ← nI_succ]
  rcases dig_s (k := k) (th := th) (i := i) (td := upd td (3 * i) 99) (p := p + 1) (kk := 1) (pl := 8) (r := 3) (lo := 48) (hi := 49) hb hn ht (by omega) (by omega) (by decide) (by decide) (j37_f (by decide) (by decide) (by decide)) (fun _ => pf_8t) (fun _ => pf_8f) with ⟨e, isF, h1, e1, h⟩ | ⟨g1, g2, g3, e1, h⟩
  · left
    rw [show fX3_isDigit (k, nI n, th, nI (p + 1), 0, nI i) tx (upd td (3 * i) 99) 1 48 49 = _ from e1, Option.bind_some]
    exact ⟨e, isF, upd td (3 * i) 99, h1, rfl, fun j hj => upd_ne (by omega), st _ _ h⟩
  · right
    rw [show fX3_isDigit (k, nI n, th, nI (p + 1), 0, nI i) tx (upd td (3 * i) 99) 1 48 49 = _ from e1, Option.bind_some]
    obtain ⟨c, _, c2, c3, c4⟩ := dgt_of 0 1 g2 g3 (by decide) (by decide)
    try dsimp only
    refine ⟨p + 2, 3, _, by omega, by omega, rfl, fun j hj => ?_, Or.inr (Or.inl ⟨h0, ?_, rfl, c, by omega, c3, ?_⟩), Or.inr (Or.inl rfl), fun _ => pf_3, fun b e q => st _ _ (h _ _ q)⟩
    · rw [upd_ne (by omega), upd_ne (by omega)]
    · rw [upd_ne (by omega), upd_eq]
    · rw [upd_eq, c4]
theorem part_w (hb : bo.2.2 = nI n) (hn : n ≤ 60) (ht : ∀ j, j < n → tx j = buf j) (hp : p < n) (hi2 : 2 * i ≤ p) (h0 : buf p = 119) :
    PartF bo buf tx td n p i k th (fX3_isPart_j24 tx ((k, nI n, th, nI p, 0, nI i), td, 119)) ∨ PartT bo buf tx td n p i k th (fX3_isPart_j24 tx ((k, nI n, th, nI p, 0, nI i), td, 119)) := by
  have st : ∀ b e, Cls bo buf n 4 (p + 1) b e → Cls bo buf n 0 p b e := fun b e h => cl_step hb hn hp (by decide) (by decide) (by rw [h0]; exact pf_w) h
  unfold fX3_isPart_j24
  dsimp only
  rw [show (3 : Int32) * nI i = nI (3 * i) from nI_mul 3 i, gd_t (pin_nI (by omega) (by decide)), if_pos rfl, nI_clamp (by omega), ← nI_succ]
  unfold fX3_isWinding
  rcases dig_s (k := k) (th := th) (i := i) (td := upd td (3 * i) 119) (p := p + 1) (kk := 1) (pl := 4) (r := 5) (lo := 48) (hi := 49) hb hn ht (by omega) (by omega) (by decide) (by decide) (j37_f (by decide) (by decide) (by decide)) (fun _ => pf_4t) (fun _ => pf_4f) with ⟨e, isF, h1, e1, h⟩ | ⟨g1, g2, g3, e1, h⟩
  · left
    rw [show fX3_isDigit (k, nI n, th, nI (p + 1), 0, nI i) tx (upd td (3 * i) 119) 1 48 49 = _ from e1, Option.bind_some]
    dsimp only
    rw [if_pos bf, Option.bind_some]
    exact ⟨e, isF, upd td (3 * i) 119, h1, rfl, fun j hj => upd_ne (by omega), st _ _ h⟩
  rw [show fX3_isDigit (k, nI n, th, nI (p + 1), 0, nI i) tx (upd td (3 * i) 119) 1 48 49 = _ from e1, Option.bind_some]
  dsimp only
  rw [if_neg bt]
  obtain ⟨c, _, c2, c3, c4⟩ := dgt_of 0 1 g2 g3 (by decide) (by decide)
  rw [c4]
  rcases at_s (k := k) (th := th) (i := i) (p := p + 2) (pl := 5) (r := 6) (lo := 58) (hi := 58) hb hn ht (by omega) (by decide) (by decide) (j37_f (by decide) (by decide) (by decide)) (fun _ => pf_5t) (fun _ => pf_5f) with ⟨e, isF, h1, e2, e3, h2⟩ | ⟨k1, k2, k3, e2, h2⟩
  · left
    rw [show fX3_isAt (k, nI n, th, nI (p + 1 + 1), 0, nI i) tx 58 58 = _ from e2, Option.bind_some, if_pos bf, show fX3_stops (k, nI n, th, nI (p + 1 + 1), 0, nI i) = _ from e3, Option.bind_some, Option.bind_some]
    try dsimp only
    refine ⟨e, isF, _, h1, rfl, fun j hj => ?_, st _ _ (h _ _ h2)⟩
    rw [upd_ne (by omega), upd_ne (by omega)]
  rw [show fX3_isAt (k, nI n, th, nI (p + 1 + 1), 0, nI i) tx 58 58 = _ from e2, Option.bind_some, if_neg bt, ← nI_succ]
  have b58 : buf (p + 2) = 58 := by
    rw [le_i] at k2 k3
    exact i_eq (by omega)
  rcases dig_s (k := k) (th := th) (i := i) (td := upd (upd td (3 * i) 119) (3 * i + 1) (nI c)) (p := p + 3) (kk := 2) (pl := 6) (r := 7) (lo := 49) (hi := 57) hb hn ht (by omega) (by omega) (by decide) (by decide) (j37_f (by decide) (by decide) (by decide)) (fun _ => pf_6t) (fun _ => pf_6f) with ⟨e, isF, h1, e3, h3⟩ | ⟨l1, l2, l3, e3, h3⟩
  · left
    rw [show fX3_isDigit (k, nI n, th, nI (p + 1 + 1 + 1), 0, nI i) tx (upd (upd td (3 * i) 119) (3 * i + 1) (nI c)) 2 49 57 = _ from e3, Option.bind_some]
    dsimp only
    rw [if_pos bf, Option.bind_some]
    try dsimp only
    refine ⟨e, isF, _, h1, rfl, fun j hj => ?_, st _ _ (h _ _ (h2 _ _ h3))⟩
    rw [upd_ne (by omega), upd_ne (by omega)]
  right
  rw [show fX3_isDigit (k, nI n, th, nI (p + 1 + 1 + 1), 0, nI i) tx (upd (upd td (3 * i) 119) (3 * i + 1) (nI c)) 2 49 57 = _ from e3, Option.bind_some]
  dsimp only
  rw [if_neg bt]
  obtain ⟨d, d1, d2, d3, d4⟩ := dgt_of 1 9 l2 l3 (by decide) (by decide)
  rw [d4]
  by_cases q : p + 4 < n ∧ 48 ≤ buf (p + 4) ∧ buf (p + 4) ≤ 57
  · obtain ⟨q1, q2, q3⟩ := q
    obtain ⟨f, f1, f2, f3, f4⟩ := dgt_of 0 9 q2 q3 (by decide) (by decide)
    have ea : fX3_isAt (k, nI n, th, nI (p + 3 + 1), 0, nI i) tx 48 57 = some true := isAt_t (p := p + 4) hn q1 (by rw [ht _ q1]; exact q2) (by rw [ht _ q1]; exact q3)
    rw [ea, Option.bind_some, if_neg bt, show (3 : Int32) * nI i = nI (3 * i) from nI_mul 3 i, show nI (3 * i) + 2 = nI (3 * i + 2) from nI_add _ 2, gd_t (pin_nI (by omega) (by decide)), gd_t (pin_nI (show p + 3 + 1 < 60 by omega) (by decide)), nI_clamp (by omega), nI_clamp (by omega), upd_eq, show tx (p + 3 + 1) = nI (48 + f) from (ht _ q1).trans f3, Option.bind_some, ← nI_succ]
    have ev : (10 : Int32) * nI d + nI (48 + f) - 48 = nI (10 * d + f) := by
      rw [show (10 : Int32) * nI d = nI (10 * d) from nI_mul 10 d, nI_add]
      exact (nI_sub (a := 10 * d + (48 + f)) (b := 48) (by omega)).trans (by rw [show 10 * d + (48 + f) - 48 = 10 * d + f by omega])
    rw [ev]
    try dsimp only
    refine ⟨p + 5, 3, _, by omega, by omega, rfl, fun j hj => ?_, Or.inl ⟨h0, ?_, c, 10 * d + f, d, by omega, by omega, by omega, c3, b58, ?_, upd_eq, d1, d2, d3, Or.inr ⟨rfl, f, f2, f3, rfl⟩⟩, Or.inr (Or.inl rfl), fun _ => pf_3, fun b e z => st _ _ (h _ _ (h2 _ _ (h3 _ _ (cl_step hb hn q1 (by decide) (by decide) (pf_7t q2 q3) z))))⟩
    · rw [upd_ne (by omega), upd_ne (by omega), upd_ne (by omega), upd_ne (by omega)]
    · rw [upd_ne (by omega), upd_ne (by omega), upd_ne (by omega), upd_eq]
    · rw [upd_ne (by omega), upd_ne (by omega), upd_eq]
  · have ea : fX3_isAt (k, nI n, th, nI (p + 3 + 1), 0, nI i) tx 48 57 = some false := by
      by_cases q1 : p + 4 < n
      · exact isAt_f (p := p + 4) hn q1 (fun z => q ⟨q1, by rw [ht _ q1] at z; exact z.1, by rw [ht _ q1] at z; exact z.2⟩)
      · rw [show p + 3 + 1 = n by omega]
        exact isAt_e hn
    rw [ea, Option.bind_some, if_pos bf, Option.bind_some]
    try dsimp only
    refine ⟨p + 4, 7, _, by omega, by omega, rfl, fun j hj => ?_, Or.inl ⟨h0, ?_, c, d, d, by omega, by omega, by omega, c3, b58, ?_, upd_eq, d1, d2, d3, Or.inl ⟨rfl, rfl⟩⟩, Or.inr (Or.inr rfl), fun q1 => pf_7f (fun z => q ⟨q1, z.1, z.2⟩), fun b e z => st _ _ (h _ _ (h2 _ _ (h3 _ _ z)))⟩
    · rw [upd_ne (by omega), upd_ne (by omega), upd_ne (by omega)]
    · rw [upd_ne (by omega), upd_ne (by omega), upd_eq]
    · rw [upd_ne (by omega), upd_eq]
theorem part_d {c0 : Int32} (hb : bo.2.2 = nI n) (hn : n ≤ 60) (ht : ∀ j, j < n → tx j = buf j) (hp : p ≤ n) (hi2 : 2 * i ≤ p) (hw : ¬ c0 = 119) (hc : ¬ c0 = 99) (h0 : p < n → c0 = buf p) :
    PartF bo buf tx td n p i k th (fX3_isPart_j24 tx ((k, nI n, th, nI p, 0, nI i), td, c0)) ∨ PartT bo buf tx td n p i k th (fX3_isPart_j24 tx ((k, nI n, th, nI p, 0, nI i), td, c0)) := by
  unfold fX3_isPart_j24
  dsimp only
  rw [show (3 : Int32) * nI i = nI (3 * i) from nI_mul 3 i, gd_t (pin_nI (by omega) (by decide)), if_neg hw, if_neg hc, show nI (3 * i) + 2 = nI (3 * i + 2) from nI_add _ 2, gd_t (pin_nI (by omega) (by decide)), nI_clamp (by omega), nI_clamp (by omega)]
  rcases dig_s (k := k) (th := th) (i := i) (td := upd (upd td (3 * i) c0) (3 * i + 2) 1) (p := p) (kk := 1) (pl := 0) (r := 1) (lo := 48) (hi := 53) hb hn ht hp (by omega) (by decide) (by decide) (j37_f (by decide) (by decide) (by decide)) (fun _ => pf_0t) (fun z => pf_0f (by rw [← h0 z]; exact hw) (by rw [← h0 z]; exact hc)) with ⟨e, isF, h1, e1, h⟩ | ⟨g1, g2, g3, e1, h⟩
  · left
    rw [show fX3_isDigit (k, nI n, th, nI p, 0, nI i) tx (upd (upd td (3 * i) c0) (3 * i + 2) 1) 1 48 53 = _ from e1, Option.bind_some]
    dsimp only
    rw [if_pos bf]
    try dsimp only
    refine ⟨e, isF, _, h1, rfl, fun j hj => ?_, h⟩
    rw [upd_ne (by omega), upd_ne (by omega)]
  rw [show fX3_isDigit (k, nI n, th, nI p, 0, nI i) tx (upd (upd td (3 * i) c0) (3 * i + 2) 1) 1 48 53 = _ from e1, Option.bind_some]
  dsimp only
  rw [if_neg bt]
  obtain ⟨v, _, v2, v3, v4⟩ := dgt_of 0 5 g2 g3 (by decide) (by decide)
  rw [v4, h0 g1]
  by_cases q : p + 1 < n ∧ buf (p + 1) = 42
  · obtain ⟨q1, q2⟩ := q
    have ea : fX3_isAt (k, nI n, th, nI (p + 1), 0, nI i) tx 42 42 = some true := isAt_t (p := p + 1) hn q1 (by rw [ht _ q1, q2]; decide) (by rw [ht _ q1, q2]; decide)
    have st : ∀ b e, Cls bo buf n 2 (p + 2) b e → Cls bo buf n 0 p b e := fun b e z => h _ _ (cl_step hb hn q1 (by decide) (by decide) (by rw [pf_1, if_pos q2]) z)
    rw [ea, Option.bind_some, if_neg bt, ← nI_succ]
    rcases dig_s (k := k) (th := th) (i := i) (td := upd (upd (upd td (3 * i) (buf p)) (3 * i + 2) 1) (3 * i + 1) (nI v)) (p := p + 2) (kk := 2) (pl := 2) (r := 3) (lo := 50) (hi := 57) hb hn ht (by omega) (by omega) (by decide) (by decide) (j37_f (by decide) (by decide) (by decide)) (fun _ => pf_2t) (fun _ => pf_2f) with ⟨e, isF, h1, e3, h3⟩ | ⟨l1, l2, l3, e3, h3⟩
    · left
      rw [show fX3_isDigit (k, nI n, th, nI (p + 1 + 1), 0, nI i) tx (upd (upd (upd td (3 * i) (buf p)) (3 * i + 2) 1) (3 * i + 1) (nI v)) 2 50 57 = _ from e3, Option.bind_some]
      try dsimp only
      refine ⟨e, isF, _, h1, rfl, fun j hj => ?_, st _ _ h3⟩
      rw [upd_ne (by omega), upd_ne (by omega), upd_ne (by omega)]
    · right
      rw [show fX3_isDigit (k, nI n, th, nI (p + 1 + 1), 0, nI i) tx (upd (upd (upd td (3 * i) (buf p)) (3 * i + 2) 1) (3 * i + 1) (nI v)) 2 50 57 = _ from e3, Option.bind_some]
      obtain ⟨m, m1, m2, m3, m4⟩ := dgt_of 2 9 l2 l3 (by decide) (by decide)
      rw [m4]
      try dsimp only
      refine ⟨p + 3, 3, _, by omega, by omega, rfl, fun j hj => ?_, Or.inr (Or.inr ⟨v, by omega, v3, ?_, ?_, Or.inr ⟨rfl, q2, m, m1, m2, m3, upd_eq⟩⟩), Or.inr (Or.inl rfl), fun _ => pf_3, fun b e z => st _ _ (h3 _ _ z)⟩
      · rw [upd_ne (by omega), upd_ne (by omega), upd_ne (by omega), upd_ne (by omega)]
      · rw [upd_ne (by omega), upd_ne (by omega), upd_ne (by omega), upd_eq, v3]
      · rw [upd_ne (by omega), upd_eq]
  · right
    have ea : fX3_isAt (k, nI n, th, nI (p + 1), 0, nI i) tx 42 42 = some false := by
      by_cases q1 : p + 1 < n
      · refine isAt_f (p := p + 1) hn q1 (fun z => q ⟨q1, ?_⟩)
        rw [ht _ q1, le_i, le_i] at z
        exact i_eq (by omega)
      · rw [show p + 1 = n by omega]
        exact isAt_e hn
    rw [ea, Option.bind_some, if_pos bf]
    try dsimp only
    refine ⟨p + 1, 1, _, by omega, by omega, rfl, fun j hj => ?_, Or.inr (Or.inr ⟨v, by omega, v3, ?_, upd_eq, Or.inl ⟨rfl, ?_⟩⟩), Or.inl rfl, fun q1 => ?_, h⟩
    · rw [upd_ne (by omega), upd_ne (by omega), upd_ne (by omega)]
    · rw [upd_ne (by omega), upd_ne (by omega), upd_eq, v3]
    · exact (upd_ne (by omega)).trans upd_eq
    · rw [pf_1, if_neg (fun z => q ⟨q1, z⟩)]
theorem part_v (hb : bo.2.2 = nI n) (hn : n ≤ 60) (ht : ∀ j, j < n → tx j = buf j) (hp : p ≤ n) (hi2 : 2 * i ≤ p) :
    PartF bo buf tx td n p i k th (fX3_isPart (k, nI n, th, nI p, 0, nI i) tx td) ∨ PartT bo buf tx td n p i k th (fX3_isPart (k, nI n, th, nI p, 0, nI i) tx td) := by
  unfold fX3_isPart
  dsimp only
  by_cases q : p < n
  · rw [if_neg (nI_ge q (by omega)), gd_t (pin_nI (by omega) (by decide)), nI_clamp (by omega), ht p q]
    by_cases h1 : buf p = 119
    · rw [h1]; exact part_w hb hn ht q hi2 h1
    · by_cases h2 : buf p = 99
      · rw [h2]; exact part_c hb hn ht q hi2 h2
      · exact part_d hb hn ht hp hi2 h1 h2 (fun _ => rfl)
  · obtain rfl : p = n := by omega
    rw [if_pos (nI_le (Nat.le_refl _) (by omega))]
    exact part_d hb hn ht hp hi2 (by decide) (by decide) (fun z => absurd z q)
end
