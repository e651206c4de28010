/-! the text: how the class reads on from a place -/
def Cls (bo : BoT) (buf : Fn) (n : Nat) (pl : Int32) (p : Nat) (b : Bool) (e : Int32) : Prop :=
  (∀ fu, n < p + fu → lp (fX2_firstError_l4 bo buf) fu (pl, nI p) = some e) ∧ (∀ fu, n < p + fu → lp (fX2_isComplete_l4 bo buf) fu (pl, nI p) = some b)
section
variable {bo : BoT} {buf tx td : Fn} {n p i : Nat} {pl r : Int32}
theorem fe_k (hb : bo.2.2 = nI n) (hn : n ≤ 60) (hp : p < n) (e1 : fX2_placeAfter pl (buf p) = some r) (K : Int32 × Int32 → Option Int32) : fX2_firstError_l4 bo buf K (pl, nI p) = if r = 9 then some (nI p) else K (r, nI (p + 1)) := by
  unfold fX2_firstError_l4
  dsimp only
  rw [hb, if_neg (nI_ge hp (by omega)), at_nI _ (show p < 60 by omega) (by decide), Option.bind_some, e1, Option.bind_some, ← nI_succ]
theorem fe_e (hb : bo.2.2 = nI n) (hn : n ≤ 60) (K : Int32 × Int32 → Option Int32) : fX2_firstError_l4 bo buf K (pl, nI n) = some (nI n) := by
  unfold fX2_firstError_l4
  dsimp only
  rw [hb, if_pos (nI_le (Nat.le_refl _) (by omega))]
theorem ic_k (hb : bo.2.2 = nI n) (hn : n ≤ 60) (hp : p < n) (h9 : ¬ pl = 9) (e1 : fX2_placeAfter pl (buf p) = some r) (K : Int32 × Int32 → Option Bool) : fX2_isComplete_l4 bo buf K (pl, nI p) = K (r, nI (p + 1)) := by
  unfold fX2_isComplete_l4
  dsimp only
  rw [hb, if_neg (nI_ge hp (by omega)), if_neg h9, at_nI _ (show p < 60 by omega) (by decide), Option.bind_some, e1, Option.bind_some, ← nI_succ]
theorem ic_e (hb : bo.2.2 = nI n) (hn : n ≤ 60) (K : Int32 × Int32 → Option Bool) : fX2_isComplete_l4 bo buf K (pl, nI n) = fX2_isComplete_j37 bo buf pl := by
  unfold fX2_isComplete_l4
  dsimp only
  rw [hb, if_pos (nI_le (Nat.le_refl _) (by omega))]
theorem ic_9 (K : Int32 × Int32 → Option Bool) (k : Int32) : fX2_isComplete_l4 bo buf K (9, k) = some false := by
  have j : fX2_isComplete_j37 bo buf 9 = some false := by
    unfold fX2_isComplete_j37
    rw [if_neg (by decide), if_neg (by decide), if_neg (by decide)]
  unfold fX2_isComplete_l4
  dsimp only
  rw [j, if_pos rfl, ite_self]
theorem cl_step {b : Bool} {e : Int32} (hb : bo.2.2 = nI n) (hn : n ≤ 60) (hp : p < n) (h9 : ¬ pl = 9) (hr : ¬ r = 9) (e1 : fX2_placeAfter pl (buf p) = some r) (h : Cls bo buf n r (p + 1) b e) : Cls bo buf n pl p b e := by
  refine ⟨fun fu hf => ?_, fun fu hf => ?_⟩
  · obtain ⟨g, rfl⟩ : ∃ g, fu = g + 1 := ⟨fu - 1, by omega⟩
    exact (fe_k hb hn hp e1 _).trans ((if_neg hr).trans (h.1 g (by omega)))
  · obtain ⟨g, rfl⟩ : ∃ g, fu = g + 1 := ⟨fu - 1, by omega⟩
    exact (ic_k hb hn hp h9 e1 _).trans (h.2 g (by omega))
theorem cl_bad (hb : bo.2.2 = nI n) (hn : n ≤ 60) (hp : p < n) (h9 : ¬ pl = 9) (e1 : fX2_placeAfter pl (buf p) = some 9) : Cls bo buf n pl p false (nI p) := by
  refine ⟨fun fu hf => ?_, fun fu hf => ?_⟩
  · obtain ⟨g, rfl⟩ : ∃ g, fu = g + 1 := ⟨fu - 1, by omega⟩
    exact (fe_k hb hn hp e1 _).trans (if_pos rfl)
  · obtain ⟨g, rfl⟩ : ∃ g, fu = g + 2 := ⟨fu - 2, by omega⟩
    exact (ic_k hb hn hp h9 e1 _).trans (ic_9 _ _)
theorem cl_end {b : Bool} (hb : bo.2.2 = nI n) (hn : n ≤ 60) (hj : fX2_isComplete_j37 bo buf pl = some b) : Cls bo buf n pl n b (nI n) := by
  refine ⟨fun fu hf => ?_, fun fu hf => ?_⟩
  · obtain ⟨g, rfl⟩ : ∃ g, fu = g + 1 := ⟨fu - 1, by omega⟩
    exact fe_e hb hn _
  · obtain ⟨g, rfl⟩ : ∃ g, fu = g + 1 := ⟨fu - 1, by omega⟩
    exact (ic_e hb hn _).trans hj
/-! the reference's looks at a character -/
theorem in_t {v lo hi : Int32} (h1 : lo ≤ v) (h2 : v ≤ hi) : fX3_in v lo hi = some true := by
  unfold fX3_in
  rw [if_neg (fun q => by rw [lt_i] at q; rw [le_i] at h1; omega), if_neg (fun q => by rw [lt_i] at q; rw [le_i] at h2; omega)]
theorem in_f {v lo hi : Int32} (h : ¬ (lo ≤ v ∧ v ≤ hi)) : fX3_in v lo hi = some false := by
  unfold fX3_in
  by_cases h0 : v < lo
  · rw [if_pos h0]
  · rw [if_neg h0, if_pos]
    rw [lt_i] at h0 ⊢
    rw [le_i, le_i] at h
    omega
theorem isAt_e {k th f ti lo hi : Int32} (hn : n ≤ 60) : fX3_isAt (k, nI n, th, nI n, f, ti) tx lo hi = some false := by
  unfold fX3_isAt
  dsimp only
  rw [if_pos (nI_le (Nat.le_refl _) (by omega))]
theorem isAt_t {k th f ti lo hi : Int32} (hn : n ≤ 60) (hp : p < n) (h1 : lo ≤ tx p) (h2 : tx p ≤ hi) : fX3_isAt (k, nI n, th, nI p, f, ti) tx lo hi = some true := by
  unfold fX3_isAt
  dsimp only
  rw [if_neg (nI_ge hp (by omega)), gd_t (pin_nI (by omega) (by decide)), nI_clamp (by omega), in_t h1 h2, Option.bind_some, if_neg bt]
theorem isAt_f {k th f ti lo hi : Int32} (hn : n ≤ 60) (hp : p < n) (h : ¬ (lo ≤ tx p ∧ tx p ≤ hi)) : fX3_isAt (k, nI n, th, nI p, f, ti) tx lo hi = some false := by
  unfold fX3_isAt
  dsimp only
  rw [if_neg (nI_ge hp (by omega)), gd_t (pin_nI (by omega) (by decide)), nI_clamp (by omega), in_f h, Option.bind_some, if_pos bf]
theorem stops_e {k th f ti : Int32} (hn : n ≤ 60) : fX3_stops (k, nI n, th, nI n, f, ti) = some (false, (k, nI n, th, nI n, 0, ti)) := by
  unfold fX3_stops
  dsimp only
  rw [if_pos (nI_le (Nat.le_refl _) (by omega))]
theorem stops_f {k th f ti : Int32} (hn : n ≤ 60) (hp : p < n) : fX3_stops (k, nI n, th, nI p, f, ti) = some (false, (k, nI n, th, nI p, 1, ti)) := by
  unfold fX3_stops
  dsimp only
  rw [if_neg (nI_ge hp (by omega))]
/-- one character that is due: reference and class -/
theorem at_s {k th lo hi : Int32} (hb : bo.2.2 = nI n) (hn : n ≤ 60) (ht : ∀ j, j < n → tx j = buf j) (hp : p ≤ n) (h9 : ¬ pl = 9) (hr : ¬ r = 9) (hj : fX2_isComplete_j37 bo buf pl = some false)
    (h1 : p < n → lo ≤ buf p → buf p ≤ hi → fX2_placeAfter pl (buf p) = some r) (h2 : p < n → ¬ (lo ≤ buf p ∧ buf p ≤ hi) → fX2_placeAfter pl (buf p) = some 9) :
    (∃ e isF, e ≤ n ∧ fX3_isAt (k, nI n, th, nI p, 0, nI i) tx lo hi = some false ∧ fX3_stops (k, nI n, th, nI p, 0, nI i) = some (false, (k, nI n, th, nI e, isF, nI i)) ∧ Cls bo buf n pl p false (if isF = 0 then nI n else nI e)) ∨
    (p < n ∧ lo ≤ buf p ∧ buf p ≤ hi ∧ fX3_isAt (k, nI n, th, nI p, 0, nI i) tx lo hi = some true ∧ ∀ b e, Cls bo buf n r (p + 1) b e → Cls bo buf n pl p b e) := by
  by_cases q : p < n
  · by_cases c : lo ≤ buf p ∧ buf p ≤ hi
    · right
      exact ⟨q, c.1, c.2, isAt_t hn q (by rw [ht p q]; exact c.1) (by rw [ht p q]; exact c.2), fun b e h => cl_step hb hn q h9 hr (h1 q c.1 c.2) h⟩
    · left
      refine ⟨p, 1, hp, isAt_f hn q (by rw [ht p q]; exact c), stops_f hn q, ?_⟩
      rw [if_neg (by decide)]
      exact cl_bad hb hn q h9 (h2 q c)
  · obtain rfl : p = n := by omega
    left
    refine ⟨p, 0, hp, isAt_e hn, stops_e hn, ?_⟩
    rw [if_pos rfl]
    exact cl_end hb hn hj
theorem dig_s {k th lo hi : Int32} {kk : Nat} (hb : bo.2.2 = nI n) (hn : n ≤ 60) (ht : ∀ j, j < n → tx j = buf j) (hp : p ≤ n) (h3 : 3 * i + kk < 93) (h9 : ¬ pl = 9) (hr : ¬ r = 9) (hj : fX2_isComplete_j37 bo buf pl = some false)
    (h1 : p < n → lo ≤ buf p → buf p ≤ hi → fX2_placeAfter pl (buf p) = some r) (h2 : p < n → ¬ (lo ≤ buf p ∧ buf p ≤ hi) → fX2_placeAfter pl (buf p) = some 9) :
    (∃ e isF, e ≤ n ∧ fX3_isDigit (k, nI n, th, nI p, 0, nI i) tx td (nI kk) lo hi = some (false, (k, nI n, th, nI e, isF, nI i), td) ∧ Cls bo buf n pl p false (if isF = 0 then nI n else nI e)) ∨
    (p < n ∧ lo ≤ buf p ∧ buf p ≤ hi ∧ fX3_isDigit (k, nI n, th, nI p, 0, nI i) tx td (nI kk) lo hi = some (true, (k, nI n, th, nI (p + 1), 0, nI i), upd td (3 * i + kk) (buf p - 48)) ∧ ∀ b e, Cls bo buf n r (p + 1) b e → Cls bo buf n pl p b e) := by
  unfold fX3_isDigit
  rcases at_s (k := k) (th := th) (i := i) (tx := tx) hb hn ht hp h9 hr hj h1 h2 with ⟨e, isF, h0, e1, e2, h⟩ | ⟨g1, g2, g3, e1, h⟩
  · left
    refine ⟨e, isF, h0, ?_, h⟩
    rw [e1, Option.bind_some, if_pos bf, e2, Option.bind_some]
  · right
    refine ⟨g1, g2, g3, ?_, h⟩
    rw [e1, Option.bind_some, if_neg bt]
    dsimp only
    rw [show (3 : Int32) * nI i = nI (3 * i) from nI_mul 3 i, nI_add, gd_t (pin_nI (by omega) (by decide)), gd_t (pin_nI h3 (by decide)), nI_clamp (by omega), nI_clamp (by omega), ht p g1, ← nI_succ]
end
/-! the places, one by one -/
theorem c42 : (42 : Int32).toInt = 42 := rfl
theorem c48 : (48 : Int32).toInt = 48 := rfl
theorem c49 : (49 : Int32).toInt = 49 := rfl
theorem c50 : (50 : Int32).toInt = 50 := rfl
theorem c53 : (53 : Int32).toInt = 53 := rfl
theorem c54 : (54 : Int32).toInt = 54 := rfl
theorem c57 : (57 : Int32).toInt = 57 := rfl
theorem c58 : (58 : Int32).toInt = 58 := rfl
theorem c59 : (59 : Int32).toInt = 59 := rfl
theorem c99 : (99 : Int32).toInt = 99 := rfl
theorem c119 : (119 : Int32).toInt = 119 := rfl
theorem pf_w : fX2_placeAfter 0 119 = some 4 := by decide +kernel
theorem pf_c : fX2_placeAfter 0 99 = some 8 := by decide +kernel
theorem pf_0t {v : Int32} (h1 : 48 ≤ v) (h2 : v ≤ 53) : fX2_placeAfter 0 v = some 1 := by
  rw [le_i, c48] at h1
  rw [le_i, c53] at h2
  unfold fX2_placeAfter fX2_placeAfterFirst
  rw [if_pos rfl, if_neg (fun q => by rw [q, c119] at h2; omega), if_neg (fun q => by rw [q, c99] at h2; omega), if_neg (by rw [lt_i, c48]; omega), if_neg (by rw [le_i, c54]; omega)]
  rfl
theorem pf_0f {v : Int32} (h1 : ¬ v = 119) (h2 : ¬ v = 99) (h : ¬ (48 ≤ v ∧ v ≤ 53)) : fX2_placeAfter 0 v = some 9 := by
  rw [le_i, le_i, c48, c53] at h
  unfold fX2_placeAfter fX2_placeAfterFirst
  rw [if_pos rfl, if_neg h1, if_neg h2]
  by_cases q : v < 48
  · rw [if_pos q]; rfl
  · rw [if_neg q, if_pos (by rw [lt_i, c48] at q; rw [le_i, c54]; omega)]; rfl
theorem pf_1 {v : Int32} : fX2_placeAfter 1 v = if v = 42 then some 2 else if v = 59 then some 0 else some 9 := by
  unfold fX2_placeAfter fX2_placeAfterPart
  rw [if_neg (by decide), if_pos rfl]
  by_cases q : v = 42
  · rw [if_pos q, if_pos q]
  · rw [if_neg q, if_neg q]
    by_cases q : v = 59
    · rw [if_pos q]; rfl
    · rw [if_neg q]; rfl
theorem pf_2t {v : Int32} (h1 : 50 ≤ v) (h2 : v ≤ 57) : fX2_placeAfter 2 v = some 3 := by
  rw [le_i, c50] at h1
  rw [le_i, c57] at h2
  unfold fX2_placeAfter
  rw [if_neg (by decide), if_neg (by decide), if_pos rfl, if_neg (by rw [lt_i, c50]; omega), if_neg (by rw [lt_i, c57]; omega)]
theorem pf_2f {v : Int32} (h : ¬ (50 ≤ v ∧ v ≤ 57)) : fX2_placeAfter 2 v = some 9 := by
  rw [le_i, le_i, c50, c57] at h
  unfold fX2_placeAfter
  rw [if_neg (by decide), if_neg (by decide), if_pos rfl]
  by_cases q : v < 50
  · rw [if_pos q]
  · rw [if_neg q, if_pos (by rw [lt_i, c50] at q; rw [lt_i, c57]; omega)]
theorem pf_3 {v : Int32} : fX2_placeAfter 3 v = if v = 59 then some 0 else some 9 := by
  unfold fX2_placeAfter fX2_placeAfterPart
  rw [if_neg (by decide), if_neg (by decide), if_neg (by decide), if_pos rfl]
  by_cases q : v = 59
  · rw [if_pos q]; rfl
  · rw [if_neg q]; rfl
theorem cd_t {v : Int32} (h1 : 48 ≤ v) (h2 : v ≤ 49) : fX2_isCurtainDigit v = some true := by
  rw [le_i, c48] at h1
  rw [le_i, c49] at h2
  unfold fX2_isCurtainDigit
  rw [if_neg (by rw [lt_i, c48]; omega), if_neg (by rw [le_i, c50]; omega)]
theorem cd_f {v : Int32} (h : ¬ (48 ≤ v ∧ v ≤ 49)) : fX2_isCurtainDigit v = some false := by
  rw [le_i, le_i, c48, c49] at h
  unfold fX2_isCurtainDigit
  by_cases q : v < 48
  · rw [if_pos q]
  · rw [if_neg q, if_pos (by rw [lt_i, c48] at q; rw [le_i, c50]; omega)]
theorem pf_4t {v : Int32} (h1 : 48 ≤ v) (h2 : v ≤ 49) : fX2_placeAfter 4 v = some 5 := by
  unfold fX2_placeAfter
  rw [if_neg (by decide), if_neg (by decide), if_neg (by decide), if_neg (by decide), if_pos rfl, cd_t h1 h2, Option.bind_some, if_neg bt]
theorem pf_4f {v : Int32} (h : ¬ (48 ≤ v ∧ v ≤ 49)) : fX2_placeAfter 4 v = some 9 := by
  unfold fX2_placeAfter
  rw [if_neg (by decide), if_neg (by decide), if_neg (by decide), if_neg (by decide), if_pos rfl, cd_f h, Option.bind_some, if_pos bf]
theorem pf_5t {v : Int32} (h1 : 58 ≤ v) (h2 : v ≤ 58) : fX2_placeAfter 5 v = some 6 := by
  rw [le_i] at h1 h2
  obtain rfl : v = 58 := i_eq (by omega)
  decide +kernel
theorem pf_5f {v : Int32} (h : ¬ (58 ≤ v ∧ v ≤ 58)) : fX2_placeAfter 5 v = some 9 := by
  unfold fX2_placeAfter
  rw [if_neg (by decide), if_neg (by decide), if_neg (by decide), if_neg (by decide), if_neg (by decide), if_pos rfl, if_neg (fun q => h (by rw [q]; decide))]
theorem pf_6t {v : Int32} (h1 : 49 ≤ v) (h2 : v ≤ 57) : fX2_placeAfter 6 v = some 7 := by
  rw [le_i, c49] at h1
  rw [le_i, c57] at h2
  unfold fX2_placeAfter
  rw [if_neg (by decide), if_neg (by decide), if_neg (by decide), if_neg (by decide), if_neg (by decide), if_neg (by decide), if_pos rfl, if_neg (by rw [lt_i, c49]; omega), if_neg (by rw [lt_i, c57]; omega)]
theorem pf_6f {v : Int32} (h : ¬ (49 ≤ v ∧ v ≤ 57)) : fX2_placeAfter 6 v = some 9 := by
  rw [le_i, le_i, c49, c57] at h
  unfold fX2_placeAfter
  rw [if_neg (by decide), if_neg (by decide), if_neg (by decide), if_neg (by decide), if_neg (by decide), if_neg (by decide), if_pos rfl]
  by_cases q : v < 49
  · rw [if_pos q]
  · rw [if_neg q, if_pos (by rw [lt_i, c49] at q; rw [lt_i, c57]; omega)]
theorem pf_7t {v : Int32} (h1 : 48 ≤ v) (h2 : v ≤ 57) : fX2_placeAfter 7 v = some 3 := by
  rw [le_i, c48] at h1
  rw [le_i, c57] at h2
  unfold fX2_placeAfter
  rw [if_neg (by decide), if_neg (by decide), if_neg (by decide), if_neg (by decide), if_neg (by decide), if_neg (by decide), if_neg (by decide), if_pos rfl, if_neg (by rw [lt_i, c48]; omega), if_neg (by rw [lt_i, c57]; omega)]
theorem pf_7f {v : Int32} (h : ¬ (48 ≤ v ∧ v ≤ 57)) : fX2_placeAfter 7 v = if v = 59 then some 0 else some 9 := by
  rw [le_i, le_i, c48, c57] at h
  have e : (fX2_placeAfterPart v).bind (fun r21 => some r21) = if v = 59 then some 0 else some 9 := by
    unfold fX2_placeAfterPart
    by_cases q : v = 59
    · rw [if_pos q]; rfl
    · rw [if_neg q]; rfl
  unfold fX2_placeAfter
  rw [if_neg (by decide), if_neg (by decide), if_neg (by decide), if_neg (by decide), if_neg (by decide), if_neg (by decide), if_neg (by decide), if_pos rfl]
  by_cases q : v < 48
  · rw [if_pos q, e]
  · rw [if_neg q, if_pos (by rw [lt_i, c48] at q; rw [lt_i, c57]; omega), e]
theorem pf_8t {v : Int32} (h1 : 48 ≤ v) (h2 : v ≤ 49) : fX2_placeAfter 8 v = some 3 := by
  unfold fX2_placeAfter
  rw [if_neg (by decide), if_neg (by decide), if_neg (by decide), if_neg (by decide), if_neg (by decide), if_neg (by decide), if_neg (by decide), if_neg (by decide), if_pos rfl, cd_t h1 h2, Option.bind_some, if_neg bt]
theorem pf_8f {v : Int32} (h : ¬ (48 ≤ v ∧ v ≤ 49)) : fX2_placeAfter 8 v = some 9 := by
  unfold fX2_placeAfter
  rw [if_neg (by decide), if_neg (by decide), if_neg (by decide), if_neg (by decide), if_neg (by decide), if_neg (by decide), if_neg (by decide), if_neg (by decide), if_pos rfl, cd_f h, Option.bind_some, if_pos bf]
theorem j37_t {bo : BoT} {buf : Fn} {s : Int32} (h : s = 1 ∨ s = 3 ∨ s = 7) : fX2_isComplete_j37 bo buf s = some true := by
  unfold fX2_isComplete_j37
  rcases h with rfl | rfl | rfl
  · rw [if_pos rfl]
  · rw [if_neg (by decide), if_pos rfl]
  · rw [if_neg (by decide), if_neg (by decide), if_pos rfl]
theorem j37_f {bo : BoT} {buf : Fn} {s : Int32} (h1 : ¬ s = 1) (h2 : ¬ s = 3) (h3 : ¬ s = 7) : fX2_isComplete_j37 bo buf s = some false := by
  unfold fX2_isComplete_j37
  rw [if_neg h1, if_neg h2, if_neg h3]
