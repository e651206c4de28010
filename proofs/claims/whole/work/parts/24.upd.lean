/-! one number changes, on both sides -/
theorem upd_ne {f : Nat → Int32} {i j : Nat} {a : Int32} (h : j ≠ i) : upd f i a j = f j := if_neg h
theorem upd_eq {f : Nat → Int32} {i : Nat} {a : Int32} : upd f i a i = a := if_pos rfl
theorem upd_sh {f g : Nat → Int32} {o c j : Nat} {a : Int32} (h : f (o + j) = g j) : upd f (o + c) a (o + j) = upd g c a j := by
  by_cases e : j = c
  · subst e; rw [upd_eq, upd_eq]
  · rw [upd_ne e, upd_ne (by omega)]; exact h
theorem Rel_set {x : ShT} {fs : Nat → Int32} {c : Nat} (hc : c < 4) {a : Int32} (h : Rel x fs 0) : Rel (x.1, x.2.1, x.2.2.1, x.2.2.2.1, x.2.2.2.2.1, upd x.2.2.2.2.2.1 c a, x.2.2.2.2.2.2.1, x.2.2.2.2.2.2.2.1, x.2.2.2.2.2.2.2.2.1, x.2.2.2.2.2.2.2.2.2) (upd fs c a) 0 := by
  obtain ⟨h0, h1, h2, h3, h4, h5, h6, h7, h8, h9⟩ := h
  refine ⟨fun j hj => ?_, fun j hj => ?_, fun j hj => ?_, fun j hj => ?_, fun j hj => ?_, ?_, ?_, ?_, fun j hj => ?_, fun j hj => ?_⟩
  · have q := h0 j hj; rw [Nat.zero_add] at q ⊢; have e := upd_sh (o := 0) (c := c) (a := a) (f := fs) (j := j) (g := x.2.2.2.2.2.1) (by rw [Nat.zero_add]; exact q); rw [Nat.zero_add, Nat.zero_add] at e; exact e
  · rw [upd_ne (by omega)]; exact h1 j hj
  · rw [upd_ne (by omega)]; exact h2 j hj
  · rw [upd_ne (by omega)]; exact h3 j hj
  · rw [upd_ne (by omega)]; exact h4 j hj
  · rw [upd_ne (by omega)]; exact h5
  · rw [upd_ne (by omega)]; exact h6
  · rw [upd_ne (by omega)]; exact h7
  · rw [upd_ne (by omega)]; exact h8 j hj
  · rw [upd_ne (by omega)]; exact h9 j hj
theorem Rel_sp {x : ShT} {fs : Nat → Int32} {c : Nat} (hc : c < 2) {a : Int32} (h : Rel x fs 0) : Rel (upd x.1 c a, x.2.1, x.2.2.1, x.2.2.2.1, x.2.2.2.2.1, x.2.2.2.2.2.1, x.2.2.2.2.2.2.1, x.2.2.2.2.2.2.2.1, x.2.2.2.2.2.2.2.2.1, x.2.2.2.2.2.2.2.2.2) (upd fs (4 + c) a) 0 := by
  obtain ⟨h0, h1, h2, h3, h4, h5, h6, h7, h8, h9⟩ := h
  refine ⟨fun j hj => ?_, fun j hj => ?_, fun j hj => ?_, fun j hj => ?_, fun j hj => ?_, ?_, ?_, ?_, fun j hj => ?_, fun j hj => ?_⟩
  · rw [upd_ne (by omega)]; exact h0 j hj
  · have q := h1 j hj; rw [Nat.zero_add] at q ⊢; exact upd_sh q
  · rw [upd_ne (by omega)]; exact h2 j hj
  · rw [upd_ne (by omega)]; exact h3 j hj
  · rw [upd_ne (by omega)]; exact h4 j hj
  · rw [upd_ne (by omega)]; exact h5
  · rw [upd_ne (by omega)]; exact h6
  · rw [upd_ne (by omega)]; exact h7
  · rw [upd_ne (by omega)]; exact h8 j hj
  · rw [upd_ne (by omega)]; exact h9 j hj
theorem Rel_si {x : ShT} {fs : Nat → Int32} {c : Nat} (hc : c < 2) {a : Int32} (h : Rel x fs 0) : Rel (x.1, upd x.2.1 c a, x.2.2.1, x.2.2.2.1, x.2.2.2.2.1, x.2.2.2.2.2.1, x.2.2.2.2.2.2.1, x.2.2.2.2.2.2.2.1, x.2.2.2.2.2.2.2.2.1, x.2.2.2.2.2.2.2.2.2) (upd fs (6 + c) a) 0 := by
  obtain ⟨h0, h1, h2, h3, h4, h5, h6, h7, h8, h9⟩ := h
  refine ⟨fun j hj => ?_, fun j hj => ?_, fun j hj => ?_, fun j hj => ?_, fun j hj => ?_, ?_, ?_, ?_, fun j hj => ?_, fun j hj => ?_⟩
  · rw [upd_ne (by omega)]; exact h0 j hj
  · rw [upd_ne (by omega)]; exact h1 j hj
  · have q := h2 j hj; rw [Nat.zero_add] at q ⊢; exact upd_sh q
  · rw [upd_ne (by omega)]; exact h3 j hj
  · rw [upd_ne (by omega)]; exact h4 j hj
  · rw [upd_ne (by omega)]; exact h5
  · rw [upd_ne (by omega)]; exact h6
  · rw [upd_ne (by omega)]; exact h7
  · rw [upd_ne (by omega)]; exact h8 j hj
  · rw [upd_ne (by omega)]; exact h9 j hj
theorem Rel_co {x : ShT} {fs : Nat → Int32} {c : Nat} (hc : c < 6) {a : Int32} (h : Rel x fs 0) : Rel (x.1, x.2.1, x.2.2.1, x.2.2.2.1, upd x.2.2.2.2.1 c a, x.2.2.2.2.2.1, x.2.2.2.2.2.2.1, x.2.2.2.2.2.2.2.1, x.2.2.2.2.2.2.2.2.1, x.2.2.2.2.2.2.2.2.2) (upd fs (8 + c) a) 0 := by
  obtain ⟨h0, h1, h2, h3, h4, h5, h6, h7, h8, h9⟩ := h
  refine ⟨fun j hj => ?_, fun j hj => ?_, fun j hj => ?_, fun j hj => ?_, fun j hj => ?_, ?_, ?_, ?_, fun j hj => ?_, fun j hj => ?_⟩
  · rw [upd_ne (by omega)]; exact h0 j hj
  · rw [upd_ne (by omega)]; exact h1 j hj
  · rw [upd_ne (by omega)]; exact h2 j hj
  · have q := h3 j hj; rw [Nat.zero_add] at q ⊢; exact upd_sh q
  · rw [upd_ne (by omega)]; exact h4 j hj
  · rw [upd_ne (by omega)]; exact h5
  · rw [upd_ne (by omega)]; exact h6
  · rw [upd_ne (by omega)]; exact h7
  · rw [upd_ne (by omega)]; exact h8 j hj
  · rw [upd_ne (by omega)]; exact h9 j hj
theorem Rel_ma {x : ShT} {fs : Nat → Int32} {c : Nat} (hc : c < 6) {a : Int32} (h : Rel x fs 0) : Rel (x.1, x.2.1, x.2.2.1, x.2.2.2.1, x.2.2.2.2.1, x.2.2.2.2.2.1, upd x.2.2.2.2.2.2.1 c a, x.2.2.2.2.2.2.2.1, x.2.2.2.2.2.2.2.2.1, x.2.2.2.2.2.2.2.2.2) (upd fs (14 + c) a) 0 := by
  obtain ⟨h0, h1, h2, h3, h4, h5, h6, h7, h8, h9⟩ := h
  refine ⟨fun j hj => ?_, fun j hj => ?_, fun j hj => ?_, fun j hj => ?_, fun j hj => ?_, ?_, ?_, ?_, fun j hj => ?_, fun j hj => ?_⟩
  · rw [upd_ne (by omega)]; exact h0 j hj
  · rw [upd_ne (by omega)]; exact h1 j hj
  · rw [upd_ne (by omega)]; exact h2 j hj
  · rw [upd_ne (by omega)]; exact h3 j hj
  · have q := h4 j hj; rw [Nat.zero_add] at q ⊢; exact upd_sh q
  · rw [upd_ne (by omega)]; exact h5
  · rw [upd_ne (by omega)]; exact h6
  · rw [upd_ne (by omega)]; exact h7
  · rw [upd_ne (by omega)]; exact h8 j hj
  · rw [upd_ne (by omega)]; exact h9 j hj
theorem Rel_sh {x : ShT} {fs : Nat → Int32} {a : Int32} (h : Rel x fs 0) : Rel (x.1, x.2.1, x.2.2.1, x.2.2.2.1, x.2.2.2.2.1, x.2.2.2.2.2.1, x.2.2.2.2.2.2.1, a, x.2.2.2.2.2.2.2.2.1, x.2.2.2.2.2.2.2.2.2) (upd fs 20 a) 0 := by
  obtain ⟨h0, h1, h2, h3, h4, h5, h6, h7, h8, h9⟩ := h
  refine ⟨fun j hj => ?_, fun j hj => ?_, fun j hj => ?_, fun j hj => ?_, fun j hj => ?_, ?_, ?_, ?_, fun j hj => ?_, fun j hj => ?_⟩
  · rw [upd_ne (by omega)]; exact h0 j hj
  · rw [upd_ne (by omega)]; exact h1 j hj
  · rw [upd_ne (by omega)]; exact h2 j hj
  · rw [upd_ne (by omega)]; exact h3 j hj
  · rw [upd_ne (by omega)]; exact h4 j hj
  · rw [Nat.zero_add]; exact upd_eq
  · rw [upd_ne (by omega)]; exact h6
  · rw [upd_ne (by omega)]; exact h7
  · rw [upd_ne (by omega)]; exact h8 j hj
  · rw [upd_ne (by omega)]; exact h9 j hj
theorem Rel_li {x : ShT} {fs : Nat → Int32} {a : Int32} (h : Rel x fs 0) : Rel (x.1, x.2.1, x.2.2.1, x.2.2.2.1, x.2.2.2.2.1, x.2.2.2.2.2.1, x.2.2.2.2.2.2.1, x.2.2.2.2.2.2.2.1, a, x.2.2.2.2.2.2.2.2.2) (upd fs 21 a) 0 := by
  obtain ⟨h0, h1, h2, h3, h4, h5, h6, h7, h8, h9⟩ := h
  refine ⟨fun j hj => ?_, fun j hj => ?_, fun j hj => ?_, fun j hj => ?_, fun j hj => ?_, ?_, ?_, ?_, fun j hj => ?_, fun j hj => ?_⟩
  · rw [upd_ne (by omega)]; exact h0 j hj
  · rw [upd_ne (by omega)]; exact h1 j hj
  · rw [upd_ne (by omega)]; exact h2 j hj
  · rw [upd_ne (by omega)]; exact h3 j hj
  · rw [upd_ne (by omega)]; exact h4 j hj
  · rw [upd_ne (by omega)]; exact h5
  · rw [Nat.zero_add]; exact upd_eq
  · rw [upd_ne (by omega)]; exact h7
  · rw [upd_ne (by omega)]; exact h8 j hj
  · rw [upd_ne (by omega)]; exact h9 j hj
theorem Rel_sr {x : ShT} {fs : Nat → Int32} {a : Int32} (h : Rel x fs 0) : Rel (x.1, x.2.1, x.2.2.1, x.2.2.2.1, x.2.2.2.2.1, x.2.2.2.2.2.1, x.2.2.2.2.2.2.1, x.2.2.2.2.2.2.2.1, x.2.2.2.2.2.2.2.2.1, a) (upd fs 22 a) 0 := by
  obtain ⟨h0, h1, h2, h3, h4, h5, h6, h7, h8, h9⟩ := h
  refine ⟨fun j hj => ?_, fun j hj => ?_, fun j hj => ?_, fun j hj => ?_, fun j hj => ?_, ?_, ?_, ?_, fun j hj => ?_, fun j hj => ?_⟩
  · rw [upd_ne (by omega)]; exact h0 j hj
  · rw [upd_ne (by omega)]; exact h1 j hj
  · rw [upd_ne (by omega)]; exact h2 j hj
  · rw [upd_ne (by omega)]; exact h3 j hj
  · rw [upd_ne (by omega)]; exact h4 j hj
  · rw [upd_ne (by omega)]; exact h5
  · rw [upd_ne (by omega)]; exact h6
  · rw [Nat.zero_add]; exact upd_eq
  · rw [upd_ne (by omega)]; exact h8 j hj
  · rw [upd_ne (by omega)]; exact h9 j hj
theorem Rel_d0 {x : ShT} {fs : Nat → Int32} {c : Nat} (hc : c < 24) {a : Int32} (h : Rel x fs 0) : Rel (x.1, x.2.1, upd x.2.2.1 c a, x.2.2.2.1, x.2.2.2.2.1, x.2.2.2.2.2.1, x.2.2.2.2.2.2.1, x.2.2.2.2.2.2.2.1, x.2.2.2.2.2.2.2.2.1, x.2.2.2.2.2.2.2.2.2) (upd fs (23 + c) a) 0 := by
  obtain ⟨h0, h1, h2, h3, h4, h5, h6, h7, h8, h9⟩ := h
  refine ⟨fun j hj => ?_, fun j hj => ?_, fun j hj => ?_, fun j hj => ?_, fun j hj => ?_, ?_, ?_, ?_, fun j hj => ?_, fun j hj => ?_⟩
  · rw [upd_ne (by omega)]; exact h0 j hj
  · rw [upd_ne (by omega)]; exact h1 j hj
  · rw [upd_ne (by omega)]; exact h2 j hj
  · rw [upd_ne (by omega)]; exact h3 j hj
  · rw [upd_ne (by omega)]; exact h4 j hj
  · rw [upd_ne (by omega)]; exact h5
  · rw [upd_ne (by omega)]; exact h6
  · rw [upd_ne (by omega)]; exact h7
  · have q := h8 j hj; rw [Nat.zero_add] at q ⊢; exact upd_sh q
  · rw [upd_ne (by omega)]; exact h9 j hj
theorem Rel_d1 {x : ShT} {fs : Nat → Int32} {c : Nat} (hc : c < 24) {a : Int32} (h : Rel x fs 0) : Rel (x.1, x.2.1, x.2.2.1, upd x.2.2.2.1 c a, x.2.2.2.2.1, x.2.2.2.2.2.1, x.2.2.2.2.2.2.1, x.2.2.2.2.2.2.2.1, x.2.2.2.2.2.2.2.2.1, x.2.2.2.2.2.2.2.2.2) (upd fs (47 + c) a) 0 := by
  obtain ⟨h0, h1, h2, h3, h4, h5, h6, h7, h8, h9⟩ := h
  refine ⟨fun j hj => ?_, fun j hj => ?_, fun j hj => ?_, fun j hj => ?_, fun j hj => ?_, ?_, ?_, ?_, fun j hj => ?_, fun j hj => ?_⟩
  · rw [upd_ne (by omega)]; exact h0 j hj
  · rw [upd_ne (by omega)]; exact h1 j hj
  · rw [upd_ne (by omega)]; exact h2 j hj
  · rw [upd_ne (by omega)]; exact h3 j hj
  · rw [upd_ne (by omega)]; exact h4 j hj
  · rw [upd_ne (by omega)]; exact h5
  · rw [upd_ne (by omega)]; exact h6
  · rw [upd_ne (by omega)]; exact h7
  · rw [upd_ne (by omega)]; exact h8 j hj
  · have q := h9 j hj; rw [Nat.zero_add] at q ⊢; exact upd_sh q
