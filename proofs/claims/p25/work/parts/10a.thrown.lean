theorem xthrown {s : State} {D : va_G} {t : Nat → ClassId} {A : Nat → Prop} {ws : va_W} {E : Nat} {H : Heap} {locs : List Loc} (hP : va_P D vwCl ws H) (hK : va_K D vwCl (TY t) s) (hD : va_D A ws) (hS : va_S A s.heap H locs) :
    ∀ t9 : State, s.vm.Alike t9.vm → H.size ≤ t9.heap.size → (∀ q : Nat, q < H.size → t9.heap[q]? = H[q]?) → xC D t ws E A (xname E) s t9 := fun t9 h8 h7 h6 =>
  ⟨(), trivial, ⟨rfl, fun k q hq => (hP k q hq).kept (h6 q.1 (hP k q hq).lt), va_K.moved h8 hK, hD⟩, Nat.le_trans hS.1 h7, fun q h1 h2 => by rw [h6 q (Nat.lt_of_lt_of_le h1 hS.1)]; exact hS.2.1 q h1 h2⟩
