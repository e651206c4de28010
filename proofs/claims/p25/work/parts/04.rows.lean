/-! MY ROWS: one contract form for every method (its world a list of cells, its answer a pure value), and calls that put the callee's cells back in their places -/
abbrev TY (t : Nat → ClassId) : List (ClassId × FieldType) := [(t 0, .int), (t 1, .object RX1)]
/-- what the tables say beyond good words: links between nest mates, the texts of the exceptions -/
def xE (U : State) : Prop :=
  va_Nw (.methodLinkNest RX0 36 yX2_wantedLight RX2) U ∧ va_Nw (.methodLinkNest RX0 55 yX2_at RX2) U ∧ va_Nw (.methodLinkNest RX1 43 yX2_copyRow RX2) U ∧ va_Nw (.methodLinkNest RX1 47 yX2_at RX2) U ∧ va_Nw (.methodLinkNest RX1 59 yX2_wantedLight RX2) U ∧ va_Nw (.methodLinkNest RX1 71 yX2_put RX2) U
theorem xE.warm {s U : State} (hW : s.WarmedH U.vm) (h : xE s) : xE U :=
  ⟨va_Nw.warmM hW h.1, va_Nw.warmM hW h.2.1, va_Nw.warmM hW h.2.2.1, va_Nw.warmM hW h.2.2.2.1, va_Nw.warmM hW h.2.2.2.2.1, va_Nw.warmM hW h.2.2.2.2.2⟩
theorem xE.same {u U : State} (e : u.vm = U.vm) (h : xE u) : xE U :=
  ⟨va_Nw.same rfl e h.1, va_Nw.same rfl e h.2.1, va_Nw.same rfl e h.2.2.1, va_Nw.same rfl e h.2.2.2.1, va_Nw.same rfl e h.2.2.2.2.1, va_Nw.same rfl e h.2.2.2.2.2⟩
def sPc (D : va_G) (t : Nat → ClassId) (ws : va_W) (sz : Nat) (av : List Value) : Array Value → State → Prop := va_Pc av (fun U => U.heap.size = sz ∧ va_P D vwCl ws U.heap ∧ va_K D vwCl (TY t) U ∧ va_D (fun _ => True) ws ∧ xE U)
theorem sPc_blind {D : va_G} {t : Nat → ClassId} {ws : va_W} {sz : Nat} {av : List Value} : FrameBlind (sPc D t ws sz av) := by
  intro a U g mk h
  obtain ⟨h1, h2, h3, h4, h5, h6⟩ := h
  exact ⟨h1, h2, h3, va_K.moved (u := U) (U := U.calling g mk a) (Vm.Alike.refl U.vm) h4, h5, xE.same (u := U) (U := U.calling g mk a) rfl h6⟩
theorem sPc_S {D : va_G} {t : Nat → ClassId} {ws : va_W} {av : List Value} {s : State} {H : Heap} {A : Nat → Prop} (hP : va_P D vwCl ws H) (hK : va_K D vwCl (TY t) s) (hD : va_D A ws) (hE : xE s) : PreS s H (sPc D t ws H.size av) av :=
  ⟨sPc_blind, fun U hU hW => ⟨rfl, by rw [hU], by rw [hU]; exact hP, va_K.moved hW.alike hK, hD.weaken (fun _ _ _ _ => trivial), xE.warm hW hE⟩⟩
theorem sPc_V {D : va_G} {t : Nat → ClassId} {ws : va_W} {b : Nat} {av : List Value} {s : State} {H : Heap} {A : Nat → Prop} {C : String} (hP : va_P D vwCl ws H) (hK : va_K D vwCl (TY t) s) (hD : va_D A ws) (hE : xE s)
    (hr : ∃ cellB : Cell, H[b]? = some cellB ∧ cellB.vm.isStatics = false ∧ s.vm.findClass C = some cellB.cls) : PreV s H C b (sPc D t ws H.size (.ref b :: av)) av :=
  ⟨sPc_blind, hr, fun U hU hW => ⟨rfl, by rw [hU], by rw [hU]; exact hP, va_K.moved hW.alike hK, hD.weaken (fun _ _ _ _ => trivial), xE.warm hW hE⟩⟩
def sB (D : va_G) (t : Nat → ClassId) (ws : va_W) (A : Nat → Prop) : Unit → State → Prop := fun _ st => va_P D vwCl ws st.heap ∧ va_K D vwCl (TY t) st ∧ va_D A ws
abbrev qI (D : va_G) (t : Nat → ClassId) (ws : va_W) (v : Int32) (A : Nat → Prop) : Array Value → State → Outcome → State → Prop := va_Qi (fun r (_ : Unit) => r = v) (sB D t ws A) A
abbrev qJ (D : va_G) (t : Nat → ClassId) (ws : va_W) (v : Int64) (A : Nat → Prop) : Array Value → State → Outcome → State → Prop := va_Ql (fun r (_ : Unit) => r = v) (sB D t ws A) A
abbrev qD (D : va_G) (t : Nat → ClassId) (ws : va_W) (v : UInt64) (A : Nat → Prop) : Array Value → State → Outcome → State → Prop := va_Qd (fun r (_ : Unit) => r = v) (sB D t ws A) A
abbrev qV (D : va_G) (t : Nat → ClassId) (ws : va_W) (A : Nat → Prop) : Array Value → State → Outcome → State → Prop := va_Qv (fun (_ : Unit) => True) (sB D t ws A) A
abbrev qR (D : va_G) (t : Nat → ClassId) (ws : va_W) (v : Nat) (A : Nat → Prop) : Array Value → State → Outcome → State → Prop := va_Qr (fun (_ : Unit) => True) (fun u a st => a = v ∧ sB D t ws A u st) A
/-! the callee's cells back in their places -/
def va_set (ws : va_W) : List Nat → va_W → va_W
  | i :: is, c :: cs => va_set (ws.set i c) is cs
  | _, _ => ws
theorem va_set_get {k : Nat} {q : Nat × va_E} : ∀ (is : List Nat) (cs ws : va_W), is.length = cs.length → (va_set ws is cs)[k]? = some q → (∃ j : Nat, cs[j]? = some q) ∨ (ws[k]? = some q ∧ k ∉ is)
  | [], [], ws, _, h => Or.inr ⟨h, List.not_mem_nil⟩
  | i :: is, c :: cs, ws, hl, h => by
    rcases va_set_get is cs (ws.set i c) (by simpa using hl) h with ⟨j, hj⟩ | ⟨h1, h2⟩
    · exact Or.inl ⟨j + 1, by rw [List.getElem?_cons_succ]; exact hj⟩
    · by_cases e : i = k
      · subst e
        rw [List.getElem?_set] at h1
        rw [if_pos rfl] at h1
        split at h1
        · exact Or.inl ⟨0, by rw [List.getElem?_cons_zero]; exact h1⟩
        · cases h1
      · rw [List.getElem?_set, if_neg e] at h1
        exact Or.inr ⟨h1, fun hm => by
          rcases List.mem_cons.mp hm with z | z
          · exact e z.symm
          · exact h2 z⟩
  | [], _ :: _, _, hl, _ => by cases hl
  | _ :: _, [], _, hl, _ => by cases hl
theorem va_set_fst : ∀ (is : List Nat) (cs ws : va_W), is.map (fun i => (ws.map (·.1))[i]?) = (cs.map (·.1)).map some → (va_set ws is cs).map (·.1) = ws.map (·.1)
  | [], [], ws, _ => rfl
  | [], _ :: _, ws, h => by cases h
  | _ :: _, [], ws, _ => rfl
  | i :: is, c :: cs, ws, h => by
    rw [List.map_cons, List.map_cons, List.map_cons] at h
    injection h with h1 h2
    have e : (ws.set i c).map (·.1) = ws.map (·.1) := by
      rw [List.map_set]
      apply List.ext_getElem?
      intro j
      rw [List.getElem?_set]
      split
      · next e => subst e; split
                  · exact h1.symm
                  · next hn => rw [List.getElem?_eq_none (by omega)]
      · rfl
    show (va_set (ws.set i c) is cs).map (·.1) = _
    rw [va_set_fst is cs (ws.set i c) (by rw [e]; exact h2), e]
theorem va_D.fst {A : Nat → Prop} {ws ws' : va_W} (h : va_D A ws) (e : ws'.map (·.1) = ws.map (·.1)) : va_D A ws' := by
  have key : ∀ (k : Nat) (q : Nat × va_E), ws'[k]? = some q → ∃ q', ws[k]? = some q' ∧ q'.1 = q.1 := by
    intro k q hk
    have h1 : (ws'.map (·.1))[k]? = some q.1 := by rw [List.getElem?_map, hk]; rfl
    rw [e, List.getElem?_map] at h1
    cases hw : ws[k]? with
    | none => rw [hw] at h1; cases h1
    | some z => rw [hw] at h1; exact ⟨z, rfl, Option.some.inj h1⟩
  refine ⟨fun i j p q hi hj hpq => ?_, fun k q hk => ?_⟩
  · obtain ⟨p', h1, h2⟩ := key i p hi
    obtain ⟨q', h3, h4⟩ := key j q hj
    exact h.1 i j p' q' h1 h3 (by rw [h2, h4, hpq])
  · obtain ⟨q', h1, h2⟩ := key k q hk
    rw [← h2]
    exact h.2 k q' h1
theorem va_upd {D : va_G} {cl : List vw_C} {A : Nat → Prop} {ws ws' wc wc' : va_W} {H H1 : Heap} (is : List Nat) (hP : va_P D cl ws H) (hD : va_D A ws) (hC : is.map (fun i => ws[i]?) = wc.map some) (hw : va_set ws is wc' = ws') (hf : wc'.map (·.1) = wc.map (·.1))
    (hk : ∀ q : Nat, q < H.size → ¬ va_A wc H.size q → H1[q]? = H[q]?) (hP1 : va_P D cl wc' H1) : va_P D cl ws' H1 ∧ va_D A ws' := by
  subst hw
  have hl : is.length = wc'.length := by
    have a := congrArg List.length hC
    have b := congrArg List.length hf
    simp only [List.length_map] at a b
    omega
  refine ⟨fun k q hq => ?_, hD.fst (va_set_fst is wc' ws ?_)⟩
  · rcases va_set_get is wc' ws hl hq with ⟨j, hj⟩ | ⟨h1, h2⟩
    · exact hP1 j q hj
    · have hlt := (hP k q h1).lt
      refine (hP k q h1).kept (hk q.1 hlt (fun hA => ?_))
      rcases hA with ⟨k2, e, h⟩ | h
      · have h3 : (is.map (fun i => ws[i]?))[k2]? = some (some (q.1, e)) := by rw [hC, List.getElem?_map, h]; rfl
        rw [List.getElem?_map] at h3
        cases hi : is[k2]? with
        | none => rw [hi] at h3; cases h3
        | some i =>
          rw [hi] at h3
          have h4 : ws[i]? = some (q.1, e) := Option.some.inj h3
          have := hD.1 k i q (q.1, e) h1 h4 rfl
          subst this
          exact h2 (List.mem_of_getElem? hi)
      · omega
  · rw [hf]
    have h5 := congrArg (List.map (Option.map (fun (z : Nat × va_E) => z.1))) hC
    rw [List.map_map, List.map_map] at h5
    rw [List.map_map]
    refine Eq.trans ?_ (h5.trans ?_)
    · apply List.map_congr_left
      intro i _
      simp
    · rfl
/-! a callee's part of the caller's world: by places, or by whole blocks -/
def Cut (D : va_G) (A : Nat → Prop) (ws wc wc' ws' : va_W) (H : Heap) : Prop :=
  va_P D vwCl wc H ∧ va_D A wc ∧ (∀ q, va_A wc H.size q → A q) ∧ ∀ H1 : Heap, (∀ q : Nat, q < H.size → ¬ va_A wc H.size q → H1[q]? = H[q]?) → va_P D vwCl wc' H1 → va_P D vwCl ws' H1 ∧ va_D A ws'
theorem va_P.pick0 {D : va_G} {H : Heap} {ws wc : va_W} (is : List Nat) (hP : va_P D vwCl ws H) (hC : is.map (fun i => ws[i]?) = wc.map some) : va_P D vwCl wc H := fun k q hq => by
  have h1 : (is.map (fun i => ws[i]?))[k]? = some (some q) := by rw [hC, List.getElem?_map, hq]; rfl
  rw [List.getElem?_map] at h1
  cases hi : is[k]? with
  | none => rw [hi] at h1; cases h1
  | some i => rw [hi] at h1; exact hP i q (Option.some.inj h1)
theorem cutI {D : va_G} {A : Nat → Prop} {ws wc wc' ws' : va_W} {H H0 : Heap} {locs : List Loc} (is : List Nat) (hP : va_P D vwCl ws H) (hD : va_D A ws) (hS : va_S A H0 H locs) (hA : ∀ q, H0.size ≤ q → A q) (hn : va_nd is = true) (hC : is.map (fun i => ws[i]?) = wc.map some) (hw : va_set ws is wc' = ws') (hf : wc'.map (·.1) = wc.map (·.1)) : Cut D A ws wc wc' ws' H :=
  ⟨hP.pick0 is hC, hD.sub is hn hC, va_free hD hS hA is hC, fun _ hk hP1 => va_upd is hP hD hC hw hf hk hP1⟩
def flat : List va_W → va_W
  | [] => []
  | b :: r => match r with
    | [] => b
    | _ :: _ => b ++ flat r
theorem flat_cons (b : va_W) (r : List va_W) : ∀ k : Nat, (flat (b :: r))[k]? = (b ++ flat r)[k]? := by
  intro k
  cases r with
  | nil => show b[k]? = (b ++ [])[k]?; rw [List.append_nil]
  | cons c r => rfl
def boff (bs : List va_W) (i : Nat) : Nat := ((bs.take i).map List.length).sum
theorem flat_at : ∀ (bs : List va_W) (k : Nat) (q : Nat × va_E), (flat bs)[k]? = some q → ∃ (i a : Nat) (b : va_W), bs[i]? = some b ∧ b[a]? = some q ∧ k = boff bs i + a
  | [], k, q, h => by simp [flat] at h
  | b :: r, k, q, h => by
    rw [flat_cons] at h
    by_cases hl : k < b.length
    · rw [List.getElem?_append_left hl] at h
      exact ⟨0, k, b, rfl, h, by simp [boff]⟩
    · rw [List.getElem?_append_right (by omega)] at h
      obtain ⟨i, a, c, h1, h2, h3⟩ := flat_at r _ q h
      refine ⟨i + 1, a, c, by rw [List.getElem?_cons_succ]; exact h1, h2, ?_⟩
      simp only [boff, List.take_succ_cons, List.map_cons, List.sum_cons] at h3 ⊢
      omega
theorem flat_to : ∀ (bs : List va_W) (i a : Nat) (b : va_W) (q : Nat × va_E), bs[i]? = some b → b[a]? = some q → (flat bs)[boff bs i + a]? = some q
  | [], i, a, b, q, h, _ => by simp at h
  | c :: r, 0, a, b, q, h, h2 => by
    rw [List.getElem?_cons_zero] at h
    cases h
    rw [flat_cons]
    have hl : a < c.length := (List.getElem?_eq_some_iff.mp h2).1
    simp only [boff, List.take_zero, List.map_nil, List.sum_nil, Nat.zero_add]
    rw [List.getElem?_append_left hl]
    exact h2
  | c :: r, i + 1, a, b, q, h, h2 => by
    rw [List.getElem?_cons_succ] at h
    have := flat_to r i a b q h h2
    rw [flat_cons, List.getElem?_append_right (by simp only [boff, List.take_succ_cons, List.map_cons, List.sum_cons]; omega)]
    simp only [boff, List.take_succ_cons, List.map_cons, List.sum_cons]
    rw [show c.length + ((r.take i).map List.length).sum + a - c.length = boff r i + a by simp only [boff]; omega]
    exact this
theorem boff_lt : ∀ (bs : List va_W) (i j : Nat) (b : va_W), bs[i]? = some b → i < j → boff bs i + b.length ≤ boff bs j
  | [], i, j, b, h, _ => by simp at h
  | c :: r, 0, j + 1, b, h, _ => by
    rw [List.getElem?_cons_zero] at h
    cases h
    simp [boff]
  | c :: r, i + 1, j + 1, b, h, hl => by
    rw [List.getElem?_cons_succ] at h
    have := boff_lt r i j b h (by omega)
    simp only [boff, List.take_succ_cons, List.map_cons, List.sum_cons] at this ⊢
    omega
  | _, _, 0, _, _, hl => by omega
/-- where two cells of blocks have one address, they are one -/
theorem flat_inj {A : Nat → Prop} {bs : List va_W} (hD : va_D A (flat bs)) {i j a b : Nat} {x y : va_W} {p q : Nat × va_E} (hi : bs[i]? = some x) (ha : x[a]? = some p) (hj : bs[j]? = some y) (hb : y[b]? = some q) (e : p.1 = q.1) : i = j ∧ a = b := by
  have h := hD.1 _ _ p q (flat_to bs i a x p hi ha) (flat_to bs j b y q hj hb) e
  have la : a < x.length := (List.getElem?_eq_some_iff.mp ha).1
  have lb : b < y.length := (List.getElem?_eq_some_iff.mp hb).1
  have hij : i = j := by
    rcases Nat.lt_trichotomy i j with z | z | z
    · have := boff_lt bs i j x hi z; omega
    · exact z
    · have := boff_lt bs j i y hj z; omega
  subst hij
  exact ⟨rfl, by omega⟩
def setL (bs : List va_W) : List Nat → List va_W → List va_W
  | i :: is, c :: cs => setL (bs.set i c) is cs
  | _, _ => bs
theorem setL_get {k : Nat} {q : va_W} : ∀ (is : List Nat) (cs bs : List va_W), is.length = cs.length → (setL bs is cs)[k]? = some q → (∃ j : Nat, cs[j]? = some q) ∨ (bs[k]? = some q ∧ k ∉ is)
  | [], [], bs, _, h => Or.inr ⟨h, List.not_mem_nil⟩
  | i :: is, c :: cs, bs, hl, h => by
    rcases setL_get is cs (bs.set i c) (by simpa using hl) h with ⟨j, hj⟩ | ⟨h1, h2⟩
    · exact Or.inl ⟨j + 1, by rw [List.getElem?_cons_succ]; exact hj⟩
    · by_cases e : i = k
      · subst e
        rw [List.getElem?_set] at h1
        rw [if_pos rfl] at h1
        split at h1
        · exact Or.inl ⟨0, by rw [List.getElem?_cons_zero]; exact h1⟩
        · cases h1
      · rw [List.getElem?_set, if_neg e] at h1
        exact Or.inr ⟨h1, fun hm => by
          rcases List.mem_cons.mp hm with z | z
          · exact e z.symm
          · exact h2 z⟩
  | [], _ :: _, _, hl, _ => by cases hl
  | _ :: _, [], _, hl, _ => by cases hl
abbrev fsts (b : va_W) : List Nat := b.map (·.1)
theorem setL_fst : ∀ (is : List Nat) (cs bs : List va_W), is.map (fun i => (bs.map fsts)[i]?) = (cs.map fsts).map some → (setL bs is cs).map fsts = bs.map fsts
  | [], [], bs, _ => rfl
  | [], _ :: _, bs, h => by cases h
  | _ :: _, [], bs, _ => rfl
  | i :: is, c :: cs, bs, h => by
    rw [List.map_cons, List.map_cons, List.map_cons] at h
    injection h with h1 h2
    have e : (bs.set i c).map fsts = bs.map fsts := by
      rw [List.map_set]
      apply List.ext_getElem?
      intro j
      rw [List.getElem?_set]
      split
      · next e => subst e; split
                  · exact h1.symm
                  · next hn => rw [List.getElem?_eq_none (by omega)]
      · rfl
    show (setL (bs.set i c) is cs).map fsts = _
    rw [setL_fst is cs (bs.set i c) (by rw [e]; exact h2), e]
theorem flat_fst : ∀ (bs cs : List va_W), bs.map fsts = cs.map fsts → (flat bs).map (·.1) = (flat cs).map (·.1)
  | [], [], _ => rfl
  | [], _ :: _, h => by cases h
  | _ :: _, [], h => by cases h
  | b :: r, c :: s, h => by
    rw [List.map_cons, List.map_cons] at h
    injection h with h1 h2
    have ih := flat_fst r s h2
    have e : ∀ (b : va_W) (r : List va_W), (flat (b :: r)).map (·.1) = b.map (·.1) ++ (flat r).map (·.1) := by
      intro b r
      cases r with
      | nil => show b.map (·.1) = b.map (·.1) ++ []; rw [List.append_nil]
      | cons c r => show (b ++ flat (c :: r)).map (·.1) = _; rw [List.map_append]
    rw [e, e, ih]
    exact congrArg (· ++ _) h1
theorem cutB {D : va_G} {A : Nat → Prop} {bs cs cs' bs' : List va_W} {H H0 : Heap} {locs : List Loc} (is : List Nat) (hP : va_P D vwCl (flat bs) H) (hD : va_D A (flat bs)) (hS : va_S A H0 H locs) (hA : ∀ q, H0.size ≤ q → A q) (hn : va_nd is = true) (hC : is.map (fun i => bs[i]?) = cs.map some) (hw : setL bs is cs' = bs') (hf : cs'.map fsts = cs.map fsts) : Cut D A (flat bs) (flat cs) (flat cs') (flat bs') H := by
  have back : ∀ (i : Nat) (c : va_W), cs[i]? = some c → ∃ k, is[i]? = some k ∧ bs[k]? = some c := by
    intro i c hc
    have h1 : (is.map (fun i => bs[i]?))[i]? = some (some c) := by rw [hC, List.getElem?_map, hc]; rfl
    rw [List.getElem?_map] at h1
    cases hi : is[i]? with
    | none => rw [hi] at h1; cases h1
    | some k => rw [hi] at h1; exact ⟨k, rfl, Option.some.inj h1⟩
  have inb : ∀ (k : Nat) (q : Nat × va_E), (flat cs)[k]? = some q → ∃ j : Nat, (flat bs)[j]? = some q := by
    intro k q hk
    obtain ⟨i, a, c, h1, h2, -⟩ := flat_at cs k q hk
    obtain ⟨z, -, h4⟩ := back i c h1
    exact ⟨_, flat_to bs z a c q h4 h2⟩
  have hl : is.length = cs'.length := by
    have a := congrArg List.length hC
    have b := congrArg List.length hf
    simp only [List.length_map] at a b
    omega
  refine ⟨fun k q hk => ?_, ⟨fun k j p q hk hj e => ?_, fun k q hk => ?_⟩, fun q h => ?_, fun H1 hk hP1 => ?_⟩
  · obtain ⟨j, hj⟩ := inb k q hk
    exact hP j q hj
  · obtain ⟨i1, a1, c1, h1, h2, rfl⟩ := flat_at cs k p hk
    obtain ⟨i2, a2, c2, h3, h4, rfl⟩ := flat_at cs j q hj
    obtain ⟨z1, g1, g2⟩ := back i1 c1 h1
    obtain ⟨z2, g3, g4⟩ := back i2 c2 h3
    obtain ⟨e1, e2⟩ := flat_inj hD g2 h2 g4 h4 e
    subst e1
    rw [va_nd_inj is hn i1 i2 z1 g1 g3, e2]
  · obtain ⟨j, hj⟩ := inb k q hk
    exact hD.2 j q hj
  · rcases h with ⟨k, e, h⟩ | h
    · obtain ⟨j, hj⟩ := inb k _ h
      exact hD.2 j (q, e) hj
    · exact hA q (Nat.le_trans hS.1 h)
  · subst hw
    have hfs : (flat (setL bs is cs')).map (·.1) = (flat bs).map (·.1) := by
      refine flat_fst _ _ (setL_fst is cs' bs ?_)
      rw [hf]
      have h5 := congrArg (List.map (Option.map fsts)) hC
      rw [List.map_map, List.map_map] at h5
      rw [List.map_map]
      refine Eq.trans ?_ (h5.trans ?_)
      · apply List.map_congr_left
        intro i _
        simp
      · rfl
    refine ⟨fun k q hq => ?_, hD.fst hfs⟩
    obtain ⟨i, a, b, h1, h2, -⟩ := flat_at _ k q hq
    rcases setL_get is cs' bs hl h1 with ⟨j, hj⟩ | ⟨h3, h4⟩
    · exact hP1 _ q (flat_to cs' j a b q hj h2)
    · have h5 := flat_to bs i a b q h3 h2
      have hlt := (hP _ q h5).lt
      refine (hP _ q h5).kept (hk q.1 hlt (fun hA2 => ?_))
      rcases hA2 with ⟨k2, e, h⟩ | h
      · obtain ⟨i2, a2, c, g1, g2, -⟩ := flat_at cs k2 _ h
        obtain ⟨z, g3, g4⟩ := back i2 c g1
        obtain ⟨e1, -⟩ := flat_inj hD h3 h2 g4 g2 rfl
        subst e1
        exact h4 (List.mem_of_getElem? g3)
      · omega
section SR
variable {p : Program} {l : Launch} {e : Env} {R : Room} {s : State} {m : MethodId} {args : Array Value} {below : List Frame} {meth : Method} {c : Code} {H H0 : Heap} {locs : List Loc} {cells slots : Nat} {Q : State → Prop}
variable {D : va_G} {t : Nat → ClassId} {A : Nat → Prop} {ws ws' wc wc' : va_W} {pc : Nat} {ls : Array Slot} {st0 rest : List Value} {a : Array Value}
theorem va_P.pick {ws wc : va_W} (is : List Nat) (hP : va_P D vwCl ws H) (hC : is.map (fun i => ws[i]?) = wc.map some) : va_P D vwCl wc H := fun k q hq => by
  have h1 : (is.map (fun i => ws[i]?))[k]? = some (some q) := by rw [hC, List.getElem?_map, hq]; rfl
  rw [List.getElem?_map] at h1
  cases hi : is[k]? with
  | none => rw [hi] at h1; cases h1
  | some i => rw [hi] at h1; exact hP i q (Option.some.inj h1)
theorem call_i {v : Int32} (cut : Cut D A ws wc wc' ws' H) (hS : va_S A H0 H locs)
    (hr : va_P D vwCl wc H → va_D A wc → va_Run p l e R s m args below meth c H locs cells slots 0 0 (F0 m pc ls st0) rest (qI D t wc' v (va_A wc H.size) a) (va_A wc H.size))
    (kk : ∀ (H1 : Heap) (locs1 : List Loc), va_P D vwCl ws' H1 → va_D A ws' → va_S A H0 H1 locs1 → W p l e R s m args below meth c H1 locs1 cells slots Q (F0 m (pc + 3) ls (.int v :: rest))) : W p l e R s m args below meth c H locs cells slots Q (F0 m pc ls st0) := by
  obtain ⟨hPc, hDc, hfr, hup⟩ := cut
  refine va_calli (hr hPc hDc) hS (fun q _ h => hfr q h) hfr (fun r u tt H1 locs1 ht hvm hw' hB hz hk hS1 => ?_)
  obtain ⟨hP1, -, -⟩ := hB
  rw [ht] at hP1
  obtain ⟨a2, a3⟩ := hup H1 hk hP1
  rw [hw']
  exact kk H1 locs1 a2 a3 hS1
theorem call_j {v : Int64} (cut : Cut D A ws wc wc' ws' H) (hS : va_S A H0 H locs)
    (hr : va_P D vwCl wc H → va_D A wc → va_Run p l e R s m args below meth c H locs cells slots 0 0 (F0 m pc ls st0) rest (qJ D t wc' v (va_A wc H.size) a) (va_A wc H.size))
    (kk : ∀ (H1 : Heap) (locs1 : List Loc), va_P D vwCl ws' H1 → va_D A ws' → va_S A H0 H1 locs1 → W p l e R s m args below meth c H1 locs1 cells slots Q (F0 m (pc + 3) ls (.long v :: rest))) : W p l e R s m args below meth c H locs cells slots Q (F0 m pc ls st0) := by
  obtain ⟨hPc, hDc, hfr, hup⟩ := cut
  refine va_calll (hr hPc hDc) hS (fun q _ h => hfr q h) hfr (fun r u tt H1 locs1 ht hvm hw' hB hz hk hS1 => ?_)
  obtain ⟨hP1, -, -⟩ := hB
  rw [ht] at hP1
  obtain ⟨a2, a3⟩ := hup H1 hk hP1
  rw [hw']
  exact kk H1 locs1 a2 a3 hS1
theorem call_d {v : UInt64} (cut : Cut D A ws wc wc' ws' H) (hS : va_S A H0 H locs)
    (hr : va_P D vwCl wc H → va_D A wc → va_Run p l e R s m args below meth c H locs cells slots 0 0 (F0 m pc ls st0) rest (qD D t wc' v (va_A wc H.size) a) (va_A wc H.size))
    (kk : ∀ (H1 : Heap) (locs1 : List Loc), va_P D vwCl ws' H1 → va_D A ws' → va_S A H0 H1 locs1 → W p l e R s m args below meth c H1 locs1 cells slots Q (F0 m (pc + 3) ls (.double v :: rest))) : W p l e R s m args below meth c H locs cells slots Q (F0 m pc ls st0) := by
  obtain ⟨hPc, hDc, hfr, hup⟩ := cut
  refine va_calld (hr hPc hDc) hS (fun q _ h => hfr q h) hfr (fun r u tt H1 locs1 ht hvm hw' hB hz hk hS1 => ?_)
  obtain ⟨hP1, -, -⟩ := hB
  rw [ht] at hP1
  obtain ⟨a2, a3⟩ := hup H1 hk hP1
  rw [hw']
  exact kk H1 locs1 a2 a3 hS1
theorem call_v (cut : Cut D A ws wc wc' ws' H) (hS : va_S A H0 H locs)
    (hr : va_P D vwCl wc H → va_D A wc → va_Run p l e R s m args below meth c H locs cells slots 0 0 (F0 m pc ls st0) rest (qV D t wc' (va_A wc H.size) a) (va_A wc H.size))
    (kk : ∀ (H1 : Heap) (locs1 : List Loc), va_P D vwCl ws' H1 → va_D A ws' → va_S A H0 H1 locs1 → W p l e R s m args below meth c H1 locs1 cells slots Q (F0 m (pc + 3) ls (rest))) : W p l e R s m args below meth c H locs cells slots Q (F0 m pc ls st0) := by
  obtain ⟨hPc, hDc, hfr, hup⟩ := cut
  refine va_callv (hr hPc hDc) hS (fun q _ h => hfr q h) hfr (fun u tt H1 locs1 ht hvm hw' hB hz hk hS1 => ?_)
  obtain ⟨hP1, -, -⟩ := hB
  rw [ht] at hP1
  obtain ⟨a2, a3⟩ := hup H1 hk hP1
  exact kk H1 locs1 a2 a3 hS1
theorem call_r {v : Nat} (cut : Cut D A ws wc wc' ws' H) (hS : va_S A H0 H locs)
    (hr : va_P D vwCl wc H → va_D A wc → va_Run p l e R s m args below meth c H locs cells slots 0 0 (F0 m pc ls st0) rest (qR D t wc' v (va_A wc H.size) a) (va_A wc H.size))
    (kk : ∀ (H1 : Heap) (locs1 : List Loc), va_P D vwCl ws' H1 → va_D A ws' → va_S A H0 H1 locs1 → W p l e R s m args below meth c H1 locs1 cells slots Q (F0 m (pc + 3) ls (.ref v :: rest))) : W p l e R s m args below meth c H locs cells slots Q (F0 m pc ls st0) := by
  obtain ⟨hPc, hDc, hfr, hup⟩ := cut
  refine va_callr (hr hPc hDc) hS (fun q _ h => hfr q h) hfr (fun u a1 tt H1 locs1 ht hvm hw' hB hz hk hS1 => ?_)
  obtain ⟨rfl, hP1, -, -⟩ := hB
  rw [ht] at hP1
  obtain ⟨a2, a3⟩ := hup H1 hk hP1
  exact kk H1 locs1 a2 a3 hS1
theorem ret_i {cc : ByteArray} {v : Int32} (hx : p.tables.exec = Jvm.exec) (hb : c.code = cc) (hr : meth.sig.returnType = some .int) (hlocks : meth.locks = false) (hP : va_P D vwCl ws H) (hK : va_K D vwCl (TY t) s) (hD : va_D A ws) (hS : va_S A s.heap H locs) (hdg : decode cc pc = .ok (.ireturn, 1)) :
    W p l e R s m args below meth c H locs cells slots (MQ below (qI D t ws v A) args s cells slots A) (F0 m pc ls [.int v]) :=
  W.iret (v := v) hx hb hr (fun tt ht hW => ⟨⟨v, (), rfl, rfl, by rw [ht]; exact hP, va_K.moved hW.alike hK, hD⟩, hS.F ht⟩) hS.2.2 hdg hlocks
theorem ret_j {cc : ByteArray} {v : Int64} (hx : p.tables.exec = Jvm.exec) (hb : c.code = cc) (hr : meth.sig.returnType = some .long) (hlocks : meth.locks = false) (hP : va_P D vwCl ws H) (hK : va_K D vwCl (TY t) s) (hD : va_D A ws) (hS : va_S A s.heap H locs) (hdg : decode cc pc = .ok (.lreturn, 1)) :
    W p l e R s m args below meth c H locs cells slots (MQ below (qJ D t ws v A) args s cells slots A) (F0 m pc ls [.long v]) :=
  W.lret (v := v) hx hb hr (fun tt ht hW => ⟨⟨v, (), rfl, rfl, by rw [ht]; exact hP, va_K.moved hW.alike hK, hD⟩, hS.F ht⟩) hS.2.2 hdg hlocks
theorem ret_d {cc : ByteArray} {v : UInt64} (hx : p.tables.exec = Jvm.exec) (hb : c.code = cc) (hr : meth.sig.returnType = some .double) (hlocks : meth.locks = false) (hP : va_P D vwCl ws H) (hK : va_K D vwCl (TY t) s) (hD : va_D A ws) (hS : va_S A s.heap H locs) (hdg : decode cc pc = .ok (.dreturn, 1)) :
    W p l e R s m args below meth c H locs cells slots (MQ below (qD D t ws v A) args s cells slots A) (F0 m pc ls [.double v]) :=
  W.dret (v := v) hx hb hr (fun tt ht hW => ⟨⟨v, (), rfl, rfl, by rw [ht]; exact hP, va_K.moved hW.alike hK, hD⟩, hS.F ht⟩) hS.2.2 hdg hlocks
theorem ret_v {cc : ByteArray} (hx : p.tables.exec = Jvm.exec) (hb : c.code = cc) (hr : meth.sig.returnType = none) (hlocks : meth.locks = false) (hP : va_P D vwCl ws H) (hK : va_K D vwCl (TY t) s) (hD : va_D A ws) (hS : va_S A s.heap H locs) (hdg : decode cc pc = .ok (.return_, 1)) :
    W p l e R s m args below meth c H locs cells slots (MQ below (qV D t ws A) args s cells slots A) (F0 m pc ls []) :=
  W.vret hx hb hr (fun tt ht hW => ⟨⟨(), rfl, trivial, by rw [ht]; exact hP, va_K.moved hW.alike hK, hD⟩, hS.F ht⟩) hS.2.2 hdg hlocks
theorem ret_r {cc : ByteArray} {v v' : Nat} {rt : FieldType} (hv : v = v') (hx : p.tables.exec = Jvm.exec) (hb : c.code = cc) (hr : meth.sig.returnType = some rt) (hrt : (∃ n, rt = .object n) ∨ ∃ t, rt = .array t) (hlocks : meth.locks = false) (hP : va_P D vwCl ws H) (hK : va_K D vwCl (TY t) s) (hD : va_D A ws) (hS : va_S A s.heap H locs) (hdg : decode cc pc = .ok (.areturn, 1)) :
    W p l e R s m args below meth c H locs cells slots (MQ below (qR D t ws v' A) args s cells slots A) (F0 m pc ls [.ref v]) := by
  subst hv
  exact W.aret (v := .ref v) hx hb hr hrt (Or.inr ⟨v, rfl⟩) (fun tt ht hW => ⟨⟨(), v, rfl, trivial, rfl, by rw [ht]; exact hP, va_K.moved hW.alike hK, hD⟩, hS.F ht⟩) hS.2.2 hdg hlocks
def b2i (b : Bool) : Int32 := if b = true then 1 else 0
theorem b2i_nar (b : Bool) : narrow .boolean (.int (b2i b)) = .int (b2i b) := by cases b <;> rfl
theorem ret_z {cc : ByteArray} {b : Bool} (hx : p.tables.exec = Jvm.exec) (hb : c.code = cc) (hr : meth.sig.returnType = some .boolean) (hlocks : meth.locks = false) (hP : va_P D vwCl ws H) (hK : va_K D vwCl (TY t) s) (hD : va_D A ws) (hS : va_S A s.heap H locs) (hdg : decode cc pc = .ok (.ireturn, 1)) :
    W p l e R s m args below meth c H locs cells slots (MQ below (qI D t ws (b2i b) A) args s cells slots A) (F0 m pc ls [.int (b2i b)]) :=
  W.zret (v := b2i b) hx hb hr (b2i_nar b) (fun tt ht hW => ⟨⟨b2i b, (), rfl, rfl, by rw [ht]; exact hP, va_K.moved hW.alike hK, hD⟩, hS.F ht⟩) hS.2.2 hdg hlocks
end SR
theorem met_of {l : Launch} {y : MethodName} {ws ws' : List Cond} {rm : Room} {D : va_G} {t : Nat → ClassId} {ww : va_W} {sz mc ms : Nat} {av : List Value} {Qf : (Nat → Prop) → Array Value → State → Outcome → State → Prop} {cc : ByteArray} {maxL : Nat} {ret : Option FieldType}
    (hy : plainName y.cls = true) (hw : ws = Cond.code y cc maxL ret :: ws') (hn : (lg_sl av).length ≤ maxL)
    (body : ∀ (p : Program) (e : Env) (s : State) (m : MethodId) (args : Array Value) (below : List Frame) (meth : Method) (c : Code) (A : Nat → Prop), p.tables.exec = Jvm.exec → c.code = cc → meth.sig.returnType = ret → c.maxLocals = maxL → (∀ w ∈ ws, w.before args s = true) → s.vm.findClass y.cls = some m.cls → meth.locks = false →
      (∀ q, s.heap.size ≤ q → A q) → va_P D vwCl ww s.heap → va_K D vwCl (TY t) s → va_D A ww → xE s → va_S A s.heap s.heap [] → ∀ ls : Array Slot, lv_has ls maxL (lv_args 0 av) →
      W p l e rm s m args below meth c s.heap [] 0 0 (MQ below (Qf A) args s mc ms A) (F0 m 0 ls [])) : Met l y ws rm (sPc D t ww sz av) (Qf (va_A ww sz)) mc ms (va_A ww sz) := by
  refine Met.ofW (cc := cc) (maxL := maxL) (ret := ret) hy hw ?_
  intro p e s m args below meth c s₁ B hml hv
  obtain ⟨rfl, hsz, hP, hK, hD0, hE⟩ := hv
  subst hsz
  rw [lg_entry_eq]
  exact body p e s m _ below meth c (va_A ww s.heap.size) B.exec B.bytes B.returns hml (atoms_spec (ws := ws) B.pre) (findClass_of_methodNamed B.named) B.notSynchronized (fun q h => Or.inr h) hP hK hD0.self hE va_S.rf _ (lv_entry av hn)
/-! pure words -/
def gd {α : Type} (b : Bool) (x : Option α) : Option α := if b = true then x else none
theorem og {α : Type} {b : Bool} {x : Option α} {y : α} (h : gd b x = some y) : b = true ∧ x = some y := by
  unfold gd at h
  split at h
  · exact ⟨by assumption, h⟩
  · cases h
def pin (i : Int32) (n : Nat) : Bool := decide (¬ (i < 0 ∨ n ≤ i.toNatClampNeg))
theorem pin_in {i : Int32} {n : Nat} (h : pin i n = true) : vp_in i n := show ¬ (i < 0 ∨ n ≤ i.toNatClampNeg) from of_decide_eq_true h
def nz (y : Int32) : Bool := decide (¬ y = 0)
theorem nz_ne {y : Int32} (h : nz y = true) : ¬ y = 0 := of_decide_eq_true h
def nn64 (r : UInt64) : Bool := decide (r &&& 0x7fffffffffffffff ≤ 0x7ff0000000000000)
theorem nn_n64 {r : UInt64} (h : nn64 r = true) : vf_n64 r := show r &&& 0x7fffffffffffffff ≤ 0x7ff0000000000000 from of_decide_eq_true h
def lp {σ R : Type} (B : (σ → Option R) → σ → Option R) : Nat → σ → Option R
  | 0, _ => none
  | n + 1, v => B (lp B n) v
theorem ob {α β : Type} {o : Option α} {f : α → Option β} {y : β} (h : o.bind f = some y) : ∃ r, o = some r ∧ f r = some y := Option.bind_eq_some_iff.mp h
theorem os {α : Type} {a b : α} (h : some a = some b) : a = b := Option.some.inj h
theorem oi {α β : Type} {a b : β} (h : (some (Sum.inr a) : Option (α ⊕ β)) = some (Sum.inr b)) : a = b := Sum.inr.inj (Option.some.inj h)
theorem it_p {c : Prop} [Decidable c] {α : Type} {a b x : α} (hc : c) (h : (if c then a else b) = x) : a = x := by rwa [if_pos hc] at h
theorem it_n {c : Prop} [Decidable c] {α : Type} {a b x : α} (hc : ¬ c) (h : (if c then a else b) = x) : b = x := by rwa [if_neg hc] at h
def tb {α β : Type} (x : Option (Nat ⊕ α)) (K : α → Option (Nat ⊕ β)) : Option (Nat ⊕ β) := x.bind (fun z => match z with | .inl e => some (.inl e) | .inr u => K u)
def tq {α β : Type} (x : Option (Nat ⊕ α)) (K : α → Option β) : Option β := x.bind (fun z => match z with | .inl _ => none | .inr u => K u)
theorem tb_r {α β : Type} {x : Option (Nat ⊕ α)} {K : α → Option (Nat ⊕ β)} {y : β} (h : tb x K = some (.inr y)) : ∃ u, x = some (.inr u) ∧ K u = some (.inr y) := by
  obtain ⟨z, h1, h2⟩ := ob h
  cases z with
  | inl e => cases h2
  | inr u => exact ⟨u, h1, h2⟩
theorem tb_l {α β : Type} {x : Option (Nat ⊕ α)} {K : α → Option (Nat ⊕ β)} {e : Nat} (h : tb x K = some (.inl e)) : x = some (.inl e) ∨ ∃ u, x = some (.inr u) ∧ K u = some (.inl e) := by
  obtain ⟨z, h1, h2⟩ := ob h
  cases z with
  | inl e2 => cases h2; exact Or.inl h1
  | inr u => exact Or.inr ⟨u, h1, h2⟩
theorem tq_r {α β : Type} {x : Option (Nat ⊕ α)} {K : α → Option β} {y : β} (h : tq x K = some y) : ∃ u, x = some (.inr u) ∧ K u = some y := by
  obtain ⟨z, h1, h2⟩ := ob h
  cases z with
  | inl e => cases h2
  | inr u => exact ⟨u, h1, h2⟩
theorem lk_ne {x v : Int32} {k : Int} (hk : v.toInt = k) (h : ¬ x = v) : x.toInt ≠ k := fun q => h (Int32.toInt_inj.mp (q.trans hk.symm))
theorem tab_0_2 {x : Int32} (c0 : ¬ x = 0) (c1 : ¬ x = 1) (c2 : ¬ x = 2) : x.toInt < 0 ∨ 2 < x.toInt := by
  have e0 := lk_ne (k := 0) (by decide) c0
  have e1 := lk_ne (k := 1) (by decide) c1
  have e2 := lk_ne (k := 2) (by decide) c2
  omega
theorem tab_0_3 {x : Int32} (c0 : ¬ x = 0) (c1 : ¬ x = 1) (c2 : ¬ x = 2) (c3 : ¬ x = 3) : x.toInt < 0 ∨ 3 < x.toInt := by
  have e0 := lk_ne (k := 0) (by decide) c0
  have e1 := lk_ne (k := 1) (by decide) c1
  have e2 := lk_ne (k := 2) (by decide) c2
  have e3 := lk_ne (k := 3) (by decide) c3
  omega
theorem tab_0_4 {x : Int32} (c0 : ¬ x = 0) (c1 : ¬ x = 1) (c2 : ¬ x = 2) (c3 : ¬ x = 3) (c4 : ¬ x = 4) : x.toInt < 0 ∨ 4 < x.toInt := by
  have e0 := lk_ne (k := 0) (by decide) c0
  have e1 := lk_ne (k := 1) (by decide) c1
  have e2 := lk_ne (k := 2) (by decide) c2
  have e3 := lk_ne (k := 3) (by decide) c3
  have e4 := lk_ne (k := 4) (by decide) c4
  omega
theorem tab_0_7 {x : Int32} (c0 : ¬ x = 0) (c1 : ¬ x = 1) (c2 : ¬ x = 2) (c3 : ¬ x = 3) (c4 : ¬ x = 4) (c5 : ¬ x = 5) (c6 : ¬ x = 6) (c7 : ¬ x = 7) : x.toInt < 0 ∨ 7 < x.toInt := by
  have e0 := lk_ne (k := 0) (by decide) c0
  have e1 := lk_ne (k := 1) (by decide) c1
  have e2 := lk_ne (k := 2) (by decide) c2
  have e3 := lk_ne (k := 3) (by decide) c3
  have e4 := lk_ne (k := 4) (by decide) c4
  have e5 := lk_ne (k := 5) (by decide) c5
  have e6 := lk_ne (k := 6) (by decide) c6
  have e7 := lk_ne (k := 7) (by decide) c7
  omega
theorem tab_0_8 {x : Int32} (c0 : ¬ x = 0) (c1 : ¬ x = 1) (c2 : ¬ x = 2) (c3 : ¬ x = 3) (c4 : ¬ x = 4) (c5 : ¬ x = 5) (c6 : ¬ x = 6) (c7 : ¬ x = 7) (c8 : ¬ x = 8) : x.toInt < 0 ∨ 8 < x.toInt := by
  have e0 := lk_ne (k := 0) (by decide) c0
  have e1 := lk_ne (k := 1) (by decide) c1
  have e2 := lk_ne (k := 2) (by decide) c2
  have e3 := lk_ne (k := 3) (by decide) c3
  have e4 := lk_ne (k := 4) (by decide) c4
  have e5 := lk_ne (k := 5) (by decide) c5
  have e6 := lk_ne (k := 6) (by decide) c6
  have e7 := lk_ne (k := 7) (by decide) c7
  have e8 := lk_ne (k := 8) (by decide) c8
  omega
theorem tab_3_9 {x : Int32} (c3 : ¬ x = 3) (c4 : ¬ x = 4) (c5 : ¬ x = 5) (c6 : ¬ x = 6) (c7 : ¬ x = 7) (c8 : ¬ x = 8) (c9 : ¬ x = 9) : x.toInt < 3 ∨ 9 < x.toInt := by
  have e3 := lk_ne (k := 3) (by decide) c3
  have e4 := lk_ne (k := 4) (by decide) c4
  have e5 := lk_ne (k := 5) (by decide) c5
  have e6 := lk_ne (k := 6) (by decide) c6
  have e7 := lk_ne (k := 7) (by decide) c7
  have e8 := lk_ne (k := 8) (by decide) c8
  have e9 := lk_ne (k := 9) (by decide) c9
  omega
theorem tab_0_13 {x : Int32} (c0 : ¬ x = 0) (c1 : ¬ x = 1) (c2 : ¬ x = 2) (c3 : ¬ x = 3) (c4 : ¬ x = 4) (c5 : ¬ x = 5) (c6 : ¬ x = 6) (c7 : ¬ x = 7) (c8 : ¬ x = 8) (c9 : ¬ x = 9) (c10 : ¬ x = 10) (c11 : ¬ x = 11) (c12 : ¬ x = 12) (c13 : ¬ x = 13) : x.toInt < 0 ∨ 13 < x.toInt := by
  have e0 := lk_ne (k := 0) (by decide) c0
  have e1 := lk_ne (k := 1) (by decide) c1
  have e2 := lk_ne (k := 2) (by decide) c2
  have e3 := lk_ne (k := 3) (by decide) c3
  have e4 := lk_ne (k := 4) (by decide) c4
  have e5 := lk_ne (k := 5) (by decide) c5
  have e6 := lk_ne (k := 6) (by decide) c6
  have e7 := lk_ne (k := 7) (by decide) c7
  have e8 := lk_ne (k := 8) (by decide) c8
  have e9 := lk_ne (k := 9) (by decide) c9
  have e10 := lk_ne (k := 10) (by decide) c10
  have e11 := lk_ne (k := 11) (by decide) c11
  have e12 := lk_ne (k := 12) (by decide) c12
  have e13 := lk_ne (k := 13) (by decide) c13
  omega
theorem lk_out2 {z a b oa ob d : Int} (ha : z ≠ a) (hb : z ≠ b) : Op.lookupswitch.offset [(a, oa), (b, ob)] d z = d := by
  simp [Op.lookupswitch.offset, ha.symm, hb.symm]
abbrev iabs (x : Int32) : Int32 := if 0 ≤ x then x else 0 - x
abbrev imax (x y : Int32) : Int32 := if x < y then y else x
abbrev imin (x y : Int32) : Int32 := if y < x then y else x
/-! the pieces of a world -/
abbrev ShT : Type := (Nat → Int32) × (Nat → Int32) × (Nat → Int32) × (Nat → Int32) × (Nat → Int32) × (Nat → Int32) × (Nat → Int32) × Int32 × Int32 × Int32
abbrev ExT : Type := (Nat → Int32) × (Nat → Int32) × (Nat → Int32) × Int32 × Int32 × Int32 × Int32 × Int32 × Int32 × Int32
abbrev BoT : Type := Int32 × Int32 × Int32
abbrev MoT : Type := Int32 × Int32 × Int32 × Int32 × Int32 × Int32
abbrev gA (t : Nat → ClassId) (a n : Nat) (f : Nat → Int32) : va_W := [(a, .inl (t 0, n, .inl f))]
abbrev gJ (t : Nat → ClassId) (a : Nat) (f : Nat → Int64) : va_W := [(a, .inl (t 2, 1, .inr (.inl f)))]
abbrev gD (t : Nat → ClassId) (a : Nat) (f : Nat → UInt64) : va_W := [(a, .inl (t 3, 1, .inr (.inr (.inr (.inl f)))))]
abbrev gQ (t : Nat → ClassId) (a : Nat) (sa : Nat → Nat) : va_W := [(a, .inl (t 1, 6, .inr (.inr (.inr (.inr (fun i => some (sa i)))))))]
abbrev gBo (h : Nat) (k : Nat → Nat) (x : BoT) : va_W := [(h, .inr (2, [.ref (k 0), .ref (k 1), .ref (k 2), .ref (k 3), .int x.1, .int x.2.1, .ref (k 4), .int x.2.2]))]
abbrev gMo (h : Nat) (k : Nat → Nat) (x : MoT) : va_W := [(h, .inr (3, [.ref (k 0), .ref (k 1), .ref (k 2), .int x.1, .ref (k 3), .int x.2.1, .int x.2.2.1, .int x.2.2.2.1, .int x.2.2.2.2.1, .ref (k 4), .int x.2.2.2.2.2, .ref (k 5), .ref (k 6), .ref (k 7)]))]
abbrev gS (t : Nat → ClassId) (a : Nat) (b : Nat → Nat) (x : ShT) : va_W := [(a, .inr (1, [.ref (b 0), .ref (b 1), .ref (b 2), .ref (b 3), .ref (b 4), .ref (b 5), .ref (b 6), .int x.2.2.2.2.2.2.2.1, .int x.2.2.2.2.2.2.2.2.1, .int x.2.2.2.2.2.2.2.2.2])), (b 0, .inl (t 0, 2, .inl x.1)), (b 1, .inl (t 0, 2, .inl x.2.1)), (b 2, .inl (t 0, 24, .inl x.2.2.1)), (b 3, .inl (t 0, 24, .inl x.2.2.2.1)), (b 4, .inl (t 0, 6, .inl x.2.2.2.2.1)), (b 5, .inl (t 0, 4, .inl x.2.2.2.2.2.1)), (b 6, .inl (t 0, 6, .inl x.2.2.2.2.2.2.1))]
abbrev gE (t : Nat → ClassId) (a : Nat) (b : Nat → Nat) (x : ExT) : va_W := [(a, .inr (0, [.ref (b 0), .ref (b 1), .ref (b 2), .int x.2.2.2.1, .int x.2.2.2.2.1, .int x.2.2.2.2.2.1, .int x.2.2.2.2.2.2.1, .int x.2.2.2.2.2.2.2.1, .int x.2.2.2.2.2.2.2.2.1, .int x.2.2.2.2.2.2.2.2.2])), (b 0, .inl (t 0, 24, .inl x.1)), (b 1, .inl (t 0, 24, .inl x.2.1)), (b 2, .inl (t 0, 24, .inl x.2.2.1))]
abbrev g6 (t : Nat → ClassId) (sa : Nat → Nat) (sb : Nat → Nat → Nat) (sv : Nat → ShT) : va_W := gS t (sa 0) (sb 0) (sv 0) ++ (gS t (sa 1) (sb 1) (sv 1) ++ (gS t (sa 2) (sb 2) (sv 2) ++ (gS t (sa 3) (sb 3) (sv 3) ++ (gS t (sa 4) (sb 4) (sv 4) ++ gS t (sa 5) (sb 5) (sv 5)))))
/-! exceptions: what a throw stands on, and the contract of a method that throws -/
def xname : Nat → String
  | 0 => "java/lang/IndexOutOfBoundsException"
  | 1 => "java/lang/IllegalArgumentException"
  | _ => "java/lang/IllegalStateException"
abbrev xnames : List String := ["java/lang/RuntimeException", "java/lang/Exception"]
def xN (X : String) (U : State) : Prop := va_Nw (.declares (Bundle.initS "java/lang/RuntimeException")) U ∧ va_Nw (.declares (Bundle.initS "java/lang/Exception")) U ∧ va_Nw (.declares (Bundle.initS Bundle.tN)) U ∧ va_Nw (.castable X X) U
theorem xN.warm {X : String} {s U : State} (hW : s.WarmedH U.vm) (h : xN X s) : xN X U := ⟨va_Nw.warmD hW h.1, va_Nw.warmD hW h.2.1, va_Nw.warmD hW h.2.2.1, va_Nw.warmC hW h.2.2.2⟩
theorem xN.same {X : String} {u U : State} (e : u.vm = U.vm) (h : xN X u) : xN X U := ⟨va_Nw.same rfl e h.1, va_Nw.same rfl e h.2.1, va_Nw.same rfl e h.2.2.1, va_Nw.same rfl e h.2.2.2⟩
def xT (U : State) : Prop := ∃ sa, vk_R RX2 123 "no state is saved" sa U
theorem xT.warm {s U : State} (hW : s.WarmedH U.vm) (h : xT s) : xT U := by
  obtain ⟨a, ha⟩ := h
  exact ⟨a, vk_R.warm hW ha⟩
theorem xT.same {u U : State} (e : u.vm = U.vm) (h : xT u) : xT U := by
  obtain ⟨a, ha⟩ := h
  exact ⟨a, vk_R.same e.symm ha⟩
/-- what a throw stands on: the two statics of Throwable, outside A; the texts; words of the three classes -/
def xS (A : Nat → Prop) (U : State) (H : Heap) : Prop := (vx_Zq Bundle.tN "UNASSIGNED_STACK" Bundle.steD A U H ∧ vx_Zq Bundle.tN "SUPPRESSED_SENTINEL" Bundle.listD A U H) ∧ xT U ∧ xN (xname 2) U
theorem xS.to {A B : Nat → Prop} {s U : State} {H : Heap} {locs : List Loc} (h : xS A s s.heap) (hS : va_S A s.heap H locs) (hU : U.heap = H) (hW : s.WarmedH U.vm) (hAB : ∀ q, B q → A q) : xS B U U.heap := by
  obtain ⟨⟨h1, h2⟩, h3, h6⟩ := h
  rw [hU]
  exact ⟨⟨vx_Zq.moved hW.alike ((h1.kept hS.2.1).narrow hAB), vx_Zq.moved hW.alike ((h2.kept hS.2.1).narrow hAB)⟩, xT.warm hW h3, xN.warm hW h6⟩
def xPc (D : va_G) (t : Nat → ClassId) (ws : va_W) (sz : Nat) (av : List Value) : Array Value → State → Prop := fun v U => sPc D t ws sz av v U ∧ xS (va_A ws sz) U U.heap
theorem xPc_blind {D : va_G} {t : Nat → ClassId} {ws : va_W} {sz : Nat} {av : List Value} : FrameBlind (xPc D t ws sz av) := by
  intro a U g mk h
  obtain ⟨h1, ⟨h2, h3⟩, h4, h7⟩ := h
  exact ⟨sPc_blind a U g mk h1, ⟨vx_Zq.moved (u := U) (U := U.calling g mk a) (Vm.Alike.refl U.vm) h2, vx_Zq.moved (u := U) (U := U.calling g mk a) (Vm.Alike.refl U.vm) h3⟩, xT.same (u := U) (U := U.calling g mk a) rfl h4, xN.same (u := U) (U := U.calling g mk a) rfl h7⟩
theorem xPc_S {D : va_G} {t : Nat → ClassId} {ws : va_W} {av : List Value} {s : State} {H : Heap} {A A0 : Nat → Prop} {locs : List Loc} (hP : va_P D vwCl ws H) (hK : va_K D vwCl (TY t) s) (hD : va_D A ws) (hE : xE s) (hX : xS A0 s s.heap) (hS : va_S A0 s.heap H locs) (hAB : ∀ q, va_A ws H.size q → A0 q) : PreS s H (xPc D t ws H.size av) av :=
  ⟨xPc_blind, fun U hU hW => ⟨(sPc_S hP hK hD hE).2 U hU hW, hX.to hS hU hW hAB⟩⟩
theorem xPc_V {D : va_G} {t : Nat → ClassId} {ws : va_W} {b : Nat} {av : List Value} {s : State} {H : Heap} {A A0 : Nat → Prop} {locs : List Loc} {C : String} (hP : va_P D vwCl ws H) (hK : va_K D vwCl (TY t) s) (hD : va_D A ws) (hE : xE s)
    (hr : ∃ cellB : Cell, H[b]? = some cellB ∧ cellB.vm.isStatics = false ∧ s.vm.findClass C = some cellB.cls) (hX : xS A0 s s.heap) (hS : va_S A0 s.heap H locs) (hAB : ∀ q, va_A ws H.size q → A0 q) : PreV s H C b (xPc D t ws H.size (.ref b :: av)) av :=
  ⟨xPc_blind, hr, fun U hU hW => ⟨(sPc_V hP hK hD hE hr).2.2 U hU hW, hX.to hS hU hW hAB⟩⟩
abbrev qX (A : Nat → Prop) : Array Value → State → Outcome → State → Prop := va_Qv (fun (_ : Unit) => False) (fun _ _ => True) A
abbrev xC (D : va_G) (t : Nat → ClassId) (ws : va_W) (E : Nat) (A : Nat → Prop) : String → State → State → Prop := vx_X (fun (_ : Unit) => True) (fun En u tt => En = xname E ∧ sB D t ws A u tt) A
theorem met_ofX {l : Launch} {y : MethodName} {ws ws' : List Cond} {rm : Room} {D : va_G} {t : Nat → ClassId} {ww : va_W} {sz mc ms E : Nat} {av : List Value} {cc : ByteArray} {maxL : Nat} {ret : Option FieldType}
    (hy : plainName y.cls = true) (hw : ws = Cond.code y cc maxL ret :: ws') (hn : (lg_sl av).length ≤ maxL)
    (body : ∀ (p : Program) (e : Env) (s : State) (m : MethodId) (args : Array Value) (below : List Frame) (meth : Method) (c : Code) (A : Nat → Prop), p.tables.exec = Jvm.exec → c.code = cc → meth.sig.returnType = ret → c.maxLocals = maxL → (∀ w ∈ ws, w.before args s = true) → s.vm.findClass y.cls = some m.cls → meth.locks = false →
      (∀ q, s.heap.size ≤ q → A q) → va_P D vwCl ww s.heap → va_K D vwCl (TY t) s → va_D A ww → xE s → va_S A s.heap s.heap [] → xS A s s.heap → (∀ (x : ExceptionTableEntry), x ∈ c.exceptionTable.toList → ∀ pc, covers x pc = false) → ∀ ls : Array Slot, lv_has ls maxL (lv_args 0 av) →
      W p l e rm s m args below meth c s.heap [] 0 0 (vx_MQ below (qX A) (xC D t ww E A) args s mc ms A) (F0 m 0 ls [])) : vx_Met l y ws rm (xPc D t ww sz av) (qX (va_A ww sz)) (xC D t ww E (va_A ww sz)) mc ms (va_A ww sz) := by
  refine vx_ofW (cc := cc) (maxL := maxL) (ret := ret) hy hw ?_
  intro p e s m args below meth c s₁ B hml hnone hv
  obtain ⟨⟨rfl, hsz, hP, hK, hD0, hE⟩, hX⟩ := hv
  subst hsz
  rw [lg_entry_eq]
  exact body p e s m _ below meth c (va_A ww s.heap.size) B.exec B.bytes B.returns hml (atoms_spec (ws := ws) B.pre) (findClass_of_methodNamed B.named) B.notSynchronized (fun q h => Or.inr h) hP hK hD0.self hE va_S.rf hX (fun x hx => (hnone x hx).elim) _ (lv_entry av hn)
section XR
variable {p : Program} {l : Launch} {e : Env} {R : Room} {s : State} {m : MethodId} {args : Array Value} {below : List Frame} {meth : Method} {c : Code} {H : Heap} {locs : List Loc} {cells slots : Nat}
variable {D : va_G} {t : Nat → ClassId} {A : Nat → Prop} {ws wc : va_W} {pc : Nat} {ls : Array Slot} {st0 rest : List Value} {a : Array Value} {Qc : Array Value → State → Outcome → State → Prop}
/-- a callee throws; it isn't caught here -/
theorem call_x {E : Nat} (cut : Cut D A ws wc wc ws H) (hS : va_S A s.heap H locs) (hK : va_K D vwCl (TY t) s) (hT : ∀ (x : ExceptionTableEntry), x ∈ c.exceptionTable.toList → ∀ pc, covers x pc = false) (hlocks : meth.locks = false) (hc : cells + 1 ≤ 1) (hs : slots + 6 ≤ 6)
    (hr : va_P D vwCl wc H → va_D A wc → (∀ q, va_A wc H.size q → A q) → vx_Run p l e R s m args below meth c H locs cells slots 1 6 (F0 m pc ls st0) rest (qX (va_A wc H.size) a) (xC D t wc E (va_A wc H.size)) (va_A wc H.size)) :
    W p l e R s m args below meth c H locs cells slots (vx_MQ below Qc (xC D t ws E A) args s 1 6 A) (F0 m pc ls st0) := by
  obtain ⟨hPc, hDc, hfr, hup⟩ := cut
  refine vx_callv (hr hPc hDc hfr) hS (fun q _ h => hfr q h) hfr (fun q _ h => hfr q h) (fun En ce q9 u tt H1 locs1 ht hvm _ hB hz hk hS1 hcell hv hcl => ?_) (fun u tt H1 locs1 ht hvm hf => hf.elim)
  obtain ⟨rfl, hP1, -, -⟩ := hB
  rw [ht] at hP1
  obtain ⟨a2, a3⟩ := hup H1 hk hP1
  exact vx_out (fun x hx => hT x hx pc) hlocks hcell hv hcl (fun t9 h9 h8 => ⟨(), trivial, ⟨rfl, by rw [h9]; exact a2, va_K.moved h8 hK, a3⟩, hS1.F h9⟩) hS1.2.2 hc hs
end XR
theorem xhat2 {args : Array Value} {s : State} (h1 : ∀ w ∈ BIG, w.before args s = true) (h : xN (xname 2) s) : ∀ w ∈ vx_atS RX2 104 (xname 2) xnames, w.before args s = true :=
  vx_hat (B := [.declares (Bundle.initS "java/lang/RuntimeException"), .declares (Bundle.initS "java/lang/Exception"), .declares (Bundle.initS Bundle.tN), .castable (xname 2) (xname 2)]) (fun w hw => h1 w (List.mem_append_right _ hw)) (by decide +kernel) (vx_c (va_Nw.use rfl h.1) (vx_c (va_Nw.use rfl h.2.1) (vx_c (va_Nw.use rfl h.2.2.1) (vx_c (va_Nw.use rfl h.2.2.2) vx_n))))
theorem xgood2 : ∀ w ∈ Cond.classLink RX2 100 (xname 2) :: Cond.initialized (xname 2) :: vx_atS RX2 104 (xname 2) xnames, vx_ot w = true := by decide +kernel
theorem pin6 {i : Int32} (h : pin i 6 = true) : i.toNatClampNeg = 0 ∨ i.toNatClampNeg = 1 ∨ i.toNatClampNeg = 2 ∨ i.toNatClampNeg = 3 ∨ i.toNatClampNeg = 4 ∨ i.toNatClampNeg = 5 := by
  have h1 : ¬ (i < 0 ∨ 6 ≤ i.toNatClampNeg) := of_decide_eq_true h
  have h2 : ¬ 6 ≤ i.toNatClampNeg := fun q => h1 (Or.inr q)
  omega
