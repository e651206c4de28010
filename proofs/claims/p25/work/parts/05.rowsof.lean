theorem dX2_at_0 : decode cX2_at 0 = .ok (.iload_n 1, 1) := by decide +kernel
theorem dX2_at_1 : decode cX2_at 1 = .ok (.ifCond .lt 15, 3) := by decide +kernel
theorem dX2_at_4 : decode cX2_at 4 = .ok (.iload_n 1, 1) := by decide +kernel
theorem dX2_at_5 : decode cX2_at 5 = .ok (.aload_n 0, 1) := by decide +kernel
theorem dX2_at_6 : decode cX2_at 6 = .ok (.arraylength, 1) := by decide +kernel
theorem dX2_at_7 : decode cX2_at 7 = .ok (.if_icmp .ge 9, 3) := by decide +kernel
theorem dX2_at_10 : decode cX2_at 10 = .ok (.aload_n 0, 1) := by decide +kernel
theorem dX2_at_11 : decode cX2_at 11 = .ok (.iload_n 1, 1) := by decide +kernel
theorem dX2_at_12 : decode cX2_at 12 = .ok (.iaload, 1) := by decide +kernel
theorem dX2_at_13 : decode cX2_at 13 = .ok (.goto 4, 3) := by decide +kernel
theorem dX2_at_16 : decode cX2_at 16 = .ok (.iconst 0, 1) := by decide +kernel
theorem dX2_at_17 : decode cX2_at 17 = .ok (.ireturn, 1) := by decide +kernel
abbrev zX2_at : List Cond := .code yX2_at cX2_at 2 (some .int) :: BIG
def fX2_at (n : Nat) (f : (Nat → Int32)) (i : Int32) : Option (Int32) := (if i < 0 then some 0 else (if (nI n) ≤ i then some 0 else gd (pin i n) (some (f (Int32.toNatClampNeg i)))))
set_option maxHeartbeats 4000000 in
set_option maxRecDepth 100000 in
theorem mtX2_at (l : Launch) (D : va_G) (t : Nat → ClassId) (fa : Nat) (n : Nat) (f : (Nat → Int32)) (i : Int32) (out : Int32) (h : fX2_at n f i = some out) (n_lt : n < 2 ^ 31) (sz : Nat) : Met l yX2_at zX2_at ({ frames := 0, cells := 0, slots := 0, locals := 0 }) (sPc D t (gA t fa n f) sz [.ref fa, .int i]) (qI D t (gA t fa n f) out (va_A (gA t fa n f) sz)) 0 0 (va_A (gA t fa n f) sz) := by
  refine met_of (Qf := fun A => qI D t (gA t fa n f) out A) (cc := cX2_at) (maxL := 2) (ret := some .int) (by decide) rfl (Nat.le_of_ble_eq_true rfl) ?_
  intro p e s m args below meth c A hx hb hr hml hts hown hlocks hA hP hK hD hE hS ls hl
  have htB : ∀ w ∈ BIG, w.before args s = true := fun w h => hts w (List.mem_cons_of_mem _ h)
  have hown : s.vm.findClass RX2 = some m.cls := hown
  have hl : lv_has ls 2 [(0, .ref fa), (1, .int i)] := hl
  unfold fX2_at at h
  refine lv_iload_n hx hb dX2_at_0 rfl (lv_at hl 1 rfl) ?_
  refine lv_if_lt (tgt := 16) hx hb dX2_at_1 (by decide) (fun c1 => ?_) (fun c1 => ?_)
  · have h := it_p c1 h
    refine lv_iconst (v := 0) hx hb dX2_at_16 (by decide) ?_
    obtain rfl := os h
    exact ret_i hx hb hr hlocks hP hK hD hS dX2_at_17
  · have h := it_n c1 h
    refine lv_iload_n hx hb dX2_at_4 rfl (lv_at hl 1 rfl) ?_
    refine lv_aload_n hx hb dX2_at_5 rfl (lv_at hl 0 rfl) ?_
    refine va_alen (v := (nI n)) hx hb hK hP 0 0 rfl rfl rfl dX2_at_6 ?_
    refine lv_icmp_ge (tgt := 16) hx hb dX2_at_7 (by decide) (fun c2 => ?_) (fun c2 => ?_)
    · have h := it_p c2 h
      refine lv_iconst (v := 0) hx hb dX2_at_16 (by decide) ?_
      obtain rfl := os h
      exact ret_i hx hb hr hlocks hP hK hD hS dX2_at_17
    · have h := it_n c2 h
      refine lv_aload_n hx hb dX2_at_10 rfl (lv_at hl 0 rfl) ?_
      refine lv_iload_n hx hb dX2_at_11 rfl (lv_at hl 1 rfl) ?_
      obtain ⟨g3, h⟩ := og h
      refine va_iald hx hb hK hP 0 0 rfl rfl (pin_in g3) dX2_at_12 ?_
      refine lv_goto (tgt := 17) hx hb dX2_at_13 (by decide) ?_
      obtain rfl := os h
      exact ret_i hx hb hr hlocks hP hK hD hS dX2_at_17

theorem dX2_put_0 : decode cX2_put 0 = .ok (.iload_n 1, 1) := by decide +kernel
theorem dX2_put_1 : decode cX2_put 1 = .ok (.ifCond .lt 13, 3) := by decide +kernel
theorem dX2_put_4 : decode cX2_put 4 = .ok (.iload_n 1, 1) := by decide +kernel
theorem dX2_put_5 : decode cX2_put 5 = .ok (.aload_n 0, 1) := by decide +kernel
theorem dX2_put_6 : decode cX2_put 6 = .ok (.arraylength, 1) := by decide +kernel
theorem dX2_put_7 : decode cX2_put 7 = .ok (.if_icmp .ge 7, 3) := by decide +kernel
theorem dX2_put_10 : decode cX2_put 10 = .ok (.aload_n 0, 1) := by decide +kernel
theorem dX2_put_11 : decode cX2_put 11 = .ok (.iload_n 1, 1) := by decide +kernel
theorem dX2_put_12 : decode cX2_put 12 = .ok (.iload_n 2, 1) := by decide +kernel
theorem dX2_put_13 : decode cX2_put 13 = .ok (.iastore, 1) := by decide +kernel
theorem dX2_put_14 : decode cX2_put 14 = .ok (.return_, 1) := by decide +kernel
abbrev zX2_put : List Cond := .code yX2_put cX2_put 3 none :: BIG
def fX2_put (n : Nat) (f : (Nat → Int32)) (i : Int32) (v : Int32) : Option ((Nat → Int32)) := (if i < 0 then some f else (if (nI n) ≤ i then some f else gd (pin i n) (some (upd f (Int32.toNatClampNeg i) v))))
set_option maxHeartbeats 4000000 in
set_option maxRecDepth 100000 in
theorem mtX2_put (l : Launch) (D : va_G) (t : Nat → ClassId) (fa : Nat) (n : Nat) (f : (Nat → Int32)) (i : Int32) (v : Int32) (out : (Nat → Int32)) (h : fX2_put n f i v = some out) (n_lt : n < 2 ^ 31) (sz : Nat) : Met l yX2_put zX2_put ({ frames := 0, cells := 0, slots := 0, locals := 0 }) (sPc D t (gA t fa n f) sz [.ref fa, .int i, .int v]) (qV D t (gA t fa n out) (va_A (gA t fa n f) sz)) 0 0 (va_A (gA t fa n f) sz) := by
  refine met_of (Qf := fun A => qV D t (gA t fa n out) A) (cc := cX2_put) (maxL := 3) (ret := none) (by decide) rfl (Nat.le_of_ble_eq_true rfl) ?_
  intro p e s m args below meth c A hx hb hr hml hts hown hlocks hA hP hK hD hE hS ls hl
  have htB : ∀ w ∈ BIG, w.before args s = true := fun w h => hts w (List.mem_cons_of_mem _ h)
  have hown : s.vm.findClass RX2 = some m.cls := hown
  have hl : lv_has ls 3 [(0, .ref fa), (1, .int i), (2, .int v)] := hl
  unfold fX2_put at h
  refine lv_iload_n hx hb dX2_put_0 rfl (lv_at hl 1 rfl) ?_
  refine lv_if_lt (tgt := 14) hx hb dX2_put_1 (by decide) (fun c1 => ?_) (fun c1 => ?_)
  · have h := it_p c1 h
    obtain rfl := os h
    exact ret_v hx hb hr hlocks hP hK hD hS dX2_put_14
  · have h := it_n c1 h
    refine lv_iload_n hx hb dX2_put_4 rfl (lv_at hl 1 rfl) ?_
    refine lv_aload_n hx hb dX2_put_5 rfl (lv_at hl 0 rfl) ?_
    refine va_alen (v := (nI n)) hx hb hK hP 0 0 rfl rfl rfl dX2_put_6 ?_
    refine lv_icmp_ge (tgt := 14) hx hb dX2_put_7 (by decide) (fun c2 => ?_) (fun c2 => ?_)
    · have h := it_p c2 h
      obtain rfl := os h
      exact ret_v hx hb hr hlocks hP hK hD hS dX2_put_14
    · have h := it_n c2 h
      refine lv_aload_n hx hb dX2_put_10 rfl (lv_at hl 0 rfl) ?_
      refine lv_iload_n hx hb dX2_put_11 rfl (lv_at hl 1 rfl) ?_
      refine lv_iload_n hx hb dX2_put_12 rfl (lv_at hl 2 rfl) ?_
      obtain ⟨g3, h⟩ := og h
      refine va_iast hx hb hK hP hD hS 0 0 rfl rfl (pin_in g3) dX2_put_13 (fun H locs hP hD hS => ?_)
      have hP : va_P D vwCl (gA t fa n (upd f (Int32.toNatClampNeg i) v)) H := hP
      have hD : va_D A (gA t fa n (upd f (Int32.toNatClampNeg i) v)) := hD
      obtain rfl := os h
      exact ret_v hx hb hr hlocks hP hK hD hS dX2_put_14

theorem dX2_copyRow_0 : decode cX2_copyRow 0 = .ok (.iconst 0, 1) := by decide +kernel
theorem dX2_copyRow_1 : decode cX2_copyRow 1 = .ok (.istore_n 2, 1) := by decide +kernel
theorem dX2_copyRow_2 : decode cX2_copyRow 2 = .ok (.iload_n 2, 1) := by decide +kernel
theorem dX2_copyRow_3 : decode cX2_copyRow 3 = .ok (.aload_n 0, 1) := by decide +kernel
theorem dX2_copyRow_4 : decode cX2_copyRow 4 = .ok (.arraylength, 1) := by decide +kernel
theorem dX2_copyRow_5 : decode cX2_copyRow 5 = .ok (.if_icmp .ge 21, 3) := by decide +kernel
theorem dX2_copyRow_8 : decode cX2_copyRow 8 = .ok (.iload_n 2, 1) := by decide +kernel
theorem dX2_copyRow_9 : decode cX2_copyRow 9 = .ok (.aload_n 1, 1) := by decide +kernel
theorem dX2_copyRow_10 : decode cX2_copyRow 10 = .ok (.arraylength, 1) := by decide +kernel
theorem dX2_copyRow_11 : decode cX2_copyRow 11 = .ok (.if_icmp .ge 15, 3) := by decide +kernel
theorem dX2_copyRow_14 : decode cX2_copyRow 14 = .ok (.aload_n 1, 1) := by decide +kernel
theorem dX2_copyRow_15 : decode cX2_copyRow 15 = .ok (.iload_n 2, 1) := by decide +kernel
theorem dX2_copyRow_16 : decode cX2_copyRow 16 = .ok (.aload_n 0, 1) := by decide +kernel
theorem dX2_copyRow_17 : decode cX2_copyRow 17 = .ok (.iload_n 2, 1) := by decide +kernel
theorem dX2_copyRow_18 : decode cX2_copyRow 18 = .ok (.iaload, 1) := by decide +kernel
theorem dX2_copyRow_19 : decode cX2_copyRow 19 = .ok (.iastore, 1) := by decide +kernel
theorem dX2_copyRow_20 : decode cX2_copyRow 20 = .ok (.iinc 2 1, 3) := by decide +kernel
theorem dX2_copyRow_23 : decode cX2_copyRow 23 = .ok (.goto (-21), 3) := by decide +kernel
theorem dX2_copyRow_26 : decode cX2_copyRow 26 = .ok (.return_, 1) := by decide +kernel
abbrev zX2_copyRow : List Cond := .code yX2_copyRow cX2_copyRow 3 none :: BIG
def fX2_copyRow_l2 (n : Nat) (f : (Nat → Int32)) (nb : Nat)  (K2 : ((Nat → Int32) × Int32) → Option ((Nat → Int32))) (v2 : (Nat → Int32) × Int32) : Option ((Nat → Int32)) := (if (nI n) ≤ v2.2 then some v2.1 else (if (nI nb) ≤ v2.2 then some v2.1 else gd (pin v2.2 n) (gd (pin v2.2 nb) (K2 ((upd v2.1 (Int32.toNatClampNeg v2.2) (f (Int32.toNatClampNeg v2.2))), v2.2 + 1)))))
def fX2_copyRow (n : Nat) (f : (Nat → Int32)) (nb : Nat) (g : (Nat → Int32)) : Option ((Nat → Int32)) := lp (fX2_copyRow_l2 n f nb) 2000 (g, 0)
set_option maxHeartbeats 4000000 in
set_option maxRecDepth 100000 in
theorem mtX2_copyRow (l : Launch) (D : va_G) (t : Nat → ClassId) (fa : Nat) (n : Nat) (f : (Nat → Int32)) (ga : Nat) (nb : Nat) (g : (Nat → Int32)) (out : (Nat → Int32)) (h : fX2_copyRow n f nb g = some out) (n_lt : n < 2 ^ 31) (nb_lt : nb < 2 ^ 31) (sz : Nat) : Met l yX2_copyRow zX2_copyRow ({ frames := 0, cells := 0, slots := 0, locals := 0 }) (sPc D t (gA t fa n f ++ (gA t ga nb g)) sz [.ref fa, .ref ga]) (qV D t (gA t fa n f ++ (gA t ga nb out)) (va_A (gA t fa n f ++ (gA t ga nb g)) sz)) 0 0 (va_A (gA t fa n f ++ (gA t ga nb g)) sz) := by
  refine met_of (Qf := fun A => qV D t (gA t fa n f ++ (gA t ga nb out)) A) (cc := cX2_copyRow) (maxL := 3) (ret := none) (by decide) rfl (Nat.le_of_ble_eq_true rfl) ?_
  intro p e s m args below meth c A hx hb hr hml hts hown hlocks hA hP hK hD hE hS ls hl
  have htB : ∀ w ∈ BIG, w.before args s = true := fun w h => hts w (List.mem_cons_of_mem _ h)
  have hown : s.vm.findClass RX2 = some m.cls := hown
  have hl : lv_has ls 3 [(0, .ref fa), (1, .ref ga)] := hl
  unfold fX2_copyRow at h
  have J2 : ∀ (fu2 : Nat) (v2 : (Nat → Int32) × Int32), lp (fX2_copyRow_l2 n f nb) fu2 v2 = some out → ∀ (H : Heap) (locs : List Loc), va_P D vwCl (gA t fa n f ++ (gA t ga nb v2.1)) H → va_D A (gA t fa n f ++ (gA t ga nb v2.1)) → va_S A s.heap H locs → ∀ ls : Array Slot, lv_has ls 3 [(0, .ref fa), (1, .ref ga), (2, .int v2.2)] → W p l e ({ frames := 0, cells := 0, slots := 0, locals := 0 }) s m args below meth c H locs 0 0 (MQ below (qV D t (gA t fa n f ++ (gA t ga nb out)) A) args s 0 0 A) (F0 m 2 ls []) := by
    intro fu2
    induction fu2 with
    | zero => intro v2 h; cases h
    | succ fu2 ih2 =>
      intro v2 h H locs hP hD hS ls hl
      have h : fX2_copyRow_l2 n f nb (lp (fX2_copyRow_l2 n f nb) fu2) v2 = some out := h
      unfold fX2_copyRow_l2 at h
      refine lv_iload_n hx hb dX2_copyRow_2 rfl (lv_at hl 2 rfl) ?_
      refine lv_aload_n hx hb dX2_copyRow_3 rfl (lv_at hl 0 rfl) ?_
      refine va_alen (v := (nI n)) hx hb hK hP 0 0 rfl rfl rfl dX2_copyRow_4 ?_
      refine lv_icmp_ge (tgt := 26) hx hb dX2_copyRow_5 (by decide) (fun c1 => ?_) (fun c1 => ?_)
      · have h := it_p c1 h
        obtain rfl := os h
        exact ret_v hx hb hr hlocks hP hK hD hS dX2_copyRow_26
      · have h := it_n c1 h
        refine lv_iload_n hx hb dX2_copyRow_8 rfl (lv_at hl 2 rfl) ?_
        refine lv_aload_n hx hb dX2_copyRow_9 rfl (lv_at hl 1 rfl) ?_
        refine va_alen (v := (nI nb)) hx hb hK hP 1 0 rfl rfl rfl dX2_copyRow_10 ?_
        refine lv_icmp_ge (tgt := 26) hx hb dX2_copyRow_11 (by decide) (fun c2 => ?_) (fun c2 => ?_)
        · have h := it_p c2 h
          obtain rfl := os h
          exact ret_v hx hb hr hlocks hP hK hD hS dX2_copyRow_26
        · have h := it_n c2 h
          refine lv_aload_n hx hb dX2_copyRow_14 rfl (lv_at hl 1 rfl) ?_
          refine lv_iload_n hx hb dX2_copyRow_15 rfl (lv_at hl 2 rfl) ?_
          refine lv_aload_n hx hb dX2_copyRow_16 rfl (lv_at hl 0 rfl) ?_
          refine lv_iload_n hx hb dX2_copyRow_17 rfl (lv_at hl 2 rfl) ?_
          obtain ⟨g3, h⟩ := og h
          refine va_iald hx hb hK hP 0 0 rfl rfl (pin_in g3) dX2_copyRow_18 ?_
          obtain ⟨g4, h⟩ := og h
          refine va_iast hx hb hK hP hD hS 1 0 rfl rfl (pin_in g4) dX2_copyRow_19 (fun H locs hP hD hS => ?_)
          have hP : va_P D vwCl (gA t fa n f ++ (gA t ga nb (upd v2.1 (Int32.toNatClampNeg v2.2) (f (Int32.toNatClampNeg v2.2))))) H := hP
          have hD : va_D A (gA t fa n f ++ (gA t ga nb (upd v2.1 (Int32.toNatClampNeg v2.2) (f (Int32.toNatClampNeg v2.2))))) := hD
          refine lv_iinc (v := v2.2 + 1) (lv' := [(2, .int (v2.2 + 1)), (0, .ref fa), (1, .ref ga)]) hx hb dX2_copyRow_20 hl (k := 2) rfl rfl (by decide) rfl (fun ls hl => ?_)
          refine lv_goto (tgt := 2) hx hb dX2_copyRow_23 (by decide) ?_
          exact ih2 ((upd v2.1 (Int32.toNatClampNeg v2.2) (f (Int32.toNatClampNeg v2.2))), v2.2 + 1) h _ _ hP hD hS _ (lv_sub hl [1, 2, 0] rfl)
  refine lv_iconst (v := 0) hx hb dX2_copyRow_0 (by decide) ?_
  refine lv_istore_n (lv' := [(2, .int 0), (0, .ref fa), (1, .ref ga)]) hx hb dX2_copyRow_1 rfl hl (by decide) rfl (fun ls hl => ?_)
  exact J2 2000 (g, 0) h _ _ hP hD hS _ (lv_sub hl [1, 2, 0] rfl)

theorem dX2_wantedLight_0 : decode cX2_wantedLight 0 = .ok (.bipush 20, 2) := by decide +kernel
theorem dX2_wantedLight_2 : decode cX2_wantedLight 2 = .ok (.iload_n 0, 1) := by decide +kernel
theorem dX2_wantedLight_3 : decode cX2_wantedLight 3 = .ok (.ishl, 1) := by decide +kernel
theorem dX2_wantedLight_4 : decode cX2_wantedLight 4 = .ok (.ireturn, 1) := by decide +kernel
abbrev zX2_wantedLight : List Cond := .code yX2_wantedLight cX2_wantedLight 1 (some .int) :: BIG
def fX2_wantedLight (v : Int32) : Option (Int32) := some (20 <<< (v &&& 31))
set_option maxHeartbeats 4000000 in
set_option maxRecDepth 100000 in
theorem mtX2_wantedLight (l : Launch) (D : va_G) (t : Nat → ClassId) (v : Int32) (out : Int32) (h : fX2_wantedLight v = some out)  (sz : Nat) : Met l yX2_wantedLight zX2_wantedLight ({ frames := 0, cells := 0, slots := 0, locals := 0 }) (sPc D t ([] : va_W) sz [.int v]) (qI D t ([] : va_W) out (va_A ([] : va_W) sz)) 0 0 (va_A ([] : va_W) sz) := by
  refine met_of (Qf := fun A => qI D t ([] : va_W) out A) (cc := cX2_wantedLight) (maxL := 1) (ret := some .int) (by decide) rfl (Nat.le_of_ble_eq_true rfl) ?_
  intro p e s m args below meth c A hx hb hr hml hts hown hlocks hA hP hK hD hE hS ls hl
  have htB : ∀ w ∈ BIG, w.before args s = true := fun w h => hts w (List.mem_cons_of_mem _ h)
  have hown : s.vm.findClass RX2 = some m.cls := hown
  have hl : lv_has ls 1 [(0, .int v)] := hl
  unfold fX2_wantedLight at h
  refine lv_bipush (v := 20) hx hb dX2_wantedLight_0 (by decide) ?_
  refine lv_iload_n hx hb dX2_wantedLight_2 rfl (lv_at hl 0 rfl) ?_
  refine lv_ishl hx hb dX2_wantedLight_3 ?_
  obtain rfl := os h
  exact ret_i hx hb hr hlocks hP hK hD hS dX2_wantedLight_4

theorem dX1_become_0 : decode cX1_become 0 = .ok (.aload_n 1, 1) := by decide +kernel
theorem dX1_become_1 : decode cX1_become 1 = .ok (.getfield 9, 3) := by decide +kernel
theorem dX1_become_4 : decode cX1_become 4 = .ok (.aload_n 0, 1) := by decide +kernel
theorem dX1_become_5 : decode cX1_become 5 = .ok (.getfield 9, 3) := by decide +kernel
theorem dX1_become_8 : decode cX1_become 8 = .ok (.invokestatic 43, 3) := by decide +kernel
theorem dX1_become_11 : decode cX1_become 11 = .ok (.aload_n 1, 1) := by decide +kernel
theorem dX1_become_12 : decode cX1_become 12 = .ok (.getfield 15, 3) := by decide +kernel
theorem dX1_become_15 : decode cX1_become 15 = .ok (.aload_n 0, 1) := by decide +kernel
theorem dX1_become_16 : decode cX1_become 16 = .ok (.getfield 15, 3) := by decide +kernel
theorem dX1_become_19 : decode cX1_become 19 = .ok (.invokestatic 43, 3) := by decide +kernel
theorem dX1_become_22 : decode cX1_become 22 = .ok (.aload_n 1, 1) := by decide +kernel
theorem dX1_become_23 : decode cX1_become 23 = .ok (.getfield 18, 3) := by decide +kernel
theorem dX1_become_26 : decode cX1_become 26 = .ok (.aload_n 0, 1) := by decide +kernel
theorem dX1_become_27 : decode cX1_become 27 = .ok (.getfield 18, 3) := by decide +kernel
theorem dX1_become_30 : decode cX1_become 30 = .ok (.invokestatic 43, 3) := by decide +kernel
theorem dX1_become_33 : decode cX1_become 33 = .ok (.aload_n 1, 1) := by decide +kernel
theorem dX1_become_34 : decode cX1_become 34 = .ok (.getfield 21, 3) := by decide +kernel
theorem dX1_become_37 : decode cX1_become 37 = .ok (.aload_n 0, 1) := by decide +kernel
theorem dX1_become_38 : decode cX1_become 38 = .ok (.getfield 21, 3) := by decide +kernel
theorem dX1_become_41 : decode cX1_become 41 = .ok (.invokestatic 43, 3) := by decide +kernel
theorem dX1_become_44 : decode cX1_become 44 = .ok (.aload_n 1, 1) := by decide +kernel
theorem dX1_become_45 : decode cX1_become 45 = .ok (.getfield 24, 3) := by decide +kernel
theorem dX1_become_48 : decode cX1_become 48 = .ok (.aload_n 0, 1) := by decide +kernel
theorem dX1_become_49 : decode cX1_become 49 = .ok (.getfield 24, 3) := by decide +kernel
theorem dX1_become_52 : decode cX1_become 52 = .ok (.invokestatic 43, 3) := by decide +kernel
theorem dX1_become_55 : decode cX1_become 55 = .ok (.aload_n 1, 1) := by decide +kernel
theorem dX1_become_56 : decode cX1_become 56 = .ok (.getfield 27, 3) := by decide +kernel
theorem dX1_become_59 : decode cX1_become 59 = .ok (.aload_n 0, 1) := by decide +kernel
theorem dX1_become_60 : decode cX1_become 60 = .ok (.getfield 27, 3) := by decide +kernel
theorem dX1_become_63 : decode cX1_become 63 = .ok (.invokestatic 43, 3) := by decide +kernel
theorem dX1_become_66 : decode cX1_become 66 = .ok (.aload_n 1, 1) := by decide +kernel
theorem dX1_become_67 : decode cX1_become 67 = .ok (.getfield 30, 3) := by decide +kernel
theorem dX1_become_70 : decode cX1_become 70 = .ok (.aload_n 0, 1) := by decide +kernel
theorem dX1_become_71 : decode cX1_become 71 = .ok (.getfield 30, 3) := by decide +kernel
theorem dX1_become_74 : decode cX1_become 74 = .ok (.invokestatic 43, 3) := by decide +kernel
theorem dX1_become_77 : decode cX1_become 77 = .ok (.aload_n 0, 1) := by decide +kernel
theorem dX1_become_78 : decode cX1_become 78 = .ok (.aload_n 1, 1) := by decide +kernel
theorem dX1_become_79 : decode cX1_become 79 = .ok (.getfield 33, 3) := by decide +kernel
theorem dX1_become_82 : decode cX1_become 82 = .ok (.putfield 33, 3) := by decide +kernel
theorem dX1_become_85 : decode cX1_become 85 = .ok (.aload_n 0, 1) := by decide +kernel
theorem dX1_become_86 : decode cX1_become 86 = .ok (.aload_n 1, 1) := by decide +kernel
theorem dX1_become_87 : decode cX1_become 87 = .ok (.getfield 37, 3) := by decide +kernel
theorem dX1_become_90 : decode cX1_become 90 = .ok (.putfield 37, 3) := by decide +kernel
theorem dX1_become_93 : decode cX1_become 93 = .ok (.aload_n 0, 1) := by decide +kernel
theorem dX1_become_94 : decode cX1_become 94 = .ok (.aload_n 1, 1) := by decide +kernel
theorem dX1_become_95 : decode cX1_become 95 = .ok (.getfield 40, 3) := by decide +kernel
theorem dX1_become_98 : decode cX1_become 98 = .ok (.putfield 40, 3) := by decide +kernel
theorem dX1_become_101 : decode cX1_become 101 = .ok (.return_, 1) := by decide +kernel
abbrev zX1_become : List Cond := .code yX1_become cX1_become 2 none :: BIG
def fX1_become (x : ShT) (y : ShT) : Option (ShT) := (fX2_copyRow 2 y.1 2 x.1).bind (fun r1 => (fX2_copyRow 2 y.2.1 2 x.2.1).bind (fun r2 => (fX2_copyRow 24 y.2.2.1 24 x.2.2.1).bind (fun r3 => (fX2_copyRow 24 y.2.2.2.1 24 x.2.2.2.1).bind (fun r4 => (fX2_copyRow 6 y.2.2.2.2.1 6 x.2.2.2.2.1).bind (fun r5 => (fX2_copyRow 4 y.2.2.2.2.2.1 4 x.2.2.2.2.2.1).bind (fun r6 => (fX2_copyRow 6 y.2.2.2.2.2.2.1 6 x.2.2.2.2.2.2.1).bind (fun r7 => some (r1, r2, r3, r4, r5, r6, r7, y.2.2.2.2.2.2.2.1, y.2.2.2.2.2.2.2.2.1, y.2.2.2.2.2.2.2.2.2))))))))
set_option maxHeartbeats 4000000 in
set_option maxRecDepth 100000 in
theorem mtX1_become (l : Launch) (D : va_G) (t : Nat → ClassId) (xa : Nat) (xb : Nat → Nat) (x : ShT) (ya : Nat) (yb : Nat → Nat) (y : ShT) (out : ShT) (h : fX1_become x y = some out)  (sz : Nat) : Met l yX1_become zX1_become ({ frames := 1, cells := 0, slots := 0, locals := 22 }) (sPc D t (gS t xa xb x ++ (gS t ya yb y)) sz [.ref xa, .ref ya]) (qV D t (gS t xa xb out ++ (gS t ya yb y)) (va_A (gS t xa xb x ++ (gS t ya yb y)) sz)) 0 0 (va_A (gS t xa xb x ++ (gS t ya yb y)) sz) := by
  refine met_of (Qf := fun A => qV D t (gS t xa xb out ++ (gS t ya yb y)) A) (cc := cX1_become) (maxL := 2) (ret := none) (by decide) rfl (Nat.le_of_ble_eq_true rfl) ?_
  intro p e s m args below meth c A hx hb hr hml hts hown hlocks hA hP hK hD hE hS ls hl
  have htB : ∀ w ∈ BIG, w.before args s = true := fun w h => hts w (List.mem_cons_of_mem _ h)
  have hown : s.vm.findClass RX1 = some m.cls := hown
  have hl : lv_has ls 2 [(0, .ref xa), (1, .ref ya)] := hl
  unfold fX1_become at h
  refine lv_aload_n hx hb dX1_become_0 rfl (lv_at hl 1 rfl) ?_
  refine va_get (D := D) (ci := 1) (v := .ref (yb 0)) (C := RX1) (T := TX1) (N := 10) hx hb htB inlX1 hown hK hP 8 rfl rfl 0 (by decide) (htB _ kw28) (fun _ h9 => h9) rfl dX1_become_1 ?_
  refine lv_aload_n hx hb dX1_become_4 rfl (lv_at hl 0 rfl) ?_
  refine va_get (D := D) (ci := 1) (v := .ref (xb 0)) (C := RX1) (T := TX1) (N := 10) hx hb htB inlX1 hown hK hP 0 rfl rfl 0 (by decide) (htB _ kw28) (fun _ h9 => h9) rfl dX1_become_5 ?_
  obtain ⟨r1, h1, h⟩ := ob h
  refine call_v (wc := (gA t (yb 0) 2 y.1 ++ (gA t (xb 0) 2 x.1))) (wc' := (gA t (yb 0) 2 y.1 ++ (gA t (xb 0) 2 r1))) (ws' := (gS t xa xb (r1, x.2.1, x.2.2.1, x.2.2.2.1, x.2.2.2.2.1, x.2.2.2.2.2.1, x.2.2.2.2.2.2.1, x.2.2.2.2.2.2.2.1, x.2.2.2.2.2.2.2.2.1, x.2.2.2.2.2.2.2.2.2) ++ (gS t ya yb y))) (cutI (wc := (gA t (yb 0) 2 y.1 ++ (gA t (xb 0) 2 x.1))) (wc' := (gA t (yb 0) 2 y.1 ++ (gA t (xb 0) 2 r1))) (ws' := (gS t xa xb (r1, x.2.1, x.2.2.1, x.2.2.2.1, x.2.2.2.2.1, x.2.2.2.2.2.1, x.2.2.2.2.2.2.1, x.2.2.2.2.2.2.2.1, x.2.2.2.2.2.2.2.2.1, x.2.2.2.2.2.2.2.2.2) ++ (gS t ya yb y))) [9, 1] hP hD hS hA rfl rfl rfl rfl) hS (fun hPc hDc => va_runSN (As := [.ref (yb 0), .ref (xb 0)]) (rest := []) ⟨hx, hb, hml, hown, hts⟩ (mtX2_copyRow l D t (yb 0) 2 y.1 (xb 0) 2 x.1 r1 h1 (by decide) (by decide) _) ⟨va_cnB 2 hts (gB kw95) rfl rfl rfl hE.2.2.1 (htB _ kw2) (by decide +kernel) ⟨Nat.le_of_ble_eq_true rfl, Nat.le_of_ble_eq_true rfl⟩, (htB _ kw94), trivial⟩ (sPc_S hPc hK hDc hE) rfl rfl hl.1 rfl (lv_room (Nat.le_of_ble_eq_true rfl)) dX1_become_8 ⟨Nat.zero_le _, Nat.zero_le _⟩) (fun H locs hP hD hS => ?_)
  refine lv_aload_n hx hb dX1_become_11 rfl (lv_at hl 1 rfl) ?_
  refine va_get (D := D) (ci := 1) (v := .ref (yb 1)) (C := RX1) (T := TX1) (N := 10) hx hb htB inlX1 hown hK hP 8 rfl rfl 1 (by decide) (htB _ kw29) (fun _ h9 => h9) rfl dX1_become_12 ?_
  refine lv_aload_n hx hb dX1_become_15 rfl (lv_at hl 0 rfl) ?_
  refine va_get (D := D) (ci := 1) (v := .ref (xb 1)) (C := RX1) (T := TX1) (N := 10) hx hb htB inlX1 hown hK hP 0 rfl rfl 1 (by decide) (htB _ kw29) (fun _ h9 => h9) rfl dX1_become_16 ?_
  obtain ⟨r2, h2, h⟩ := ob h
  refine call_v (wc := (gA t (yb 1) 2 y.2.1 ++ (gA t (xb 1) 2 x.2.1))) (wc' := (gA t (yb 1) 2 y.2.1 ++ (gA t (xb 1) 2 r2))) (ws' := (gS t xa xb (r1, r2, x.2.2.1, x.2.2.2.1, x.2.2.2.2.1, x.2.2.2.2.2.1, x.2.2.2.2.2.2.1, x.2.2.2.2.2.2.2.1, x.2.2.2.2.2.2.2.2.1, x.2.2.2.2.2.2.2.2.2) ++ (gS t ya yb y))) (cutI (wc := (gA t (yb 1) 2 y.2.1 ++ (gA t (xb 1) 2 x.2.1))) (wc' := (gA t (yb 1) 2 y.2.1 ++ (gA t (xb 1) 2 r2))) (ws' := (gS t xa xb (r1, r2, x.2.2.1, x.2.2.2.1, x.2.2.2.2.1, x.2.2.2.2.2.1, x.2.2.2.2.2.2.1, x.2.2.2.2.2.2.2.1, x.2.2.2.2.2.2.2.2.1, x.2.2.2.2.2.2.2.2.2) ++ (gS t ya yb y))) [10, 2] hP hD hS hA rfl rfl rfl rfl) hS (fun hPc hDc => va_runSN (As := [.ref (yb 1), .ref (xb 1)]) (rest := []) ⟨hx, hb, hml, hown, hts⟩ (mtX2_copyRow l D t (yb 1) 2 y.2.1 (xb 1) 2 x.2.1 r2 h2 (by decide) (by decide) _) ⟨va_cnB 2 hts (gB kw95) rfl rfl rfl hE.2.2.1 (htB _ kw2) (by decide +kernel) ⟨Nat.le_of_ble_eq_true rfl, Nat.le_of_ble_eq_true rfl⟩, (htB _ kw94), trivial⟩ (sPc_S hPc hK hDc hE) rfl rfl hl.1 rfl (lv_room (Nat.le_of_ble_eq_true rfl)) dX1_become_19 ⟨Nat.zero_le _, Nat.zero_le _⟩) (fun H locs hP hD hS => ?_)
  refine lv_aload_n hx hb dX1_become_22 rfl (lv_at hl 1 rfl) ?_
  refine va_get (D := D) (ci := 1) (v := .ref (yb 2)) (C := RX1) (T := TX1) (N := 10) hx hb htB inlX1 hown hK hP 8 rfl rfl 2 (by decide) (htB _ kw30) (fun _ h9 => h9) rfl dX1_become_23 ?_
  refine lv_aload_n hx hb dX1_become_26 rfl (lv_at hl 0 rfl) ?_
  refine va_get (D := D) (ci := 1) (v := .ref (xb 2)) (C := RX1) (T := TX1) (N := 10) hx hb htB inlX1 hown hK hP 0 rfl rfl 2 (by decide) (htB _ kw30) (fun _ h9 => h9) rfl dX1_become_27 ?_
  obtain ⟨r3, h3, h⟩ := ob h
  refine call_v (wc := (gA t (yb 2) 24 y.2.2.1 ++ (gA t (xb 2) 24 x.2.2.1))) (wc' := (gA t (yb 2) 24 y.2.2.1 ++ (gA t (xb 2) 24 r3))) (ws' := (gS t xa xb (r1, r2, r3, x.2.2.2.1, x.2.2.2.2.1, x.2.2.2.2.2.1, x.2.2.2.2.2.2.1, x.2.2.2.2.2.2.2.1, x.2.2.2.2.2.2.2.2.1, x.2.2.2.2.2.2.2.2.2) ++ (gS t ya yb y))) (cutI (wc := (gA t (yb 2) 24 y.2.2.1 ++ (gA t (xb 2) 24 x.2.2.1))) (wc' := (gA t (yb 2) 24 y.2.2.1 ++ (gA t (xb 2) 24 r3))) (ws' := (gS t xa xb (r1, r2, r3, x.2.2.2.1, x.2.2.2.2.1, x.2.2.2.2.2.1, x.2.2.2.2.2.2.1, x.2.2.2.2.2.2.2.1, x.2.2.2.2.2.2.2.2.1, x.2.2.2.2.2.2.2.2.2) ++ (gS t ya yb y))) [11, 3] hP hD hS hA rfl rfl rfl rfl) hS (fun hPc hDc => va_runSN (As := [.ref (yb 2), .ref (xb 2)]) (rest := []) ⟨hx, hb, hml, hown, hts⟩ (mtX2_copyRow l D t (yb 2) 24 y.2.2.1 (xb 2) 24 x.2.2.1 r3 h3 (by decide) (by decide) _) ⟨va_cnB 2 hts (gB kw95) rfl rfl rfl hE.2.2.1 (htB _ kw2) (by decide +kernel) ⟨Nat.le_of_ble_eq_true rfl, Nat.le_of_ble_eq_true rfl⟩, (htB _ kw94), trivial⟩ (sPc_S hPc hK hDc hE) rfl rfl hl.1 rfl (lv_room (Nat.le_of_ble_eq_true rfl)) dX1_become_30 ⟨Nat.zero_le _, Nat.zero_le _⟩) (fun H locs hP hD hS => ?_)
  refine lv_aload_n hx hb dX1_become_33 rfl (lv_at hl 1 rfl) ?_
  refine va_get (D := D) (ci := 1) (v := .ref (yb 3)) (C := RX1) (T := TX1) (N := 10) hx hb htB inlX1 hown hK hP 8 rfl rfl 3 (by decide) (htB _ kw31) (fun _ h9 => h9) rfl dX1_become_34 ?_
  refine lv_aload_n hx hb dX1_become_37 rfl (lv_at hl 0 rfl) ?_
  refine va_get (D := D) (ci := 1) (v := .ref (xb 3)) (C := RX1) (T := TX1) (N := 10) hx hb htB inlX1 hown hK hP 0 rfl rfl 3 (by decide) (htB _ kw31) (fun _ h9 => h9) rfl dX1_become_38 ?_
  obtain ⟨r4, h4, h⟩ := ob h
  refine call_v (wc := (gA t (yb 3) 24 y.2.2.2.1 ++ (gA t (xb 3) 24 x.2.2.2.1))) (wc' := (gA t (yb 3) 24 y.2.2.2.1 ++ (gA t (xb 3) 24 r4))) (ws' := (gS t xa xb (r1, r2, r3, r4, x.2.2.2.2.1, x.2.2.2.2.2.1, x.2.2.2.2.2.2.1, x.2.2.2.2.2.2.2.1, x.2.2.2.2.2.2.2.2.1, x.2.2.2.2.2.2.2.2.2) ++ (gS t ya yb y))) (cutI (wc := (gA t (yb 3) 24 y.2.2.2.1 ++ (gA t (xb 3) 24 x.2.2.2.1))) (wc' := (gA t (yb 3) 24 y.2.2.2.1 ++ (gA t (xb 3) 24 r4))) (ws' := (gS t xa xb (r1, r2, r3, r4, x.2.2.2.2.1, x.2.2.2.2.2.1, x.2.2.2.2.2.2.1, x.2.2.2.2.2.2.2.1, x.2.2.2.2.2.2.2.2.1, x.2.2.2.2.2.2.2.2.2) ++ (gS t ya yb y))) [12, 4] hP hD hS hA rfl rfl rfl rfl) hS (fun hPc hDc => va_runSN (As := [.ref (yb 3), .ref (xb 3)]) (rest := []) ⟨hx, hb, hml, hown, hts⟩ (mtX2_copyRow l D t (yb 3) 24 y.2.2.2.1 (xb 3) 24 x.2.2.2.1 r4 h4 (by decide) (by decide) _) ⟨va_cnB 2 hts (gB kw95) rfl rfl rfl hE.2.2.1 (htB _ kw2) (by decide +kernel) ⟨Nat.le_of_ble_eq_true rfl, Nat.le_of_ble_eq_true rfl⟩, (htB _ kw94), trivial⟩ (sPc_S hPc hK hDc hE) rfl rfl hl.1 rfl (lv_room (Nat.le_of_ble_eq_true rfl)) dX1_become_41 ⟨Nat.zero_le _, Nat.zero_le _⟩) (fun H locs hP hD hS => ?_)
  refine lv_aload_n hx hb dX1_become_44 rfl (lv_at hl 1 rfl) ?_
  refine va_get (D := D) (ci := 1) (v := .ref (yb 4)) (C := RX1) (T := TX1) (N := 10) hx hb htB inlX1 hown hK hP 8 rfl rfl 4 (by decide) (htB _ kw32) (fun _ h9 => h9) rfl dX1_become_45 ?_
  refine lv_aload_n hx hb dX1_become_48 rfl (lv_at hl 0 rfl) ?_
  refine va_get (D := D) (ci := 1) (v := .ref (xb 4)) (C := RX1) (T := TX1) (N := 10) hx hb htB inlX1 hown hK hP 0 rfl rfl 4 (by decide) (htB _ kw32) (fun _ h9 => h9) rfl dX1_become_49 ?_
  obtain ⟨r5, h5, h⟩ := ob h
  refine call_v (wc := (gA t (yb 4) 6 y.2.2.2.2.1 ++ (gA t (xb 4) 6 x.2.2.2.2.1))) (wc' := (gA t (yb 4) 6 y.2.2.2.2.1 ++ (gA t (xb 4) 6 r5))) (ws' := (gS t xa xb (r1, r2, r3, r4, r5, x.2.2.2.2.2.1, x.2.2.2.2.2.2.1, x.2.2.2.2.2.2.2.1, x.2.2.2.2.2.2.2.2.1, x.2.2.2.2.2.2.2.2.2) ++ (gS t ya yb y))) (cutI (wc := (gA t (yb 4) 6 y.2.2.2.2.1 ++ (gA t (xb 4) 6 x.2.2.2.2.1))) (wc' := (gA t (yb 4) 6 y.2.2.2.2.1 ++ (gA t (xb 4) 6 r5))) (ws' := (gS t xa xb (r1, r2, r3, r4, r5, x.2.2.2.2.2.1, x.2.2.2.2.2.2.1, x.2.2.2.2.2.2.2.1, x.2.2.2.2.2.2.2.2.1, x.2.2.2.2.2.2.2.2.2) ++ (gS t ya yb y))) [13, 5] hP hD hS hA rfl rfl rfl rfl) hS (fun hPc hDc => va_runSN (As := [.ref (yb 4), .ref (xb 4)]) (rest := []) ⟨hx, hb, hml, hown, hts⟩ (mtX2_copyRow l D t (yb 4) 6 y.2.2.2.2.1 (xb 4) 6 x.2.2.2.2.1 r5 h5 (by decide) (by decide) _) ⟨va_cnB 2 hts (gB kw95) rfl rfl rfl hE.2.2.1 (htB _ kw2) (by decide +kernel) ⟨Nat.le_of_ble_eq_true rfl, Nat.le_of_ble_eq_true rfl⟩, (htB _ kw94), trivial⟩ (sPc_S hPc hK hDc hE) rfl rfl hl.1 rfl (lv_room (Nat.le_of_ble_eq_true rfl)) dX1_become_52 ⟨Nat.zero_le _, Nat.zero_le _⟩) (fun H locs hP hD hS => ?_)
  refine lv_aload_n hx hb dX1_become_55 rfl (lv_at hl 1 rfl) ?_
  refine va_get (D := D) (ci := 1) (v := .ref (yb 5)) (C := RX1) (T := TX1) (N := 10) hx hb htB inlX1 hown hK hP 8 rfl rfl 5 (by decide) (htB _ kw33) (fun _ h9 => h9) rfl dX1_become_56 ?_
  refine lv_aload_n hx hb dX1_become_59 rfl (lv_at hl 0 rfl) ?_
  refine va_get (D := D) (ci := 1) (v := .ref (xb 5)) (C := RX1) (T := TX1) (N := 10) hx hb htB inlX1 hown hK hP 0 rfl rfl 5 (by decide) (htB _ kw33) (fun _ h9 => h9) rfl dX1_become_60 ?_
  obtain ⟨r6, h6, h⟩ := ob h
  refine call_v (wc := (gA t (yb 5) 4 y.2.2.2.2.2.1 ++ (gA t (xb 5) 4 x.2.2.2.2.2.1))) (wc' := (gA t (yb 5) 4 y.2.2.2.2.2.1 ++ (gA t (xb 5) 4 r6))) (ws' := (gS t xa xb (r1, r2, r3, r4, r5, r6, x.2.2.2.2.2.2.1, x.2.2.2.2.2.2.2.1, x.2.2.2.2.2.2.2.2.1, x.2.2.2.2.2.2.2.2.2) ++ (gS t ya yb y))) (cutI (wc := (gA t (yb 5) 4 y.2.2.2.2.2.1 ++ (gA t (xb 5) 4 x.2.2.2.2.2.1))) (wc' := (gA t (yb 5) 4 y.2.2.2.2.2.1 ++ (gA t (xb 5) 4 r6))) (ws' := (gS t xa xb (r1, r2, r3, r4, r5, r6, x.2.2.2.2.2.2.1, x.2.2.2.2.2.2.2.1, x.2.2.2.2.2.2.2.2.1, x.2.2.2.2.2.2.2.2.2) ++ (gS t ya yb y))) [14, 6] hP hD hS hA rfl rfl rfl rfl) hS (fun hPc hDc => va_runSN (As := [.ref (yb 5), .ref (xb 5)]) (rest := []) ⟨hx, hb, hml, hown, hts⟩ (mtX2_copyRow l D t (yb 5) 4 y.2.2.2.2.2.1 (xb 5) 4 x.2.2.2.2.2.1 r6 h6 (by decide) (by decide) _) ⟨va_cnB 2 hts (gB kw95) rfl rfl rfl hE.2.2.1 (htB _ kw2) (by decide +kernel) ⟨Nat.le_of_ble_eq_true rfl, Nat.le_of_ble_eq_true rfl⟩, (htB _ kw94), trivial⟩ (sPc_S hPc hK hDc hE) rfl rfl hl.1 rfl (lv_room (Nat.le_of_ble_eq_true rfl)) dX1_become_63 ⟨Nat.zero_le _, Nat.zero_le _⟩) (fun H locs hP hD hS => ?_)
  refine lv_aload_n hx hb dX1_become_66 rfl (lv_at hl 1 rfl) ?_
  refine va_get (D := D) (ci := 1) (v := .ref (yb 6)) (C := RX1) (T := TX1) (N := 10) hx hb htB inlX1 hown hK hP 8 rfl rfl 6 (by decide) (htB _ kw34) (fun _ h9 => h9) rfl dX1_become_67 ?_
  refine lv_aload_n hx hb dX1_become_70 rfl (lv_at hl 0 rfl) ?_
  refine va_get (D := D) (ci := 1) (v := .ref (xb 6)) (C := RX1) (T := TX1) (N := 10) hx hb htB inlX1 hown hK hP 0 rfl rfl 6 (by decide) (htB _ kw34) (fun _ h9 => h9) rfl dX1_become_71 ?_
  obtain ⟨r7, h7, h⟩ := ob h
  refine call_v (wc := (gA t (yb 6) 6 y.2.2.2.2.2.2.1 ++ (gA t (xb 6) 6 x.2.2.2.2.2.2.1))) (wc' := (gA t (yb 6) 6 y.2.2.2.2.2.2.1 ++ (gA t (xb 6) 6 r7))) (ws' := (gS t xa xb (r1, r2, r3, r4, r5, r6, r7, x.2.2.2.2.2.2.2.1, x.2.2.2.2.2.2.2.2.1, x.2.2.2.2.2.2.2.2.2) ++ (gS t ya yb y))) (cutI (wc := (gA t (yb 6) 6 y.2.2.2.2.2.2.1 ++ (gA t (xb 6) 6 x.2.2.2.2.2.2.1))) (wc' := (gA t (yb 6) 6 y.2.2.2.2.2.2.1 ++ (gA t (xb 6) 6 r7))) (ws' := (gS t xa xb (r1, r2, r3, r4, r5, r6, r7, x.2.2.2.2.2.2.2.1, x.2.2.2.2.2.2.2.2.1, x.2.2.2.2.2.2.2.2.2) ++ (gS t ya yb y))) [15, 7] hP hD hS hA rfl rfl rfl rfl) hS (fun hPc hDc => va_runSN (As := [.ref (yb 6), .ref (xb 6)]) (rest := []) ⟨hx, hb, hml, hown, hts⟩ (mtX2_copyRow l D t (yb 6) 6 y.2.2.2.2.2.2.1 (xb 6) 6 x.2.2.2.2.2.2.1 r7 h7 (by decide) (by decide) _) ⟨va_cnB 2 hts (gB kw95) rfl rfl rfl hE.2.2.1 (htB _ kw2) (by decide +kernel) ⟨Nat.le_of_ble_eq_true rfl, Nat.le_of_ble_eq_true rfl⟩, (htB _ kw94), trivial⟩ (sPc_S hPc hK hDc hE) rfl rfl hl.1 rfl (lv_room (Nat.le_of_ble_eq_true rfl)) dX1_become_74 ⟨Nat.zero_le _, Nat.zero_le _⟩) (fun H locs hP hD hS => ?_)
  refine lv_aload_n hx hb dX1_become_77 rfl (lv_at hl 0 rfl) ?_
  refine lv_aload_n hx hb dX1_become_78 rfl (lv_at hl 1 rfl) ?_
  refine va_get (D := D) (ci := 1) (v := .int y.2.2.2.2.2.2.2.1) (C := RX1) (T := TX1) (N := 10) hx hb htB inlX1 hown hK hP 8 rfl rfl 7 (by decide) (htB _ kw35) (fun _ h9 => h9) rfl dX1_become_79 ?_
  refine va_put (D := D) (ci := 1) (v := .int y.2.2.2.2.2.2.2.1) (ty := .int) (C := RX1) (T := TX1) (N := 10) hx hb htB inlX1 tyX1 tyX1_ok nmX1 hown hK hP hD hS 0 rfl rfl 7 (by decide) (htB _ kw35) (fun _ h9 => h9) rfl (by decide +kernel) rfl rfl (Nat.le_of_ble_eq_true rfl) dX1_become_82 (fun H locs hP hD hS => ?_)
  have hP : va_P D vwCl (gS t xa xb (r1, r2, r3, r4, r5, r6, r7, y.2.2.2.2.2.2.2.1, x.2.2.2.2.2.2.2.2.1, x.2.2.2.2.2.2.2.2.2) ++ (gS t ya yb y)) H := hP
  have hD : va_D A (gS t xa xb (r1, r2, r3, r4, r5, r6, r7, y.2.2.2.2.2.2.2.1, x.2.2.2.2.2.2.2.2.1, x.2.2.2.2.2.2.2.2.2) ++ (gS t ya yb y)) := hD
  refine lv_aload_n hx hb dX1_become_85 rfl (lv_at hl 0 rfl) ?_
  refine lv_aload_n hx hb dX1_become_86 rfl (lv_at hl 1 rfl) ?_
  refine va_get (D := D) (ci := 1) (v := .int y.2.2.2.2.2.2.2.2.1) (C := RX1) (T := TX1) (N := 10) hx hb htB inlX1 hown hK hP 8 rfl rfl 8 (by decide) (htB _ kw36) (fun _ h9 => h9) rfl dX1_become_87 ?_
  refine va_put (D := D) (ci := 1) (v := .int y.2.2.2.2.2.2.2.2.1) (ty := .int) (C := RX1) (T := TX1) (N := 10) hx hb htB inlX1 tyX1 tyX1_ok nmX1 hown hK hP hD hS 0 rfl rfl 8 (by decide) (htB _ kw36) (fun _ h9 => h9) rfl (by decide +kernel) rfl rfl (Nat.le_of_ble_eq_true rfl) dX1_become_90 (fun H locs hP hD hS => ?_)
  have hP : va_P D vwCl (gS t xa xb (r1, r2, r3, r4, r5, r6, r7, y.2.2.2.2.2.2.2.1, y.2.2.2.2.2.2.2.2.1, x.2.2.2.2.2.2.2.2.2) ++ (gS t ya yb y)) H := hP
  have hD : va_D A (gS t xa xb (r1, r2, r3, r4, r5, r6, r7, y.2.2.2.2.2.2.2.1, y.2.2.2.2.2.2.2.2.1, x.2.2.2.2.2.2.2.2.2) ++ (gS t ya yb y)) := hD
  refine lv_aload_n hx hb dX1_become_93 rfl (lv_at hl 0 rfl) ?_
  refine lv_aload_n hx hb dX1_become_94 rfl (lv_at hl 1 rfl) ?_
  refine va_get (D := D) (ci := 1) (v := .int y.2.2.2.2.2.2.2.2.2) (C := RX1) (T := TX1) (N := 10) hx hb htB inlX1 hown hK hP 8 rfl rfl 9 (by decide) (htB _ kw37) (fun _ h9 => h9) rfl dX1_become_95 ?_
  refine va_put (D := D) (ci := 1) (v := .int y.2.2.2.2.2.2.2.2.2) (ty := .int) (C := RX1) (T := TX1) (N := 10) hx hb htB inlX1 tyX1 tyX1_ok nmX1 hown hK hP hD hS 0 rfl rfl 9 (by decide) (htB _ kw37) (fun _ h9 => h9) rfl (by decide +kernel) rfl rfl (Nat.le_of_ble_eq_true rfl) dX1_become_98 (fun H locs hP hD hS => ?_)
  have hP : va_P D vwCl (gS t xa xb (r1, r2, r3, r4, r5, r6, r7, y.2.2.2.2.2.2.2.1, y.2.2.2.2.2.2.2.2.1, y.2.2.2.2.2.2.2.2.2) ++ (gS t ya yb y)) H := hP
  have hD : va_D A (gS t xa xb (r1, r2, r3, r4, r5, r6, r7, y.2.2.2.2.2.2.2.1, y.2.2.2.2.2.2.2.2.1, y.2.2.2.2.2.2.2.2.2) ++ (gS t ya yb y)) := hD
  obtain rfl := os h
  exact ret_v hx hb hr hlocks hP hK hD hS dX1_become_101

theorem dX1_dragsOf_0 : decode cX1_dragsOf 0 = .ok (.iload_n 1, 1) := by decide +kernel
theorem dX1_dragsOf_1 : decode cX1_dragsOf 1 = .ok (.ifCond .ne 10, 3) := by decide +kernel
theorem dX1_dragsOf_4 : decode cX1_dragsOf 4 = .ok (.aload_n 0, 1) := by decide +kernel
theorem dX1_dragsOf_5 : decode cX1_dragsOf 5 = .ok (.getfield 18, 3) := by decide +kernel
theorem dX1_dragsOf_8 : decode cX1_dragsOf 8 = .ok (.goto 7, 3) := by decide +kernel
theorem dX1_dragsOf_11 : decode cX1_dragsOf 11 = .ok (.aload_n 0, 1) := by decide +kernel
theorem dX1_dragsOf_12 : decode cX1_dragsOf 12 = .ok (.getfield 21, 3) := by decide +kernel
theorem dX1_dragsOf_15 : decode cX1_dragsOf 15 = .ok (.areturn, 1) := by decide +kernel
abbrev zX1_dragsOf : List Cond := .code yX1_dragsOf cX1_dragsOf 2 (some (.array .int)) :: BIG
def fX1_dragsOf (x : ShT) (cu : Int32) : Option (Unit) := (if cu = 0 then some () else some ())
set_option maxHeartbeats 4000000 in
set_option maxRecDepth 100000 in
theorem mtX1_dragsOf (l : Launch) (D : va_G) (t : Nat → ClassId) (xa : Nat) (xb : Nat → Nat) (x : ShT) (cu : Int32) (out : Unit) (h : fX1_dragsOf x cu = some out)  (sz : Nat) : Met l yX1_dragsOf zX1_dragsOf ({ frames := 0, cells := 0, slots := 0, locals := 0 }) (sPc D t (gS t xa xb x) sz [.ref xa, .int cu]) (qR D t (gS t xa xb x) (if cu = 0 then xb 2 else xb 3) (va_A (gS t xa xb x) sz)) 0 0 (va_A (gS t xa xb x) sz) := by
  refine met_of (Qf := fun A => qR D t (gS t xa xb x) (if cu = 0 then xb 2 else xb 3) A) (cc := cX1_dragsOf) (maxL := 2) (ret := (some (.array .int))) (by decide) rfl (Nat.le_of_ble_eq_true rfl) ?_
  intro p e s m args below meth c A hx hb hr hml hts hown hlocks hA hP hK hD hE hS ls hl
  have htB : ∀ w ∈ BIG, w.before args s = true := fun w h => hts w (List.mem_cons_of_mem _ h)
  have hown : s.vm.findClass RX1 = some m.cls := hown
  have hl : lv_has ls 2 [(0, .ref xa), (1, .int cu)] := hl
  unfold fX1_dragsOf at h
  refine lv_iload_n hx hb dX1_dragsOf_0 rfl (lv_at hl 1 rfl) ?_
  refine lv_if_ne (tgt := 11) hx hb dX1_dragsOf_1 (by decide) (fun c1 => ?_) (fun c1 => ?_)
  · have h := it_n c1 h
    refine lv_aload_n hx hb dX1_dragsOf_11 rfl (lv_at hl 0 rfl) ?_
    refine va_get (D := D) (ci := 1) (v := .ref (xb 3)) (C := RX1) (T := TX1) (N := 10) hx hb htB inlX1 hown hK hP 0 rfl rfl 3 (by decide) (htB _ kw31) (fun _ h9 => h9) rfl dX1_dragsOf_12 ?_
    obtain rfl := os h
    exact ret_r (v := xb 3) (by split <;> first | rfl | contradiction) hx hb hr (Or.inr ⟨_, rfl⟩) hlocks hP hK hD hS dX1_dragsOf_15
  · have h := it_p c1 h
    refine lv_aload_n hx hb dX1_dragsOf_4 rfl (lv_at hl 0 rfl) ?_
    refine va_get (D := D) (ci := 1) (v := .ref (xb 2)) (C := RX1) (T := TX1) (N := 10) hx hb htB inlX1 hown hK hP 0 rfl rfl 2 (by decide) (htB _ kw30) (fun _ h9 => h9) rfl dX1_dragsOf_5 ?_
    refine lv_goto (tgt := 15) hx hb dX1_dragsOf_8 (by decide) ?_
    obtain rfl := os h
    exact ret_r (v := xb 2) (by split <;> first | rfl | contradiction) hx hb hr (Or.inr ⟨_, rfl⟩) hlocks hP hK hD hS dX1_dragsOf_15
