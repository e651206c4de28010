theorem dX3_thrown_0 : decode cX3_thrown 0 = .ok (.aload_n 0, 1) := by decide +kernel
theorem dX3_thrown_1 : decode cX3_thrown 1 = .ok (.getfield 34, 3) := by decide +kernel
theorem dX3_thrown_4 : decode cX3_thrown 4 = .ok (.ireturn, 1) := by decide +kernel
abbrev zX3_thrown : List Cond := .code yX3_thrown cX3_thrown 1 (some .int) :: BIG
def fX3_thrown (mo : MoT) : Option (Int32) := some mo.2.2.1
set_option maxHeartbeats 4000000 in
set_option maxRecDepth 100000 in
theorem mtX3_thrown (l : Launch) (D : va_G) (t : Nat → ClassId) (mh : Nat) (mb : Nat → Nat) (mo : MoT) (out : Int32) (h : fX3_thrown mo = some out)  (sz : Nat) : Met l yX3_thrown zX3_thrown ({ frames := 0, cells := 0, slots := 0, locals := 0 }) (sPc D t (gMo mh mb mo) sz [.ref mh]) (qI D t (gMo mh mb mo) out (va_A (gMo mh mb mo) sz)) 0 0 (va_A (gMo mh mb mo) sz) := by
  refine met_of (Qf := fun A => qI D t (gMo mh mb mo) out A) (cc := cX3_thrown) (maxL := 1) (ret := some .int) (by decide) rfl (Nat.le_of_ble_eq_true rfl) ?_
  intro p e s m args below meth c A hx hb hr hml hts hown hlocks hA hP hK hD hE hS ls hl
  have htB : ∀ w ∈ BIG, w.before args s = true := fun w h => hts w (List.mem_cons_of_mem _ h)
  have hown : s.vm.findClass RX3 = some m.cls := hown
  have hl : lv_has ls 1 [(0, .ref mh)] := hl
  unfold fX3_thrown at h
  refine lv_aload_n hx hb dX3_thrown_0 rfl (lv_at hl 0 rfl) ?_
  refine va_get (D := D) (ci := 3) (v := .int mo.2.2.1) (C := RX3) (T := TX3) (N := 14) hx hb htB inlX3 hown hK hP 0 rfl rfl 6 (by decide) (htB _ kw114) (fun _ h9 => h9) rfl dX3_thrown_1 ?_
  obtain rfl := os h
  exact ret_i hx hb hr hlocks hP hK hD hS dX3_thrown_4

theorem dX3_fails_0 : decode cX3_fails 0 = .ok (.aload_n 0, 1) := by decide +kernel
theorem dX3_fails_1 : decode cX3_fails 1 = .ok (.iload_n 1, 1) := by decide +kernel
theorem dX3_fails_2 : decode cX3_fails 2 = .ok (.putfield 34, 3) := by decide +kernel
theorem dX3_fails_5 : decode cX3_fails 5 = .ok (.iconst 0, 1) := by decide +kernel
theorem dX3_fails_6 : decode cX3_fails 6 = .ok (.ireturn, 1) := by decide +kernel
abbrev zX3_fails : List Cond := .code yX3_fails cX3_fails 2 (some .int) :: BIG
def fX3_fails (mo : MoT) (i : Int32) : Option (Int32 × MoT) := some (0, (mo.1, mo.2.1, i, mo.2.2.2.1, mo.2.2.2.2.1, mo.2.2.2.2.2))
set_option maxHeartbeats 4000000 in
set_option maxRecDepth 100000 in
theorem mtX3_fails (l : Launch) (D : va_G) (t : Nat → ClassId) (mh : Nat) (mb : Nat → Nat) (mo : MoT) (i : Int32) (out : Int32 × MoT) (h : fX3_fails mo i = some out)  (sz : Nat) : Met l yX3_fails zX3_fails ({ frames := 0, cells := 0, slots := 0, locals := 0 }) (sPc D t (gMo mh mb mo) sz [.ref mh, .int i]) (qI D t (gMo mh mb out.2) out.1 (va_A (gMo mh mb mo) sz)) 0 0 (va_A (gMo mh mb mo) sz) := by
  refine met_of (Qf := fun A => qI D t (gMo mh mb out.2) out.1 A) (cc := cX3_fails) (maxL := 2) (ret := some .int) (by decide) rfl (Nat.le_of_ble_eq_true rfl) ?_
  intro p e s m args below meth c A hx hb hr hml hts hown hlocks hA hP hK hD hE hS ls hl
  have htB : ∀ w ∈ BIG, w.before args s = true := fun w h => hts w (List.mem_cons_of_mem _ h)
  have hown : s.vm.findClass RX3 = some m.cls := hown
  have hl : lv_has ls 2 [(0, .ref mh), (1, .int i)] := hl
  unfold fX3_fails at h
  refine lv_aload_n hx hb dX3_fails_0 rfl (lv_at hl 0 rfl) ?_
  refine lv_iload_n hx hb dX3_fails_1 rfl (lv_at hl 1 rfl) ?_
  refine va_put (D := D) (ci := 3) (v := .int i) (ty := .int) (C := RX3) (T := TX3) (N := 14) hx hb htB inlX3 tyX3 tyX3_ok nmX3 hown hK hP hD hS 0 rfl rfl 6 (by decide) (htB _ kw114) (fun _ h9 => h9) rfl (by decide +kernel) rfl rfl (Nat.le_of_ble_eq_true rfl) dX3_fails_2 (fun H locs hP hD hS => ?_)
  have hP : va_P D vwCl (gMo mh mb (mo.1, mo.2.1, i, mo.2.2.2.1, mo.2.2.2.2.1, mo.2.2.2.2.2)) H := hP
  have hD : va_D A (gMo mh mb (mo.1, mo.2.1, i, mo.2.2.2.1, mo.2.2.2.2.1, mo.2.2.2.2.2)) := hD
  refine lv_iconst (v := 0) hx hb dX3_fails_5 (by decide) ?_
  obtain rfl := os h
  exact ret_i hx hb hr hlocks hP hK hD hS dX3_fails_6

theorem dX3_in_0 : decode cX3_in 0 = .ok (.iload_n 0, 1) := by decide +kernel
theorem dX3_in_1 : decode cX3_in 1 = .ok (.iload_n 1, 1) := by decide +kernel
theorem dX3_in_2 : decode cX3_in 2 = .ok (.if_icmp .lt 12, 3) := by decide +kernel
theorem dX3_in_5 : decode cX3_in 5 = .ok (.iload_n 0, 1) := by decide +kernel
theorem dX3_in_6 : decode cX3_in 6 = .ok (.iload_n 2, 1) := by decide +kernel
theorem dX3_in_7 : decode cX3_in 7 = .ok (.if_icmp .gt 7, 3) := by decide +kernel
theorem dX3_in_10 : decode cX3_in 10 = .ok (.iconst 1, 1) := by decide +kernel
theorem dX3_in_11 : decode cX3_in 11 = .ok (.goto 4, 3) := by decide +kernel
theorem dX3_in_14 : decode cX3_in 14 = .ok (.iconst 0, 1) := by decide +kernel
theorem dX3_in_15 : decode cX3_in 15 = .ok (.ireturn, 1) := by decide +kernel
abbrev zX3_in : List Cond := .code yX3_in cX3_in 3 (some .boolean) :: BIG
def fX3_in (v : Int32) (lo : Int32) (hi : Int32) : Option (Bool) := (if v < lo then some false else (if hi < v then some false else some true))
set_option maxHeartbeats 4000000 in
set_option maxRecDepth 100000 in
theorem mtX3_in (l : Launch) (D : va_G) (t : Nat → ClassId) (v : Int32) (lo : Int32) (hi : Int32) (out : Bool) (h : fX3_in v lo hi = some out)  (sz : Nat) : Met l yX3_in zX3_in ({ frames := 0, cells := 0, slots := 0, locals := 0 }) (sPc D t ([] : va_W) sz [.int v, .int lo, .int hi]) (qI D t ([] : va_W) (b2i out) (va_A ([] : va_W) sz)) 0 0 (va_A ([] : va_W) sz) := by
  refine met_of (Qf := fun A => qI D t ([] : va_W) (b2i out) A) (cc := cX3_in) (maxL := 3) (ret := some .boolean) (by decide) rfl (Nat.le_of_ble_eq_true rfl) ?_
  intro p e s m args below meth c A hx hb hr hml hts hown hlocks hA hP hK hD hE hS ls hl
  have htB : ∀ w ∈ BIG, w.before args s = true := fun w h => hts w (List.mem_cons_of_mem _ h)
  have hown : s.vm.findClass RX3 = some m.cls := hown
  have hl : lv_has ls 3 [(0, .int v), (1, .int lo), (2, .int hi)] := hl
  unfold fX3_in at h
  refine lv_iload_n hx hb dX3_in_0 rfl (lv_at hl 0 rfl) ?_
  refine lv_iload_n hx hb dX3_in_1 rfl (lv_at hl 1 rfl) ?_
  refine lv_icmp_lt (tgt := 14) hx hb dX3_in_2 (by decide) (fun c1 => ?_) (fun c1 => ?_)
  · have h := it_p c1 h
    refine lv_iconst (v := 0) hx hb dX3_in_14 (by decide) ?_
    obtain rfl := os h
    exact ret_z hx hb hr hlocks hP hK hD hS dX3_in_15
  · have h := it_n c1 h
    refine lv_iload_n hx hb dX3_in_5 rfl (lv_at hl 0 rfl) ?_
    refine lv_iload_n hx hb dX3_in_6 rfl (lv_at hl 2 rfl) ?_
    refine lv_icmp_gt (tgt := 14) hx hb dX3_in_7 (by decide) (fun c2 => ?_) (fun c2 => ?_)
    · have h := it_p c2 h
      refine lv_iconst (v := 0) hx hb dX3_in_14 (by decide) ?_
      obtain rfl := os h
      exact ret_z hx hb hr hlocks hP hK hD hS dX3_in_15
    · have h := it_n c2 h
      refine lv_iconst (v := 1) hx hb dX3_in_10 (by decide) ?_
      refine lv_goto (tgt := 15) hx hb dX3_in_11 (by decide) ?_
      obtain rfl := os h
      exact ret_z hx hb hr hlocks hP hK hD hS dX3_in_15

theorem dX3_isCurtain_0 : decode cX3_isCurtain 0 = .ok (.iload_n 0, 1) := by decide +kernel
theorem dX3_isCurtain_1 : decode cX3_isCurtain 1 = .ok (.iconst 0, 1) := by decide +kernel
theorem dX3_isCurtain_2 : decode cX3_isCurtain 2 = .ok (.iconst 1, 1) := by decide +kernel
theorem dX3_isCurtain_3 : decode cX3_isCurtain 3 = .ok (.invokestatic 38, 3) := by decide +kernel
theorem dX3_isCurtain_6 : decode cX3_isCurtain 6 = .ok (.ireturn, 1) := by decide +kernel
abbrev zX3_isCurtain : List Cond := .code yX3_isCurtain cX3_isCurtain 1 (some .boolean) :: BIG
def fX3_isCurtain (v : Int32) : Option (Bool) := (fX3_in v 0 1).bind (fun r1 => some r1)
set_option maxHeartbeats 4000000 in
set_option maxRecDepth 100000 in
theorem mtX3_isCurtain (l : Launch) (D : va_G) (t : Nat → ClassId) (v : Int32) (out : Bool) (h : fX3_isCurtain v = some out)  (sz : Nat) : Met l yX3_isCurtain zX3_isCurtain ({ frames := 1, cells := 0, slots := 0, locals := 22 }) (sPc D t ([] : va_W) sz [.int v]) (qI D t ([] : va_W) (b2i out) (va_A ([] : va_W) sz)) 0 0 (va_A ([] : va_W) sz) := by
  refine met_of (Qf := fun A => qI D t ([] : va_W) (b2i out) A) (cc := cX3_isCurtain) (maxL := 1) (ret := some .boolean) (by decide) rfl (Nat.le_of_ble_eq_true rfl) ?_
  intro p e s m args below meth c A hx hb hr hml hts hown hlocks hA hP hK hD hE hS ls hl
  have htB : ∀ w ∈ BIG, w.before args s = true := fun w h => hts w (List.mem_cons_of_mem _ h)
  have hown : s.vm.findClass RX3 = some m.cls := hown
  have hl : lv_has ls 1 [(0, .int v)] := hl
  unfold fX3_isCurtain at h
  refine lv_iload_n hx hb dX3_isCurtain_0 rfl (lv_at hl 0 rfl) ?_
  refine lv_iconst (v := 0) hx hb dX3_isCurtain_1 (by decide) ?_
  refine lv_iconst (v := 1) hx hb dX3_isCurtain_2 (by decide) ?_
  obtain ⟨r1, h1, h⟩ := ob h
  refine call_i (v := b2i r1) (wc := ([] : va_W)) (wc' := ([] : va_W)) (ws' := ([] : va_W)) (cutB (bs := []) (cs := []) (cs' := []) (bs' := []) [] hP hD hS hA rfl rfl rfl rfl) hS (fun hPc hDc => va_runS (As := [.int v, .int 0, .int 1]) (rest := []) ⟨hx, hb, hml, hown, hts⟩ (mtX3_in l D t v 0 1 r1 h1 _) (va_cwS 3 hts (gBS kw118 kw119 kw5 kw120) rfl rfl rfl (by decide +kernel) ⟨Nat.le_of_ble_eq_true rfl, Nat.le_of_ble_eq_true rfl⟩) (sPc_S hPc hK hDc hE) rfl rfl hl.1 rfl (lv_room (Nat.le_of_ble_eq_true rfl)) dX3_isCurtain_3 ⟨Nat.zero_le _, Nat.zero_le _⟩) (fun H locs hP hD hS => ?_)
  obtain rfl := os h
  exact ret_z hx hb hr hlocks hP hK hD hS dX3_isCurtain_6

theorem dX3_isSpeed_0 : decode cX3_isSpeed 0 = .ok (.iload_n 0, 1) := by decide +kernel
theorem dX3_isSpeed_1 : decode cX3_isSpeed 1 = .ok (.iconst 0, 1) := by decide +kernel
theorem dX3_isSpeed_2 : decode cX3_isSpeed 2 = .ok (.iconst 5, 1) := by decide +kernel
theorem dX3_isSpeed_3 : decode cX3_isSpeed 3 = .ok (.invokestatic 38, 3) := by decide +kernel
theorem dX3_isSpeed_6 : decode cX3_isSpeed 6 = .ok (.ireturn, 1) := by decide +kernel
abbrev zX3_isSpeed : List Cond := .code yX3_isSpeed cX3_isSpeed 1 (some .boolean) :: BIG
def fX3_isSpeed (v : Int32) : Option (Bool) := (fX3_in v 0 5).bind (fun r1 => some r1)
set_option maxHeartbeats 4000000 in
set_option maxRecDepth 100000 in
theorem mtX3_isSpeed (l : Launch) (D : va_G) (t : Nat → ClassId) (v : Int32) (out : Bool) (h : fX3_isSpeed v = some out)  (sz : Nat) : Met l yX3_isSpeed zX3_isSpeed ({ frames := 1, cells := 0, slots := 0, locals := 22 }) (sPc D t ([] : va_W) sz [.int v]) (qI D t ([] : va_W) (b2i out) (va_A ([] : va_W) sz)) 0 0 (va_A ([] : va_W) sz) := by
  refine met_of (Qf := fun A => qI D t ([] : va_W) (b2i out) A) (cc := cX3_isSpeed) (maxL := 1) (ret := some .boolean) (by decide) rfl (Nat.le_of_ble_eq_true rfl) ?_
  intro p e s m args below meth c A hx hb hr hml hts hown hlocks hA hP hK hD hE hS ls hl
  have htB : ∀ w ∈ BIG, w.before args s = true := fun w h => hts w (List.mem_cons_of_mem _ h)
  have hown : s.vm.findClass RX3 = some m.cls := hown
  have hl : lv_has ls 1 [(0, .int v)] := hl
  unfold fX3_isSpeed at h
  refine lv_iload_n hx hb dX3_isSpeed_0 rfl (lv_at hl 0 rfl) ?_
  refine lv_iconst (v := 0) hx hb dX3_isSpeed_1 (by decide) ?_
  refine lv_iconst (v := 5) hx hb dX3_isSpeed_2 (by decide) ?_
  obtain ⟨r1, h1, h⟩ := ob h
  refine call_i (v := b2i r1) (wc := ([] : va_W)) (wc' := ([] : va_W)) (ws' := ([] : va_W)) (cutB (bs := []) (cs := []) (cs' := []) (bs' := []) [] hP hD hS hA rfl rfl rfl rfl) hS (fun hPc hDc => va_runS (As := [.int v, .int 0, .int 5]) (rest := []) ⟨hx, hb, hml, hown, hts⟩ (mtX3_in l D t v 0 5 r1 h1 _) (va_cwS 3 hts (gBS kw118 kw119 kw5 kw120) rfl rfl rfl (by decide +kernel) ⟨Nat.le_of_ble_eq_true rfl, Nat.le_of_ble_eq_true rfl⟩) (sPc_S hPc hK hDc hE) rfl rfl hl.1 rfl (lv_room (Nat.le_of_ble_eq_true rfl)) dX3_isSpeed_3 ⟨Nat.zero_le _, Nat.zero_le _⟩) (fun H locs hP hD hS => ?_)
  obtain rfl := os h
  exact ret_z hx hb hr hlocks hP hK hD hS dX3_isSpeed_6

theorem dX3_isColumn_0 : decode cX3_isColumn 0 = .ok (.iload_n 0, 1) := by decide +kernel
theorem dX3_isColumn_1 : decode cX3_isColumn 1 = .ok (.iconst 0, 1) := by decide +kernel
theorem dX3_isColumn_2 : decode cX3_isColumn 2 = .ok (.bipush 23, 2) := by decide +kernel
theorem dX3_isColumn_4 : decode cX3_isColumn 4 = .ok (.invokestatic 38, 3) := by decide +kernel
theorem dX3_isColumn_7 : decode cX3_isColumn 7 = .ok (.ireturn, 1) := by decide +kernel
abbrev zX3_isColumn : List Cond := .code yX3_isColumn cX3_isColumn 1 (some .boolean) :: BIG
def fX3_isColumn (v : Int32) : Option (Bool) := (fX3_in v 0 23).bind (fun r1 => some r1)
set_option maxHeartbeats 4000000 in
set_option maxRecDepth 100000 in
theorem mtX3_isColumn (l : Launch) (D : va_G) (t : Nat → ClassId) (v : Int32) (out : Bool) (h : fX3_isColumn v = some out)  (sz : Nat) : Met l yX3_isColumn zX3_isColumn ({ frames := 1, cells := 0, slots := 0, locals := 22 }) (sPc D t ([] : va_W) sz [.int v]) (qI D t ([] : va_W) (b2i out) (va_A ([] : va_W) sz)) 0 0 (va_A ([] : va_W) sz) := by
  refine met_of (Qf := fun A => qI D t ([] : va_W) (b2i out) A) (cc := cX3_isColumn) (maxL := 1) (ret := some .boolean) (by decide) rfl (Nat.le_of_ble_eq_true rfl) ?_
  intro p e s m args below meth c A hx hb hr hml hts hown hlocks hA hP hK hD hE hS ls hl
  have htB : ∀ w ∈ BIG, w.before args s = true := fun w h => hts w (List.mem_cons_of_mem _ h)
  have hown : s.vm.findClass RX3 = some m.cls := hown
  have hl : lv_has ls 1 [(0, .int v)] := hl
  unfold fX3_isColumn at h
  refine lv_iload_n hx hb dX3_isColumn_0 rfl (lv_at hl 0 rfl) ?_
  refine lv_iconst (v := 0) hx hb dX3_isColumn_1 (by decide) ?_
  refine lv_bipush (v := 23) hx hb dX3_isColumn_2 (by decide) ?_
  obtain ⟨r1, h1, h⟩ := ob h
  refine call_i (v := b2i r1) (wc := ([] : va_W)) (wc' := ([] : va_W)) (ws' := ([] : va_W)) (cutB (bs := []) (cs := []) (cs' := []) (bs' := []) [] hP hD hS hA rfl rfl rfl rfl) hS (fun hPc hDc => va_runS (As := [.int v, .int 0, .int 23]) (rest := []) ⟨hx, hb, hml, hown, hts⟩ (mtX3_in l D t v 0 23 r1 h1 _) (va_cwS 3 hts (gBS kw118 kw119 kw5 kw120) rfl rfl rfl (by decide +kernel) ⟨Nat.le_of_ble_eq_true rfl, Nat.le_of_ble_eq_true rfl⟩) (sPc_S hPc hK hDc hE) rfl rfl hl.1 rfl (lv_room (Nat.le_of_ble_eq_true rfl)) dX3_isColumn_4 ⟨Nat.zero_le _, Nat.zero_le _⟩) (fun H locs hP hD hS => ?_)
  obtain rfl := os h
  exact ret_z hx hb hr hlocks hP hK hD hS dX3_isColumn_7

theorem dX3_wanted_0 : decode cX3_wanted 0 = .ok (.bipush 20, 2) := by decide +kernel
theorem dX3_wanted_2 : decode cX3_wanted 2 = .ok (.iload_n 0, 1) := by decide +kernel
theorem dX3_wanted_3 : decode cX3_wanted 3 = .ok (.ishl, 1) := by decide +kernel
theorem dX3_wanted_4 : decode cX3_wanted 4 = .ok (.ireturn, 1) := by decide +kernel
abbrev zX3_wanted : List Cond := .code yX3_wanted cX3_wanted 1 (some .int) :: BIG
def fX3_wanted (v : Int32) : Option (Int32) := some (20 <<< (v &&& 31))
set_option maxHeartbeats 4000000 in
set_option maxRecDepth 100000 in
theorem mtX3_wanted (l : Launch) (D : va_G) (t : Nat → ClassId) (v : Int32) (out : Int32) (h : fX3_wanted v = some out)  (sz : Nat) : Met l yX3_wanted zX3_wanted ({ frames := 0, cells := 0, slots := 0, locals := 0 }) (sPc D t ([] : va_W) sz [.int v]) (qI D t ([] : va_W) out (va_A ([] : va_W) sz)) 0 0 (va_A ([] : va_W) sz) := by
  refine met_of (Qf := fun A => qI D t ([] : va_W) out A) (cc := cX3_wanted) (maxL := 1) (ret := some .int) (by decide) rfl (Nat.le_of_ble_eq_true rfl) ?_
  intro p e s m args below meth c A hx hb hr hml hts hown hlocks hA hP hK hD hE hS ls hl
  have htB : ∀ w ∈ BIG, w.before args s = true := fun w h => hts w (List.mem_cons_of_mem _ h)
  have hown : s.vm.findClass RX3 = some m.cls := hown
  have hl : lv_has ls 1 [(0, .int v)] := hl
  unfold fX3_wanted at h
  refine lv_bipush (v := 20) hx hb dX3_wanted_0 (by decide) ?_
  refine lv_iload_n hx hb dX3_wanted_2 rfl (lv_at hl 0 rfl) ?_
  refine lv_ishl hx hb dX3_wanted_3 ?_
  obtain rfl := os h
  exact ret_i hx hb hr hlocks hP hK hD hS dX3_wanted_4

theorem dX3_size_0 : decode cX3_size 0 = .ok (.iload_n 0, 1) := by decide +kernel
theorem dX3_size_1 : decode cX3_size 1 = .ok (.ifCond .ge 8, 3) := by decide +kernel
theorem dX3_size_4 : decode cX3_size 4 = .ok (.iload_n 0, 1) := by decide +kernel
theorem dX3_size_5 : decode cX3_size 5 = .ok (.ineg, 1) := by decide +kernel
theorem dX3_size_6 : decode cX3_size 6 = .ok (.goto 4, 3) := by decide +kernel
theorem dX3_size_9 : decode cX3_size 9 = .ok (.iload_n 0, 1) := by decide +kernel
theorem dX3_size_10 : decode cX3_size 10 = .ok (.ireturn, 1) := by decide +kernel
abbrev zX3_size : List Cond := .code yX3_size cX3_size 1 (some .int) :: BIG
def fX3_size (v : Int32) : Option (Int32) := (if 0 ≤ v then some v else some (-v))
set_option maxHeartbeats 4000000 in
set_option maxRecDepth 100000 in
theorem mtX3_size (l : Launch) (D : va_G) (t : Nat → ClassId) (v : Int32) (out : Int32) (h : fX3_size v = some out)  (sz : Nat) : Met l yX3_size zX3_size ({ frames := 0, cells := 0, slots := 0, locals := 0 }) (sPc D t ([] : va_W) sz [.int v]) (qI D t ([] : va_W) out (va_A ([] : va_W) sz)) 0 0 (va_A ([] : va_W) sz) := by
  refine met_of (Qf := fun A => qI D t ([] : va_W) out A) (cc := cX3_size) (maxL := 1) (ret := some .int) (by decide) rfl (Nat.le_of_ble_eq_true rfl) ?_
  intro p e s m args below meth c A hx hb hr hml hts hown hlocks hA hP hK hD hE hS ls hl
  have htB : ∀ w ∈ BIG, w.before args s = true := fun w h => hts w (List.mem_cons_of_mem _ h)
  have hown : s.vm.findClass RX3 = some m.cls := hown
  have hl : lv_has ls 1 [(0, .int v)] := hl
  unfold fX3_size at h
  refine lv_iload_n hx hb dX3_size_0 rfl (lv_at hl 0 rfl) ?_
  refine lv_if_ge (tgt := 9) hx hb dX3_size_1 (by decide) (fun c1 => ?_) (fun c1 => ?_)
  · have h := it_p c1 h
    refine lv_iload_n hx hb dX3_size_9 rfl (lv_at hl 0 rfl) ?_
    obtain rfl := os h
    exact ret_i hx hb hr hlocks hP hK hD hS dX3_size_10
  · have h := it_n c1 h
    refine lv_iload_n hx hb dX3_size_4 rfl (lv_at hl 0 rfl) ?_
    refine lv_ineg hx hb dX3_size_5 ?_
    refine lv_goto (tgt := 10) hx hb dX3_size_6 (by decide) ?_
    obtain rfl := os h
    exact ret_i hx hb hr hlocks hP hK hD hS dX3_size_10

theorem dX3_isFor_0 : decode cX3_isFor 0 = .ok (.iload_n 1, 1) := by decide +kernel
theorem dX3_isFor_1 : decode cX3_isFor 1 = .ok (.iload_n 0, 1) := by decide +kernel
theorem dX3_isFor_2 : decode cX3_isFor 2 = .ok (.iconst 1, 1) := by decide +kernel
theorem dX3_isFor_3 : decode cX3_isFor 3 = .ok (.if_icmp .eq 8, 3) := by decide +kernel
theorem dX3_isFor_6 : decode cX3_isFor 6 = .ok (.iload_n 0, 1) := by decide +kernel
theorem dX3_isFor_7 : decode cX3_isFor 7 = .ok (.iconst 3, 1) := by decide +kernel
theorem dX3_isFor_8 : decode cX3_isFor 8 = .ok (.if_icmp .ne 7, 3) := by decide +kernel
theorem dX3_isFor_11 : decode cX3_isFor 11 = .ok (.iconst 1, 1) := by decide +kernel
theorem dX3_isFor_12 : decode cX3_isFor 12 = .ok (.goto 4, 3) := by decide +kernel
theorem dX3_isFor_15 : decode cX3_isFor 15 = .ok (.iconst 0, 1) := by decide +kernel
theorem dX3_isFor_16 : decode cX3_isFor 16 = .ok (.iload_n 0, 1) := by decide +kernel
theorem dX3_isFor_17 : decode cX3_isFor 17 = .ok (.ifCond .ne 8, 3) := by decide +kernel
theorem dX3_isFor_20 : decode cX3_isFor 20 = .ok (.bipush 20, 2) := by decide +kernel
theorem dX3_isFor_22 : decode cX3_isFor 22 = .ok (.goto 16, 3) := by decide +kernel
theorem dX3_isFor_25 : decode cX3_isFor 25 = .ok (.iload_n 0, 1) := by decide +kernel
theorem dX3_isFor_26 : decode cX3_isFor 26 = .ok (.iconst 2, 1) := by decide +kernel
theorem dX3_isFor_27 : decode cX3_isFor 27 = .ok (.if_icmp .ne 9, 3) := by decide +kernel
theorem dX3_isFor_30 : decode cX3_isFor 30 = .ok (.sipush 200, 3) := by decide +kernel
theorem dX3_isFor_33 : decode cX3_isFor 33 = .ok (.goto 5, 3) := by decide +kernel
theorem dX3_isFor_36 : decode cX3_isFor 36 = .ok (.bipush 99, 2) := by decide +kernel
theorem dX3_isFor_38 : decode cX3_isFor 38 = .ok (.invokestatic 38, 3) := by decide +kernel
theorem dX3_isFor_41 : decode cX3_isFor 41 = .ok (.ireturn, 1) := by decide +kernel
abbrev zX3_isFor : List Cond := .code yX3_isFor cX3_isFor 2 (some .boolean) :: BIG
def fX3_isFor_j16   (v16 : Int32 × Int32 × Int32) : Option (Bool) := (if v16.1 = 0 then (fX3_in v16.2.2 v16.2.1 20).bind (fun r7 => some r7) else (if v16.1 = 2 then (fX3_in v16.2.2 v16.2.1 200).bind (fun r6 => some r6) else (fX3_in v16.2.2 v16.2.1 99).bind (fun r5 => some r5)))
def fX3_isFor (v : Int32) (w : Int32) : Option (Bool) := (if v = 1 then fX3_isFor_j16 (v, 1, w) else (if v = 3 then fX3_isFor_j16 (v, 1, w) else fX3_isFor_j16 (v, 0, w)))
set_option maxHeartbeats 4000000 in
set_option maxRecDepth 100000 in
theorem mtX3_isFor (l : Launch) (D : va_G) (t : Nat → ClassId) (v : Int32) (w : Int32) (out : Bool) (h : fX3_isFor v w = some out)  (sz : Nat) : Met l yX3_isFor zX3_isFor ({ frames := 1, cells := 0, slots := 0, locals := 22 }) (sPc D t ([] : va_W) sz [.int v, .int w]) (qI D t ([] : va_W) (b2i out) (va_A ([] : va_W) sz)) 0 0 (va_A ([] : va_W) sz) := by
  refine met_of (Qf := fun A => qI D t ([] : va_W) (b2i out) A) (cc := cX3_isFor) (maxL := 2) (ret := some .boolean) (by decide) rfl (Nat.le_of_ble_eq_true rfl) ?_
  intro p e s m args below meth c A hx hb hr hml hts hown hlocks hA hP hK hD hE hS ls hl
  have htB : ∀ w ∈ BIG, w.before args s = true := fun w h => hts w (List.mem_cons_of_mem _ h)
  have hown : s.vm.findClass RX3 = some m.cls := hown
  have hl : lv_has ls 2 [(0, .int v), (1, .int w)] := hl
  unfold fX3_isFor at h
  have J16 : ∀ v16 : Int32 × Int32 × Int32, fX3_isFor_j16 v16 = some out → ∀ (H : Heap) (locs : List Loc), va_P D vwCl ([] : va_W) H → va_D A ([] : va_W) → va_S A s.heap H locs → ∀ ls : Array Slot, lv_has ls 2 [(0, .int v16.1)] → W p l e ({ frames := 1, cells := 0, slots := 0, locals := 22 }) s m args below meth c H locs 0 0 (MQ below (qI D t ([] : va_W) (b2i out) A) args s 0 0 A) (F0 m 16 ls [.int v16.2.1, .int v16.2.2]) := by
    intro v16 h H locs hP hD hS ls hl
    unfold fX3_isFor_j16 at h
    refine lv_iload_n hx hb dX3_isFor_16 rfl (lv_at hl 0 rfl) ?_
    refine lv_if_ne (tgt := 25) hx hb dX3_isFor_17 (by decide) (fun c3 => ?_) (fun c3 => ?_)
    · have h := it_n c3 h
      refine lv_iload_n hx hb dX3_isFor_25 rfl (lv_at hl 0 rfl) ?_
      refine lv_iconst (v := 2) hx hb dX3_isFor_26 (by decide) ?_
      refine lv_icmp_ne (tgt := 36) hx hb dX3_isFor_27 (by decide) (fun c4 => ?_) (fun c4 => ?_)
      · have h := it_n c4 h
        refine lv_bipush (v := 99) hx hb dX3_isFor_36 (by decide) ?_
        obtain ⟨r5, h5, h⟩ := ob h
        refine call_i (v := b2i r5) (wc := ([] : va_W)) (wc' := ([] : va_W)) (ws' := ([] : va_W)) (cutB (bs := []) (cs := []) (cs' := []) (bs' := []) [] hP hD hS hA rfl rfl rfl rfl) hS (fun hPc hDc => va_runS (As := [.int v16.2.2, .int v16.2.1, .int 99]) (rest := []) ⟨hx, hb, hml, hown, hts⟩ (mtX3_in l D t v16.2.2 v16.2.1 99 r5 h5 _) (va_cwS 3 hts (gBS kw118 kw119 kw5 kw120) rfl rfl rfl (by decide +kernel) ⟨Nat.le_of_ble_eq_true rfl, Nat.le_of_ble_eq_true rfl⟩) (sPc_S hPc hK hDc hE) rfl rfl hl.1 rfl (lv_room (Nat.le_of_ble_eq_true rfl)) dX3_isFor_38 ⟨Nat.zero_le _, Nat.zero_le _⟩) (fun H locs hP hD hS => ?_)
        obtain rfl := os h
        exact ret_z hx hb hr hlocks hP hK hD hS dX3_isFor_41
      · have h := it_p c4 h
        refine lv_sipush (v := 200) hx hb dX3_isFor_30 (by decide) ?_
        refine lv_goto (tgt := 38) hx hb dX3_isFor_33 (by decide) ?_
        obtain ⟨r6, h6, h⟩ := ob h
        refine call_i (v := b2i r6) (wc := ([] : va_W)) (wc' := ([] : va_W)) (ws' := ([] : va_W)) (cutB (bs := []) (cs := []) (cs' := []) (bs' := []) [] hP hD hS hA rfl rfl rfl rfl) hS (fun hPc hDc => va_runS (As := [.int v16.2.2, .int v16.2.1, .int 200]) (rest := []) ⟨hx, hb, hml, hown, hts⟩ (mtX3_in l D t v16.2.2 v16.2.1 200 r6 h6 _) (va_cwS 3 hts (gBS kw118 kw119 kw5 kw120) rfl rfl rfl (by decide +kernel) ⟨Nat.le_of_ble_eq_true rfl, Nat.le_of_ble_eq_true rfl⟩) (sPc_S hPc hK hDc hE) rfl rfl hl.1 rfl (lv_room (Nat.le_of_ble_eq_true rfl)) dX3_isFor_38 ⟨Nat.zero_le _, Nat.zero_le _⟩) (fun H locs hP hD hS => ?_)
        obtain rfl := os h
        exact ret_z hx hb hr hlocks hP hK hD hS dX3_isFor_41
    · have h := it_p c3 h
      refine lv_bipush (v := 20) hx hb dX3_isFor_20 (by decide) ?_
      refine lv_goto (tgt := 38) hx hb dX3_isFor_22 (by decide) ?_
      obtain ⟨r7, h7, h⟩ := ob h
      refine call_i (v := b2i r7) (wc := ([] : va_W)) (wc' := ([] : va_W)) (ws' := ([] : va_W)) (cutB (bs := []) (cs := []) (cs' := []) (bs' := []) [] hP hD hS hA rfl rfl rfl rfl) hS (fun hPc hDc => va_runS (As := [.int v16.2.2, .int v16.2.1, .int 20]) (rest := []) ⟨hx, hb, hml, hown, hts⟩ (mtX3_in l D t v16.2.2 v16.2.1 20 r7 h7 _) (va_cwS 3 hts (gBS kw118 kw119 kw5 kw120) rfl rfl rfl (by decide +kernel) ⟨Nat.le_of_ble_eq_true rfl, Nat.le_of_ble_eq_true rfl⟩) (sPc_S hPc hK hDc hE) rfl rfl hl.1 rfl (lv_room (Nat.le_of_ble_eq_true rfl)) dX3_isFor_38 ⟨Nat.zero_le _, Nat.zero_le _⟩) (fun H locs hP hD hS => ?_)
      obtain rfl := os h
      exact ret_z hx hb hr hlocks hP hK hD hS dX3_isFor_41
  refine lv_iload_n hx hb dX3_isFor_0 rfl (lv_at hl 1 rfl) ?_
  refine lv_iload_n hx hb dX3_isFor_1 rfl (lv_at hl 0 rfl) ?_
  refine lv_iconst (v := 1) hx hb dX3_isFor_2 (by decide) ?_
  refine lv_icmp_eq (tgt := 11) hx hb dX3_isFor_3 (by decide) (fun c1 => ?_) (fun c1 => ?_)
  · have h := it_p c1 h
    refine lv_iconst (v := 1) hx hb dX3_isFor_11 (by decide) ?_
    refine lv_goto (tgt := 16) hx hb dX3_isFor_12 (by decide) ?_
    exact J16 (v, 1, w) h _ _ hP hD hS _ (lv_sub hl [0] rfl)
  · have h := it_n c1 h
    refine lv_iload_n hx hb dX3_isFor_6 rfl (lv_at hl 0 rfl) ?_
    refine lv_iconst (v := 3) hx hb dX3_isFor_7 (by decide) ?_
    refine lv_icmp_ne (tgt := 15) hx hb dX3_isFor_8 (by decide) (fun c2 => ?_) (fun c2 => ?_)
    · have h := it_n c2 h
      refine lv_iconst (v := 0) hx hb dX3_isFor_15 (by decide) ?_
      exact J16 (v, 0, w) h _ _ hP hD hS _ (lv_sub hl [0] rfl)
    · have h := it_p c2 h
      refine lv_iconst (v := 1) hx hb dX3_isFor_11 (by decide) ?_
      refine lv_goto (tgt := 16) hx hb dX3_isFor_12 (by decide) ?_
      exact J16 (v, 1, w) h _ _ hP hD hS _ (lv_sub hl [0] rfl)

theorem dX3_copies_0 : decode cX3_copies 0 = .ok (.iconst 0, 1) := by decide +kernel
theorem dX3_copies_1 : decode cX3_copies 1 = .ok (.istore 4, 2) := by decide +kernel
theorem dX3_copies_3 : decode cX3_copies 3 = .ok (.iload 4, 2) := by decide +kernel
theorem dX3_copies_5 : decode cX3_copies 5 = .ok (.bipush 71, 2) := by decide +kernel
theorem dX3_copies_7 : decode cX3_copies 7 = .ok (.if_icmp .ge 21, 3) := by decide +kernel
theorem dX3_copies_10 : decode cX3_copies 10 = .ok (.aload_n 2, 1) := by decide +kernel
theorem dX3_copies_11 : decode cX3_copies 11 = .ok (.iload_n 3, 1) := by decide +kernel
theorem dX3_copies_12 : decode cX3_copies 12 = .ok (.iload 4, 2) := by decide +kernel
theorem dX3_copies_14 : decode cX3_copies 14 = .ok (.iadd, 1) := by decide +kernel
theorem dX3_copies_15 : decode cX3_copies 15 = .ok (.aload_n 0, 1) := by decide +kernel
theorem dX3_copies_16 : decode cX3_copies 16 = .ok (.iload_n 1, 1) := by decide +kernel
theorem dX3_copies_17 : decode cX3_copies 17 = .ok (.iload 4, 2) := by decide +kernel
theorem dX3_copies_19 : decode cX3_copies 19 = .ok (.iadd, 1) := by decide +kernel
theorem dX3_copies_20 : decode cX3_copies 20 = .ok (.iaload, 1) := by decide +kernel
theorem dX3_copies_21 : decode cX3_copies 21 = .ok (.iastore, 1) := by decide +kernel
theorem dX3_copies_22 : decode cX3_copies 22 = .ok (.iinc 4 1, 3) := by decide +kernel
theorem dX3_copies_25 : decode cX3_copies 25 = .ok (.goto (-22), 3) := by decide +kernel
theorem dX3_copies_28 : decode cX3_copies 28 = .ok (.return_, 1) := by decide +kernel
abbrev zX3_copies : List Cond := .code yX3_copies cX3_copies 5 none :: BIG
def fX3_copies_l3 (n : Nat) (fr : (Nat → Int32)) (nc : Nat)  (K3 : ((Nat → Int32) × Int32 × Int32 × Int32) → Option ((Nat → Int32))) (v3 : (Nat → Int32) × Int32 × Int32 × Int32) : Option ((Nat → Int32)) := (if 71 ≤ v3.2.2.2 then some v3.1 else gd (pin (v3.2.1 + v3.2.2.2) n) (gd (pin (v3.2.2.1 + v3.2.2.2) nc) (K3 ((upd v3.1 (Int32.toNatClampNeg (v3.2.2.1 + v3.2.2.2)) (fr (Int32.toNatClampNeg (v3.2.1 + v3.2.2.2)))), v3.2.1, v3.2.2.1, v3.2.2.2 + 1))))
def fX3_copies (n : Nat) (fr : (Nat → Int32)) (nc : Nat) (to : (Nat → Int32)) (i : Int32) (j : Int32) : Option ((Nat → Int32)) := lp (fX3_copies_l3 n fr nc) 2000 (to, i, j, 0)
set_option maxHeartbeats 4000000 in
set_option maxRecDepth 100000 in
theorem mtX3_copies (l : Launch) (D : va_G) (t : Nat → ClassId) (fra : Nat) (n : Nat) (fr : (Nat → Int32)) (toa : Nat) (nc : Nat) (to : (Nat → Int32)) (i : Int32) (j : Int32) (out : (Nat → Int32)) (h : fX3_copies n fr nc to i j = some out) (n_lt : n < 2 ^ 31) (nc_lt : nc < 2 ^ 31) (sz : Nat) : Met l yX3_copies zX3_copies ({ frames := 0, cells := 0, slots := 0, locals := 0 }) (sPc D t (gA t fra n fr ++ (gA t toa nc to)) sz [.ref fra, .int i, .ref toa, .int j]) (qV D t (gA t fra n fr ++ (gA t toa nc out)) (va_A (gA t fra n fr ++ (gA t toa nc to)) sz)) 0 0 (va_A (gA t fra n fr ++ (gA t toa nc to)) sz) := by
  refine met_of (Qf := fun A => qV D t (gA t fra n fr ++ (gA t toa nc out)) A) (cc := cX3_copies) (maxL := 5) (ret := none) (by decide) rfl (Nat.le_of_ble_eq_true rfl) ?_
  intro p e s m args below meth c A hx hb hr hml hts hown hlocks hA hP hK hD hE hS ls hl
  have htB : ∀ w ∈ BIG, w.before args s = true := fun w h => hts w (List.mem_cons_of_mem _ h)
  have hown : s.vm.findClass RX3 = some m.cls := hown
  have hl : lv_has ls 5 [(0, .ref fra), (1, .int i), (2, .ref toa), (3, .int j)] := hl
  unfold fX3_copies at h
  have J3 : ∀ (fu3 : Nat) (v3 : (Nat → Int32) × Int32 × Int32 × Int32), lp (fX3_copies_l3 n fr nc) fu3 v3 = some out → ∀ (H : Heap) (locs : List Loc), va_P D vwCl (gA t fra n fr ++ (gA t toa nc v3.1)) H → va_D A (gA t fra n fr ++ (gA t toa nc v3.1)) → va_S A s.heap H locs → ∀ ls : Array Slot, lv_has ls 5 [(0, .ref fra), (1, .int v3.2.1), (2, .ref toa), (3, .int v3.2.2.1), (4, .int v3.2.2.2)] → W p l e ({ frames := 0, cells := 0, slots := 0, locals := 0 }) s m args below meth c H locs 0 0 (MQ below (qV D t (gA t fra n fr ++ (gA t toa nc out)) A) args s 0 0 A) (F0 m 3 ls []) := by
    intro fu3
    induction fu3 with
    | zero => intro v3 h; cases h
    | succ fu3 ih3 =>
      intro v3 h H locs hP hD hS ls hl
      have h : fX3_copies_l3 n fr nc (lp (fX3_copies_l3 n fr nc) fu3) v3 = some out := h
      unfold fX3_copies_l3 at h
      refine lv_iload hx hb dX3_copies_3 (lv_at hl 4 rfl) ?_
      refine lv_bipush (v := 71) hx hb dX3_copies_5 (by decide) ?_
      refine lv_icmp_ge (tgt := 28) hx hb dX3_copies_7 (by decide) (fun c1 => ?_) (fun c1 => ?_)
      · have h := it_p c1 h
        obtain rfl := os h
        exact ret_v hx hb hr hlocks hP hK hD hS dX3_copies_28
      · have h := it_n c1 h
        refine lv_aload_n hx hb dX3_copies_10 rfl (lv_at hl 2 rfl) ?_
        refine lv_iload_n hx hb dX3_copies_11 rfl (lv_at hl 3 rfl) ?_
        refine lv_iload hx hb dX3_copies_12 (lv_at hl 4 rfl) ?_
        refine lv_iadd hx hb dX3_copies_14 ?_
        refine lv_aload_n hx hb dX3_copies_15 rfl (lv_at hl 0 rfl) ?_
        refine lv_iload_n hx hb dX3_copies_16 rfl (lv_at hl 1 rfl) ?_
        refine lv_iload hx hb dX3_copies_17 (lv_at hl 4 rfl) ?_
        refine lv_iadd hx hb dX3_copies_19 ?_
        obtain ⟨g2, h⟩ := og h
        refine va_iald hx hb hK hP 0 0 rfl rfl (pin_in g2) dX3_copies_20 ?_
        obtain ⟨g3, h⟩ := og h
        refine va_iast hx hb hK hP hD hS 1 0 rfl rfl (pin_in g3) dX3_copies_21 (fun H locs hP hD hS => ?_)
        have hP : va_P D vwCl (gA t fra n fr ++ (gA t toa nc (upd v3.1 (Int32.toNatClampNeg (v3.2.2.1 + v3.2.2.2)) (fr (Int32.toNatClampNeg (v3.2.1 + v3.2.2.2)))))) H := hP
        have hD : va_D A (gA t fra n fr ++ (gA t toa nc (upd v3.1 (Int32.toNatClampNeg (v3.2.2.1 + v3.2.2.2)) (fr (Int32.toNatClampNeg (v3.2.1 + v3.2.2.2)))))) := hD
        refine lv_iinc (v := v3.2.2.2 + 1) (lv' := [(4, .int (v3.2.2.2 + 1)), (0, .ref fra), (1, .int v3.2.1), (2, .ref toa), (3, .int v3.2.2.1)]) hx hb dX3_copies_22 hl (k := 4) rfl rfl (by decide) rfl (fun ls hl => ?_)
        refine lv_goto (tgt := 3) hx hb dX3_copies_25 (by decide) ?_
        exact ih3 ((upd v3.1 (Int32.toNatClampNeg (v3.2.2.1 + v3.2.2.2)) (fr (Int32.toNatClampNeg (v3.2.1 + v3.2.2.2)))), v3.2.1, v3.2.2.1, v3.2.2.2 + 1) h _ _ hP hD hS _ (lv_sub hl [1, 2, 3, 4, 0] rfl)
  refine lv_iconst (v := 0) hx hb dX3_copies_0 (by decide) ?_
  refine lv_istore (lv' := [(4, .int 0), (0, .ref fra), (1, .int i), (2, .ref toa), (3, .int j)]) hx hb dX3_copies_1 hl (by decide) rfl (fun ls hl => ?_)
  exact J3 2000 (to, i, j, 0) h _ _ hP hD hS _ (lv_sub hl [1, 2, 3, 4, 0] rfl)

theorem dX3_saves_0 : decode cX3_saves 0 = .ok (.aload_n 0, 1) := by decide +kernel
theorem dX3_saves_1 : decode cX3_saves 1 = .ok (.getfield 42, 3) := by decide +kernel
theorem dX3_saves_4 : decode cX3_saves 4 = .ok (.bipush 6, 2) := by decide +kernel
theorem dX3_saves_6 : decode cX3_saves 6 = .ok (.if_icmp .ne 43, 3) := by decide +kernel
theorem dX3_saves_9 : decode cX3_saves 9 = .ok (.iconst 0, 1) := by decide +kernel
theorem dX3_saves_10 : decode cX3_saves 10 = .ok (.istore_n 1, 1) := by decide +kernel
theorem dX3_saves_11 : decode cX3_saves 11 = .ok (.iload_n 1, 1) := by decide +kernel
theorem dX3_saves_12 : decode cX3_saves 12 = .ok (.sipush 355, 3) := by decide +kernel
theorem dX3_saves_15 : decode cX3_saves 15 = .ok (.if_icmp .ge 24, 3) := by decide +kernel
theorem dX3_saves_18 : decode cX3_saves 18 = .ok (.aload_n 0, 1) := by decide +kernel
theorem dX3_saves_19 : decode cX3_saves 19 = .ok (.getfield 16, 3) := by decide +kernel
theorem dX3_saves_22 : decode cX3_saves 22 = .ok (.iload_n 1, 1) := by decide +kernel
theorem dX3_saves_23 : decode cX3_saves 23 = .ok (.aload_n 0, 1) := by decide +kernel
theorem dX3_saves_24 : decode cX3_saves 24 = .ok (.getfield 16, 3) := by decide +kernel
theorem dX3_saves_27 : decode cX3_saves 27 = .ok (.iload_n 1, 1) := by decide +kernel
theorem dX3_saves_28 : decode cX3_saves 28 = .ok (.bipush 71, 2) := by decide +kernel
theorem dX3_saves_30 : decode cX3_saves 30 = .ok (.iadd, 1) := by decide +kernel
theorem dX3_saves_31 : decode cX3_saves 31 = .ok (.iaload, 1) := by decide +kernel
theorem dX3_saves_32 : decode cX3_saves 32 = .ok (.iastore, 1) := by decide +kernel
theorem dX3_saves_33 : decode cX3_saves 33 = .ok (.iinc 1 1, 3) := by decide +kernel
theorem dX3_saves_36 : decode cX3_saves 36 = .ok (.goto (-25), 3) := by decide +kernel
theorem dX3_saves_39 : decode cX3_saves 39 = .ok (.aload_n 0, 1) := by decide +kernel
theorem dX3_saves_40 : decode cX3_saves 40 = .ok (.dup, 1) := by decide +kernel
theorem dX3_saves_41 : decode cX3_saves 41 = .ok (.getfield 42, 3) := by decide +kernel
theorem dX3_saves_44 : decode cX3_saves 44 = .ok (.iconst 1, 1) := by decide +kernel
theorem dX3_saves_45 : decode cX3_saves 45 = .ok (.isub, 1) := by decide +kernel
theorem dX3_saves_46 : decode cX3_saves 46 = .ok (.putfield 42, 3) := by decide +kernel
theorem dX3_saves_49 : decode cX3_saves 49 = .ok (.aload_n 0, 1) := by decide +kernel
theorem dX3_saves_50 : decode cX3_saves 50 = .ok (.getfield 7, 3) := by decide +kernel
theorem dX3_saves_53 : decode cX3_saves 53 = .ok (.iconst 0, 1) := by decide +kernel
theorem dX3_saves_54 : decode cX3_saves 54 = .ok (.aload_n 0, 1) := by decide +kernel
theorem dX3_saves_55 : decode cX3_saves 55 = .ok (.getfield 16, 3) := by decide +kernel
theorem dX3_saves_58 : decode cX3_saves 58 = .ok (.bipush 71, 2) := by decide +kernel
theorem dX3_saves_60 : decode cX3_saves 60 = .ok (.aload_n 0, 1) := by decide +kernel
theorem dX3_saves_61 : decode cX3_saves 61 = .ok (.getfield 42, 3) := by decide +kernel
theorem dX3_saves_64 : decode cX3_saves 64 = .ok (.imul, 1) := by decide +kernel
theorem dX3_saves_65 : decode cX3_saves 65 = .ok (.invokestatic 45, 3) := by decide +kernel
theorem dX3_saves_68 : decode cX3_saves 68 = .ok (.aload_n 0, 1) := by decide +kernel
theorem dX3_saves_69 : decode cX3_saves 69 = .ok (.dup, 1) := by decide +kernel
theorem dX3_saves_70 : decode cX3_saves 70 = .ok (.getfield 42, 3) := by decide +kernel
theorem dX3_saves_73 : decode cX3_saves 73 = .ok (.iconst 1, 1) := by decide +kernel
theorem dX3_saves_74 : decode cX3_saves 74 = .ok (.iadd, 1) := by decide +kernel
theorem dX3_saves_75 : decode cX3_saves 75 = .ok (.putfield 42, 3) := by decide +kernel
theorem dX3_saves_78 : decode cX3_saves 78 = .ok (.return_, 1) := by decide +kernel
abbrev zX3_saves : List Cond := .code yX3_saves cX3_saves 2 none :: BIG
def fX3_saves_j49 (fn : (Nat → Int32))  (v49 : MoT × (Nat → Int32)) : Option (MoT × (Nat → Int32)) := (fX3_copies 71 fn 426 v49.2 0 (71 * v49.1.1)).bind (fun r5 => some (((v49.1.1 + 1), v49.1.2.1, v49.1.2.2.1, v49.1.2.2.2.1, v49.1.2.2.2.2.1, v49.1.2.2.2.2.2), r5))
def fX3_saves_l11 (fn : (Nat → Int32))  (K11 : (MoT × (Nat → Int32) × Int32) → Option (MoT × (Nat → Int32))) (v11 : MoT × (Nat → Int32) × Int32) : Option (MoT × (Nat → Int32)) := (if 355 ≤ v11.2.2 then fX3_saves_j49 fn (((v11.1.1 - 1), v11.1.2.1, v11.1.2.2.1, v11.1.2.2.2.1, v11.1.2.2.2.2.1, v11.1.2.2.2.2.2), v11.2.1) else gd (pin (v11.2.2 + 71) 426) (gd (pin v11.2.2 426) (K11 (v11.1, (upd v11.2.1 (Int32.toNatClampNeg v11.2.2) (v11.2.1 (Int32.toNatClampNeg (v11.2.2 + 71)))), v11.2.2 + 1))))
def fX3_saves (mo : MoT) (fn : (Nat → Int32)) (pa : (Nat → Int32)) : Option (MoT × (Nat → Int32)) := (if mo.1 = 6 then lp (fX3_saves_l11 fn) 2000 (mo, pa, 0) else fX3_saves_j49 fn (mo, pa))
set_option maxHeartbeats 4000000 in
set_option maxRecDepth 100000 in
theorem mtX3_saves (l : Launch) (D : va_G) (t : Nat → ClassId) (mh : Nat) (mb : Nat → Nat) (mo : MoT) (fn : (Nat → Int32)) (pa : (Nat → Int32)) (out : MoT × (Nat → Int32)) (h : fX3_saves mo fn pa = some out)  (sz : Nat) : Met l yX3_saves zX3_saves ({ frames := 1, cells := 0, slots := 0, locals := 24 }) (sPc D t (gMo mh mb mo ++ (gA t (mb 0) 71 fn ++ (gA t (mb 2) 426 pa))) sz [.ref mh]) (qV D t (gMo mh mb out.1 ++ (gA t (mb 0) 71 fn ++ (gA t (mb 2) 426 out.2))) (va_A (gMo mh mb mo ++ (gA t (mb 0) 71 fn ++ (gA t (mb 2) 426 pa))) sz)) 0 0 (va_A (gMo mh mb mo ++ (gA t (mb 0) 71 fn ++ (gA t (mb 2) 426 pa))) sz) := by
  refine met_of (Qf := fun A => qV D t (gMo mh mb out.1 ++ (gA t (mb 0) 71 fn ++ (gA t (mb 2) 426 out.2))) A) (cc := cX3_saves) (maxL := 2) (ret := none) (by decide) rfl (Nat.le_of_ble_eq_true rfl) ?_
  intro p e s m args below meth c A hx hb hr hml hts hown hlocks hA hP hK hD hE hS ls hl
  have htB : ∀ w ∈ BIG, w.before args s = true := fun w h => hts w (List.mem_cons_of_mem _ h)
  have hown : s.vm.findClass RX3 = some m.cls := hown
  have hl : lv_has ls 2 [(0, .ref mh)] := hl
  unfold fX3_saves at h
  have J49 : ∀ v49 : MoT × (Nat → Int32), fX3_saves_j49 fn v49 = some out → ∀ (H : Heap) (locs : List Loc), va_P D vwCl (gMo mh mb v49.1 ++ (gA t (mb 0) 71 fn ++ (gA t (mb 2) 426 v49.2))) H → va_D A (gMo mh mb v49.1 ++ (gA t (mb 0) 71 fn ++ (gA t (mb 2) 426 v49.2))) → va_S A s.heap H locs → ∀ ls : Array Slot, lv_has ls 2 [(0, .ref mh)] → W p l e ({ frames := 1, cells := 0, slots := 0, locals := 24 }) s m args below meth c H locs 0 0 (MQ below (qV D t (gMo mh mb out.1 ++ (gA t (mb 0) 71 fn ++ (gA t (mb 2) 426 out.2))) A) args s 0 0 A) (F0 m 49 ls []) := by
    intro v49 h H locs hP hD hS ls hl
    unfold fX3_saves_j49 at h
    refine lv_aload_n hx hb dX3_saves_49 rfl (lv_at hl 0 rfl) ?_
    refine va_get (D := D) (ci := 3) (v := .ref (mb 0)) (C := RX3) (T := TX3) (N := 14) hx hb htB inlX3 hown hK hP 0 rfl rfl 0 (by decide) (htB _ kw54) (fun _ h9 => h9) rfl dX3_saves_50 ?_
    refine lv_iconst (v := 0) hx hb dX3_saves_53 (by decide) ?_
    refine lv_aload_n hx hb dX3_saves_54 rfl (lv_at hl 0 rfl) ?_
    refine va_get (D := D) (ci := 3) (v := .ref (mb 2)) (C := RX3) (T := TX3) (N := 14) hx hb htB inlX3 hown hK hP 0 rfl rfl 2 (by decide) (htB _ kw56) (fun _ h9 => h9) rfl dX3_saves_55 ?_
    refine lv_bipush (v := 71) hx hb dX3_saves_58 (by decide) ?_
    refine lv_aload_n hx hb dX3_saves_60 rfl (lv_at hl 0 rfl) ?_
    refine va_get (D := D) (ci := 3) (v := .int v49.1.1) (C := RX3) (T := TX3) (N := 14) hx hb htB inlX3 hown hK hP 0 rfl rfl 3 (by decide) (htB _ kw129) (fun _ h9 => h9) rfl dX3_saves_61 ?_
    refine lv_imul hx hb dX3_saves_64 ?_
    obtain ⟨r5, h5, h⟩ := ob h
    refine call_v (wc := (gA t (mb 0) 71 fn ++ (gA t (mb 2) 426 v49.2))) (wc' := (gA t (mb 0) 71 fn ++ (gA t (mb 2) 426 r5))) (ws' := (gMo mh mb v49.1 ++ (gA t (mb 0) 71 fn ++ (gA t (mb 2) 426 r5)))) (cutB (bs := [gMo mh mb v49.1, gA t (mb 0) 71 fn, gA t (mb 2) 426 v49.2]) (cs := [gA t (mb 0) 71 fn, gA t (mb 2) 426 v49.2]) (cs' := [gA t (mb 0) 71 fn, gA t (mb 2) 426 r5]) (bs' := [gMo mh mb v49.1, gA t (mb 0) 71 fn, gA t (mb 2) 426 r5]) [1, 2] hP hD hS hA rfl rfl rfl rfl) hS (fun hPc hDc => va_runS (As := [.ref (mb 0), .int 0, .ref (mb 2), .int (71 * v49.1.1)]) (rest := []) ⟨hx, hb, hml, hown, hts⟩ (mtX3_copies l D t (mb 0) 71 fn (mb 2) 426 v49.2 0 (71 * v49.1.1) r5 h5 (by decide) (by decide) _) (va_cwS 4 hts (gBS kw130 kw131 kw5 kw132) rfl rfl rfl (by decide +kernel) ⟨Nat.le_of_ble_eq_true rfl, Nat.le_of_ble_eq_true rfl⟩) (sPc_S hPc hK hDc hE) rfl rfl hl.1 rfl (lv_room (Nat.le_of_ble_eq_true rfl)) dX3_saves_65 ⟨Nat.zero_le _, Nat.zero_le _⟩) (fun H locs hP hD hS => ?_)
    refine lv_aload_n hx hb dX3_saves_68 rfl (lv_at hl 0 rfl) ?_
    refine lv_dup hx hb dX3_saves_69 rfl ?_
    refine va_get (D := D) (ci := 3) (v := .int v49.1.1) (C := RX3) (T := TX3) (N := 14) hx hb htB inlX3 hown hK hP 0 rfl rfl 3 (by decide) (htB _ kw129) (fun _ h9 => h9) rfl dX3_saves_70 ?_
    refine lv_iconst (v := 1) hx hb dX3_saves_73 (by decide) ?_
    refine lv_iadd hx hb dX3_saves_74 ?_
    refine va_put (D := D) (ci := 3) (v := .int (v49.1.1 + 1)) (ty := .int) (C := RX3) (T := TX3) (N := 14) hx hb htB inlX3 tyX3 tyX3_ok nmX3 hown hK hP hD hS 0 rfl rfl 3 (by decide) (htB _ kw129) (fun _ h9 => h9) rfl (by decide +kernel) rfl rfl (Nat.le_of_ble_eq_true rfl) dX3_saves_75 (fun H locs hP hD hS => ?_)
    have hP : va_P D vwCl (gMo mh mb ((v49.1.1 + 1), v49.1.2.1, v49.1.2.2.1, v49.1.2.2.2.1, v49.1.2.2.2.2.1, v49.1.2.2.2.2.2) ++ (gA t (mb 0) 71 fn ++ (gA t (mb 2) 426 r5))) H := hP
    have hD : va_D A (gMo mh mb ((v49.1.1 + 1), v49.1.2.1, v49.1.2.2.1, v49.1.2.2.2.1, v49.1.2.2.2.2.1, v49.1.2.2.2.2.2) ++ (gA t (mb 0) 71 fn ++ (gA t (mb 2) 426 r5))) := hD
    obtain rfl := os h
    exact ret_v hx hb hr hlocks hP hK hD hS dX3_saves_78
  have J11 : ∀ (fu11 : Nat) (v11 : MoT × (Nat → Int32) × Int32), lp (fX3_saves_l11 fn) fu11 v11 = some out → ∀ (H : Heap) (locs : List Loc), va_P D vwCl (gMo mh mb v11.1 ++ (gA t (mb 0) 71 fn ++ (gA t (mb 2) 426 v11.2.1))) H → va_D A (gMo mh mb v11.1 ++ (gA t (mb 0) 71 fn ++ (gA t (mb 2) 426 v11.2.1))) → va_S A s.heap H locs → ∀ ls : Array Slot, lv_has ls 2 [(0, .ref mh), (1, .int v11.2.2)] → W p l e ({ frames := 1, cells := 0, slots := 0, locals := 24 }) s m args below meth c H locs 0 0 (MQ below (qV D t (gMo mh mb out.1 ++ (gA t (mb 0) 71 fn ++ (gA t (mb 2) 426 out.2))) A) args s 0 0 A) (F0 m 11 ls []) := by
    intro fu11
    induction fu11 with
    | zero => intro v11 h; cases h
    | succ fu11 ih11 =>
      intro v11 h H locs hP hD hS ls hl
      have h : fX3_saves_l11 fn (lp (fX3_saves_l11 fn) fu11) v11 = some out := h
      unfold fX3_saves_l11 at h
      refine lv_iload_n hx hb dX3_saves_11 rfl (lv_at hl 1 rfl) ?_
      refine lv_sipush (v := 355) hx hb dX3_saves_12 (by decide) ?_
      refine lv_icmp_ge (tgt := 39) hx hb dX3_saves_15 (by decide) (fun c2 => ?_) (fun c2 => ?_)
      · have h := it_p c2 h
        refine lv_aload_n hx hb dX3_saves_39 rfl (lv_at hl 0 rfl) ?_
        refine lv_dup hx hb dX3_saves_40 rfl ?_
        refine va_get (D := D) (ci := 3) (v := .int v11.1.1) (C := RX3) (T := TX3) (N := 14) hx hb htB inlX3 hown hK hP 0 rfl rfl 3 (by decide) (htB _ kw129) (fun _ h9 => h9) rfl dX3_saves_41 ?_
        refine lv_iconst (v := 1) hx hb dX3_saves_44 (by decide) ?_
        refine lv_isub hx hb dX3_saves_45 ?_
        refine va_put (D := D) (ci := 3) (v := .int (v11.1.1 - 1)) (ty := .int) (C := RX3) (T := TX3) (N := 14) hx hb htB inlX3 tyX3 tyX3_ok nmX3 hown hK hP hD hS 0 rfl rfl 3 (by decide) (htB _ kw129) (fun _ h9 => h9) rfl (by decide +kernel) rfl rfl (Nat.le_of_ble_eq_true rfl) dX3_saves_46 (fun H locs hP hD hS => ?_)
        have hP : va_P D vwCl (gMo mh mb ((v11.1.1 - 1), v11.1.2.1, v11.1.2.2.1, v11.1.2.2.2.1, v11.1.2.2.2.2.1, v11.1.2.2.2.2.2) ++ (gA t (mb 0) 71 fn ++ (gA t (mb 2) 426 v11.2.1))) H := hP
        have hD : va_D A (gMo mh mb ((v11.1.1 - 1), v11.1.2.1, v11.1.2.2.1, v11.1.2.2.2.1, v11.1.2.2.2.2.1, v11.1.2.2.2.2.2) ++ (gA t (mb 0) 71 fn ++ (gA t (mb 2) 426 v11.2.1))) := hD
        exact J49 (((v11.1.1 - 1), v11.1.2.1, v11.1.2.2.1, v11.1.2.2.2.1, v11.1.2.2.2.2.1, v11.1.2.2.2.2.2), v11.2.1) h _ _ hP hD hS _ (lv_sub hl [0] rfl)
      · have h := it_n c2 h
        refine lv_aload_n hx hb dX3_saves_18 rfl (lv_at hl 0 rfl) ?_
        refine va_get (D := D) (ci := 3) (v := .ref (mb 2)) (C := RX3) (T := TX3) (N := 14) hx hb htB inlX3 hown hK hP 0 rfl rfl 2 (by decide) (htB _ kw56) (fun _ h9 => h9) rfl dX3_saves_19 ?_
        refine lv_iload_n hx hb dX3_saves_22 rfl (lv_at hl 1 rfl) ?_
        refine lv_aload_n hx hb dX3_saves_23 rfl (lv_at hl 0 rfl) ?_
        refine va_get (D := D) (ci := 3) (v := .ref (mb 2)) (C := RX3) (T := TX3) (N := 14) hx hb htB inlX3 hown hK hP 0 rfl rfl 2 (by decide) (htB _ kw56) (fun _ h9 => h9) rfl dX3_saves_24 ?_
        refine lv_iload_n hx hb dX3_saves_27 rfl (lv_at hl 1 rfl) ?_
        refine lv_bipush (v := 71) hx hb dX3_saves_28 (by decide) ?_
        refine lv_iadd hx hb dX3_saves_30 ?_
        obtain ⟨g3, h⟩ := og h
        refine va_iald hx hb hK hP 2 0 rfl rfl (pin_in g3) dX3_saves_31 ?_
        obtain ⟨g4, h⟩ := og h
        refine va_iast hx hb hK hP hD hS 2 0 rfl rfl (pin_in g4) dX3_saves_32 (fun H locs hP hD hS => ?_)
        have hP : va_P D vwCl (gMo mh mb v11.1 ++ (gA t (mb 0) 71 fn ++ (gA t (mb 2) 426 (upd v11.2.1 (Int32.toNatClampNeg v11.2.2) (v11.2.1 (Int32.toNatClampNeg (v11.2.2 + 71))))))) H := hP
        have hD : va_D A (gMo mh mb v11.1 ++ (gA t (mb 0) 71 fn ++ (gA t (mb 2) 426 (upd v11.2.1 (Int32.toNatClampNeg v11.2.2) (v11.2.1 (Int32.toNatClampNeg (v11.2.2 + 71))))))) := hD
        refine lv_iinc (v := v11.2.2 + 1) (lv' := [(1, .int (v11.2.2 + 1)), (0, .ref mh)]) hx hb dX3_saves_33 hl (k := 1) rfl rfl (by decide) rfl (fun ls hl => ?_)
        refine lv_goto (tgt := 11) hx hb dX3_saves_36 (by decide) ?_
        exact ih11 (v11.1, (upd v11.2.1 (Int32.toNatClampNeg v11.2.2) (v11.2.1 (Int32.toNatClampNeg (v11.2.2 + 71)))), v11.2.2 + 1) h _ _ hP hD hS _ (lv_sub hl [1, 0] rfl)
  refine lv_aload_n hx hb dX3_saves_0 rfl (lv_at hl 0 rfl) ?_
  refine va_get (D := D) (ci := 3) (v := .int mo.1) (C := RX3) (T := TX3) (N := 14) hx hb htB inlX3 hown hK hP 0 rfl rfl 3 (by decide) (htB _ kw129) (fun _ h9 => h9) rfl dX3_saves_1 ?_
  refine lv_bipush (v := 6) hx hb dX3_saves_4 (by decide) ?_
  refine lv_icmp_ne (tgt := 49) hx hb dX3_saves_6 (by decide) (fun c1 => ?_) (fun c1 => ?_)
  · have h := it_n c1 h
    exact J49 (mo, pa) h _ _ hP hD hS _ (lv_sub hl [0] rfl)
  · have h := it_p c1 h
    refine lv_iconst (v := 0) hx hb dX3_saves_9 (by decide) ?_
    refine lv_istore_n (lv' := [(1, .int 0), (0, .ref mh)]) hx hb dX3_saves_10 rfl hl (by decide) rfl (fun ls hl => ?_)
    exact J11 2000 (mo, pa, 0) h _ _ hP hD hS _ (lv_sub hl [1, 0] rfl)

theorem dX3_undo_0 : decode cX3_undo 0 = .ok (.aload_n 0, 1) := by decide +kernel
theorem dX3_undo_1 : decode cX3_undo 1 = .ok (.iconst 0, 1) := by decide +kernel
theorem dX3_undo_2 : decode cX3_undo 2 = .ok (.putfield 34, 3) := by decide +kernel
theorem dX3_undo_5 : decode cX3_undo 5 = .ok (.aload_n 0, 1) := by decide +kernel
theorem dX3_undo_6 : decode cX3_undo 6 = .ok (.getfield 42, 3) := by decide +kernel
theorem dX3_undo_9 : decode cX3_undo 9 = .ok (.ifCond .ne 9, 3) := by decide +kernel
theorem dX3_undo_12 : decode cX3_undo 12 = .ok (.aload_n 0, 1) := by decide +kernel
theorem dX3_undo_13 : decode cX3_undo 13 = .ok (.iconst 1, 1) := by decide +kernel
theorem dX3_undo_14 : decode cX3_undo 14 = .ok (.invokevirtual 49, 3) := by decide +kernel
theorem dX3_undo_17 : decode cX3_undo 17 = .ok (.ireturn, 1) := by decide +kernel
theorem dX3_undo_18 : decode cX3_undo 18 = .ok (.aload_n 0, 1) := by decide +kernel
theorem dX3_undo_19 : decode cX3_undo 19 = .ok (.dup, 1) := by decide +kernel
theorem dX3_undo_20 : decode cX3_undo 20 = .ok (.getfield 42, 3) := by decide +kernel
theorem dX3_undo_23 : decode cX3_undo 23 = .ok (.iconst 1, 1) := by decide +kernel
theorem dX3_undo_24 : decode cX3_undo 24 = .ok (.isub, 1) := by decide +kernel
theorem dX3_undo_25 : decode cX3_undo 25 = .ok (.putfield 42, 3) := by decide +kernel
theorem dX3_undo_28 : decode cX3_undo 28 = .ok (.aload_n 0, 1) := by decide +kernel
theorem dX3_undo_29 : decode cX3_undo 29 = .ok (.getfield 16, 3) := by decide +kernel
theorem dX3_undo_32 : decode cX3_undo 32 = .ok (.bipush 71, 2) := by decide +kernel
theorem dX3_undo_34 : decode cX3_undo 34 = .ok (.aload_n 0, 1) := by decide +kernel
theorem dX3_undo_35 : decode cX3_undo 35 = .ok (.getfield 42, 3) := by decide +kernel
theorem dX3_undo_38 : decode cX3_undo 38 = .ok (.imul, 1) := by decide +kernel
theorem dX3_undo_39 : decode cX3_undo 39 = .ok (.aload_n 0, 1) := by decide +kernel
theorem dX3_undo_40 : decode cX3_undo 40 = .ok (.getfield 7, 3) := by decide +kernel
theorem dX3_undo_43 : decode cX3_undo 43 = .ok (.iconst 0, 1) := by decide +kernel
theorem dX3_undo_44 : decode cX3_undo 44 = .ok (.invokestatic 45, 3) := by decide +kernel
theorem dX3_undo_47 : decode cX3_undo 47 = .ok (.aload_n 0, 1) := by decide +kernel
theorem dX3_undo_48 : decode cX3_undo 48 = .ok (.getfield 42, 3) := by decide +kernel
theorem dX3_undo_51 : decode cX3_undo 51 = .ok (.ireturn, 1) := by decide +kernel
abbrev zX3_undo : List Cond := .code yX3_undo cX3_undo 1 (some .int) :: BIG
def fX3_undo (mo : MoT) (fn : (Nat → Int32)) (pa : (Nat → Int32)) : Option (Int32 × MoT × (Nat → Int32)) := (if mo.1 = 0 then (fX3_fails (mo.1, mo.2.1, 0, mo.2.2.2.1, mo.2.2.2.2.1, mo.2.2.2.2.2) 1).bind (fun r3 => some (r3.1, r3.2, fn)) else (fX3_copies 426 pa 71 fn (71 * (mo.1 - 1)) 0).bind (fun r2 => some ((mo.1 - 1), ((mo.1 - 1), mo.2.1, 0, mo.2.2.2.1, mo.2.2.2.2.1, mo.2.2.2.2.2), r2)))
set_option maxHeartbeats 4000000 in
set_option maxRecDepth 100000 in
theorem mtX3_undo (l : Launch) (D : va_G) (t : Nat → ClassId) (mh : Nat) (mb : Nat → Nat) (mo : MoT) (fn : (Nat → Int32)) (pa : (Nat → Int32)) (out : Int32 × MoT × (Nat → Int32)) (h : fX3_undo mo fn pa = some out)  (sz : Nat) : Met l yX3_undo zX3_undo ({ frames := 1, cells := 0, slots := 0, locals := 24 }) (sPc D t (gMo mh mb mo ++ (gA t (mb 0) 71 fn ++ (gA t (mb 2) 426 pa))) sz [.ref mh]) (qI D t (gMo mh mb out.2.1 ++ (gA t (mb 0) 71 out.2.2 ++ (gA t (mb 2) 426 pa))) out.1 (va_A (gMo mh mb mo ++ (gA t (mb 0) 71 fn ++ (gA t (mb 2) 426 pa))) sz)) 0 0 (va_A (gMo mh mb mo ++ (gA t (mb 0) 71 fn ++ (gA t (mb 2) 426 pa))) sz) := by
  refine met_of (Qf := fun A => qI D t (gMo mh mb out.2.1 ++ (gA t (mb 0) 71 out.2.2 ++ (gA t (mb 2) 426 pa))) out.1 A) (cc := cX3_undo) (maxL := 1) (ret := some .int) (by decide) rfl (Nat.le_of_ble_eq_true rfl) ?_
  intro p e s m args below meth c A hx hb hr hml hts hown hlocks hA hP hK hD hE hS ls hl
  have htB : ∀ w ∈ BIG, w.before args s = true := fun w h => hts w (List.mem_cons_of_mem _ h)
  have hown : s.vm.findClass RX3 = some m.cls := hown
  have hl : lv_has ls 1 [(0, .ref mh)] := hl
  unfold fX3_undo at h
  refine lv_aload_n hx hb dX3_undo_0 rfl (lv_at hl 0 rfl) ?_
  refine lv_iconst (v := 0) hx hb dX3_undo_1 (by decide) ?_
  refine va_put (D := D) (ci := 3) (v := .int 0) (ty := .int) (C := RX3) (T := TX3) (N := 14) hx hb htB inlX3 tyX3 tyX3_ok nmX3 hown hK hP hD hS 0 rfl rfl 6 (by decide) (htB _ kw114) (fun _ h9 => h9) rfl (by decide +kernel) rfl rfl (Nat.le_of_ble_eq_true rfl) dX3_undo_2 (fun H locs hP hD hS => ?_)
  have hP : va_P D vwCl (gMo mh mb (mo.1, mo.2.1, 0, mo.2.2.2.1, mo.2.2.2.2.1, mo.2.2.2.2.2) ++ (gA t (mb 0) 71 fn ++ (gA t (mb 2) 426 pa))) H := hP
  have hD : va_D A (gMo mh mb (mo.1, mo.2.1, 0, mo.2.2.2.1, mo.2.2.2.2.1, mo.2.2.2.2.2) ++ (gA t (mb 0) 71 fn ++ (gA t (mb 2) 426 pa))) := hD
  refine lv_aload_n hx hb dX3_undo_5 rfl (lv_at hl 0 rfl) ?_
  refine va_get (D := D) (ci := 3) (v := .int mo.1) (C := RX3) (T := TX3) (N := 14) hx hb htB inlX3 hown hK hP 0 rfl rfl 3 (by decide) (htB _ kw129) (fun _ h9 => h9) rfl dX3_undo_6 ?_
  refine lv_if_ne (tgt := 18) hx hb dX3_undo_9 (by decide) (fun c1 => ?_) (fun c1 => ?_)
  · have h := it_n c1 h
    refine lv_aload_n hx hb dX3_undo_18 rfl (lv_at hl 0 rfl) ?_
    refine lv_dup hx hb dX3_undo_19 rfl ?_
    refine va_get (D := D) (ci := 3) (v := .int mo.1) (C := RX3) (T := TX3) (N := 14) hx hb htB inlX3 hown hK hP 0 rfl rfl 3 (by decide) (htB _ kw129) (fun _ h9 => h9) rfl dX3_undo_20 ?_
    refine lv_iconst (v := 1) hx hb dX3_undo_23 (by decide) ?_
    refine lv_isub hx hb dX3_undo_24 ?_
    refine va_put (D := D) (ci := 3) (v := .int (mo.1 - 1)) (ty := .int) (C := RX3) (T := TX3) (N := 14) hx hb htB inlX3 tyX3 tyX3_ok nmX3 hown hK hP hD hS 0 rfl rfl 3 (by decide) (htB _ kw129) (fun _ h9 => h9) rfl (by decide +kernel) rfl rfl (Nat.le_of_ble_eq_true rfl) dX3_undo_25 (fun H locs hP hD hS => ?_)
    have hP : va_P D vwCl (gMo mh mb ((mo.1 - 1), mo.2.1, 0, mo.2.2.2.1, mo.2.2.2.2.1, mo.2.2.2.2.2) ++ (gA t (mb 0) 71 fn ++ (gA t (mb 2) 426 pa))) H := hP
    have hD : va_D A (gMo mh mb ((mo.1 - 1), mo.2.1, 0, mo.2.2.2.1, mo.2.2.2.2.1, mo.2.2.2.2.2) ++ (gA t (mb 0) 71 fn ++ (gA t (mb 2) 426 pa))) := hD
    refine lv_aload_n hx hb dX3_undo_28 rfl (lv_at hl 0 rfl) ?_
    refine va_get (D := D) (ci := 3) (v := .ref (mb 2)) (C := RX3) (T := TX3) (N := 14) hx hb htB inlX3 hown hK hP 0 rfl rfl 2 (by decide) (htB _ kw56) (fun _ h9 => h9) rfl dX3_undo_29 ?_
    refine lv_bipush (v := 71) hx hb dX3_undo_32 (by decide) ?_
    refine lv_aload_n hx hb dX3_undo_34 rfl (lv_at hl 0 rfl) ?_
    refine va_get (D := D) (ci := 3) (v := .int (mo.1 - 1)) (C := RX3) (T := TX3) (N := 14) hx hb htB inlX3 hown hK hP 0 rfl rfl 3 (by decide) (htB _ kw129) (fun _ h9 => h9) rfl dX3_undo_35 ?_
    refine lv_imul hx hb dX3_undo_38 ?_
    refine lv_aload_n hx hb dX3_undo_39 rfl (lv_at hl 0 rfl) ?_
    refine va_get (D := D) (ci := 3) (v := .ref (mb 0)) (C := RX3) (T := TX3) (N := 14) hx hb htB inlX3 hown hK hP 0 rfl rfl 0 (by decide) (htB _ kw54) (fun _ h9 => h9) rfl dX3_undo_40 ?_
    refine lv_iconst (v := 0) hx hb dX3_undo_43 (by decide) ?_
    obtain ⟨r2, h2, h⟩ := ob h
    refine call_v (wc := (gA t (mb 2) 426 pa ++ (gA t (mb 0) 71 fn))) (wc' := (gA t (mb 2) 426 pa ++ (gA t (mb 0) 71 r2))) (ws' := (gMo mh mb ((mo.1 - 1), mo.2.1, 0, mo.2.2.2.1, mo.2.2.2.2.1, mo.2.2.2.2.2) ++ (gA t (mb 0) 71 r2 ++ (gA t (mb 2) 426 pa)))) (cutB (bs := [gMo mh mb ((mo.1 - 1), mo.2.1, 0, mo.2.2.2.1, mo.2.2.2.2.1, mo.2.2.2.2.2), gA t (mb 0) 71 fn, gA t (mb 2) 426 pa]) (cs := [gA t (mb 2) 426 pa, gA t (mb 0) 71 fn]) (cs' := [gA t (mb 2) 426 pa, gA t (mb 0) 71 r2]) (bs' := [gMo mh mb ((mo.1 - 1), mo.2.1, 0, mo.2.2.2.1, mo.2.2.2.2.1, mo.2.2.2.2.2), gA t (mb 0) 71 r2, gA t (mb 2) 426 pa]) [2, 1] hP hD hS hA rfl rfl rfl rfl) hS (fun hPc hDc => va_runS (As := [.ref (mb 2), .int (71 * (mo.1 - 1)), .ref (mb 0), .int 0]) (rest := []) ⟨hx, hb, hml, hown, hts⟩ (mtX3_copies l D t (mb 2) 426 pa (mb 0) 71 fn (71 * (mo.1 - 1)) 0 r2 h2 (by decide) (by decide) _) (va_cwS 4 hts (gBS kw130 kw131 kw5 kw132) rfl rfl rfl (by decide +kernel) ⟨Nat.le_of_ble_eq_true rfl, Nat.le_of_ble_eq_true rfl⟩) (sPc_S hPc hK hDc hE) rfl rfl hl.1 rfl (lv_room (Nat.le_of_ble_eq_true rfl)) dX3_undo_44 ⟨Nat.zero_le _, Nat.zero_le _⟩) (fun H locs hP hD hS => ?_)
    refine lv_aload_n hx hb dX3_undo_47 rfl (lv_at hl 0 rfl) ?_
    refine va_get (D := D) (ci := 3) (v := .int (mo.1 - 1)) (C := RX3) (T := TX3) (N := 14) hx hb htB inlX3 hown hK hP 0 rfl rfl 3 (by decide) (htB _ kw129) (fun _ h9 => h9) rfl dX3_undo_48 ?_
    obtain rfl := os h
    exact ret_i hx hb hr hlocks hP hK hD hS dX3_undo_51
  · have h := it_p c1 h
    refine lv_aload_n hx hb dX3_undo_12 rfl (lv_at hl 0 rfl) ?_
    refine lv_iconst (v := 1) hx hb dX3_undo_13 (by decide) ?_
    obtain ⟨r3, h3, h⟩ := ob h
    refine call_i (v := r3.1) (wc := (gMo mh mb (mo.1, mo.2.1, 0, mo.2.2.2.1, mo.2.2.2.2.1, mo.2.2.2.2.2))) (wc' := (gMo mh mb r3.2)) (ws' := (gMo mh mb r3.2 ++ (gA t (mb 0) 71 fn ++ (gA t (mb 2) 426 pa)))) (cutB (bs := [gMo mh mb (mo.1, mo.2.1, 0, mo.2.2.2.1, mo.2.2.2.2.1, mo.2.2.2.2.2), gA t (mb 0) 71 fn, gA t (mb 2) 426 pa]) (cs := [gMo mh mb (mo.1, mo.2.1, 0, mo.2.2.2.1, mo.2.2.2.2.1, mo.2.2.2.2.2)]) (cs' := [gMo mh mb r3.2]) (bs' := [gMo mh mb r3.2, gA t (mb 0) 71 fn, gA t (mb 2) 426 pa]) [0] hP hD hS hA rfl rfl rfl rfl) hS (fun hPc hDc => va_runV (As := [.int 1]) (rest := []) ⟨hx, hb, hml, hown, hts⟩ (mtX3_fails l D t mh mb (mo.1, mo.2.1, 0, mo.2.2.2.1, mo.2.2.2.2.1, mo.2.2.2.2.2) 1 r3 h3 _) (cwV 1 hts (gBV kw121 kw122 kw123 kw5 kw124) rfl rfl rfl (by decide +kernel) ⟨Nat.le_of_ble_eq_true rfl, Nat.le_of_ble_eq_true rfl⟩) (sPc_V hPc hK hDc hE (va_recv hK hP (ci := 3) (q0 := 0) rfl rfl)) rfl rfl hl.1 rfl (lv_room (Nat.le_of_ble_eq_true rfl)) dX3_undo_14 ⟨Nat.zero_le _, Nat.zero_le _⟩) (fun H locs hP hD hS => ?_)
    obtain rfl := os h
    exact ret_i hx hb hr hlocks hP hK hD hS dX3_undo_17

theorem dX3_takes_0 : decode cX3_takes 0 = .ok (.sipush 1000, 3) := by decide +kernel
theorem dX3_takes_3 : decode cX3_takes 3 = .ok (.aload_n 0, 1) := by decide +kernel
theorem dX3_takes_4 : decode cX3_takes 4 = .ok (.iconst 4, 1) := by decide +kernel
theorem dX3_takes_5 : decode cX3_takes 5 = .ok (.iload_n 1, 1) := by decide +kernel
theorem dX3_takes_6 : decode cX3_takes 6 = .ok (.iadd, 1) := by decide +kernel
theorem dX3_takes_7 : decode cX3_takes 7 = .ok (.iaload, 1) := by decide +kernel
theorem dX3_takes_8 : decode cX3_takes 8 = .ok (.idiv, 1) := by decide +kernel
theorem dX3_takes_9 : decode cX3_takes 9 = .ok (.aload_n 0, 1) := by decide +kernel
theorem dX3_takes_10 : decode cX3_takes 10 = .ok (.bipush 23, 2) := by decide +kernel
theorem dX3_takes_12 : decode cX3_takes 12 = .ok (.bipush 24, 2) := by decide +kernel
theorem dX3_takes_14 : decode cX3_takes 14 = .ok (.iload_n 1, 1) := by decide +kernel
theorem dX3_takes_15 : decode cX3_takes 15 = .ok (.imul, 1) := by decide +kernel
theorem dX3_takes_16 : decode cX3_takes 16 = .ok (.iadd, 1) := by decide +kernel
theorem dX3_takes_17 : decode cX3_takes 17 = .ok (.iload_n 2, 1) := by decide +kernel
theorem dX3_takes_18 : decode cX3_takes 18 = .ok (.iadd, 1) := by decide +kernel
theorem dX3_takes_19 : decode cX3_takes 19 = .ok (.iaload, 1) := by decide +kernel
theorem dX3_takes_20 : decode cX3_takes 20 = .ok (.iadd, 1) := by decide +kernel
theorem dX3_takes_21 : decode cX3_takes 21 = .ok (.aload_n 0, 1) := by decide +kernel
theorem dX3_takes_22 : decode cX3_takes 22 = .ok (.iconst 0, 1) := by decide +kernel
theorem dX3_takes_23 : decode cX3_takes 23 = .ok (.iaload, 1) := by decide +kernel
theorem dX3_takes_24 : decode cX3_takes 24 = .ok (.aload_n 0, 1) := by decide +kernel
theorem dX3_takes_25 : decode cX3_takes 25 = .ok (.bipush 6, 2) := by decide +kernel
theorem dX3_takes_27 : decode cX3_takes 27 = .ok (.iload_n 1, 1) := by decide +kernel
theorem dX3_takes_28 : decode cX3_takes 28 = .ok (.iadd, 1) := by decide +kernel
theorem dX3_takes_29 : decode cX3_takes 29 = .ok (.iaload, 1) := by decide +kernel
theorem dX3_takes_30 : decode cX3_takes 30 = .ok (.bipush 10, 2) := by decide +kernel
theorem dX3_takes_32 : decode cX3_takes 32 = .ok (.idiv, 1) := by decide +kernel
theorem dX3_takes_33 : decode cX3_takes 33 = .ok (.imul, 1) := by decide +kernel
theorem dX3_takes_34 : decode cX3_takes 34 = .ok (.iadd, 1) := by decide +kernel
theorem dX3_takes_35 : decode cX3_takes 35 = .ok (.ireturn, 1) := by decide +kernel
abbrev zX3_takes : List Cond := .code yX3_takes cX3_takes 3 (some .int) :: BIG
def fX3_takes (fs : (Nat → Int32)) (cu : Int32) (k : Int32) : Option (Int32) := gd (pin (4 + cu) 71) (gd (nz (fs (Int32.toNatClampNeg (4 + cu)))) (gd (pin ((23 + (24 * cu)) + k) 71) (gd (pin (6 + cu) 71) (some (((1000 / (fs (Int32.toNatClampNeg (4 + cu)))) + (fs (Int32.toNatClampNeg ((23 + (24 * cu)) + k)))) + ((fs (Int32.toNatClampNeg 0)) * ((fs (Int32.toNatClampNeg (6 + cu))) / 10)))))))
set_option maxHeartbeats 4000000 in
set_option maxRecDepth 100000 in
theorem mtX3_takes (l : Launch) (D : va_G) (t : Nat → ClassId) (fsa : Nat) (fs : (Nat → Int32)) (cu : Int32) (k : Int32) (out : Int32) (h : fX3_takes fs cu k = some out)  (sz : Nat) : Met l yX3_takes zX3_takes ({ frames := 0, cells := 0, slots := 0, locals := 0 }) (sPc D t (gA t fsa 71 fs) sz [.ref fsa, .int cu, .int k]) (qI D t (gA t fsa 71 fs) out (va_A (gA t fsa 71 fs) sz)) 0 0 (va_A (gA t fsa 71 fs) sz) := by
  refine met_of (Qf := fun A => qI D t (gA t fsa 71 fs) out A) (cc := cX3_takes) (maxL := 3) (ret := some .int) (by decide) rfl (Nat.le_of_ble_eq_true rfl) ?_
  intro p e s m args below meth c A hx hb hr hml hts hown hlocks hA hP hK hD hE hS ls hl
  have htB : ∀ w ∈ BIG, w.before args s = true := fun w h => hts w (List.mem_cons_of_mem _ h)
  have hown : s.vm.findClass RX3 = some m.cls := hown
  have hl : lv_has ls 3 [(0, .ref fsa), (1, .int cu), (2, .int k)] := hl
  unfold fX3_takes at h
  refine lv_sipush (v := 1000) hx hb dX3_takes_0 (by decide) ?_
  refine lv_aload_n hx hb dX3_takes_3 rfl (lv_at hl 0 rfl) ?_
  refine lv_iconst (v := 4) hx hb dX3_takes_4 (by decide) ?_
  refine lv_iload_n hx hb dX3_takes_5 rfl (lv_at hl 1 rfl) ?_
  refine lv_iadd hx hb dX3_takes_6 ?_
  obtain ⟨g1, h⟩ := og h
  refine va_iald hx hb hK hP 0 0 rfl rfl (pin_in g1) dX3_takes_7 ?_
  obtain ⟨g2, h⟩ := og h
  refine lv_idiv hx hb dX3_takes_8 (nz_ne g2) ?_
  refine lv_aload_n hx hb dX3_takes_9 rfl (lv_at hl 0 rfl) ?_
  refine lv_bipush (v := 23) hx hb dX3_takes_10 (by decide) ?_
  refine lv_bipush (v := 24) hx hb dX3_takes_12 (by decide) ?_
  refine lv_iload_n hx hb dX3_takes_14 rfl (lv_at hl 1 rfl) ?_
  refine lv_imul hx hb dX3_takes_15 ?_
  refine lv_iadd hx hb dX3_takes_16 ?_
  refine lv_iload_n hx hb dX3_takes_17 rfl (lv_at hl 2 rfl) ?_
  refine lv_iadd hx hb dX3_takes_18 ?_
  obtain ⟨g3, h⟩ := og h
  refine va_iald hx hb hK hP 0 0 rfl rfl (pin_in g3) dX3_takes_19 ?_
  refine lv_iadd hx hb dX3_takes_20 ?_
  refine lv_aload_n hx hb dX3_takes_21 rfl (lv_at hl 0 rfl) ?_
  refine lv_iconst (v := 0) hx hb dX3_takes_22 (by decide) ?_
  refine va_iald hx hb hK hP 0 0 rfl rfl (pin_in (by decide)) dX3_takes_23 ?_
  refine lv_aload_n hx hb dX3_takes_24 rfl (lv_at hl 0 rfl) ?_
  refine lv_bipush (v := 6) hx hb dX3_takes_25 (by decide) ?_
  refine lv_iload_n hx hb dX3_takes_27 rfl (lv_at hl 1 rfl) ?_
  refine lv_iadd hx hb dX3_takes_28 ?_
  obtain ⟨g4, h⟩ := og h
  refine va_iald hx hb hK hP 0 0 rfl rfl (pin_in g4) dX3_takes_29 ?_
  refine lv_bipush (v := 10) hx hb dX3_takes_30 (by decide) ?_
  refine lv_idiv hx hb dX3_takes_32 (by decide) ?_
  refine lv_imul hx hb dX3_takes_33 ?_
  refine lv_iadd hx hb dX3_takes_34 ?_
  obtain rfl := os h
  exact ret_i hx hb hr hlocks hP hK hD hS dX3_takes_35

theorem dX3_start_0 : decode cX3_start 0 = .ok (.iload_n 1, 1) := by decide +kernel
theorem dX3_start_1 : decode cX3_start 1 = .ok (.invokestatic 53, 3) := by decide +kernel
theorem dX3_start_4 : decode cX3_start 4 = .ok (.aload_n 0, 1) := by decide +kernel
theorem dX3_start_5 : decode cX3_start 5 = .ok (.bipush 8, 2) := by decide +kernel
theorem dX3_start_7 : decode cX3_start 7 = .ok (.iload_n 1, 1) := by decide +kernel
theorem dX3_start_8 : decode cX3_start 8 = .ok (.iadd, 1) := by decide +kernel
theorem dX3_start_9 : decode cX3_start 9 = .ok (.iaload, 1) := by decide +kernel
theorem dX3_start_10 : decode cX3_start 10 = .ok (.iadd, 1) := by decide +kernel
theorem dX3_start_11 : decode cX3_start 11 = .ok (.istore_n 2, 1) := by decide +kernel
theorem dX3_start_12 : decode cX3_start 12 = .ok (.iload_n 2, 1) := by decide +kernel
theorem dX3_start_13 : decode cX3_start 13 = .ok (.ifCond .ge 7, 3) := by decide +kernel
theorem dX3_start_16 : decode cX3_start 16 = .ok (.iconst 0, 1) := by decide +kernel
theorem dX3_start_17 : decode cX3_start 17 = .ok (.goto 4, 3) := by decide +kernel
theorem dX3_start_20 : decode cX3_start 20 = .ok (.iload_n 2, 1) := by decide +kernel
theorem dX3_start_21 : decode cX3_start 21 = .ok (.ireturn, 1) := by decide +kernel
abbrev zX3_start : List Cond := .code yX3_start cX3_start 3 (some .int) :: BIG
def fX3_start (fs : (Nat → Int32)) (v : Int32) : Option (Int32) := (fX3_wanted v).bind (fun r1 => gd (pin (8 + v) 71) ((if 0 ≤ (r1 + (fs (Int32.toNatClampNeg (8 + v)))) then some (r1 + (fs (Int32.toNatClampNeg (8 + v)))) else some 0)))
set_option maxHeartbeats 4000000 in
set_option maxRecDepth 100000 in
theorem mtX3_start (l : Launch) (D : va_G) (t : Nat → ClassId) (fsa : Nat) (fs : (Nat → Int32)) (v : Int32) (out : Int32) (h : fX3_start fs v = some out)  (sz : Nat) : Met l yX3_start zX3_start ({ frames := 1, cells := 0, slots := 0, locals := 20 }) (sPc D t (gA t fsa 71 fs) sz [.ref fsa, .int v]) (qI D t (gA t fsa 71 fs) out (va_A (gA t fsa 71 fs) sz)) 0 0 (va_A (gA t fsa 71 fs) sz) := by
  refine met_of (Qf := fun A => qI D t (gA t fsa 71 fs) out A) (cc := cX3_start) (maxL := 3) (ret := some .int) (by decide) rfl (Nat.le_of_ble_eq_true rfl) ?_
  intro p e s m args below meth c A hx hb hr hml hts hown hlocks hA hP hK hD hE hS ls hl
  have htB : ∀ w ∈ BIG, w.before args s = true := fun w h => hts w (List.mem_cons_of_mem _ h)
  have hown : s.vm.findClass RX3 = some m.cls := hown
  have hl : lv_has ls 3 [(0, .ref fsa), (1, .int v)] := hl
  unfold fX3_start at h
  refine lv_iload_n hx hb dX3_start_0 rfl (lv_at hl 1 rfl) ?_
  obtain ⟨r1, h1, h⟩ := ob h
  refine call_i (v := r1) (wc := ([] : va_W)) (wc' := ([] : va_W)) (ws' := (gA t fsa 71 fs)) (cutB (bs := [gA t fsa 71 fs]) (cs := []) (cs' := []) (bs' := [gA t fsa 71 fs]) [] hP hD hS hA rfl rfl rfl rfl) hS (fun hPc hDc => va_runS (As := [.int v]) (rest := []) ⟨hx, hb, hml, hown, hts⟩ (mtX3_wanted l D t v r1 h1 _) (va_cwS 1 hts (gBS kw302 kw303 kw5 kw304) rfl rfl rfl (by decide +kernel) ⟨Nat.le_of_ble_eq_true rfl, Nat.le_of_ble_eq_true rfl⟩) (sPc_S hPc hK hDc hE) rfl rfl hl.1 rfl (lv_room (Nat.le_of_ble_eq_true rfl)) dX3_start_1 ⟨Nat.zero_le _, Nat.zero_le _⟩) (fun H locs hP hD hS => ?_)
  refine lv_aload_n hx hb dX3_start_4 rfl (lv_at hl 0 rfl) ?_
  refine lv_bipush (v := 8) hx hb dX3_start_5 (by decide) ?_
  refine lv_iload_n hx hb dX3_start_7 rfl (lv_at hl 1 rfl) ?_
  refine lv_iadd hx hb dX3_start_8 ?_
  obtain ⟨g2, h⟩ := og h
  refine va_iald hx hb hK hP 0 0 rfl rfl (pin_in g2) dX3_start_9 ?_
  refine lv_iadd hx hb dX3_start_10 ?_
  refine lv_istore_n (lv' := [(2, .int (r1 + (fs (Int32.toNatClampNeg (8 + v))))), (0, .ref fsa), (1, .int v)]) hx hb dX3_start_11 rfl hl (by decide) rfl (fun ls hl => ?_)
  refine lv_iload_n hx hb dX3_start_12 rfl (lv_at hl 0 rfl) ?_
  refine lv_if_ge (tgt := 20) hx hb dX3_start_13 (by decide) (fun c3 => ?_) (fun c3 => ?_)
  · have h := it_p c3 h
    refine lv_iload_n hx hb dX3_start_20 rfl (lv_at hl 0 rfl) ?_
    obtain rfl := os h
    exact ret_i hx hb hr hlocks hP hK hD hS dX3_start_21
  · have h := it_n c3 h
    refine lv_iconst (v := 0) hx hb dX3_start_16 (by decide) ?_
    refine lv_goto (tgt := 21) hx hb dX3_start_17 (by decide) ?_
    obtain rfl := os h
    exact ret_i hx hb hr hlocks hP hK hD hS dX3_start_21

theorem dX3_bounced_0 : decode cX3_bounced 0 = .ok (.aload_n 0, 1) := by decide +kernel
theorem dX3_bounced_1 : decode cX3_bounced 1 = .ok (.iconst 4, 1) := by decide +kernel
theorem dX3_bounced_2 : decode cX3_bounced 2 = .ok (.iaload, 1) := by decide +kernel
theorem dX3_bounced_3 : decode cX3_bounced 3 = .ok (.aload_n 0, 1) := by decide +kernel
theorem dX3_bounced_4 : decode cX3_bounced 4 = .ok (.iconst 1, 1) := by decide +kernel
theorem dX3_bounced_5 : decode cX3_bounced 5 = .ok (.iaload, 1) := by decide +kernel
theorem dX3_bounced_6 : decode cX3_bounced 6 = .ok (.if_icmp .le 15, 3) := by decide +kernel
theorem dX3_bounced_9 : decode cX3_bounced 9 = .ok (.aload_n 0, 1) := by decide +kernel
theorem dX3_bounced_10 : decode cX3_bounced 10 = .ok (.iconst 4, 1) := by decide +kernel
theorem dX3_bounced_11 : decode cX3_bounced 11 = .ok (.iaload, 1) := by decide +kernel
theorem dX3_bounced_12 : decode cX3_bounced 12 = .ok (.aload_n 0, 1) := by decide +kernel
theorem dX3_bounced_13 : decode cX3_bounced 13 = .ok (.iconst 1, 1) := by decide +kernel
theorem dX3_bounced_14 : decode cX3_bounced 14 = .ok (.iaload, 1) := by decide +kernel
theorem dX3_bounced_15 : decode cX3_bounced 15 = .ok (.isub, 1) := by decide +kernel
theorem dX3_bounced_16 : decode cX3_bounced 16 = .ok (.iconst 5, 1) := by decide +kernel
theorem dX3_bounced_17 : decode cX3_bounced 17 = .ok (.idiv, 1) := by decide +kernel
theorem dX3_bounced_18 : decode cX3_bounced 18 = .ok (.goto 4, 3) := by decide +kernel
theorem dX3_bounced_21 : decode cX3_bounced 21 = .ok (.iconst 0, 1) := by decide +kernel
theorem dX3_bounced_22 : decode cX3_bounced 22 = .ok (.istore_n 1, 1) := by decide +kernel
theorem dX3_bounced_23 : decode cX3_bounced 23 = .ok (.iload_n 1, 1) := by decide +kernel
theorem dX3_bounced_24 : decode cX3_bounced 24 = .ok (.bipush 6, 2) := by decide +kernel
theorem dX3_bounced_26 : decode cX3_bounced 26 = .ok (.if_icmp .le 8, 3) := by decide +kernel
theorem dX3_bounced_29 : decode cX3_bounced 29 = .ok (.bipush 6, 2) := by decide +kernel
theorem dX3_bounced_31 : decode cX3_bounced 31 = .ok (.goto 4, 3) := by decide +kernel
theorem dX3_bounced_34 : decode cX3_bounced 34 = .ok (.iload_n 1, 1) := by decide +kernel
theorem dX3_bounced_35 : decode cX3_bounced 35 = .ok (.ireturn, 1) := by decide +kernel
abbrev zX3_bounced : List Cond := .code yX3_bounced cX3_bounced 2 (some .int) :: BIG
def fX3_bounced (fs : (Nat → Int32)) : Option (Int32) := (if (fs (Int32.toNatClampNeg 4)) ≤ (fs (Int32.toNatClampNeg 1)) then some 0 else (if (((fs (Int32.toNatClampNeg 4)) - (fs (Int32.toNatClampNeg 1))) / 5) ≤ 6 then some (((fs (Int32.toNatClampNeg 4)) - (fs (Int32.toNatClampNeg 1))) / 5) else some 6))
set_option maxHeartbeats 4000000 in
set_option maxRecDepth 100000 in
theorem mtX3_bounced (l : Launch) (D : va_G) (t : Nat → ClassId) (fsa : Nat) (fs : (Nat → Int32)) (out : Int32) (h : fX3_bounced fs = some out)  (sz : Nat) : Met l yX3_bounced zX3_bounced ({ frames := 0, cells := 0, slots := 0, locals := 0 }) (sPc D t (gA t fsa 71 fs) sz [.ref fsa]) (qI D t (gA t fsa 71 fs) out (va_A (gA t fsa 71 fs) sz)) 0 0 (va_A (gA t fsa 71 fs) sz) := by
  refine met_of (Qf := fun A => qI D t (gA t fsa 71 fs) out A) (cc := cX3_bounced) (maxL := 2) (ret := some .int) (by decide) rfl (Nat.le_of_ble_eq_true rfl) ?_
  intro p e s m args below meth c A hx hb hr hml hts hown hlocks hA hP hK hD hE hS ls hl
  have htB : ∀ w ∈ BIG, w.before args s = true := fun w h => hts w (List.mem_cons_of_mem _ h)
  have hown : s.vm.findClass RX3 = some m.cls := hown
  have hl : lv_has ls 2 [(0, .ref fsa)] := hl
  unfold fX3_bounced at h
  refine lv_aload_n hx hb dX3_bounced_0 rfl (lv_at hl 0 rfl) ?_
  refine lv_iconst (v := 4) hx hb dX3_bounced_1 (by decide) ?_
  refine va_iald hx hb hK hP 0 0 rfl rfl (pin_in (by decide)) dX3_bounced_2 ?_
  refine lv_aload_n hx hb dX3_bounced_3 rfl (lv_at hl 0 rfl) ?_
  refine lv_iconst (v := 1) hx hb dX3_bounced_4 (by decide) ?_
  refine va_iald hx hb hK hP 0 0 rfl rfl (pin_in (by decide)) dX3_bounced_5 ?_
  refine lv_icmp_le (tgt := 21) hx hb dX3_bounced_6 (by decide) (fun c1 => ?_) (fun c1 => ?_)
  · have h := it_p c1 h
    refine lv_iconst (v := 0) hx hb dX3_bounced_21 (by decide) ?_
    refine lv_istore_n (lv' := [(1, .int 0), (0, .ref fsa)]) hx hb dX3_bounced_22 rfl hl (by decide) rfl (fun ls hl => ?_)
    refine lv_iload_n hx hb dX3_bounced_23 rfl (lv_at hl 0 rfl) ?_
    refine lv_bipush (v := 6) hx hb dX3_bounced_24 (by decide) ?_
    refine lv_icmp_le (tgt := 34) hx hb dX3_bounced_26 (by decide) (fun c2 => ?_) (fun c2 => ?_)
    · refine lv_iload_n hx hb dX3_bounced_34 rfl (lv_at hl 0 rfl) ?_
      obtain rfl := os h
      exact ret_i hx hb hr hlocks hP hK hD hS dX3_bounced_35
    · exact absurd c2 (by decide)
  · have h := it_n c1 h
    refine lv_aload_n hx hb dX3_bounced_9 rfl (lv_at hl 0 rfl) ?_
    refine lv_iconst (v := 4) hx hb dX3_bounced_10 (by decide) ?_
    refine va_iald hx hb hK hP 0 0 rfl rfl (pin_in (by decide)) dX3_bounced_11 ?_
    refine lv_aload_n hx hb dX3_bounced_12 rfl (lv_at hl 0 rfl) ?_
    refine lv_iconst (v := 1) hx hb dX3_bounced_13 (by decide) ?_
    refine va_iald hx hb hK hP 0 0 rfl rfl (pin_in (by decide)) dX3_bounced_14 ?_
    refine lv_isub hx hb dX3_bounced_15 ?_
    refine lv_iconst (v := 5) hx hb dX3_bounced_16 (by decide) ?_
    refine lv_idiv hx hb dX3_bounced_17 (by decide) ?_
    refine lv_goto (tgt := 22) hx hb dX3_bounced_18 (by decide) ?_
    refine lv_istore_n (lv' := [(1, .int (((fs (Int32.toNatClampNeg 4)) - (fs (Int32.toNatClampNeg 1))) / 5)), (0, .ref fsa)]) hx hb dX3_bounced_22 rfl hl (by decide) rfl (fun ls hl => ?_)
    refine lv_iload_n hx hb dX3_bounced_23 rfl (lv_at hl 0 rfl) ?_
    refine lv_bipush (v := 6) hx hb dX3_bounced_24 (by decide) ?_
    refine lv_icmp_le (tgt := 34) hx hb dX3_bounced_26 (by decide) (fun c3 => ?_) (fun c3 => ?_)
    · have h := it_p c3 h
      refine lv_iload_n hx hb dX3_bounced_34 rfl (lv_at hl 0 rfl) ?_
      obtain rfl := os h
      exact ret_i hx hb hr hlocks hP hK hD hS dX3_bounced_35
    · have h := it_n c3 h
      refine lv_bipush (v := 6) hx hb dX3_bounced_29 (by decide) ?_
      refine lv_goto (tgt := 35) hx hb dX3_bounced_31 (by decide) ?_
      obtain rfl := os h
      exact ret_i hx hb hr hlocks hP hK hD hS dX3_bounced_35

theorem dX3_lays_0 : decode cX3_lays 0 = .ok (.iconst 0, 1) := by decide +kernel
theorem dX3_lays_1 : decode cX3_lays 1 = .ok (.istore_n 3, 1) := by decide +kernel
theorem dX3_lays_2 : decode cX3_lays 2 = .ok (.aload_n 1, 1) := by decide +kernel
theorem dX3_lays_3 : decode cX3_lays 3 = .ok (.iload_n 2, 1) := by decide +kernel
theorem dX3_lays_4 : decode cX3_lays 4 = .ok (.invokestatic 56, 3) := by decide +kernel
theorem dX3_lays_7 : decode cX3_lays 7 = .ok (.istore 4, 2) := by decide +kernel
theorem dX3_lays_9 : decode cX3_lays 9 = .ok (.iconst 0, 1) := by decide +kernel
theorem dX3_lays_10 : decode cX3_lays 10 = .ok (.istore 5, 2) := by decide +kernel
theorem dX3_lays_12 : decode cX3_lays 12 = .ok (.iload 5, 2) := by decide +kernel
theorem dX3_lays_14 : decode cX3_lays 14 = .ok (.bipush 24, 2) := by decide +kernel
theorem dX3_lays_16 : decode cX3_lays 16 = .ok (.if_icmp .ge 73, 3) := by decide +kernel
theorem dX3_lays_19 : decode cX3_lays 19 = .ok (.iload_n 3, 1) := by decide +kernel
theorem dX3_lays_20 : decode cX3_lays 20 = .ok (.aload_n 1, 1) := by decide +kernel
theorem dX3_lays_21 : decode cX3_lays 21 = .ok (.iconst 0, 1) := by decide +kernel
theorem dX3_lays_22 : decode cX3_lays 22 = .ok (.iload 5, 2) := by decide +kernel
theorem dX3_lays_24 : decode cX3_lays 24 = .ok (.invokestatic 60, 3) := by decide +kernel
theorem dX3_lays_27 : decode cX3_lays 27 = .ok (.iadd, 1) := by decide +kernel
theorem dX3_lays_28 : decode cX3_lays 28 = .ok (.istore_n 3, 1) := by decide +kernel
theorem dX3_lays_29 : decode cX3_lays 29 = .ok (.iload 4, 2) := by decide +kernel
theorem dX3_lays_31 : decode cX3_lays 31 = .ok (.aload_n 1, 1) := by decide +kernel
theorem dX3_lays_32 : decode cX3_lays 32 = .ok (.iconst 1, 1) := by decide +kernel
theorem dX3_lays_33 : decode cX3_lays 33 = .ok (.iload 5, 2) := by decide +kernel
theorem dX3_lays_35 : decode cX3_lays 35 = .ok (.invokestatic 60, 3) := by decide +kernel
theorem dX3_lays_38 : decode cX3_lays 38 = .ok (.iadd, 1) := by decide +kernel
theorem dX3_lays_39 : decode cX3_lays 39 = .ok (.istore 4, 2) := by decide +kernel
theorem dX3_lays_41 : decode cX3_lays 41 = .ok (.iload 4, 2) := by decide +kernel
theorem dX3_lays_43 : decode cX3_lays 43 = .ok (.iload_n 3, 1) := by decide +kernel
theorem dX3_lays_44 : decode cX3_lays 44 = .ok (.if_icmp .ge 7, 3) := by decide +kernel
theorem dX3_lays_47 : decode cX3_lays 47 = .ok (.iload_n 3, 1) := by decide +kernel
theorem dX3_lays_48 : decode cX3_lays 48 = .ok (.goto 5, 3) := by decide +kernel
theorem dX3_lays_51 : decode cX3_lays 51 = .ok (.iload 4, 2) := by decide +kernel
theorem dX3_lays_53 : decode cX3_lays 53 = .ok (.istore 4, 2) := by decide +kernel
theorem dX3_lays_55 : decode cX3_lays 55 = .ok (.aload_n 0, 1) := by decide +kernel
theorem dX3_lays_56 : decode cX3_lays 56 = .ok (.getfield 25, 3) := by decide +kernel
theorem dX3_lays_59 : decode cX3_lays 59 = .ok (.iload 5, 2) := by decide +kernel
theorem dX3_lays_61 : decode cX3_lays 61 = .ok (.iload_n 3, 1) := by decide +kernel
theorem dX3_lays_62 : decode cX3_lays 62 = .ok (.iastore, 1) := by decide +kernel
theorem dX3_lays_63 : decode cX3_lays 63 = .ok (.aload_n 0, 1) := by decide +kernel
theorem dX3_lays_64 : decode cX3_lays 64 = .ok (.getfield 28, 3) := by decide +kernel
theorem dX3_lays_67 : decode cX3_lays 67 = .ok (.iload 5, 2) := by decide +kernel
theorem dX3_lays_69 : decode cX3_lays 69 = .ok (.iload 4, 2) := by decide +kernel
theorem dX3_lays_71 : decode cX3_lays 71 = .ok (.iastore, 1) := by decide +kernel
theorem dX3_lays_72 : decode cX3_lays 72 = .ok (.aload_n 0, 1) := by decide +kernel
theorem dX3_lays_73 : decode cX3_lays 73 = .ok (.getfield 31, 3) := by decide +kernel
theorem dX3_lays_76 : decode cX3_lays 76 = .ok (.iload 5, 2) := by decide +kernel
theorem dX3_lays_78 : decode cX3_lays 78 = .ok (.iload 4, 2) := by decide +kernel
theorem dX3_lays_80 : decode cX3_lays 80 = .ok (.iload_n 3, 1) := by decide +kernel
theorem dX3_lays_81 : decode cX3_lays 81 = .ok (.isub, 1) := by decide +kernel
theorem dX3_lays_82 : decode cX3_lays 82 = .ok (.iastore, 1) := by decide +kernel
theorem dX3_lays_83 : decode cX3_lays 83 = .ok (.iinc 5 1, 3) := by decide +kernel
theorem dX3_lays_86 : decode cX3_lays 86 = .ok (.goto (-74), 3) := by decide +kernel
theorem dX3_lays_89 : decode cX3_lays 89 = .ok (.bipush 24, 2) := by decide +kernel
theorem dX3_lays_91 : decode cX3_lays 91 = .ok (.aload_n 1, 1) := by decide +kernel
theorem dX3_lays_92 : decode cX3_lays 92 = .ok (.invokestatic 64, 3) := by decide +kernel
theorem dX3_lays_95 : decode cX3_lays 95 = .ok (.isub, 1) := by decide +kernel
theorem dX3_lays_96 : decode cX3_lays 96 = .ok (.istore 5, 2) := by decide +kernel
theorem dX3_lays_98 : decode cX3_lays 98 = .ok (.iload 5, 2) := by decide +kernel
theorem dX3_lays_100 : decode cX3_lays 100 = .ok (.bipush 24, 2) := by decide +kernel
theorem dX3_lays_102 : decode cX3_lays 102 = .ok (.if_icmp .ge 65, 3) := by decide +kernel
theorem dX3_lays_105 : decode cX3_lays 105 = .ok (.iload_n 3, 1) := by decide +kernel
theorem dX3_lays_106 : decode cX3_lays 106 = .ok (.aload_n 1, 1) := by decide +kernel
theorem dX3_lays_107 : decode cX3_lays 107 = .ok (.iconst 2, 1) := by decide +kernel
theorem dX3_lays_108 : decode cX3_lays 108 = .ok (.iaload, 1) := by decide +kernel
theorem dX3_lays_109 : decode cX3_lays 109 = .ok (.iadd, 1) := by decide +kernel
theorem dX3_lays_110 : decode cX3_lays 110 = .ok (.aload_n 0, 1) := by decide +kernel
theorem dX3_lays_111 : decode cX3_lays 111 = .ok (.getfield 28, 3) := by decide +kernel
theorem dX3_lays_114 : decode cX3_lays 114 = .ok (.iload 5, 2) := by decide +kernel
theorem dX3_lays_116 : decode cX3_lays 116 = .ok (.iaload, 1) := by decide +kernel
theorem dX3_lays_117 : decode cX3_lays 117 = .ok (.if_icmp .ge 11, 3) := by decide +kernel
theorem dX3_lays_120 : decode cX3_lays 120 = .ok (.iload_n 3, 1) := by decide +kernel
theorem dX3_lays_121 : decode cX3_lays 121 = .ok (.aload_n 1, 1) := by decide +kernel
theorem dX3_lays_122 : decode cX3_lays 122 = .ok (.iconst 2, 1) := by decide +kernel
theorem dX3_lays_123 : decode cX3_lays 123 = .ok (.iaload, 1) := by decide +kernel
theorem dX3_lays_124 : decode cX3_lays 124 = .ok (.iadd, 1) := by decide +kernel
theorem dX3_lays_125 : decode cX3_lays 125 = .ok (.goto 10, 3) := by decide +kernel
theorem dX3_lays_128 : decode cX3_lays 128 = .ok (.aload_n 0, 1) := by decide +kernel
theorem dX3_lays_129 : decode cX3_lays 129 = .ok (.getfield 28, 3) := by decide +kernel
theorem dX3_lays_132 : decode cX3_lays 132 = .ok (.iload 5, 2) := by decide +kernel
theorem dX3_lays_134 : decode cX3_lays 134 = .ok (.iaload, 1) := by decide +kernel
theorem dX3_lays_135 : decode cX3_lays 135 = .ok (.istore 6, 2) := by decide +kernel
theorem dX3_lays_137 : decode cX3_lays 137 = .ok (.aload_n 0, 1) := by decide +kernel
theorem dX3_lays_138 : decode cX3_lays 138 = .ok (.getfield 31, 3) := by decide +kernel
theorem dX3_lays_141 : decode cX3_lays 141 = .ok (.iload 5, 2) := by decide +kernel
theorem dX3_lays_143 : decode cX3_lays 143 = .ok (.dup2, 1) := by decide +kernel
theorem dX3_lays_144 : decode cX3_lays 144 = .ok (.iaload, 1) := by decide +kernel
theorem dX3_lays_145 : decode cX3_lays 145 = .ok (.iload 6, 2) := by decide +kernel
theorem dX3_lays_147 : decode cX3_lays 147 = .ok (.iload_n 3, 1) := by decide +kernel
theorem dX3_lays_148 : decode cX3_lays 148 = .ok (.if_icmp .le 10, 3) := by decide +kernel
theorem dX3_lays_151 : decode cX3_lays 151 = .ok (.iload 6, 2) := by decide +kernel
theorem dX3_lays_153 : decode cX3_lays 153 = .ok (.iload_n 3, 1) := by decide +kernel
theorem dX3_lays_154 : decode cX3_lays 154 = .ok (.isub, 1) := by decide +kernel
theorem dX3_lays_155 : decode cX3_lays 155 = .ok (.goto 4, 3) := by decide +kernel
theorem dX3_lays_158 : decode cX3_lays 158 = .ok (.iconst 0, 1) := by decide +kernel
theorem dX3_lays_159 : decode cX3_lays 159 = .ok (.isub, 1) := by decide +kernel
theorem dX3_lays_160 : decode cX3_lays 160 = .ok (.iastore, 1) := by decide +kernel
theorem dX3_lays_161 : decode cX3_lays 161 = .ok (.iinc 5 1, 3) := by decide +kernel
theorem dX3_lays_164 : decode cX3_lays 164 = .ok (.goto (-66), 3) := by decide +kernel
theorem dX3_lays_167 : decode cX3_lays 167 = .ok (.return_, 1) := by decide +kernel
abbrev zX3_lays : List Cond := .code yX3_lays cX3_lays 7 none :: BIG
def fX3_lays_j53 (mo : MoT) (fs : (Nat → Int32)) (K12 : ((Nat → Int32) × (Nat → Int32) × (Nat → Int32) × Int32 × Int32 × Int32) → Option ((Nat → Int32) × (Nat → Int32) × (Nat → Int32))) (v53 : (Nat → Int32) × (Nat → Int32) × (Nat → Int32) × Int32 × Int32 × Int32) : Option ((Nat → Int32) × (Nat → Int32) × (Nat → Int32)) := gd (pin v53.2.2.2.2.1 24) (K12 ((upd v53.1 (Int32.toNatClampNeg v53.2.2.2.2.1) v53.2.2.2.1), (upd v53.2.1 (Int32.toNatClampNeg v53.2.2.2.2.1) v53.2.2.2.2.2), (upd v53.2.2.1 (Int32.toNatClampNeg v53.2.2.2.2.1) (v53.2.2.2.2.2 - v53.2.2.2.1)), v53.2.2.2.1, v53.2.2.2.2.2, v53.2.2.2.2.1 + 1))
def fX3_lays_j135 (mo : MoT) (fs : (Nat → Int32)) (K98 : ((Nat → Int32) × (Nat → Int32) × (Nat → Int32) × Int32 × Int32) → Option ((Nat → Int32) × (Nat → Int32) × (Nat → Int32))) (v135 : (Nat → Int32) × (Nat → Int32) × (Nat → Int32) × Int32 × Int32 × Int32) : Option ((Nat → Int32) × (Nat → Int32) × (Nat → Int32)) := gd (pin v135.2.2.2.2.1 24) ((if v135.2.2.2.2.2 ≤ v135.2.2.2.1 then K98 (v135.1, v135.2.1, (upd v135.2.2.1 (Int32.toNatClampNeg v135.2.2.2.2.1) ((v135.2.2.1 (Int32.toNatClampNeg v135.2.2.2.2.1)) - 0)), v135.2.2.2.1, v135.2.2.2.2.1 + 1) else K98 (v135.1, v135.2.1, (upd v135.2.2.1 (Int32.toNatClampNeg v135.2.2.2.2.1) ((v135.2.2.1 (Int32.toNatClampNeg v135.2.2.2.2.1)) - (v135.2.2.2.2.2 - v135.2.2.2.1))), v135.2.2.2.1, v135.2.2.2.2.1 + 1)))
def fX3_lays_l98 (mo : MoT) (fs : (Nat → Int32))  (K98 : ((Nat → Int32) × (Nat → Int32) × (Nat → Int32) × Int32 × Int32) → Option ((Nat → Int32) × (Nat → Int32) × (Nat → Int32))) (v98 : (Nat → Int32) × (Nat → Int32) × (Nat → Int32) × Int32 × Int32) : Option ((Nat → Int32) × (Nat → Int32) × (Nat → Int32)) := (if 24 ≤ v98.2.2.2.2 then some (v98.1, v98.2.1, v98.2.2.1) else gd (pin v98.2.2.2.2 24) ((if (v98.2.1 (Int32.toNatClampNeg v98.2.2.2.2)) ≤ (v98.2.2.2.1 + (fs (Int32.toNatClampNeg 2))) then fX3_lays_j135 mo fs K98 (v98.1, v98.2.1, v98.2.2.1, v98.2.2.2.1, v98.2.2.2.2, v98.2.1 (Int32.toNatClampNeg v98.2.2.2.2)) else fX3_lays_j135 mo fs K98 (v98.1, v98.2.1, v98.2.2.1, v98.2.2.2.1, v98.2.2.2.2, v98.2.2.2.1 + (fs (Int32.toNatClampNeg 2))))))
def fX3_lays_l12 (mo : MoT) (fs : (Nat → Int32))  (K12 : ((Nat → Int32) × (Nat → Int32) × (Nat → Int32) × Int32 × Int32 × Int32) → Option ((Nat → Int32) × (Nat → Int32) × (Nat → Int32))) (v12 : (Nat → Int32) × (Nat → Int32) × (Nat → Int32) × Int32 × Int32 × Int32) : Option ((Nat → Int32) × (Nat → Int32) × (Nat → Int32)) := (if 24 ≤ v12.2.2.2.2.2 then (fX3_bounced fs).bind (fun r3 => lp (fX3_lays_l98 mo fs) 2000 (v12.1, v12.2.1, v12.2.2.1, v12.2.2.2.1, 24 - r3)) else (fX3_takes fs 0 v12.2.2.2.2.2).bind (fun r4 => (fX3_takes fs 1 v12.2.2.2.2.2).bind (fun r5 => (if (v12.2.2.2.1 + r4) ≤ (v12.2.2.2.2.1 + r5) then fX3_lays_j53 mo fs K12 (v12.1, v12.2.1, v12.2.2.1, v12.2.2.2.1 + r4, v12.2.2.2.2.2, v12.2.2.2.2.1 + r5) else fX3_lays_j53 mo fs K12 (v12.1, v12.2.1, v12.2.2.1, v12.2.2.2.1 + r4, v12.2.2.2.2.2, v12.2.2.2.1 + r4)))))
def fX3_lays (mo : MoT) (fs : (Nat → Int32)) (le : (Nat → Int32)) (co : (Nat → Int32)) (li : (Nat → Int32)) (v : Int32) : Option ((Nat → Int32) × (Nat → Int32) × (Nat → Int32)) := (fX3_start fs v).bind (fun r1 => lp (fX3_lays_l12 mo fs) 2000 (le, co, li, 0, r1, 0))
set_option maxHeartbeats 4000000 in
set_option maxRecDepth 100000 in
theorem mtX3_lays (l : Launch) (D : va_G) (t : Nat → ClassId) (mh : Nat) (mb : Nat → Nat) (mo : MoT) (fsa : Nat) (fs : (Nat → Int32)) (le : (Nat → Int32)) (co : (Nat → Int32)) (li : (Nat → Int32)) (v : Int32) (out : (Nat → Int32) × (Nat → Int32) × (Nat → Int32)) (h : fX3_lays mo fs le co li v = some out)  (sz : Nat) : Met l yX3_lays zX3_lays ({ frames := 2, cells := 0, slots := 0, locals := 42 }) (sPc D t (gMo mh mb mo ++ (gA t fsa 71 fs ++ (gA t (mb 5) 24 le ++ (gA t (mb 6) 24 co ++ (gA t (mb 7) 24 li))))) sz [.ref mh, .ref fsa, .int v]) (qV D t (gMo mh mb mo ++ (gA t fsa 71 fs ++ (gA t (mb 5) 24 out.1 ++ (gA t (mb 6) 24 out.2.1 ++ (gA t (mb 7) 24 out.2.2))))) (va_A (gMo mh mb mo ++ (gA t fsa 71 fs ++ (gA t (mb 5) 24 le ++ (gA t (mb 6) 24 co ++ (gA t (mb 7) 24 li))))) sz)) 0 0 (va_A (gMo mh mb mo ++ (gA t fsa 71 fs ++ (gA t (mb 5) 24 le ++ (gA t (mb 6) 24 co ++ (gA t (mb 7) 24 li))))) sz) := by
  refine met_of (Qf := fun A => qV D t (gMo mh mb mo ++ (gA t fsa 71 fs ++ (gA t (mb 5) 24 out.1 ++ (gA t (mb 6) 24 out.2.1 ++ (gA t (mb 7) 24 out.2.2))))) A) (cc := cX3_lays) (maxL := 7) (ret := none) (by decide) rfl (Nat.le_of_ble_eq_true rfl) ?_
  intro p e s m args below meth c A hx hb hr hml hts hown hlocks hA hP hK hD hE hS ls hl
  have htB : ∀ w ∈ BIG, w.before args s = true := fun w h => hts w (List.mem_cons_of_mem _ h)
  have hown : s.vm.findClass RX3 = some m.cls := hown
  have hl : lv_has ls 7 [(0, .ref mh), (1, .ref fsa), (2, .int v)] := hl
  unfold fX3_lays at h
  have J98 : ∀ (fu98 : Nat) (v98 : (Nat → Int32) × (Nat → Int32) × (Nat → Int32) × Int32 × Int32), lp (fX3_lays_l98 mo fs) fu98 v98 = some out → ∀ (H : Heap) (locs : List Loc), va_P D vwCl (gMo mh mb mo ++ (gA t fsa 71 fs ++ (gA t (mb 5) 24 v98.1 ++ (gA t (mb 6) 24 v98.2.1 ++ (gA t (mb 7) 24 v98.2.2.1))))) H → va_D A (gMo mh mb mo ++ (gA t fsa 71 fs ++ (gA t (mb 5) 24 v98.1 ++ (gA t (mb 6) 24 v98.2.1 ++ (gA t (mb 7) 24 v98.2.2.1))))) → va_S A s.heap H locs → ∀ ls : Array Slot, lv_has ls 7 [(0, .ref mh), (1, .ref fsa), (3, .int v98.2.2.2.1), (5, .int v98.2.2.2.2)] → W p l e ({ frames := 2, cells := 0, slots := 0, locals := 42 }) s m args below meth c H locs 0 0 (MQ below (qV D t (gMo mh mb mo ++ (gA t fsa 71 fs ++ (gA t (mb 5) 24 out.1 ++ (gA t (mb 6) 24 out.2.1 ++ (gA t (mb 7) 24 out.2.2))))) A) args s 0 0 A) (F0 m 98 ls []) := by
    intro fu98
    induction fu98 with
    | zero => intro v98 h; cases h
    | succ fu98 ih98 =>
      intro v98 h H locs hP hD hS ls hl
      have h : fX3_lays_l98 mo fs (lp (fX3_lays_l98 mo fs) fu98) v98 = some out := h
      unfold fX3_lays_l98 at h
      have J135 : ∀ v135 : (Nat → Int32) × (Nat → Int32) × (Nat → Int32) × Int32 × Int32 × Int32, fX3_lays_j135 mo fs (lp (fX3_lays_l98 mo fs) fu98) v135 = some out → ∀ (H : Heap) (locs : List Loc), va_P D vwCl (gMo mh mb mo ++ (gA t fsa 71 fs ++ (gA t (mb 5) 24 v135.1 ++ (gA t (mb 6) 24 v135.2.1 ++ (gA t (mb 7) 24 v135.2.2.1))))) H → va_D A (gMo mh mb mo ++ (gA t fsa 71 fs ++ (gA t (mb 5) 24 v135.1 ++ (gA t (mb 6) 24 v135.2.1 ++ (gA t (mb 7) 24 v135.2.2.1))))) → va_S A s.heap H locs → ∀ ls : Array Slot, lv_has ls 7 [(0, .ref mh), (1, .ref fsa), (3, .int v135.2.2.2.1), (5, .int v135.2.2.2.2.1)] → W p l e ({ frames := 2, cells := 0, slots := 0, locals := 42 }) s m args below meth c H locs 0 0 (MQ below (qV D t (gMo mh mb mo ++ (gA t fsa 71 fs ++ (gA t (mb 5) 24 out.1 ++ (gA t (mb 6) 24 out.2.1 ++ (gA t (mb 7) 24 out.2.2))))) A) args s 0 0 A) (F0 m 135 ls [.int v135.2.2.2.2.2]) := by
        intro v135 h H locs hP hD hS ls hl
        unfold fX3_lays_j135 at h
        refine lv_istore (lv' := [(6, .int v135.2.2.2.2.2), (0, .ref mh), (1, .ref fsa), (3, .int v135.2.2.2.1), (5, .int v135.2.2.2.2.1)]) hx hb dX3_lays_135 hl (by decide) rfl (fun ls hl => ?_)
        refine lv_aload_n hx hb dX3_lays_137 rfl (lv_at hl 1 rfl) ?_
        refine va_get (D := D) (ci := 3) (v := .ref (mb 7)) (C := RX3) (T := TX3) (N := 14) hx hb htB inlX3 hown hK hP 0 rfl rfl 13 (by decide) (htB _ kw61) (fun _ h9 => h9) rfl dX3_lays_138 ?_
        refine lv_iload hx hb dX3_lays_141 (lv_at hl 4 rfl) ?_
        refine lv_dup2_11 hx hb dX3_lays_143 rfl rfl ?_
        obtain ⟨g11, h⟩ := og h
        refine va_iald hx hb hK hP 4 0 rfl rfl (pin_in g11) dX3_lays_144 ?_
        refine lv_iload hx hb dX3_lays_145 (lv_at hl 0 rfl) ?_
        refine lv_iload_n hx hb dX3_lays_147 rfl (lv_at hl 3 rfl) ?_
        refine lv_icmp_le (tgt := 158) hx hb dX3_lays_148 (by decide) (fun c12 => ?_) (fun c12 => ?_)
        · have h := it_p c12 h
          refine lv_iconst (v := 0) hx hb dX3_lays_158 (by decide) ?_
          refine lv_isub hx hb dX3_lays_159 ?_
          refine va_iast hx hb hK hP hD hS 4 0 rfl rfl (pin_in g11) dX3_lays_160 (fun H locs hP hD hS => ?_)
          have hP : va_P D vwCl (gMo mh mb mo ++ (gA t fsa 71 fs ++ (gA t (mb 5) 24 v135.1 ++ (gA t (mb 6) 24 v135.2.1 ++ (gA t (mb 7) 24 (upd v135.2.2.1 (Int32.toNatClampNeg v135.2.2.2.2.1) ((v135.2.2.1 (Int32.toNatClampNeg v135.2.2.2.2.1)) - 0))))))) H := hP
          have hD : va_D A (gMo mh mb mo ++ (gA t fsa 71 fs ++ (gA t (mb 5) 24 v135.1 ++ (gA t (mb 6) 24 v135.2.1 ++ (gA t (mb 7) 24 (upd v135.2.2.1 (Int32.toNatClampNeg v135.2.2.2.2.1) ((v135.2.2.1 (Int32.toNatClampNeg v135.2.2.2.2.1)) - 0))))))) := hD
          refine lv_iinc (v := v135.2.2.2.2.1 + 1) (lv' := [(5, .int (v135.2.2.2.2.1 + 1)), (6, .int v135.2.2.2.2.2), (0, .ref mh), (1, .ref fsa), (3, .int v135.2.2.2.1)]) hx hb dX3_lays_161 hl (k := 4) rfl rfl (by decide) rfl (fun ls hl => ?_)
          refine lv_goto (tgt := 98) hx hb dX3_lays_164 (by decide) ?_
          exact ih98 (v135.1, v135.2.1, (upd v135.2.2.1 (Int32.toNatClampNeg v135.2.2.2.2.1) ((v135.2.2.1 (Int32.toNatClampNeg v135.2.2.2.2.1)) - 0)), v135.2.2.2.1, v135.2.2.2.2.1 + 1) h _ _ hP hD hS _ (lv_sub hl [2, 3, 4, 0] rfl)
        · have h := it_n c12 h
          refine lv_iload hx hb dX3_lays_151 (lv_at hl 0 rfl) ?_
          refine lv_iload_n hx hb dX3_lays_153 rfl (lv_at hl 3 rfl) ?_
          refine lv_isub hx hb dX3_lays_154 ?_
          refine lv_goto (tgt := 159) hx hb dX3_lays_155 (by decide) ?_
          refine lv_isub hx hb dX3_lays_159 ?_
          refine va_iast hx hb hK hP hD hS 4 0 rfl rfl (pin_in g11) dX3_lays_160 (fun H locs hP hD hS => ?_)
          have hP : va_P D vwCl (gMo mh mb mo ++ (gA t fsa 71 fs ++ (gA t (mb 5) 24 v135.1 ++ (gA t (mb 6) 24 v135.2.1 ++ (gA t (mb 7) 24 (upd v135.2.2.1 (Int32.toNatClampNeg v135.2.2.2.2.1) ((v135.2.2.1 (Int32.toNatClampNeg v135.2.2.2.2.1)) - (v135.2.2.2.2.2 - v135.2.2.2.1)))))))) H := hP
          have hD : va_D A (gMo mh mb mo ++ (gA t fsa 71 fs ++ (gA t (mb 5) 24 v135.1 ++ (gA t (mb 6) 24 v135.2.1 ++ (gA t (mb 7) 24 (upd v135.2.2.1 (Int32.toNatClampNeg v135.2.2.2.2.1) ((v135.2.2.1 (Int32.toNatClampNeg v135.2.2.2.2.1)) - (v135.2.2.2.2.2 - v135.2.2.2.1)))))))) := hD
          refine lv_iinc (v := v135.2.2.2.2.1 + 1) (lv' := [(5, .int (v135.2.2.2.2.1 + 1)), (6, .int v135.2.2.2.2.2), (0, .ref mh), (1, .ref fsa), (3, .int v135.2.2.2.1)]) hx hb dX3_lays_161 hl (k := 4) rfl rfl (by decide) rfl (fun ls hl => ?_)
          refine lv_goto (tgt := 98) hx hb dX3_lays_164 (by decide) ?_
          exact ih98 (v135.1, v135.2.1, (upd v135.2.2.1 (Int32.toNatClampNeg v135.2.2.2.2.1) ((v135.2.2.1 (Int32.toNatClampNeg v135.2.2.2.2.1)) - (v135.2.2.2.2.2 - v135.2.2.2.1))), v135.2.2.2.1, v135.2.2.2.2.1 + 1) h _ _ hP hD hS _ (lv_sub hl [2, 3, 4, 0] rfl)
      refine lv_iload hx hb dX3_lays_98 (lv_at hl 3 rfl) ?_
      refine lv_bipush (v := 24) hx hb dX3_lays_100 (by decide) ?_
      refine lv_icmp_ge (tgt := 167) hx hb dX3_lays_102 (by decide) (fun c8 => ?_) (fun c8 => ?_)
      · have h := it_p c8 h
        obtain rfl := os h
        exact ret_v hx hb hr hlocks hP hK hD hS dX3_lays_167
      · have h := it_n c8 h
        refine lv_iload_n hx hb dX3_lays_105 rfl (lv_at hl 2 rfl) ?_
        refine lv_aload_n hx hb dX3_lays_106 rfl (lv_at hl 1 rfl) ?_
        refine lv_iconst (v := 2) hx hb dX3_lays_107 (by decide) ?_
        refine va_iald hx hb hK hP 1 0 rfl rfl (pin_in (by decide)) dX3_lays_108 ?_
        refine lv_iadd hx hb dX3_lays_109 ?_
        refine lv_aload_n hx hb dX3_lays_110 rfl (lv_at hl 0 rfl) ?_
        refine va_get (D := D) (ci := 3) (v := .ref (mb 6)) (C := RX3) (T := TX3) (N := 14) hx hb htB inlX3 hown hK hP 0 rfl rfl 12 (by decide) (htB _ kw60) (fun _ h9 => h9) rfl dX3_lays_111 ?_
        refine lv_iload hx hb dX3_lays_114 (lv_at hl 3 rfl) ?_
        obtain ⟨g9, h⟩ := og h
        refine va_iald hx hb hK hP 3 0 rfl rfl (pin_in g9) dX3_lays_116 ?_
        refine lv_icmp_ge (tgt := 128) hx hb dX3_lays_117 (by decide) (fun c10 => ?_) (fun c10 => ?_)
        · have h := it_p c10 h
          refine lv_aload_n hx hb dX3_lays_128 rfl (lv_at hl 0 rfl) ?_
          refine va_get (D := D) (ci := 3) (v := .ref (mb 6)) (C := RX3) (T := TX3) (N := 14) hx hb htB inlX3 hown hK hP 0 rfl rfl 12 (by decide) (htB _ kw60) (fun _ h9 => h9) rfl dX3_lays_129 ?_
          refine lv_iload hx hb dX3_lays_132 (lv_at hl 3 rfl) ?_
          refine va_iald hx hb hK hP 3 0 rfl rfl (pin_in g9) dX3_lays_134 ?_
          exact J135 (v98.1, v98.2.1, v98.2.2.1, v98.2.2.2.1, v98.2.2.2.2, v98.2.1 (Int32.toNatClampNeg v98.2.2.2.2)) h _ _ hP hD hS _ (lv_sub hl [0, 1, 2, 3] rfl)
        · have h := it_n c10 h
          refine lv_iload_n hx hb dX3_lays_120 rfl (lv_at hl 2 rfl) ?_
          refine lv_aload_n hx hb dX3_lays_121 rfl (lv_at hl 1 rfl) ?_
          refine lv_iconst (v := 2) hx hb dX3_lays_122 (by decide) ?_
          refine va_iald hx hb hK hP 1 0 rfl rfl (pin_in (by decide)) dX3_lays_123 ?_
          refine lv_iadd hx hb dX3_lays_124 ?_
          refine lv_goto (tgt := 135) hx hb dX3_lays_125 (by decide) ?_
          exact J135 (v98.1, v98.2.1, v98.2.2.1, v98.2.2.2.1, v98.2.2.2.2, v98.2.2.2.1 + (fs (Int32.toNatClampNeg 2))) h _ _ hP hD hS _ (lv_sub hl [0, 1, 2, 3] rfl)
  have J12 : ∀ (fu12 : Nat) (v12 : (Nat → Int32) × (Nat → Int32) × (Nat → Int32) × Int32 × Int32 × Int32), lp (fX3_lays_l12 mo fs) fu12 v12 = some out → ∀ (H : Heap) (locs : List Loc), va_P D vwCl (gMo mh mb mo ++ (gA t fsa 71 fs ++ (gA t (mb 5) 24 v12.1 ++ (gA t (mb 6) 24 v12.2.1 ++ (gA t (mb 7) 24 v12.2.2.1))))) H → va_D A (gMo mh mb mo ++ (gA t fsa 71 fs ++ (gA t (mb 5) 24 v12.1 ++ (gA t (mb 6) 24 v12.2.1 ++ (gA t (mb 7) 24 v12.2.2.1))))) → va_S A s.heap H locs → ∀ ls : Array Slot, lv_has ls 7 [(0, .ref mh), (1, .ref fsa), (3, .int v12.2.2.2.1), (4, .int v12.2.2.2.2.1), (5, .int v12.2.2.2.2.2)] → W p l e ({ frames := 2, cells := 0, slots := 0, locals := 42 }) s m args below meth c H locs 0 0 (MQ below (qV D t (gMo mh mb mo ++ (gA t fsa 71 fs ++ (gA t (mb 5) 24 out.1 ++ (gA t (mb 6) 24 out.2.1 ++ (gA t (mb 7) 24 out.2.2))))) A) args s 0 0 A) (F0 m 12 ls []) := by
    intro fu12
    induction fu12 with
    | zero => intro v12 h; cases h
    | succ fu12 ih12 =>
      intro v12 h H locs hP hD hS ls hl
      have h : fX3_lays_l12 mo fs (lp (fX3_lays_l12 mo fs) fu12) v12 = some out := h
      unfold fX3_lays_l12 at h
      have J53 : ∀ v53 : (Nat → Int32) × (Nat → Int32) × (Nat → Int32) × Int32 × Int32 × Int32, fX3_lays_j53 mo fs (lp (fX3_lays_l12 mo fs) fu12) v53 = some out → ∀ (H : Heap) (locs : List Loc), va_P D vwCl (gMo mh mb mo ++ (gA t fsa 71 fs ++ (gA t (mb 5) 24 v53.1 ++ (gA t (mb 6) 24 v53.2.1 ++ (gA t (mb 7) 24 v53.2.2.1))))) H → va_D A (gMo mh mb mo ++ (gA t fsa 71 fs ++ (gA t (mb 5) 24 v53.1 ++ (gA t (mb 6) 24 v53.2.1 ++ (gA t (mb 7) 24 v53.2.2.1))))) → va_S A s.heap H locs → ∀ ls : Array Slot, lv_has ls 7 [(0, .ref mh), (1, .ref fsa), (3, .int v53.2.2.2.1), (5, .int v53.2.2.2.2.1)] → W p l e ({ frames := 2, cells := 0, slots := 0, locals := 42 }) s m args below meth c H locs 0 0 (MQ below (qV D t (gMo mh mb mo ++ (gA t fsa 71 fs ++ (gA t (mb 5) 24 out.1 ++ (gA t (mb 6) 24 out.2.1 ++ (gA t (mb 7) 24 out.2.2))))) A) args s 0 0 A) (F0 m 53 ls [.int v53.2.2.2.2.2]) := by
        intro v53 h H locs hP hD hS ls hl
        unfold fX3_lays_j53 at h
        refine lv_istore (lv' := [(4, .int v53.2.2.2.2.2), (0, .ref mh), (1, .ref fsa), (3, .int v53.2.2.2.1), (5, .int v53.2.2.2.2.1)]) hx hb dX3_lays_53 hl (by decide) rfl (fun ls hl => ?_)
        refine lv_aload_n hx hb dX3_lays_55 rfl (lv_at hl 1 rfl) ?_
        refine va_get (D := D) (ci := 3) (v := .ref (mb 5)) (C := RX3) (T := TX3) (N := 14) hx hb htB inlX3 hown hK hP 0 rfl rfl 11 (by decide) (htB _ kw59) (fun _ h9 => h9) rfl dX3_lays_56 ?_
        refine lv_iload hx hb dX3_lays_59 (lv_at hl 4 rfl) ?_
        refine lv_iload_n hx hb dX3_lays_61 rfl (lv_at hl 3 rfl) ?_
        obtain ⟨g7, h⟩ := og h
        refine va_iast hx hb hK hP hD hS 2 0 rfl rfl (pin_in g7) dX3_lays_62 (fun H locs hP hD hS => ?_)
        have hP : va_P D vwCl (gMo mh mb mo ++ (gA t fsa 71 fs ++ (gA t (mb 5) 24 (upd v53.1 (Int32.toNatClampNeg v53.2.2.2.2.1) v53.2.2.2.1) ++ (gA t (mb 6) 24 v53.2.1 ++ (gA t (mb 7) 24 v53.2.2.1))))) H := hP
        have hD : va_D A (gMo mh mb mo ++ (gA t fsa 71 fs ++ (gA t (mb 5) 24 (upd v53.1 (Int32.toNatClampNeg v53.2.2.2.2.1) v53.2.2.2.1) ++ (gA t (mb 6) 24 v53.2.1 ++ (gA t (mb 7) 24 v53.2.2.1))))) := hD
        refine lv_aload_n hx hb dX3_lays_63 rfl (lv_at hl 1 rfl) ?_
        refine va_get (D := D) (ci := 3) (v := .ref (mb 6)) (C := RX3) (T := TX3) (N := 14) hx hb htB inlX3 hown hK hP 0 rfl rfl 12 (by decide) (htB _ kw60) (fun _ h9 => h9) rfl dX3_lays_64 ?_
        refine lv_iload hx hb dX3_lays_67 (lv_at hl 4 rfl) ?_
        refine lv_iload hx hb dX3_lays_69 (lv_at hl 0 rfl) ?_
        refine va_iast hx hb hK hP hD hS 3 0 rfl rfl (pin_in g7) dX3_lays_71 (fun H locs hP hD hS => ?_)
        have hP : va_P D vwCl (gMo mh mb mo ++ (gA t fsa 71 fs ++ (gA t (mb 5) 24 (upd v53.1 (Int32.toNatClampNeg v53.2.2.2.2.1) v53.2.2.2.1) ++ (gA t (mb 6) 24 (upd v53.2.1 (Int32.toNatClampNeg v53.2.2.2.2.1) v53.2.2.2.2.2) ++ (gA t (mb 7) 24 v53.2.2.1))))) H := hP
        have hD : va_D A (gMo mh mb mo ++ (gA t fsa 71 fs ++ (gA t (mb 5) 24 (upd v53.1 (Int32.toNatClampNeg v53.2.2.2.2.1) v53.2.2.2.1) ++ (gA t (mb 6) 24 (upd v53.2.1 (Int32.toNatClampNeg v53.2.2.2.2.1) v53.2.2.2.2.2) ++ (gA t (mb 7) 24 v53.2.2.1))))) := hD
        refine lv_aload_n hx hb dX3_lays_72 rfl (lv_at hl 1 rfl) ?_
        refine va_get (D := D) (ci := 3) (v := .ref (mb 7)) (C := RX3) (T := TX3) (N := 14) hx hb htB inlX3 hown hK hP 0 rfl rfl 13 (by decide) (htB _ kw61) (fun _ h9 => h9) rfl dX3_lays_73 ?_
        refine lv_iload hx hb dX3_lays_76 (lv_at hl 4 rfl) ?_
        refine lv_iload hx hb dX3_lays_78 (lv_at hl 0 rfl) ?_
        refine lv_iload_n hx hb dX3_lays_80 rfl (lv_at hl 3 rfl) ?_
        refine lv_isub hx hb dX3_lays_81 ?_
        refine va_iast hx hb hK hP hD hS 4 0 rfl rfl (pin_in g7) dX3_lays_82 (fun H locs hP hD hS => ?_)
        have hP : va_P D vwCl (gMo mh mb mo ++ (gA t fsa 71 fs ++ (gA t (mb 5) 24 (upd v53.1 (Int32.toNatClampNeg v53.2.2.2.2.1) v53.2.2.2.1) ++ (gA t (mb 6) 24 (upd v53.2.1 (Int32.toNatClampNeg v53.2.2.2.2.1) v53.2.2.2.2.2) ++ (gA t (mb 7) 24 (upd v53.2.2.1 (Int32.toNatClampNeg v53.2.2.2.2.1) (v53.2.2.2.2.2 - v53.2.2.2.1))))))) H := hP
        have hD : va_D A (gMo mh mb mo ++ (gA t fsa 71 fs ++ (gA t (mb 5) 24 (upd v53.1 (Int32.toNatClampNeg v53.2.2.2.2.1) v53.2.2.2.1) ++ (gA t (mb 6) 24 (upd v53.2.1 (Int32.toNatClampNeg v53.2.2.2.2.1) v53.2.2.2.2.2) ++ (gA t (mb 7) 24 (upd v53.2.2.1 (Int32.toNatClampNeg v53.2.2.2.2.1) (v53.2.2.2.2.2 - v53.2.2.2.1))))))) := hD
        refine lv_iinc (v := v53.2.2.2.2.1 + 1) (lv' := [(5, .int (v53.2.2.2.2.1 + 1)), (4, .int v53.2.2.2.2.2), (0, .ref mh), (1, .ref fsa), (3, .int v53.2.2.2.1)]) hx hb dX3_lays_83 hl (k := 4) rfl rfl (by decide) rfl (fun ls hl => ?_)
        refine lv_goto (tgt := 12) hx hb dX3_lays_86 (by decide) ?_
        exact ih12 ((upd v53.1 (Int32.toNatClampNeg v53.2.2.2.2.1) v53.2.2.2.1), (upd v53.2.1 (Int32.toNatClampNeg v53.2.2.2.2.1) v53.2.2.2.2.2), (upd v53.2.2.1 (Int32.toNatClampNeg v53.2.2.2.2.1) (v53.2.2.2.2.2 - v53.2.2.2.1)), v53.2.2.2.1, v53.2.2.2.2.2, v53.2.2.2.2.1 + 1) h _ _ hP hD hS _ (lv_sub hl [2, 3, 4, 1, 0] rfl)
      refine lv_iload hx hb dX3_lays_12 (lv_at hl 4 rfl) ?_
      refine lv_bipush (v := 24) hx hb dX3_lays_14 (by decide) ?_
      refine lv_icmp_ge (tgt := 89) hx hb dX3_lays_16 (by decide) (fun c2 => ?_) (fun c2 => ?_)
      · have h := it_p c2 h
        refine lv_bipush (v := 24) hx hb dX3_lays_89 (by decide) ?_
        refine lv_aload_n hx hb dX3_lays_91 rfl (lv_at hl 1 rfl) ?_
        obtain ⟨r3, h3, h⟩ := ob h
        refine call_i (v := r3) (wc := (gA t fsa 71 fs)) (wc' := (gA t fsa 71 fs)) (ws' := (gMo mh mb mo ++ (gA t fsa 71 fs ++ (gA t (mb 5) 24 v12.1 ++ (gA t (mb 6) 24 v12.2.1 ++ (gA t (mb 7) 24 v12.2.2.1)))))) (cutB (bs := [gMo mh mb mo, gA t fsa 71 fs, gA t (mb 5) 24 v12.1, gA t (mb 6) 24 v12.2.1, gA t (mb 7) 24 v12.2.2.1]) (cs := [gA t fsa 71 fs]) (cs' := [gA t fsa 71 fs]) (bs' := [gMo mh mb mo, gA t fsa 71 fs, gA t (mb 5) 24 v12.1, gA t (mb 6) 24 v12.2.1, gA t (mb 7) 24 v12.2.2.1]) [1] hP hD hS hA rfl rfl rfl rfl) hS (fun hPc hDc => va_runS (As := [.ref fsa]) (rest := [.int 24]) ⟨hx, hb, hml, hown, hts⟩ (mtX3_bounced l D t fsa fs r3 h3 _) (va_cwS 1 hts (gBS kw308 kw309 kw5 kw310) rfl rfl rfl (by decide +kernel) ⟨Nat.le_of_ble_eq_true rfl, Nat.le_of_ble_eq_true rfl⟩) (sPc_S hPc hK hDc hE) rfl rfl hl.1 rfl (lv_room (Nat.le_of_ble_eq_true rfl)) dX3_lays_92 ⟨Nat.zero_le _, Nat.zero_le _⟩) (fun H locs hP hD hS => ?_)
        refine lv_isub hx hb dX3_lays_95 ?_
        refine lv_istore (lv' := [(5, .int (24 - r3)), (0, .ref mh), (1, .ref fsa), (3, .int v12.2.2.2.1), (4, .int v12.2.2.2.2.1)]) hx hb dX3_lays_96 hl (by decide) rfl (fun ls hl => ?_)
        exact J98 2000 (v12.1, v12.2.1, v12.2.2.1, v12.2.2.2.1, 24 - r3) h _ _ hP hD hS _ (lv_sub hl [1, 2, 3, 0] rfl)
      · have h := it_n c2 h
        refine lv_iload_n hx hb dX3_lays_19 rfl (lv_at hl 2 rfl) ?_
        refine lv_aload_n hx hb dX3_lays_20 rfl (lv_at hl 1 rfl) ?_
        refine lv_iconst (v := 0) hx hb dX3_lays_21 (by decide) ?_
        refine lv_iload hx hb dX3_lays_22 (lv_at hl 4 rfl) ?_
        obtain ⟨r4, h4, h⟩ := ob h
        refine call_i (v := r4) (wc := (gA t fsa 71 fs)) (wc' := (gA t fsa 71 fs)) (ws' := (gMo mh mb mo ++ (gA t fsa 71 fs ++ (gA t (mb 5) 24 v12.1 ++ (gA t (mb 6) 24 v12.2.1 ++ (gA t (mb 7) 24 v12.2.2.1)))))) (cutB (bs := [gMo mh mb mo, gA t fsa 71 fs, gA t (mb 5) 24 v12.1, gA t (mb 6) 24 v12.2.1, gA t (mb 7) 24 v12.2.2.1]) (cs := [gA t fsa 71 fs]) (cs' := [gA t fsa 71 fs]) (bs' := [gMo mh mb mo, gA t fsa 71 fs, gA t (mb 5) 24 v12.1, gA t (mb 6) 24 v12.2.1, gA t (mb 7) 24 v12.2.2.1]) [1] hP hD hS hA rfl rfl rfl rfl) hS (fun hPc hDc => va_runS (As := [.ref fsa, .int 0, .int v12.2.2.2.2.2]) (rest := [.int v12.2.2.2.1]) ⟨hx, hb, hml, hown, hts⟩ (mtX3_takes l D t fsa fs 0 v12.2.2.2.2.2 r4 h4 _) (va_cwS 3 hts (gBS kw305 kw306 kw5 kw307) rfl rfl rfl (by decide +kernel) ⟨Nat.le_of_ble_eq_true rfl, Nat.le_of_ble_eq_true rfl⟩) (sPc_S hPc hK hDc hE) rfl rfl hl.1 rfl (lv_room (Nat.le_of_ble_eq_true rfl)) dX3_lays_24 ⟨Nat.zero_le _, Nat.zero_le _⟩) (fun H locs hP hD hS => ?_)
        refine lv_iadd hx hb dX3_lays_27 ?_
        refine lv_istore_n (lv' := [(3, .int (v12.2.2.2.1 + r4)), (0, .ref mh), (1, .ref fsa), (4, .int v12.2.2.2.2.1), (5, .int v12.2.2.2.2.2)]) hx hb dX3_lays_28 rfl hl (by decide) rfl (fun ls hl => ?_)
        refine lv_iload hx hb dX3_lays_29 (lv_at hl 3 rfl) ?_
        refine lv_aload_n hx hb dX3_lays_31 rfl (lv_at hl 2 rfl) ?_
        refine lv_iconst (v := 1) hx hb dX3_lays_32 (by decide) ?_
        refine lv_iload hx hb dX3_lays_33 (lv_at hl 4 rfl) ?_
        obtain ⟨r5, h5, h⟩ := ob h
        refine call_i (v := r5) (wc := (gA t fsa 71 fs)) (wc' := (gA t fsa 71 fs)) (ws' := (gMo mh mb mo ++ (gA t fsa 71 fs ++ (gA t (mb 5) 24 v12.1 ++ (gA t (mb 6) 24 v12.2.1 ++ (gA t (mb 7) 24 v12.2.2.1)))))) (cutB (bs := [gMo mh mb mo, gA t fsa 71 fs, gA t (mb 5) 24 v12.1, gA t (mb 6) 24 v12.2.1, gA t (mb 7) 24 v12.2.2.1]) (cs := [gA t fsa 71 fs]) (cs' := [gA t fsa 71 fs]) (bs' := [gMo mh mb mo, gA t fsa 71 fs, gA t (mb 5) 24 v12.1, gA t (mb 6) 24 v12.2.1, gA t (mb 7) 24 v12.2.2.1]) [1] hP hD hS hA rfl rfl rfl rfl) hS (fun hPc hDc => va_runS (As := [.ref fsa, .int 1, .int v12.2.2.2.2.2]) (rest := [.int v12.2.2.2.2.1]) ⟨hx, hb, hml, hown, hts⟩ (mtX3_takes l D t fsa fs 1 v12.2.2.2.2.2 r5 h5 _) (va_cwS 3 hts (gBS kw305 kw306 kw5 kw307) rfl rfl rfl (by decide +kernel) ⟨Nat.le_of_ble_eq_true rfl, Nat.le_of_ble_eq_true rfl⟩) (sPc_S hPc hK hDc hE) rfl rfl hl.1 rfl (lv_room (Nat.le_of_ble_eq_true rfl)) dX3_lays_35 ⟨Nat.zero_le _, Nat.zero_le _⟩) (fun H locs hP hD hS => ?_)
        refine lv_iadd hx hb dX3_lays_38 ?_
        refine lv_istore (lv' := [(4, .int (v12.2.2.2.2.1 + r5)), (3, .int (v12.2.2.2.1 + r4)), (0, .ref mh), (1, .ref fsa), (5, .int v12.2.2.2.2.2)]) hx hb dX3_lays_39 hl (by decide) rfl (fun ls hl => ?_)
        refine lv_iload hx hb dX3_lays_41 (lv_at hl 0 rfl) ?_
        refine lv_iload_n hx hb dX3_lays_43 rfl (lv_at hl 1 rfl) ?_
        refine lv_icmp_ge (tgt := 51) hx hb dX3_lays_44 (by decide) (fun c6 => ?_) (fun c6 => ?_)
        · have h := it_p c6 h
          refine lv_iload hx hb dX3_lays_51 (lv_at hl 0 rfl) ?_
          exact J53 (v12.1, v12.2.1, v12.2.2.1, v12.2.2.2.1 + r4, v12.2.2.2.2.2, v12.2.2.2.2.1 + r5) h _ _ hP hD hS _ (lv_sub hl [2, 3, 1, 4] rfl)
        · have h := it_n c6 h
          refine lv_iload_n hx hb dX3_lays_47 rfl (lv_at hl 1 rfl) ?_
          refine lv_goto (tgt := 53) hx hb dX3_lays_48 (by decide) ?_
          exact J53 (v12.1, v12.2.1, v12.2.2.1, v12.2.2.2.1 + r4, v12.2.2.2.2.2, v12.2.2.2.1 + r4) h _ _ hP hD hS _ (lv_sub hl [2, 3, 1, 4] rfl)
  refine lv_iconst (v := 0) hx hb dX3_lays_0 (by decide) ?_
  refine lv_istore_n (lv' := [(3, .int 0), (0, .ref mh), (1, .ref fsa), (2, .int v)]) hx hb dX3_lays_1 rfl hl (by decide) rfl (fun ls hl => ?_)
  refine lv_aload_n hx hb dX3_lays_2 rfl (lv_at hl 2 rfl) ?_
  refine lv_iload_n hx hb dX3_lays_3 rfl (lv_at hl 3 rfl) ?_
  obtain ⟨r1, h1, h⟩ := ob h
  refine call_i (v := r1) (wc := (gA t fsa 71 fs)) (wc' := (gA t fsa 71 fs)) (ws' := (gMo mh mb mo ++ (gA t fsa 71 fs ++ (gA t (mb 5) 24 le ++ (gA t (mb 6) 24 co ++ (gA t (mb 7) 24 li)))))) (cutB (bs := [gMo mh mb mo, gA t fsa 71 fs, gA t (mb 5) 24 le, gA t (mb 6) 24 co, gA t (mb 7) 24 li]) (cs := [gA t fsa 71 fs]) (cs' := [gA t fsa 71 fs]) (bs' := [gMo mh mb mo, gA t fsa 71 fs, gA t (mb 5) 24 le, gA t (mb 6) 24 co, gA t (mb 7) 24 li]) [1] hP hD hS hA rfl rfl rfl rfl) hS (fun hPc hDc => va_runS (As := [.ref fsa, .int v]) (rest := []) ⟨hx, hb, hml, hown, hts⟩ (mtX3_start l D t fsa fs v r1 h1 _) (va_cwS 2 hts (gBS kw299 kw300 kw5 kw301) rfl rfl rfl (by decide +kernel) ⟨Nat.le_of_ble_eq_true rfl, Nat.le_of_ble_eq_true rfl⟩) (sPc_S hPc hK hDc hE) rfl rfl hl.1 rfl (lv_room (Nat.le_of_ble_eq_true rfl)) dX3_lays_4 ⟨Nat.zero_le _, Nat.zero_le _⟩) (fun H locs hP hD hS => ?_)
  refine lv_istore (lv' := [(4, .int r1), (3, .int 0), (0, .ref mh), (1, .ref fsa), (2, .int v)]) hx hb dX3_lays_7 hl (by decide) rfl (fun ls hl => ?_)
  refine lv_iconst (v := 0) hx hb dX3_lays_9 (by decide) ?_
  refine lv_istore (lv' := [(5, .int 0), (4, .int r1), (3, .int 0), (0, .ref mh), (1, .ref fsa), (2, .int v)]) hx hb dX3_lays_10 hl (by decide) rfl (fun ls hl => ?_)
  exact J12 2000 (le, co, li, 0, r1, 0) h _ _ hP hD hS _ (lv_sub hl [3, 4, 2, 1, 0] rfl)

theorem dX3_tells_0 : decode cX3_tells 0 = .ok (.iconst 0, 1) := by decide +kernel
theorem dX3_tells_1 : decode cX3_tells 1 = .ok (.istore_n 3, 1) := by decide +kernel
theorem dX3_tells_2 : decode cX3_tells 2 = .ok (.aload_n 0, 1) := by decide +kernel
theorem dX3_tells_3 : decode cX3_tells 3 = .ok (.getfield 31, 3) := by decide +kernel
theorem dX3_tells_6 : decode cX3_tells 6 = .ok (.iconst 0, 1) := by decide +kernel
theorem dX3_tells_7 : decode cX3_tells 7 = .ok (.iaload, 1) := by decide +kernel
theorem dX3_tells_8 : decode cX3_tells 8 = .ok (.istore 4, 2) := by decide +kernel
theorem dX3_tells_10 : decode cX3_tells 10 = .ok (.aload_n 0, 1) := by decide +kernel
theorem dX3_tells_11 : decode cX3_tells 11 = .ok (.getfield 31, 3) := by decide +kernel
theorem dX3_tells_14 : decode cX3_tells 14 = .ok (.iconst 0, 1) := by decide +kernel
theorem dX3_tells_15 : decode cX3_tells 15 = .ok (.iaload, 1) := by decide +kernel
theorem dX3_tells_16 : decode cX3_tells 16 = .ok (.istore 5, 2) := by decide +kernel
theorem dX3_tells_18 : decode cX3_tells 18 = .ok (.iconst 0, 1) := by decide +kernel
theorem dX3_tells_19 : decode cX3_tells 19 = .ok (.istore 6, 2) := by decide +kernel
theorem dX3_tells_21 : decode cX3_tells 21 = .ok (.iconst 0, 1) := by decide +kernel
theorem dX3_tells_22 : decode cX3_tells 22 = .ok (.istore 7, 2) := by decide +kernel
theorem dX3_tells_24 : decode cX3_tells 24 = .ok (.iconst 0, 1) := by decide +kernel
theorem dX3_tells_25 : decode cX3_tells 25 = .ok (.istore 8, 2) := by decide +kernel
theorem dX3_tells_27 : decode cX3_tells 27 = .ok (.iconst 0, 1) := by decide +kernel
theorem dX3_tells_28 : decode cX3_tells 28 = .ok (.istore 9, 2) := by decide +kernel
theorem dX3_tells_30 : decode cX3_tells 30 = .ok (.iload 9, 2) := by decide +kernel
theorem dX3_tells_32 : decode cX3_tells 32 = .ok (.bipush 24, 2) := by decide +kernel
theorem dX3_tells_34 : decode cX3_tells 34 = .ok (.if_icmp .ge 118, 3) := by decide +kernel
theorem dX3_tells_37 : decode cX3_tells 37 = .ok (.aload_n 0, 1) := by decide +kernel
theorem dX3_tells_38 : decode cX3_tells 38 = .ok (.getfield 31, 3) := by decide +kernel
theorem dX3_tells_41 : decode cX3_tells 41 = .ok (.iload 9, 2) := by decide +kernel
theorem dX3_tells_43 : decode cX3_tells 43 = .ok (.iaload, 1) := by decide +kernel
theorem dX3_tells_44 : decode cX3_tells 44 = .ok (.istore 10, 2) := by decide +kernel
theorem dX3_tells_46 : decode cX3_tells 46 = .ok (.iload 10, 2) := by decide +kernel
theorem dX3_tells_48 : decode cX3_tells 48 = .ok (.iload_n 1, 1) := by decide +kernel
theorem dX3_tells_49 : decode cX3_tells 49 = .ok (.invokestatic 53, 3) := by decide +kernel
theorem dX3_tells_52 : decode cX3_tells 52 = .ok (.isub, 1) := by decide +kernel
theorem dX3_tells_53 : decode cX3_tells 53 = .ok (.invokestatic 68, 3) := by decide +kernel
theorem dX3_tells_56 : decode cX3_tells 56 = .ok (.istore 11, 2) := by decide +kernel
theorem dX3_tells_58 : decode cX3_tells 58 = .ok (.iload_n 3, 1) := by decide +kernel
theorem dX3_tells_59 : decode cX3_tells 59 = .ok (.iload 10, 2) := by decide +kernel
theorem dX3_tells_61 : decode cX3_tells 61 = .ok (.iadd, 1) := by decide +kernel
theorem dX3_tells_62 : decode cX3_tells 62 = .ok (.istore_n 3, 1) := by decide +kernel
theorem dX3_tells_63 : decode cX3_tells 63 = .ok (.iload 10, 2) := by decide +kernel
theorem dX3_tells_65 : decode cX3_tells 65 = .ok (.iload 4, 2) := by decide +kernel
theorem dX3_tells_67 : decode cX3_tells 67 = .ok (.if_icmp .ge 8, 3) := by decide +kernel
theorem dX3_tells_70 : decode cX3_tells 70 = .ok (.iload 10, 2) := by decide +kernel
theorem dX3_tells_72 : decode cX3_tells 72 = .ok (.goto 5, 3) := by decide +kernel
theorem dX3_tells_75 : decode cX3_tells 75 = .ok (.iload 4, 2) := by decide +kernel
theorem dX3_tells_77 : decode cX3_tells 77 = .ok (.istore 4, 2) := by decide +kernel
theorem dX3_tells_79 : decode cX3_tells 79 = .ok (.iload 10, 2) := by decide +kernel
theorem dX3_tells_81 : decode cX3_tells 81 = .ok (.iload 5, 2) := by decide +kernel
theorem dX3_tells_83 : decode cX3_tells 83 = .ok (.if_icmp .le 8, 3) := by decide +kernel
theorem dX3_tells_86 : decode cX3_tells 86 = .ok (.iload 10, 2) := by decide +kernel
theorem dX3_tells_88 : decode cX3_tells 88 = .ok (.goto 5, 3) := by decide +kernel
theorem dX3_tells_91 : decode cX3_tells 91 = .ok (.iload 5, 2) := by decide +kernel
theorem dX3_tells_93 : decode cX3_tells 93 = .ok (.istore 5, 2) := by decide +kernel
theorem dX3_tells_95 : decode cX3_tells 95 = .ok (.iload 11, 2) := by decide +kernel
theorem dX3_tells_97 : decode cX3_tells 97 = .ok (.aload_n 0, 1) := by decide +kernel
theorem dX3_tells_98 : decode cX3_tells 98 = .ok (.getfield 31, 3) := by decide +kernel
theorem dX3_tells_101 : decode cX3_tells 101 = .ok (.iload 6, 2) := by decide +kernel
theorem dX3_tells_103 : decode cX3_tells 103 = .ok (.iaload, 1) := by decide +kernel
theorem dX3_tells_104 : decode cX3_tells 104 = .ok (.iload_n 1, 1) := by decide +kernel
theorem dX3_tells_105 : decode cX3_tells 105 = .ok (.invokestatic 53, 3) := by decide +kernel
theorem dX3_tells_108 : decode cX3_tells 108 = .ok (.isub, 1) := by decide +kernel
theorem dX3_tells_109 : decode cX3_tells 109 = .ok (.invokestatic 68, 3) := by decide +kernel
theorem dX3_tells_112 : decode cX3_tells 112 = .ok (.if_icmp .le 8, 3) := by decide +kernel
theorem dX3_tells_115 : decode cX3_tells 115 = .ok (.iload 9, 2) := by decide +kernel
theorem dX3_tells_117 : decode cX3_tells 117 = .ok (.goto 5, 3) := by decide +kernel
theorem dX3_tells_120 : decode cX3_tells 120 = .ok (.iload 6, 2) := by decide +kernel
theorem dX3_tells_122 : decode cX3_tells 122 = .ok (.istore 6, 2) := by decide +kernel
theorem dX3_tells_124 : decode cX3_tells 124 = .ok (.iload 7, 2) := by decide +kernel
theorem dX3_tells_126 : decode cX3_tells 126 = .ok (.iload 10, 2) := by decide +kernel
theorem dX3_tells_128 : decode cX3_tells 128 = .ok (.ifCond .ne 7, 3) := by decide +kernel
theorem dX3_tells_131 : decode cX3_tells 131 = .ok (.iconst 1, 1) := by decide +kernel
theorem dX3_tells_132 : decode cX3_tells 132 = .ok (.goto 4, 3) := by decide +kernel
theorem dX3_tells_135 : decode cX3_tells 135 = .ok (.iconst 0, 1) := by decide +kernel
theorem dX3_tells_136 : decode cX3_tells 136 = .ok (.iadd, 1) := by decide +kernel
theorem dX3_tells_137 : decode cX3_tells 137 = .ok (.istore 7, 2) := by decide +kernel
theorem dX3_tells_139 : decode cX3_tells 139 = .ok (.iload 8, 2) := by decide +kernel
theorem dX3_tells_141 : decode cX3_tells 141 = .ok (.iload 11, 2) := by decide +kernel
theorem dX3_tells_143 : decode cX3_tells 143 = .ok (.iadd, 1) := by decide +kernel
theorem dX3_tells_144 : decode cX3_tells 144 = .ok (.istore 8, 2) := by decide +kernel
theorem dX3_tells_146 : decode cX3_tells 146 = .ok (.iinc 9 1, 3) := by decide +kernel
theorem dX3_tells_149 : decode cX3_tells 149 = .ok (.goto (-119), 3) := by decide +kernel
theorem dX3_tells_152 : decode cX3_tells 152 = .ok (.iload_n 2, 1) := by decide +kernel
theorem dX3_tells_153 : decode cX3_tells 153 = .ok (.tableswitch 79 3 9 #[43, 45, 51, 67, 70, 73, 76], 43) := by decide +kernel
theorem dX3_tells_196 : decode cX3_tells 196 = .ok (.iload_n 3, 1) := by decide +kernel
theorem dX3_tells_197 : decode cX3_tells 197 = .ok (.ireturn, 1) := by decide +kernel
theorem dX3_tells_198 : decode cX3_tells 198 = .ok (.iload 5, 2) := by decide +kernel
theorem dX3_tells_200 : decode cX3_tells 200 = .ok (.iload 4, 2) := by decide +kernel
theorem dX3_tells_202 : decode cX3_tells 202 = .ok (.isub, 1) := by decide +kernel
theorem dX3_tells_203 : decode cX3_tells 203 = .ok (.ireturn, 1) := by decide +kernel
theorem dX3_tells_204 : decode cX3_tells 204 = .ok (.aload_n 0, 1) := by decide +kernel
theorem dX3_tells_205 : decode cX3_tells 205 = .ok (.getfield 31, 3) := by decide +kernel
theorem dX3_tells_208 : decode cX3_tells 208 = .ok (.iload 6, 2) := by decide +kernel
theorem dX3_tells_210 : decode cX3_tells 210 = .ok (.iaload, 1) := by decide +kernel
theorem dX3_tells_211 : decode cX3_tells 211 = .ok (.iload_n 1, 1) := by decide +kernel
theorem dX3_tells_212 : decode cX3_tells 212 = .ok (.invokestatic 53, 3) := by decide +kernel
theorem dX3_tells_215 : decode cX3_tells 215 = .ok (.isub, 1) := by decide +kernel
theorem dX3_tells_216 : decode cX3_tells 216 = .ok (.invokestatic 68, 3) := by decide +kernel
theorem dX3_tells_219 : decode cX3_tells 219 = .ok (.ireturn, 1) := by decide +kernel
theorem dX3_tells_220 : decode cX3_tells 220 = .ok (.iload 6, 2) := by decide +kernel
theorem dX3_tells_222 : decode cX3_tells 222 = .ok (.ireturn, 1) := by decide +kernel
theorem dX3_tells_223 : decode cX3_tells 223 = .ok (.iload 7, 2) := by decide +kernel
theorem dX3_tells_225 : decode cX3_tells 225 = .ok (.ireturn, 1) := by decide +kernel
theorem dX3_tells_226 : decode cX3_tells 226 = .ok (.iload 4, 2) := by decide +kernel
theorem dX3_tells_228 : decode cX3_tells 228 = .ok (.ireturn, 1) := by decide +kernel
theorem dX3_tells_229 : decode cX3_tells 229 = .ok (.iload 5, 2) := by decide +kernel
theorem dX3_tells_231 : decode cX3_tells 231 = .ok (.ireturn, 1) := by decide +kernel
theorem dX3_tells_232 : decode cX3_tells 232 = .ok (.iload 8, 2) := by decide +kernel
theorem dX3_tells_234 : decode cX3_tells 234 = .ok (.ireturn, 1) := by decide +kernel
abbrev zX3_tells : List Cond := .code yX3_tells cX3_tells 12 (some .int) :: BIG
def fX3_tells_j122 (mo : MoT) (li : (Nat → Int32)) (K30 : (Int32 × Int32 × Int32 × Int32 × Int32 × Int32 × Int32 × Int32 × Int32) → Option (Int32)) (v122 : Int32 × Int32 × Int32 × Int32 × Int32 × Int32 × Int32 × Int32 × Int32 × Int32 × Int32) : Option (Int32) := (if v122.2.2.2.2.2.2.2.2.1 = 0 then K30 (v122.1, v122.2.1, v122.2.2.1, v122.2.2.2.1, v122.2.2.2.2.1, v122.2.2.2.2.2.2.2.2.2.2, v122.2.2.2.2.2.1 + 1, v122.2.2.2.2.2.2.1 + v122.2.2.2.2.2.2.2.2.2.1, v122.2.2.2.2.2.2.2.1 + 1) else K30 (v122.1, v122.2.1, v122.2.2.1, v122.2.2.2.1, v122.2.2.2.2.1, v122.2.2.2.2.2.2.2.2.2.2, v122.2.2.2.2.2.1 + 0, v122.2.2.2.2.2.2.1 + v122.2.2.2.2.2.2.2.2.2.1, v122.2.2.2.2.2.2.2.1 + 1))
def fX3_tells_j93 (mo : MoT) (li : (Nat → Int32)) (K30 : (Int32 × Int32 × Int32 × Int32 × Int32 × Int32 × Int32 × Int32 × Int32) → Option (Int32)) (v93 : Int32 × Int32 × Int32 × Int32 × Int32 × Int32 × Int32 × Int32 × Int32 × Int32 × Int32) : Option (Int32) := gd (pin v93.2.2.2.2.1 24) ((fX3_wanted v93.1).bind (fun r19 => (fX3_size ((li (Int32.toNatClampNeg v93.2.2.2.2.1)) - r19)).bind (fun r20 => (if v93.2.2.2.2.2.2.2.2.2.1 ≤ r20 then fX3_tells_j122 mo li K30 (v93.1, v93.2.1, v93.2.2.1, v93.2.2.2.1, v93.2.2.2.2.2.2.2.2.2.2, v93.2.2.2.2.2.1, v93.2.2.2.2.2.2.1, v93.2.2.2.2.2.2.2.1, v93.2.2.2.2.2.2.2.2.1, v93.2.2.2.2.2.2.2.2.2.1, v93.2.2.2.2.1) else fX3_tells_j122 mo li K30 (v93.1, v93.2.1, v93.2.2.1, v93.2.2.2.1, v93.2.2.2.2.2.2.2.2.2.2, v93.2.2.2.2.2.1, v93.2.2.2.2.2.2.1, v93.2.2.2.2.2.2.2.1, v93.2.2.2.2.2.2.2.2.1, v93.2.2.2.2.2.2.2.2.2.1, v93.2.2.2.2.2.2.2.1)))))
def fX3_tells_l30 (mo : MoT) (li : (Nat → Int32))  (K30 : (Int32 × Int32 × Int32 × Int32 × Int32 × Int32 × Int32 × Int32 × Int32) → Option (Int32)) (v30 : Int32 × Int32 × Int32 × Int32 × Int32 × Int32 × Int32 × Int32 × Int32) : Option (Int32) := (if 24 ≤ v30.2.2.2.2.2.2.2.2 then (if v30.2.1 = 3 then some v30.2.2.1 else (if v30.2.1 = 4 then some (v30.2.2.2.2.1 - v30.2.2.2.1) else (if v30.2.1 = 5 then gd (pin v30.2.2.2.2.2.1 24) ((fX3_wanted v30.1).bind (fun r6 => (fX3_size ((li (Int32.toNatClampNeg v30.2.2.2.2.2.1)) - r6)).bind (fun r7 => some r7))) else (if v30.2.1 = 6 then some v30.2.2.2.2.2.1 else (if v30.2.1 = 7 then some v30.2.2.2.2.2.2.1 else (if v30.2.1 = 8 then some v30.2.2.2.1 else (if v30.2.1 = 9 then some v30.2.2.2.2.1 else some v30.2.2.2.2.2.2.2.1))))))) else gd (pin v30.2.2.2.2.2.2.2.2 24) ((fX3_wanted v30.1).bind (fun r13 => (fX3_size ((li (Int32.toNatClampNeg v30.2.2.2.2.2.2.2.2)) - r13)).bind (fun r14 => (if v30.2.2.2.1 ≤ (li (Int32.toNatClampNeg v30.2.2.2.2.2.2.2.2)) then (if (li (Int32.toNatClampNeg v30.2.2.2.2.2.2.2.2)) ≤ v30.2.2.2.2.1 then fX3_tells_j93 mo li K30 (v30.1, v30.2.1, v30.2.2.1 + (li (Int32.toNatClampNeg v30.2.2.2.2.2.2.2.2)), v30.2.2.2.1, v30.2.2.2.2.2.1, v30.2.2.2.2.2.2.1, v30.2.2.2.2.2.2.2.1, v30.2.2.2.2.2.2.2.2, li (Int32.toNatClampNeg v30.2.2.2.2.2.2.2.2), r14, v30.2.2.2.2.1) else fX3_tells_j93 mo li K30 (v30.1, v30.2.1, v30.2.2.1 + (li (Int32.toNatClampNeg v30.2.2.2.2.2.2.2.2)), v30.2.2.2.1, v30.2.2.2.2.2.1, v30.2.2.2.2.2.2.1, v30.2.2.2.2.2.2.2.1, v30.2.2.2.2.2.2.2.2, li (Int32.toNatClampNeg v30.2.2.2.2.2.2.2.2), r14, li (Int32.toNatClampNeg v30.2.2.2.2.2.2.2.2))) else (if (li (Int32.toNatClampNeg v30.2.2.2.2.2.2.2.2)) ≤ v30.2.2.2.2.1 then fX3_tells_j93 mo li K30 (v30.1, v30.2.1, v30.2.2.1 + (li (Int32.toNatClampNeg v30.2.2.2.2.2.2.2.2)), li (Int32.toNatClampNeg v30.2.2.2.2.2.2.2.2), v30.2.2.2.2.2.1, v30.2.2.2.2.2.2.1, v30.2.2.2.2.2.2.2.1, v30.2.2.2.2.2.2.2.2, li (Int32.toNatClampNeg v30.2.2.2.2.2.2.2.2), r14, v30.2.2.2.2.1) else fX3_tells_j93 mo li K30 (v30.1, v30.2.1, v30.2.2.1 + (li (Int32.toNatClampNeg v30.2.2.2.2.2.2.2.2)), li (Int32.toNatClampNeg v30.2.2.2.2.2.2.2.2), v30.2.2.2.2.2.1, v30.2.2.2.2.2.2.1, v30.2.2.2.2.2.2.2.1, v30.2.2.2.2.2.2.2.2, li (Int32.toNatClampNeg v30.2.2.2.2.2.2.2.2), r14, li (Int32.toNatClampNeg v30.2.2.2.2.2.2.2.2))))))))
def fX3_tells (mo : MoT) (li : (Nat → Int32)) (v : Int32) (w : Int32) : Option (Int32) := lp (fX3_tells_l30 mo li) 2000 (v, w, 0, li (Int32.toNatClampNeg 0), li (Int32.toNatClampNeg 0), 0, 0, 0, 0)
set_option maxHeartbeats 4000000 in
set_option maxRecDepth 100000 in
theorem mtX3_tells (l : Launch) (D : va_G) (t : Nat → ClassId) (mh : Nat) (mb : Nat → Nat) (mo : MoT) (li : (Nat → Int32)) (v : Int32) (w : Int32) (out : Int32) (h : fX3_tells mo li v w = some out)  (sz : Nat) : Met l yX3_tells zX3_tells ({ frames := 1, cells := 0, slots := 0, locals := 20 }) (sPc D t (gMo mh mb mo ++ (gA t (mb 7) 24 li)) sz [.ref mh, .int v, .int w]) (qI D t (gMo mh mb mo ++ (gA t (mb 7) 24 li)) out (va_A (gMo mh mb mo ++ (gA t (mb 7) 24 li)) sz)) 0 0 (va_A (gMo mh mb mo ++ (gA t (mb 7) 24 li)) sz) := by
  refine met_of (Qf := fun A => qI D t (gMo mh mb mo ++ (gA t (mb 7) 24 li)) out A) (cc := cX3_tells) (maxL := 12) (ret := some .int) (by decide) rfl (Nat.le_of_ble_eq_true rfl) ?_
  intro p e s m args below meth c A hx hb hr hml hts hown hlocks hA hP hK hD hE hS ls hl
  have htB : ∀ w ∈ BIG, w.before args s = true := fun w h => hts w (List.mem_cons_of_mem _ h)
  have hown : s.vm.findClass RX3 = some m.cls := hown
  have hl : lv_has ls 12 [(0, .ref mh), (1, .int v), (2, .int w)] := hl
  unfold fX3_tells at h
  have J30 : ∀ (fu30 : Nat) (v30 : Int32 × Int32 × Int32 × Int32 × Int32 × Int32 × Int32 × Int32 × Int32), lp (fX3_tells_l30 mo li) fu30 v30 = some out → ∀ (H : Heap) (locs : List Loc), va_P D vwCl (gMo mh mb mo ++ (gA t (mb 7) 24 li)) H → va_D A (gMo mh mb mo ++ (gA t (mb 7) 24 li)) → va_S A s.heap H locs → ∀ ls : Array Slot, lv_has ls 12 [(0, .ref mh), (1, .int v30.1), (2, .int v30.2.1), (3, .int v30.2.2.1), (4, .int v30.2.2.2.1), (5, .int v30.2.2.2.2.1), (6, .int v30.2.2.2.2.2.1), (7, .int v30.2.2.2.2.2.2.1), (8, .int v30.2.2.2.2.2.2.2.1), (9, .int v30.2.2.2.2.2.2.2.2)] → W p l e ({ frames := 1, cells := 0, slots := 0, locals := 20 }) s m args below meth c H locs 0 0 (MQ below (qI D t (gMo mh mb mo ++ (gA t (mb 7) 24 li)) out A) args s 0 0 A) (F0 m 30 ls []) := by
    intro fu30
    induction fu30 with
    | zero => intro v30 h; cases h
    | succ fu30 ih30 =>
      intro v30 h H locs hP hD hS ls hl
      have h : fX3_tells_l30 mo li (lp (fX3_tells_l30 mo li) fu30) v30 = some out := h
      unfold fX3_tells_l30 at h
      have J122 : ∀ v122 : Int32 × Int32 × Int32 × Int32 × Int32 × Int32 × Int32 × Int32 × Int32 × Int32 × Int32, fX3_tells_j122 mo li (lp (fX3_tells_l30 mo li) fu30) v122 = some out → ∀ (H : Heap) (locs : List Loc), va_P D vwCl (gMo mh mb mo ++ (gA t (mb 7) 24 li)) H → va_D A (gMo mh mb mo ++ (gA t (mb 7) 24 li)) → va_S A s.heap H locs → ∀ ls : Array Slot, lv_has ls 12 [(0, .ref mh), (1, .int v122.1), (2, .int v122.2.1), (3, .int v122.2.2.1), (4, .int v122.2.2.2.1), (5, .int v122.2.2.2.2.1), (7, .int v122.2.2.2.2.2.1), (8, .int v122.2.2.2.2.2.2.1), (9, .int v122.2.2.2.2.2.2.2.1), (10, .int v122.2.2.2.2.2.2.2.2.1), (11, .int v122.2.2.2.2.2.2.2.2.2.1)] → W p l e ({ frames := 1, cells := 0, slots := 0, locals := 20 }) s m args below meth c H locs 0 0 (MQ below (qI D t (gMo mh mb mo ++ (gA t (mb 7) 24 li)) out A) args s 0 0 A) (F0 m 122 ls [.int v122.2.2.2.2.2.2.2.2.2.2]) := by
        intro v122 h H locs hP hD hS ls hl
        unfold fX3_tells_j122 at h
        refine lv_istore (lv' := [(6, .int v122.2.2.2.2.2.2.2.2.2.2), (0, .ref mh), (1, .int v122.1), (2, .int v122.2.1), (3, .int v122.2.2.1), (4, .int v122.2.2.2.1), (5, .int v122.2.2.2.2.1), (7, .int v122.2.2.2.2.2.1), (8, .int v122.2.2.2.2.2.2.1), (9, .int v122.2.2.2.2.2.2.2.1), (10, .int v122.2.2.2.2.2.2.2.2.1), (11, .int v122.2.2.2.2.2.2.2.2.2.1)]) hx hb dX3_tells_122 hl (by decide) rfl (fun ls hl => ?_)
        refine lv_iload hx hb dX3_tells_124 (lv_at hl 7 rfl) ?_
        refine lv_iload hx hb dX3_tells_126 (lv_at hl 10 rfl) ?_
        refine lv_if_ne (tgt := 135) hx hb dX3_tells_128 (by decide) (fun c22 => ?_) (fun c22 => ?_)
        · have h := it_n c22 h
          refine lv_iconst (v := 0) hx hb dX3_tells_135 (by decide) ?_
          refine lv_iadd hx hb dX3_tells_136 ?_
          refine lv_istore (lv' := [(7, .int (v122.2.2.2.2.2.1 + 0)), (6, .int v122.2.2.2.2.2.2.2.2.2.2), (0, .ref mh), (1, .int v122.1), (2, .int v122.2.1), (3, .int v122.2.2.1), (4, .int v122.2.2.2.1), (5, .int v122.2.2.2.2.1), (8, .int v122.2.2.2.2.2.2.1), (9, .int v122.2.2.2.2.2.2.2.1), (10, .int v122.2.2.2.2.2.2.2.2.1), (11, .int v122.2.2.2.2.2.2.2.2.2.1)]) hx hb dX3_tells_137 hl (by decide) rfl (fun ls hl => ?_)
          refine lv_iload hx hb dX3_tells_139 (lv_at hl 8 rfl) ?_
          refine lv_iload hx hb dX3_tells_141 (lv_at hl 11 rfl) ?_
          refine lv_iadd hx hb dX3_tells_143 ?_
          refine lv_istore (lv' := [(8, .int (v122.2.2.2.2.2.2.1 + v122.2.2.2.2.2.2.2.2.2.1)), (7, .int (v122.2.2.2.2.2.1 + 0)), (6, .int v122.2.2.2.2.2.2.2.2.2.2), (0, .ref mh), (1, .int v122.1), (2, .int v122.2.1), (3, .int v122.2.2.1), (4, .int v122.2.2.2.1), (5, .int v122.2.2.2.2.1), (9, .int v122.2.2.2.2.2.2.2.1), (10, .int v122.2.2.2.2.2.2.2.2.1), (11, .int v122.2.2.2.2.2.2.2.2.2.1)]) hx hb dX3_tells_144 hl (by decide) rfl (fun ls hl => ?_)
          refine lv_iinc (v := v122.2.2.2.2.2.2.2.1 + 1) (lv' := [(9, .int (v122.2.2.2.2.2.2.2.1 + 1)), (8, .int (v122.2.2.2.2.2.2.1 + v122.2.2.2.2.2.2.2.2.2.1)), (7, .int (v122.2.2.2.2.2.1 + 0)), (6, .int v122.2.2.2.2.2.2.2.2.2.2), (0, .ref mh), (1, .int v122.1), (2, .int v122.2.1), (3, .int v122.2.2.1), (4, .int v122.2.2.2.1), (5, .int v122.2.2.2.2.1), (10, .int v122.2.2.2.2.2.2.2.2.1), (11, .int v122.2.2.2.2.2.2.2.2.2.1)]) hx hb dX3_tells_146 hl (k := 9) rfl rfl (by decide) rfl (fun ls hl => ?_)
          refine lv_goto (tgt := 30) hx hb dX3_tells_149 (by decide) ?_
          exact ih30 (v122.1, v122.2.1, v122.2.2.1, v122.2.2.2.1, v122.2.2.2.2.1, v122.2.2.2.2.2.2.2.2.2.2, v122.2.2.2.2.2.1 + 0, v122.2.2.2.2.2.2.1 + v122.2.2.2.2.2.2.2.2.2.1, v122.2.2.2.2.2.2.2.1 + 1) h _ _ hP hD hS _ (lv_sub hl [4, 5, 6, 7, 8, 9, 3, 2, 1, 0] rfl)
        · have h := it_p c22 h
          refine lv_iconst (v := 1) hx hb dX3_tells_131 (by decide) ?_
          refine lv_goto (tgt := 136) hx hb dX3_tells_132 (by decide) ?_
          refine lv_iadd hx hb dX3_tells_136 ?_
          refine lv_istore (lv' := [(7, .int (v122.2.2.2.2.2.1 + 1)), (6, .int v122.2.2.2.2.2.2.2.2.2.2), (0, .ref mh), (1, .int v122.1), (2, .int v122.2.1), (3, .int v122.2.2.1), (4, .int v122.2.2.2.1), (5, .int v122.2.2.2.2.1), (8, .int v122.2.2.2.2.2.2.1), (9, .int v122.2.2.2.2.2.2.2.1), (10, .int v122.2.2.2.2.2.2.2.2.1), (11, .int v122.2.2.2.2.2.2.2.2.2.1)]) hx hb dX3_tells_137 hl (by decide) rfl (fun ls hl => ?_)
          refine lv_iload hx hb dX3_tells_139 (lv_at hl 8 rfl) ?_
          refine lv_iload hx hb dX3_tells_141 (lv_at hl 11 rfl) ?_
          refine lv_iadd hx hb dX3_tells_143 ?_
          refine lv_istore (lv' := [(8, .int (v122.2.2.2.2.2.2.1 + v122.2.2.2.2.2.2.2.2.2.1)), (7, .int (v122.2.2.2.2.2.1 + 1)), (6, .int v122.2.2.2.2.2.2.2.2.2.2), (0, .ref mh), (1, .int v122.1), (2, .int v122.2.1), (3, .int v122.2.2.1), (4, .int v122.2.2.2.1), (5, .int v122.2.2.2.2.1), (9, .int v122.2.2.2.2.2.2.2.1), (10, .int v122.2.2.2.2.2.2.2.2.1), (11, .int v122.2.2.2.2.2.2.2.2.2.1)]) hx hb dX3_tells_144 hl (by decide) rfl (fun ls hl => ?_)
          refine lv_iinc (v := v122.2.2.2.2.2.2.2.1 + 1) (lv' := [(9, .int (v122.2.2.2.2.2.2.2.1 + 1)), (8, .int (v122.2.2.2.2.2.2.1 + v122.2.2.2.2.2.2.2.2.2.1)), (7, .int (v122.2.2.2.2.2.1 + 1)), (6, .int v122.2.2.2.2.2.2.2.2.2.2), (0, .ref mh), (1, .int v122.1), (2, .int v122.2.1), (3, .int v122.2.2.1), (4, .int v122.2.2.2.1), (5, .int v122.2.2.2.2.1), (10, .int v122.2.2.2.2.2.2.2.2.1), (11, .int v122.2.2.2.2.2.2.2.2.2.1)]) hx hb dX3_tells_146 hl (k := 9) rfl rfl (by decide) rfl (fun ls hl => ?_)
          refine lv_goto (tgt := 30) hx hb dX3_tells_149 (by decide) ?_
          exact ih30 (v122.1, v122.2.1, v122.2.2.1, v122.2.2.2.1, v122.2.2.2.2.1, v122.2.2.2.2.2.2.2.2.2.2, v122.2.2.2.2.2.1 + 1, v122.2.2.2.2.2.2.1 + v122.2.2.2.2.2.2.2.2.2.1, v122.2.2.2.2.2.2.2.1 + 1) h _ _ hP hD hS _ (lv_sub hl [4, 5, 6, 7, 8, 9, 3, 2, 1, 0] rfl)
      have J93 : ∀ v93 : Int32 × Int32 × Int32 × Int32 × Int32 × Int32 × Int32 × Int32 × Int32 × Int32 × Int32, fX3_tells_j93 mo li (lp (fX3_tells_l30 mo li) fu30) v93 = some out → ∀ (H : Heap) (locs : List Loc), va_P D vwCl (gMo mh mb mo ++ (gA t (mb 7) 24 li)) H → va_D A (gMo mh mb mo ++ (gA t (mb 7) 24 li)) → va_S A s.heap H locs → ∀ ls : Array Slot, lv_has ls 12 [(0, .ref mh), (1, .int v93.1), (2, .int v93.2.1), (3, .int v93.2.2.1), (4, .int v93.2.2.2.1), (6, .int v93.2.2.2.2.1), (7, .int v93.2.2.2.2.2.1), (8, .int v93.2.2.2.2.2.2.1), (9, .int v93.2.2.2.2.2.2.2.1), (10, .int v93.2.2.2.2.2.2.2.2.1), (11, .int v93.2.2.2.2.2.2.2.2.2.1)] → W p l e ({ frames := 1, cells := 0, slots := 0, locals := 20 }) s m args below meth c H locs 0 0 (MQ below (qI D t (gMo mh mb mo ++ (gA t (mb 7) 24 li)) out A) args s 0 0 A) (F0 m 93 ls [.int v93.2.2.2.2.2.2.2.2.2.2]) := by
        intro v93 h H locs hP hD hS ls hl
        unfold fX3_tells_j93 at h
        refine lv_istore (lv' := [(5, .int v93.2.2.2.2.2.2.2.2.2.2), (0, .ref mh), (1, .int v93.1), (2, .int v93.2.1), (3, .int v93.2.2.1), (4, .int v93.2.2.2.1), (6, .int v93.2.2.2.2.1), (7, .int v93.2.2.2.2.2.1), (8, .int v93.2.2.2.2.2.2.1), (9, .int v93.2.2.2.2.2.2.2.1), (10, .int v93.2.2.2.2.2.2.2.2.1), (11, .int v93.2.2.2.2.2.2.2.2.2.1)]) hx hb dX3_tells_93 hl (by decide) rfl (fun ls hl => ?_)
        refine lv_iload hx hb dX3_tells_95 (lv_at hl 11 rfl) ?_
        refine lv_aload_n hx hb dX3_tells_97 rfl (lv_at hl 1 rfl) ?_
        refine va_get (D := D) (ci := 3) (v := .ref (mb 7)) (C := RX3) (T := TX3) (N := 14) hx hb htB inlX3 hown hK hP 0 rfl rfl 13 (by decide) (htB _ kw61) (fun _ h9 => h9) rfl dX3_tells_98 ?_
        refine lv_iload hx hb dX3_tells_101 (lv_at hl 6 rfl) ?_
        obtain ⟨g18, h⟩ := og h
        refine va_iald hx hb hK hP 1 0 rfl rfl (pin_in g18) dX3_tells_103 ?_
        refine lv_iload_n hx hb dX3_tells_104 rfl (lv_at hl 2 rfl) ?_
        obtain ⟨r19, h19, h⟩ := ob h
        refine call_i (v := r19) (wc := ([] : va_W)) (wc' := ([] : va_W)) (ws' := (gMo mh mb mo ++ (gA t (mb 7) 24 li))) (cutB (bs := [gMo mh mb mo, gA t (mb 7) 24 li]) (cs := []) (cs' := []) (bs' := [gMo mh mb mo, gA t (mb 7) 24 li]) [] hP hD hS hA rfl rfl rfl rfl) hS (fun hPc hDc => va_runS (As := [.int v93.1]) (rest := [.int (li (Int32.toNatClampNeg v93.2.2.2.2.1)), .int v93.2.2.2.2.2.2.2.2.2.1]) ⟨hx, hb, hml, hown, hts⟩ (mtX3_wanted l D t v93.1 r19 h19 _) (va_cwS 1 hts (gBS kw302 kw303 kw5 kw304) rfl rfl rfl (by decide +kernel) ⟨Nat.le_of_ble_eq_true rfl, Nat.le_of_ble_eq_true rfl⟩) (sPc_S hPc hK hDc hE) rfl rfl hl.1 rfl (lv_room (Nat.le_of_ble_eq_true rfl)) dX3_tells_105 ⟨Nat.zero_le _, Nat.zero_le _⟩) (fun H locs hP hD hS => ?_)
        refine lv_isub hx hb dX3_tells_108 ?_
        obtain ⟨r20, h20, h⟩ := ob h
        refine call_i (v := r20) (wc := ([] : va_W)) (wc' := ([] : va_W)) (ws' := (gMo mh mb mo ++ (gA t (mb 7) 24 li))) (cutB (bs := [gMo mh mb mo, gA t (mb 7) 24 li]) (cs := []) (cs' := []) (bs' := [gMo mh mb mo, gA t (mb 7) 24 li]) [] hP hD hS hA rfl rfl rfl rfl) hS (fun hPc hDc => va_runS (As := [.int ((li (Int32.toNatClampNeg v93.2.2.2.2.1)) - r19)]) (rest := [.int v93.2.2.2.2.2.2.2.2.2.1]) ⟨hx, hb, hml, hown, hts⟩ (mtX3_size l D t ((li (Int32.toNatClampNeg v93.2.2.2.2.1)) - r19) r20 h20 _) (va_cwS 1 hts (gBS kw315 kw316 kw5 kw317) rfl rfl rfl (by decide +kernel) ⟨Nat.le_of_ble_eq_true rfl, Nat.le_of_ble_eq_true rfl⟩) (sPc_S hPc hK hDc hE) rfl rfl hl.1 rfl (lv_room (Nat.le_of_ble_eq_true rfl)) dX3_tells_109 ⟨Nat.zero_le _, Nat.zero_le _⟩) (fun H locs hP hD hS => ?_)
        refine lv_icmp_le (tgt := 120) hx hb dX3_tells_112 (by decide) (fun c21 => ?_) (fun c21 => ?_)
        · have h := it_p c21 h
          refine lv_iload hx hb dX3_tells_120 (lv_at hl 6 rfl) ?_
          exact J122 (v93.1, v93.2.1, v93.2.2.1, v93.2.2.2.1, v93.2.2.2.2.2.2.2.2.2.2, v93.2.2.2.2.2.1, v93.2.2.2.2.2.2.1, v93.2.2.2.2.2.2.2.1, v93.2.2.2.2.2.2.2.2.1, v93.2.2.2.2.2.2.2.2.2.1, v93.2.2.2.2.1) h _ _ hP hD hS _ (lv_sub hl [1, 2, 3, 4, 5, 0, 7, 8, 9, 10, 11] rfl)
        · have h := it_n c21 h
          refine lv_iload hx hb dX3_tells_115 (lv_at hl 9 rfl) ?_
          refine lv_goto (tgt := 122) hx hb dX3_tells_117 (by decide) ?_
          exact J122 (v93.1, v93.2.1, v93.2.2.1, v93.2.2.2.1, v93.2.2.2.2.2.2.2.2.2.2, v93.2.2.2.2.2.1, v93.2.2.2.2.2.2.1, v93.2.2.2.2.2.2.2.1, v93.2.2.2.2.2.2.2.2.1, v93.2.2.2.2.2.2.2.2.2.1, v93.2.2.2.2.2.2.2.1) h _ _ hP hD hS _ (lv_sub hl [1, 2, 3, 4, 5, 0, 7, 8, 9, 10, 11] rfl)
      refine lv_iload hx hb dX3_tells_30 (lv_at hl 9 rfl) ?_
      refine lv_bipush (v := 24) hx hb dX3_tells_32 (by decide) ?_
      refine lv_icmp_ge (tgt := 152) hx hb dX3_tells_34 (by decide) (fun c1 => ?_) (fun c1 => ?_)
      · have h := it_p c1 h
        refine lv_iload_n hx hb dX3_tells_152 rfl (lv_at hl 2 rfl) ?_
        by_cases c2 : v30.2.1 = 3
        · have h := it_p c2 h
          refine lv_tableIn (off := 43) (tgt := 196) hx hb dX3_tells_153 (by rw [c2]; decide) (by rw [c2]; decide) (by rw [c2]; rfl) (by decide) ?_
          refine lv_iload_n hx hb dX3_tells_196 rfl (lv_at hl 3 rfl) ?_
          obtain rfl := os h
          exact ret_i hx hb hr hlocks hP hK hD hS dX3_tells_197
        · have h := it_n c2 h
          by_cases c3 : v30.2.1 = 4
          · have h := it_p c3 h
            refine lv_tableIn (off := 45) (tgt := 198) hx hb dX3_tells_153 (by rw [c3]; decide) (by rw [c3]; decide) (by rw [c3]; rfl) (by decide) ?_
            refine lv_iload hx hb dX3_tells_198 (lv_at hl 5 rfl) ?_
            refine lv_iload hx hb dX3_tells_200 (lv_at hl 4 rfl) ?_
            refine lv_isub hx hb dX3_tells_202 ?_
            obtain rfl := os h
            exact ret_i hx hb hr hlocks hP hK hD hS dX3_tells_203
          · have h := it_n c3 h
            by_cases c4 : v30.2.1 = 5
            · have h := it_p c4 h
              refine lv_tableIn (off := 51) (tgt := 204) hx hb dX3_tells_153 (by rw [c4]; decide) (by rw [c4]; decide) (by rw [c4]; rfl) (by decide) ?_
              refine lv_aload_n hx hb dX3_tells_204 rfl (lv_at hl 0 rfl) ?_
              refine va_get (D := D) (ci := 3) (v := .ref (mb 7)) (C := RX3) (T := TX3) (N := 14) hx hb htB inlX3 hown hK hP 0 rfl rfl 13 (by decide) (htB _ kw61) (fun _ h9 => h9) rfl dX3_tells_205 ?_
              refine lv_iload hx hb dX3_tells_208 (lv_at hl 6 rfl) ?_
              obtain ⟨g5, h⟩ := og h
              refine va_iald hx hb hK hP 1 0 rfl rfl (pin_in g5) dX3_tells_210 ?_
              refine lv_iload_n hx hb dX3_tells_211 rfl (lv_at hl 1 rfl) ?_
              obtain ⟨r6, h6, h⟩ := ob h
              refine call_i (v := r6) (wc := ([] : va_W)) (wc' := ([] : va_W)) (ws' := (gMo mh mb mo ++ (gA t (mb 7) 24 li))) (cutB (bs := [gMo mh mb mo, gA t (mb 7) 24 li]) (cs := []) (cs' := []) (bs' := [gMo mh mb mo, gA t (mb 7) 24 li]) [] hP hD hS hA rfl rfl rfl rfl) hS (fun hPc hDc => va_runS (As := [.int v30.1]) (rest := [.int (li (Int32.toNatClampNeg v30.2.2.2.2.2.1))]) ⟨hx, hb, hml, hown, hts⟩ (mtX3_wanted l D t v30.1 r6 h6 _) (va_cwS 1 hts (gBS kw302 kw303 kw5 kw304) rfl rfl rfl (by decide +kernel) ⟨Nat.le_of_ble_eq_true rfl, Nat.le_of_ble_eq_true rfl⟩) (sPc_S hPc hK hDc hE) rfl rfl hl.1 rfl (lv_room (Nat.le_of_ble_eq_true rfl)) dX3_tells_212 ⟨Nat.zero_le _, Nat.zero_le _⟩) (fun H locs hP hD hS => ?_)
              refine lv_isub hx hb dX3_tells_215 ?_
              obtain ⟨r7, h7, h⟩ := ob h
              refine call_i (v := r7) (wc := ([] : va_W)) (wc' := ([] : va_W)) (ws' := (gMo mh mb mo ++ (gA t (mb 7) 24 li))) (cutB (bs := [gMo mh mb mo, gA t (mb 7) 24 li]) (cs := []) (cs' := []) (bs' := [gMo mh mb mo, gA t (mb 7) 24 li]) [] hP hD hS hA rfl rfl rfl rfl) hS (fun hPc hDc => va_runS (As := [.int ((li (Int32.toNatClampNeg v30.2.2.2.2.2.1)) - r6)]) (rest := []) ⟨hx, hb, hml, hown, hts⟩ (mtX3_size l D t ((li (Int32.toNatClampNeg v30.2.2.2.2.2.1)) - r6) r7 h7 _) (va_cwS 1 hts (gBS kw315 kw316 kw5 kw317) rfl rfl rfl (by decide +kernel) ⟨Nat.le_of_ble_eq_true rfl, Nat.le_of_ble_eq_true rfl⟩) (sPc_S hPc hK hDc hE) rfl rfl hl.1 rfl (lv_room (Nat.le_of_ble_eq_true rfl)) dX3_tells_216 ⟨Nat.zero_le _, Nat.zero_le _⟩) (fun H locs hP hD hS => ?_)
              obtain rfl := os h
              exact ret_i hx hb hr hlocks hP hK hD hS dX3_tells_219
            · have h := it_n c4 h
              by_cases c8 : v30.2.1 = 6
              · have h := it_p c8 h
                refine lv_tableIn (off := 67) (tgt := 220) hx hb dX3_tells_153 (by rw [c8]; decide) (by rw [c8]; decide) (by rw [c8]; rfl) (by decide) ?_
                refine lv_iload hx hb dX3_tells_220 (lv_at hl 6 rfl) ?_
                obtain rfl := os h
                exact ret_i hx hb hr hlocks hP hK hD hS dX3_tells_222
              · have h := it_n c8 h
                by_cases c9 : v30.2.1 = 7
                · have h := it_p c9 h
                  refine lv_tableIn (off := 70) (tgt := 223) hx hb dX3_tells_153 (by rw [c9]; decide) (by rw [c9]; decide) (by rw [c9]; rfl) (by decide) ?_
                  refine lv_iload hx hb dX3_tells_223 (lv_at hl 7 rfl) ?_
                  obtain rfl := os h
                  exact ret_i hx hb hr hlocks hP hK hD hS dX3_tells_225
                · have h := it_n c9 h
                  by_cases c10 : v30.2.1 = 8
                  · have h := it_p c10 h
                    refine lv_tableIn (off := 73) (tgt := 226) hx hb dX3_tells_153 (by rw [c10]; decide) (by rw [c10]; decide) (by rw [c10]; rfl) (by decide) ?_
                    refine lv_iload hx hb dX3_tells_226 (lv_at hl 4 rfl) ?_
                    obtain rfl := os h
                    exact ret_i hx hb hr hlocks hP hK hD hS dX3_tells_228
                  · have h := it_n c10 h
                    by_cases c11 : v30.2.1 = 9
                    · have h := it_p c11 h
                      refine lv_tableIn (off := 76) (tgt := 229) hx hb dX3_tells_153 (by rw [c11]; decide) (by rw [c11]; decide) (by rw [c11]; rfl) (by decide) ?_
                      refine lv_iload hx hb dX3_tells_229 (lv_at hl 5 rfl) ?_
                      obtain rfl := os h
                      exact ret_i hx hb hr hlocks hP hK hD hS dX3_tells_231
                    · have h := it_n c11 h
                      refine lv_tableOut (tgt := 232) hx hb dX3_tells_153 (tab_3_9 c2 c3 c4 c8 c9 c10 c11) (by decide) ?_
                      refine lv_iload hx hb dX3_tells_232 (lv_at hl 8 rfl) ?_
                      obtain rfl := os h
                      exact ret_i hx hb hr hlocks hP hK hD hS dX3_tells_234
      · have h := it_n c1 h
        refine lv_aload_n hx hb dX3_tells_37 rfl (lv_at hl 0 rfl) ?_
        refine va_get (D := D) (ci := 3) (v := .ref (mb 7)) (C := RX3) (T := TX3) (N := 14) hx hb htB inlX3 hown hK hP 0 rfl rfl 13 (by decide) (htB _ kw61) (fun _ h9 => h9) rfl dX3_tells_38 ?_
        refine lv_iload hx hb dX3_tells_41 (lv_at hl 9 rfl) ?_
        obtain ⟨g12, h⟩ := og h
        refine va_iald hx hb hK hP 1 0 rfl rfl (pin_in g12) dX3_tells_43 ?_
        refine lv_istore (lv' := [(10, .int (li (Int32.toNatClampNeg v30.2.2.2.2.2.2.2.2))), (0, .ref mh), (1, .int v30.1), (2, .int v30.2.1), (3, .int v30.2.2.1), (4, .int v30.2.2.2.1), (5, .int v30.2.2.2.2.1), (6, .int v30.2.2.2.2.2.1), (7, .int v30.2.2.2.2.2.2.1), (8, .int v30.2.2.2.2.2.2.2.1), (9, .int v30.2.2.2.2.2.2.2.2)]) hx hb dX3_tells_44 hl (by decide) rfl (fun ls hl => ?_)
        refine lv_iload hx hb dX3_tells_46 (lv_at hl 0 rfl) ?_
        refine lv_iload_n hx hb dX3_tells_48 rfl (lv_at hl 2 rfl) ?_
        obtain ⟨r13, h13, h⟩ := ob h
        refine call_i (v := r13) (wc := ([] : va_W)) (wc' := ([] : va_W)) (ws' := (gMo mh mb mo ++ (gA t (mb 7) 24 li))) (cutB (bs := [gMo mh mb mo, gA t (mb 7) 24 li]) (cs := []) (cs' := []) (bs' := [gMo mh mb mo, gA t (mb 7) 24 li]) [] hP hD hS hA rfl rfl rfl rfl) hS (fun hPc hDc => va_runS (As := [.int v30.1]) (rest := [.int (li (Int32.toNatClampNeg v30.2.2.2.2.2.2.2.2))]) ⟨hx, hb, hml, hown, hts⟩ (mtX3_wanted l D t v30.1 r13 h13 _) (va_cwS 1 hts (gBS kw302 kw303 kw5 kw304) rfl rfl rfl (by decide +kernel) ⟨Nat.le_of_ble_eq_true rfl, Nat.le_of_ble_eq_true rfl⟩) (sPc_S hPc hK hDc hE) rfl rfl hl.1 rfl (lv_room (Nat.le_of_ble_eq_true rfl)) dX3_tells_49 ⟨Nat.zero_le _, Nat.zero_le _⟩) (fun H locs hP hD hS => ?_)
        refine lv_isub hx hb dX3_tells_52 ?_
        obtain ⟨r14, h14, h⟩ := ob h
        refine call_i (v := r14) (wc := ([] : va_W)) (wc' := ([] : va_W)) (ws' := (gMo mh mb mo ++ (gA t (mb 7) 24 li))) (cutB (bs := [gMo mh mb mo, gA t (mb 7) 24 li]) (cs := []) (cs' := []) (bs' := [gMo mh mb mo, gA t (mb 7) 24 li]) [] hP hD hS hA rfl rfl rfl rfl) hS (fun hPc hDc => va_runS (As := [.int ((li (Int32.toNatClampNeg v30.2.2.2.2.2.2.2.2)) - r13)]) (rest := []) ⟨hx, hb, hml, hown, hts⟩ (mtX3_size l D t ((li (Int32.toNatClampNeg v30.2.2.2.2.2.2.2.2)) - r13) r14 h14 _) (va_cwS 1 hts (gBS kw315 kw316 kw5 kw317) rfl rfl rfl (by decide +kernel) ⟨Nat.le_of_ble_eq_true rfl, Nat.le_of_ble_eq_true rfl⟩) (sPc_S hPc hK hDc hE) rfl rfl hl.1 rfl (lv_room (Nat.le_of_ble_eq_true rfl)) dX3_tells_53 ⟨Nat.zero_le _, Nat.zero_le _⟩) (fun H locs hP hD hS => ?_)
        refine lv_istore (lv' := [(11, .int r14), (10, .int (li (Int32.toNatClampNeg v30.2.2.2.2.2.2.2.2))), (0, .ref mh), (1, .int v30.1), (2, .int v30.2.1), (3, .int v30.2.2.1), (4, .int v30.2.2.2.1), (5, .int v30.2.2.2.2.1), (6, .int v30.2.2.2.2.2.1), (7, .int v30.2.2.2.2.2.2.1), (8, .int v30.2.2.2.2.2.2.2.1), (9, .int v30.2.2.2.2.2.2.2.2)]) hx hb dX3_tells_56 hl (by decide) rfl (fun ls hl => ?_)
        refine lv_iload_n hx hb dX3_tells_58 rfl (lv_at hl 5 rfl) ?_
        refine lv_iload hx hb dX3_tells_59 (lv_at hl 1 rfl) ?_
        refine lv_iadd hx hb dX3_tells_61 ?_
        refine lv_istore_n (lv' := [(3, .int (v30.2.2.1 + (li (Int32.toNatClampNeg v30.2.2.2.2.2.2.2.2)))), (11, .int r14), (10, .int (li (Int32.toNatClampNeg v30.2.2.2.2.2.2.2.2))), (0, .ref mh), (1, .int v30.1), (2, .int v30.2.1), (4, .int v30.2.2.2.1), (5, .int v30.2.2.2.2.1), (6, .int v30.2.2.2.2.2.1), (7, .int v30.2.2.2.2.2.2.1), (8, .int v30.2.2.2.2.2.2.2.1), (9, .int v30.2.2.2.2.2.2.2.2)]) hx hb dX3_tells_62 rfl hl (by decide) rfl (fun ls hl => ?_)
        refine lv_iload hx hb dX3_tells_63 (lv_at hl 2 rfl) ?_
        refine lv_iload hx hb dX3_tells_65 (lv_at hl 6 rfl) ?_
        refine lv_icmp_ge (tgt := 75) hx hb dX3_tells_67 (by decide) (fun c15 => ?_) (fun c15 => ?_)
        · have h := it_p c15 h
          refine lv_iload hx hb dX3_tells_75 (lv_at hl 6 rfl) ?_
          refine lv_istore (lv' := [(4, .int v30.2.2.2.1), (3, .int (v30.2.2.1 + (li (Int32.toNatClampNeg v30.2.2.2.2.2.2.2.2)))), (11, .int r14), (10, .int (li (Int32.toNatClampNeg v30.2.2.2.2.2.2.2.2))), (0, .ref mh), (1, .int v30.1), (2, .int v30.2.1), (5, .int v30.2.2.2.2.1), (6, .int v30.2.2.2.2.2.1), (7, .int v30.2.2.2.2.2.2.1), (8, .int v30.2.2.2.2.2.2.2.1), (9, .int v30.2.2.2.2.2.2.2.2)]) hx hb dX3_tells_77 hl (by decide) rfl (fun ls hl => ?_)
          refine lv_iload hx hb dX3_tells_79 (lv_at hl 3 rfl) ?_
          refine lv_iload hx hb dX3_tells_81 (lv_at hl 7 rfl) ?_
          refine lv_icmp_le (tgt := 91) hx hb dX3_tells_83 (by decide) (fun c16 => ?_) (fun c16 => ?_)
          · have h := it_p c16 h
            refine lv_iload hx hb dX3_tells_91 (lv_at hl 7 rfl) ?_
            exact J93 (v30.1, v30.2.1, v30.2.2.1 + (li (Int32.toNatClampNeg v30.2.2.2.2.2.2.2.2)), v30.2.2.2.1, v30.2.2.2.2.2.1, v30.2.2.2.2.2.2.1, v30.2.2.2.2.2.2.2.1, v30.2.2.2.2.2.2.2.2, li (Int32.toNatClampNeg v30.2.2.2.2.2.2.2.2), r14, v30.2.2.2.2.1) h _ _ hP hD hS _ (lv_sub hl [4, 5, 6, 1, 0, 8, 9, 10, 11, 3, 2] rfl)
          · have h := it_n c16 h
            refine lv_iload hx hb dX3_tells_86 (lv_at hl 3 rfl) ?_
            refine lv_goto (tgt := 93) hx hb dX3_tells_88 (by decide) ?_
            exact J93 (v30.1, v30.2.1, v30.2.2.1 + (li (Int32.toNatClampNeg v30.2.2.2.2.2.2.2.2)), v30.2.2.2.1, v30.2.2.2.2.2.1, v30.2.2.2.2.2.2.1, v30.2.2.2.2.2.2.2.1, v30.2.2.2.2.2.2.2.2, li (Int32.toNatClampNeg v30.2.2.2.2.2.2.2.2), r14, li (Int32.toNatClampNeg v30.2.2.2.2.2.2.2.2)) h _ _ hP hD hS _ (lv_sub hl [4, 5, 6, 1, 0, 8, 9, 10, 11, 3, 2] rfl)
        · have h := it_n c15 h
          refine lv_iload hx hb dX3_tells_70 (lv_at hl 2 rfl) ?_
          refine lv_goto (tgt := 77) hx hb dX3_tells_72 (by decide) ?_
          refine lv_istore (lv' := [(4, .int (li (Int32.toNatClampNeg v30.2.2.2.2.2.2.2.2))), (3, .int (v30.2.2.1 + (li (Int32.toNatClampNeg v30.2.2.2.2.2.2.2.2)))), (11, .int r14), (10, .int (li (Int32.toNatClampNeg v30.2.2.2.2.2.2.2.2))), (0, .ref mh), (1, .int v30.1), (2, .int v30.2.1), (5, .int v30.2.2.2.2.1), (6, .int v30.2.2.2.2.2.1), (7, .int v30.2.2.2.2.2.2.1), (8, .int v30.2.2.2.2.2.2.2.1), (9, .int v30.2.2.2.2.2.2.2.2)]) hx hb dX3_tells_77 hl (by decide) rfl (fun ls hl => ?_)
          refine lv_iload hx hb dX3_tells_79 (lv_at hl 3 rfl) ?_
          refine lv_iload hx hb dX3_tells_81 (lv_at hl 7 rfl) ?_
          refine lv_icmp_le (tgt := 91) hx hb dX3_tells_83 (by decide) (fun c17 => ?_) (fun c17 => ?_)
          · have h := it_p c17 h
            refine lv_iload hx hb dX3_tells_91 (lv_at hl 7 rfl) ?_
            exact J93 (v30.1, v30.2.1, v30.2.2.1 + (li (Int32.toNatClampNeg v30.2.2.2.2.2.2.2.2)), li (Int32.toNatClampNeg v30.2.2.2.2.2.2.2.2), v30.2.2.2.2.2.1, v30.2.2.2.2.2.2.1, v30.2.2.2.2.2.2.2.1, v30.2.2.2.2.2.2.2.2, li (Int32.toNatClampNeg v30.2.2.2.2.2.2.2.2), r14, v30.2.2.2.2.1) h _ _ hP hD hS _ (lv_sub hl [4, 5, 6, 1, 0, 8, 9, 10, 11, 3, 2] rfl)
          · have h := it_n c17 h
            refine lv_iload hx hb dX3_tells_86 (lv_at hl 3 rfl) ?_
            refine lv_goto (tgt := 93) hx hb dX3_tells_88 (by decide) ?_
            exact J93 (v30.1, v30.2.1, v30.2.2.1 + (li (Int32.toNatClampNeg v30.2.2.2.2.2.2.2.2)), li (Int32.toNatClampNeg v30.2.2.2.2.2.2.2.2), v30.2.2.2.2.2.1, v30.2.2.2.2.2.2.1, v30.2.2.2.2.2.2.2.1, v30.2.2.2.2.2.2.2.2, li (Int32.toNatClampNeg v30.2.2.2.2.2.2.2.2), r14, li (Int32.toNatClampNeg v30.2.2.2.2.2.2.2.2)) h _ _ hP hD hS _ (lv_sub hl [4, 5, 6, 1, 0, 8, 9, 10, 11, 3, 2] rfl)
  refine lv_iconst (v := 0) hx hb dX3_tells_0 (by decide) ?_
  refine lv_istore_n (lv' := [(3, .int 0), (0, .ref mh), (1, .int v), (2, .int w)]) hx hb dX3_tells_1 rfl hl (by decide) rfl (fun ls hl => ?_)
  refine lv_aload_n hx hb dX3_tells_2 rfl (lv_at hl 1 rfl) ?_
  refine va_get (D := D) (ci := 3) (v := .ref (mb 7)) (C := RX3) (T := TX3) (N := 14) hx hb htB inlX3 hown hK hP 0 rfl rfl 13 (by decide) (htB _ kw61) (fun _ h9 => h9) rfl dX3_tells_3 ?_
  refine lv_iconst (v := 0) hx hb dX3_tells_6 (by decide) ?_
  refine va_iald hx hb hK hP 1 0 rfl rfl (pin_in (by decide)) dX3_tells_7 ?_
  refine lv_istore (lv' := [(4, .int (li (Int32.toNatClampNeg 0))), (3, .int 0), (0, .ref mh), (1, .int v), (2, .int w)]) hx hb dX3_tells_8 hl (by decide) rfl (fun ls hl => ?_)
  refine lv_aload_n hx hb dX3_tells_10 rfl (lv_at hl 2 rfl) ?_
  refine va_get (D := D) (ci := 3) (v := .ref (mb 7)) (C := RX3) (T := TX3) (N := 14) hx hb htB inlX3 hown hK hP 0 rfl rfl 13 (by decide) (htB _ kw61) (fun _ h9 => h9) rfl dX3_tells_11 ?_
  refine lv_iconst (v := 0) hx hb dX3_tells_14 (by decide) ?_
  refine va_iald hx hb hK hP 1 0 rfl rfl (pin_in (by decide)) dX3_tells_15 ?_
  refine lv_istore (lv' := [(5, .int (li (Int32.toNatClampNeg 0))), (4, .int (li (Int32.toNatClampNeg 0))), (3, .int 0), (0, .ref mh), (1, .int v), (2, .int w)]) hx hb dX3_tells_16 hl (by decide) rfl (fun ls hl => ?_)
  refine lv_iconst (v := 0) hx hb dX3_tells_18 (by decide) ?_
  refine lv_istore (lv' := [(6, .int 0), (5, .int (li (Int32.toNatClampNeg 0))), (4, .int (li (Int32.toNatClampNeg 0))), (3, .int 0), (0, .ref mh), (1, .int v), (2, .int w)]) hx hb dX3_tells_19 hl (by decide) rfl (fun ls hl => ?_)
  refine lv_iconst (v := 0) hx hb dX3_tells_21 (by decide) ?_
  refine lv_istore (lv' := [(7, .int 0), (6, .int 0), (5, .int (li (Int32.toNatClampNeg 0))), (4, .int (li (Int32.toNatClampNeg 0))), (3, .int 0), (0, .ref mh), (1, .int v), (2, .int w)]) hx hb dX3_tells_22 hl (by decide) rfl (fun ls hl => ?_)
  refine lv_iconst (v := 0) hx hb dX3_tells_24 (by decide) ?_
  refine lv_istore (lv' := [(8, .int 0), (7, .int 0), (6, .int 0), (5, .int (li (Int32.toNatClampNeg 0))), (4, .int (li (Int32.toNatClampNeg 0))), (3, .int 0), (0, .ref mh), (1, .int v), (2, .int w)]) hx hb dX3_tells_25 hl (by decide) rfl (fun ls hl => ?_)
  refine lv_iconst (v := 0) hx hb dX3_tells_27 (by decide) ?_
  refine lv_istore (lv' := [(9, .int 0), (8, .int 0), (7, .int 0), (6, .int 0), (5, .int (li (Int32.toNatClampNeg 0))), (4, .int (li (Int32.toNatClampNeg 0))), (3, .int 0), (0, .ref mh), (1, .int v), (2, .int w)]) hx hb dX3_tells_28 hl (by decide) rfl (fun ls hl => ?_)
  exact J30 2000 (v, w, 0, li (Int32.toNatClampNeg 0), li (Int32.toNatClampNeg 0), 0, 0, 0, 0) h _ _ hP hD hS _ (lv_sub hl [7, 8, 9, 6, 5, 4, 3, 2, 1, 0] rfl)

theorem dX3_shoots_0 : decode cX3_shoots 0 = .ok (.aload_n 0, 1) := by decide +kernel
theorem dX3_shoots_1 : decode cX3_shoots 1 = .ok (.aload_n 1, 1) := by decide +kernel
theorem dX3_shoots_2 : decode cX3_shoots 2 = .ok (.iload_n 2, 1) := by decide +kernel
theorem dX3_shoots_3 : decode cX3_shoots 3 = .ok (.invokevirtual 71, 3) := by decide +kernel
theorem dX3_shoots_6 : decode cX3_shoots 6 = .ok (.aload_n 0, 1) := by decide +kernel
theorem dX3_shoots_7 : decode cX3_shoots 7 = .ok (.iload_n 2, 1) := by decide +kernel
theorem dX3_shoots_8 : decode cX3_shoots 8 = .ok (.iconst 4, 1) := by decide +kernel
theorem dX3_shoots_9 : decode cX3_shoots 9 = .ok (.invokevirtual 75, 3) := by decide +kernel
theorem dX3_shoots_12 : decode cX3_shoots 12 = .ok (.istore_n 3, 1) := by decide +kernel
theorem dX3_shoots_13 : decode cX3_shoots 13 = .ok (.aload_n 1, 1) := by decide +kernel
theorem dX3_shoots_14 : decode cX3_shoots 14 = .ok (.bipush 21, 2) := by decide +kernel
theorem dX3_shoots_16 : decode cX3_shoots 16 = .ok (.aload_n 0, 1) := by decide +kernel
theorem dX3_shoots_17 : decode cX3_shoots 17 = .ok (.iload_n 2, 1) := by decide +kernel
theorem dX3_shoots_18 : decode cX3_shoots 18 = .ok (.iconst 3, 1) := by decide +kernel
theorem dX3_shoots_19 : decode cX3_shoots 19 = .ok (.invokevirtual 75, 3) := by decide +kernel
theorem dX3_shoots_22 : decode cX3_shoots 22 = .ok (.iastore, 1) := by decide +kernel
theorem dX3_shoots_23 : decode cX3_shoots 23 = .ok (.aload_n 1, 1) := by decide +kernel
theorem dX3_shoots_24 : decode cX3_shoots 24 = .ok (.bipush 22, 2) := by decide +kernel
theorem dX3_shoots_26 : decode cX3_shoots 26 = .ok (.iload_n 3, 1) := by decide +kernel
theorem dX3_shoots_27 : decode cX3_shoots 27 = .ok (.aload_n 1, 1) := by decide +kernel
theorem dX3_shoots_28 : decode cX3_shoots 28 = .ok (.bipush 22, 2) := by decide +kernel
theorem dX3_shoots_30 : decode cX3_shoots 30 = .ok (.iaload, 1) := by decide +kernel
theorem dX3_shoots_31 : decode cX3_shoots 31 = .ok (.if_icmp .le 7, 3) := by decide +kernel
theorem dX3_shoots_34 : decode cX3_shoots 34 = .ok (.iload_n 3, 1) := by decide +kernel
theorem dX3_shoots_35 : decode cX3_shoots 35 = .ok (.goto 7, 3) := by decide +kernel
theorem dX3_shoots_38 : decode cX3_shoots 38 = .ok (.aload_n 1, 1) := by decide +kernel
theorem dX3_shoots_39 : decode cX3_shoots 39 = .ok (.bipush 22, 2) := by decide +kernel
theorem dX3_shoots_41 : decode cX3_shoots 41 = .ok (.iaload, 1) := by decide +kernel
theorem dX3_shoots_42 : decode cX3_shoots 42 = .ok (.iastore, 1) := by decide +kernel
theorem dX3_shoots_43 : decode cX3_shoots 43 = .ok (.aload_n 1, 1) := by decide +kernel
theorem dX3_shoots_44 : decode cX3_shoots 44 = .ok (.bipush 14, 2) := by decide +kernel
theorem dX3_shoots_46 : decode cX3_shoots 46 = .ok (.iload_n 2, 1) := by decide +kernel
theorem dX3_shoots_47 : decode cX3_shoots 47 = .ok (.iadd, 1) := by decide +kernel
theorem dX3_shoots_48 : decode cX3_shoots 48 = .ok (.dup2, 1) := by decide +kernel
theorem dX3_shoots_49 : decode cX3_shoots 49 = .ok (.iaload, 1) := by decide +kernel
theorem dX3_shoots_50 : decode cX3_shoots 50 = .ok (.iconst 1, 1) := by decide +kernel
theorem dX3_shoots_51 : decode cX3_shoots 51 = .ok (.iadd, 1) := by decide +kernel
theorem dX3_shoots_52 : decode cX3_shoots 52 = .ok (.iastore, 1) := by decide +kernel
theorem dX3_shoots_53 : decode cX3_shoots 53 = .ok (.aload_n 1, 1) := by decide +kernel
theorem dX3_shoots_54 : decode cX3_shoots 54 = .ok (.bipush 20, 2) := by decide +kernel
theorem dX3_shoots_56 : decode cX3_shoots 56 = .ok (.dup2, 1) := by decide +kernel
theorem dX3_shoots_57 : decode cX3_shoots 57 = .ok (.iaload, 1) := by decide +kernel
theorem dX3_shoots_58 : decode cX3_shoots 58 = .ok (.iconst 1, 1) := by decide +kernel
theorem dX3_shoots_59 : decode cX3_shoots 59 = .ok (.iadd, 1) := by decide +kernel
theorem dX3_shoots_60 : decode cX3_shoots 60 = .ok (.iastore, 1) := by decide +kernel
theorem dX3_shoots_61 : decode cX3_shoots 61 = .ok (.iconst 0, 1) := by decide +kernel
theorem dX3_shoots_62 : decode cX3_shoots 62 = .ok (.istore 4, 2) := by decide +kernel
theorem dX3_shoots_64 : decode cX3_shoots 64 = .ok (.iload 4, 2) := by decide +kernel
theorem dX3_shoots_66 : decode cX3_shoots 66 = .ok (.iconst 2, 1) := by decide +kernel
theorem dX3_shoots_67 : decode cX3_shoots 67 = .ok (.if_icmp .ge 55, 3) := by decide +kernel
theorem dX3_shoots_70 : decode cX3_shoots 70 = .ok (.aload_n 1, 1) := by decide +kernel
theorem dX3_shoots_71 : decode cX3_shoots 71 = .ok (.bipush 6, 2) := by decide +kernel
theorem dX3_shoots_73 : decode cX3_shoots 73 = .ok (.iload 4, 2) := by decide +kernel
theorem dX3_shoots_75 : decode cX3_shoots 75 = .ok (.iadd, 1) := by decide +kernel
theorem dX3_shoots_76 : decode cX3_shoots 76 = .ok (.dup2, 1) := by decide +kernel
theorem dX3_shoots_77 : decode cX3_shoots 77 = .ok (.iaload, 1) := by decide +kernel
theorem dX3_shoots_78 : decode cX3_shoots 78 = .ok (.iconst 1, 1) := by decide +kernel
theorem dX3_shoots_79 : decode cX3_shoots 79 = .ok (.iadd, 1) := by decide +kernel
theorem dX3_shoots_80 : decode cX3_shoots 80 = .ok (.iastore, 1) := by decide +kernel
theorem dX3_shoots_81 : decode cX3_shoots 81 = .ok (.aload_n 1, 1) := by decide +kernel
theorem dX3_shoots_82 : decode cX3_shoots 82 = .ok (.iconst 4, 1) := by decide +kernel
theorem dX3_shoots_83 : decode cX3_shoots 83 = .ok (.iload 4, 2) := by decide +kernel
theorem dX3_shoots_85 : decode cX3_shoots 85 = .ok (.iadd, 1) := by decide +kernel
theorem dX3_shoots_86 : decode cX3_shoots 86 = .ok (.dup2, 1) := by decide +kernel
theorem dX3_shoots_87 : decode cX3_shoots 87 = .ok (.iaload, 1) := by decide +kernel
theorem dX3_shoots_88 : decode cX3_shoots 88 = .ok (.aload_n 1, 1) := by decide +kernel
theorem dX3_shoots_89 : decode cX3_shoots 89 = .ok (.bipush 20, 2) := by decide +kernel
theorem dX3_shoots_91 : decode cX3_shoots 91 = .ok (.iaload, 1) := by decide +kernel
theorem dX3_shoots_92 : decode cX3_shoots 92 = .ok (.aload_n 1, 1) := by decide +kernel
theorem dX3_shoots_93 : decode cX3_shoots 93 = .ok (.iconst 3, 1) := by decide +kernel
theorem dX3_shoots_94 : decode cX3_shoots 94 = .ok (.iaload, 1) := by decide +kernel
theorem dX3_shoots_95 : decode cX3_shoots 95 = .ok (.irem, 1) := by decide +kernel
theorem dX3_shoots_96 : decode cX3_shoots 96 = .ok (.ifCond .ne 17, 3) := by decide +kernel
theorem dX3_shoots_99 : decode cX3_shoots 99 = .ok (.aload_n 1, 1) := by decide +kernel
theorem dX3_shoots_100 : decode cX3_shoots 100 = .ok (.iconst 4, 1) := by decide +kernel
theorem dX3_shoots_101 : decode cX3_shoots 101 = .ok (.iload 4, 2) := by decide +kernel
theorem dX3_shoots_103 : decode cX3_shoots 103 = .ok (.iadd, 1) := by decide +kernel
theorem dX3_shoots_104 : decode cX3_shoots 104 = .ok (.iaload, 1) := by decide +kernel
theorem dX3_shoots_105 : decode cX3_shoots 105 = .ok (.iconst 1, 1) := by decide +kernel
theorem dX3_shoots_106 : decode cX3_shoots 106 = .ok (.if_icmp .le 7, 3) := by decide +kernel
theorem dX3_shoots_109 : decode cX3_shoots 109 = .ok (.iconst 1, 1) := by decide +kernel
theorem dX3_shoots_110 : decode cX3_shoots 110 = .ok (.goto 4, 3) := by decide +kernel
theorem dX3_shoots_113 : decode cX3_shoots 113 = .ok (.iconst 0, 1) := by decide +kernel
theorem dX3_shoots_114 : decode cX3_shoots 114 = .ok (.isub, 1) := by decide +kernel
theorem dX3_shoots_115 : decode cX3_shoots 115 = .ok (.iastore, 1) := by decide +kernel
theorem dX3_shoots_116 : decode cX3_shoots 116 = .ok (.iinc 4 1, 3) := by decide +kernel
theorem dX3_shoots_119 : decode cX3_shoots 119 = .ok (.goto (-55), 3) := by decide +kernel
theorem dX3_shoots_122 : decode cX3_shoots 122 = .ok (.return_, 1) := by decide +kernel
abbrev zX3_shoots : List Cond := .code yX3_shoots cX3_shoots 5 none :: BIG
def fX3_shoots_l64 (mo : MoT)  (K64 : ((Nat → Int32) × (Nat → Int32) × (Nat → Int32) × (Nat → Int32) × Int32) → Option ((Nat → Int32) × (Nat → Int32) × (Nat → Int32) × (Nat → Int32))) (v64 : (Nat → Int32) × (Nat → Int32) × (Nat → Int32) × (Nat → Int32) × Int32) : Option ((Nat → Int32) × (Nat → Int32) × (Nat → Int32) × (Nat → Int32)) := (if 2 ≤ v64.2.2.2.2 then some (v64.1, v64.2.1, v64.2.2.1, v64.2.2.2.1) else gd (pin (6 + v64.2.2.2.2) 71) (gd (pin (4 + v64.2.2.2.2) 71) (gd (nz ((upd v64.1 (Int32.toNatClampNeg (6 + v64.2.2.2.2)) ((v64.1 (Int32.toNatClampNeg (6 + v64.2.2.2.2))) + 1)) (Int32.toNatClampNeg 3))) ((if (((upd v64.1 (Int32.toNatClampNeg (6 + v64.2.2.2.2)) ((v64.1 (Int32.toNatClampNeg (6 + v64.2.2.2.2))) + 1)) (Int32.toNatClampNeg 20)) - ((upd v64.1 (Int32.toNatClampNeg (6 + v64.2.2.2.2)) ((v64.1 (Int32.toNatClampNeg (6 + v64.2.2.2.2))) + 1)) (Int32.toNatClampNeg 20)) / ((upd v64.1 (Int32.toNatClampNeg (6 + v64.2.2.2.2)) ((v64.1 (Int32.toNatClampNeg (6 + v64.2.2.2.2))) + 1)) (Int32.toNatClampNeg 3)) * ((upd v64.1 (Int32.toNatClampNeg (6 + v64.2.2.2.2)) ((v64.1 (Int32.toNatClampNeg (6 + v64.2.2.2.2))) + 1)) (Int32.toNatClampNeg 3))) = 0 then (if ((upd v64.1 (Int32.toNatClampNeg (6 + v64.2.2.2.2)) ((v64.1 (Int32.toNatClampNeg (6 + v64.2.2.2.2))) + 1)) (Int32.toNatClampNeg (4 + v64.2.2.2.2))) ≤ 1 then K64 ((upd (upd v64.1 (Int32.toNatClampNeg (6 + v64.2.2.2.2)) ((v64.1 (Int32.toNatClampNeg (6 + v64.2.2.2.2))) + 1)) (Int32.toNatClampNeg (4 + v64.2.2.2.2)) (((upd v64.1 (Int32.toNatClampNeg (6 + v64.2.2.2.2)) ((v64.1 (Int32.toNatClampNeg (6 + v64.2.2.2.2))) + 1)) (Int32.toNatClampNeg (4 + v64.2.2.2.2))) - 0)), v64.2.1, v64.2.2.1, v64.2.2.2.1, v64.2.2.2.2 + 1) else K64 ((upd (upd v64.1 (Int32.toNatClampNeg (6 + v64.2.2.2.2)) ((v64.1 (Int32.toNatClampNeg (6 + v64.2.2.2.2))) + 1)) (Int32.toNatClampNeg (4 + v64.2.2.2.2)) (((upd v64.1 (Int32.toNatClampNeg (6 + v64.2.2.2.2)) ((v64.1 (Int32.toNatClampNeg (6 + v64.2.2.2.2))) + 1)) (Int32.toNatClampNeg (4 + v64.2.2.2.2))) - 1)), v64.2.1, v64.2.2.1, v64.2.2.2.1, v64.2.2.2.2 + 1)) else K64 ((upd (upd v64.1 (Int32.toNatClampNeg (6 + v64.2.2.2.2)) ((v64.1 (Int32.toNatClampNeg (6 + v64.2.2.2.2))) + 1)) (Int32.toNatClampNeg (4 + v64.2.2.2.2)) (((upd v64.1 (Int32.toNatClampNeg (6 + v64.2.2.2.2)) ((v64.1 (Int32.toNatClampNeg (6 + v64.2.2.2.2))) + 1)) (Int32.toNatClampNeg (4 + v64.2.2.2.2))) - 0)), v64.2.1, v64.2.2.1, v64.2.2.2.1, v64.2.2.2.2 + 1))))))
def fX3_shoots_j42 (mo : MoT)  (v42 : (Nat → Int32) × (Nat → Int32) × (Nat → Int32) × (Nat → Int32) × Int32 × Int32 × Int32) : Option ((Nat → Int32) × (Nat → Int32) × (Nat → Int32) × (Nat → Int32)) := gd (pin v42.2.2.2.2.2.2 71) (gd (pin (14 + v42.2.2.2.2.1) 71) (lp (fX3_shoots_l64 mo) 2000 ((upd (upd (upd v42.1 (Int32.toNatClampNeg v42.2.2.2.2.2.2) v42.2.2.2.2.2.1) (Int32.toNatClampNeg (14 + v42.2.2.2.2.1)) (((upd v42.1 (Int32.toNatClampNeg v42.2.2.2.2.2.2) v42.2.2.2.2.2.1) (Int32.toNatClampNeg (14 + v42.2.2.2.2.1))) + 1)) (Int32.toNatClampNeg 20) (((upd (upd v42.1 (Int32.toNatClampNeg v42.2.2.2.2.2.2) v42.2.2.2.2.2.1) (Int32.toNatClampNeg (14 + v42.2.2.2.2.1)) (((upd v42.1 (Int32.toNatClampNeg v42.2.2.2.2.2.2) v42.2.2.2.2.2.1) (Int32.toNatClampNeg (14 + v42.2.2.2.2.1))) + 1)) (Int32.toNatClampNeg 20)) + 1)), v42.2.1, v42.2.2.1, v42.2.2.2.1, 0)))
def fX3_shoots (mo : MoT) (fs : (Nat → Int32)) (le : (Nat → Int32)) (co : (Nat → Int32)) (li : (Nat → Int32)) (v : Int32) : Option ((Nat → Int32) × (Nat → Int32) × (Nat → Int32) × (Nat → Int32)) := (fX3_lays mo fs le co li v).bind (fun r1 => (fX3_tells mo r1.2.2 v 4).bind (fun r2 => (fX3_tells mo r1.2.2 v 3).bind (fun r3 => (if r2 ≤ ((upd fs (Int32.toNatClampNeg 21) r3) (Int32.toNatClampNeg 22)) then fX3_shoots_j42 mo ((upd fs (Int32.toNatClampNeg 21) r3), r1.1, r1.2.1, r1.2.2, v, (upd fs (Int32.toNatClampNeg 21) r3) (Int32.toNatClampNeg 22), 22) else fX3_shoots_j42 mo ((upd fs (Int32.toNatClampNeg 21) r3), r1.1, r1.2.1, r1.2.2, v, r2, 22)))))
set_option maxHeartbeats 4000000 in
set_option maxRecDepth 100000 in
theorem mtX3_shoots (l : Launch) (D : va_G) (t : Nat → ClassId) (mh : Nat) (mb : Nat → Nat) (mo : MoT) (fsa : Nat) (fs : (Nat → Int32)) (le : (Nat → Int32)) (co : (Nat → Int32)) (li : (Nat → Int32)) (v : Int32) (out : (Nat → Int32) × (Nat → Int32) × (Nat → Int32) × (Nat → Int32)) (h : fX3_shoots mo fs le co li v = some out)  (sz : Nat) : Met l yX3_shoots zX3_shoots ({ frames := 3, cells := 0, slots := 0, locals := 68 }) (sPc D t (gMo mh mb mo ++ (gA t fsa 71 fs ++ (gA t (mb 5) 24 le ++ (gA t (mb 6) 24 co ++ (gA t (mb 7) 24 li))))) sz [.ref mh, .ref fsa, .int v]) (qV D t (gMo mh mb mo ++ (gA t fsa 71 out.1 ++ (gA t (mb 5) 24 out.2.1 ++ (gA t (mb 6) 24 out.2.2.1 ++ (gA t (mb 7) 24 out.2.2.2))))) (va_A (gMo mh mb mo ++ (gA t fsa 71 fs ++ (gA t (mb 5) 24 le ++ (gA t (mb 6) 24 co ++ (gA t (mb 7) 24 li))))) sz)) 0 0 (va_A (gMo mh mb mo ++ (gA t fsa 71 fs ++ (gA t (mb 5) 24 le ++ (gA t (mb 6) 24 co ++ (gA t (mb 7) 24 li))))) sz) := by
  refine met_of (Qf := fun A => qV D t (gMo mh mb mo ++ (gA t fsa 71 out.1 ++ (gA t (mb 5) 24 out.2.1 ++ (gA t (mb 6) 24 out.2.2.1 ++ (gA t (mb 7) 24 out.2.2.2))))) A) (cc := cX3_shoots) (maxL := 5) (ret := none) (by decide) rfl (Nat.le_of_ble_eq_true rfl) ?_
  intro p e s m args below meth c A hx hb hr hml hts hown hlocks hA hP hK hD hE hS ls hl
  have htB : ∀ w ∈ BIG, w.before args s = true := fun w h => hts w (List.mem_cons_of_mem _ h)
  have hown : s.vm.findClass RX3 = some m.cls := hown
  have hl : lv_has ls 5 [(0, .ref mh), (1, .ref fsa), (2, .int v)] := hl
  unfold fX3_shoots at h
  have J64 : ∀ (fu64 : Nat) (v64 : (Nat → Int32) × (Nat → Int32) × (Nat → Int32) × (Nat → Int32) × Int32), lp (fX3_shoots_l64 mo) fu64 v64 = some out → ∀ (H : Heap) (locs : List Loc), va_P D vwCl (gMo mh mb mo ++ (gA t fsa 71 v64.1 ++ (gA t (mb 5) 24 v64.2.1 ++ (gA t (mb 6) 24 v64.2.2.1 ++ (gA t (mb 7) 24 v64.2.2.2.1))))) H → va_D A (gMo mh mb mo ++ (gA t fsa 71 v64.1 ++ (gA t (mb 5) 24 v64.2.1 ++ (gA t (mb 6) 24 v64.2.2.1 ++ (gA t (mb 7) 24 v64.2.2.2.1))))) → va_S A s.heap H locs → ∀ ls : Array Slot, lv_has ls 5 [(1, .ref fsa), (4, .int v64.2.2.2.2)] → W p l e ({ frames := 3, cells := 0, slots := 0, locals := 68 }) s m args below meth c H locs 0 0 (MQ below (qV D t (gMo mh mb mo ++ (gA t fsa 71 out.1 ++ (gA t (mb 5) 24 out.2.1 ++ (gA t (mb 6) 24 out.2.2.1 ++ (gA t (mb 7) 24 out.2.2.2))))) A) args s 0 0 A) (F0 m 64 ls []) := by
    intro fu64
    induction fu64 with
    | zero => intro v64 h; cases h
    | succ fu64 ih64 =>
      intro v64 h H locs hP hD hS ls hl
      have h : fX3_shoots_l64 mo (lp (fX3_shoots_l64 mo) fu64) v64 = some out := h
      unfold fX3_shoots_l64 at h
      refine lv_iload hx hb dX3_shoots_64 (lv_at hl 1 rfl) ?_
      refine lv_iconst (v := 2) hx hb dX3_shoots_66 (by decide) ?_
      refine lv_icmp_ge (tgt := 122) hx hb dX3_shoots_67 (by decide) (fun c7 => ?_) (fun c7 => ?_)
      · have h := it_p c7 h
        obtain rfl := os h
        exact ret_v hx hb hr hlocks hP hK hD hS dX3_shoots_122
      · have h := it_n c7 h
        refine lv_aload_n hx hb dX3_shoots_70 rfl (lv_at hl 0 rfl) ?_
        refine lv_bipush (v := 6) hx hb dX3_shoots_71 (by decide) ?_
        refine lv_iload hx hb dX3_shoots_73 (lv_at hl 1 rfl) ?_
        refine lv_iadd hx hb dX3_shoots_75 ?_
        refine lv_dup2_11 hx hb dX3_shoots_76 rfl rfl ?_
        obtain ⟨g8, h⟩ := og h
        refine va_iald hx hb hK hP 1 0 rfl rfl (pin_in g8) dX3_shoots_77 ?_
        refine lv_iconst (v := 1) hx hb dX3_shoots_78 (by decide) ?_
        refine lv_iadd hx hb dX3_shoots_79 ?_
        refine va_iast hx hb hK hP hD hS 1 0 rfl rfl (pin_in g8) dX3_shoots_80 (fun H locs hP hD hS => ?_)
        have hP : va_P D vwCl (gMo mh mb mo ++ (gA t fsa 71 (upd v64.1 (Int32.toNatClampNeg (6 + v64.2.2.2.2)) ((v64.1 (Int32.toNatClampNeg (6 + v64.2.2.2.2))) + 1)) ++ (gA t (mb 5) 24 v64.2.1 ++ (gA t (mb 6) 24 v64.2.2.1 ++ (gA t (mb 7) 24 v64.2.2.2.1))))) H := hP
        have hD : va_D A (gMo mh mb mo ++ (gA t fsa 71 (upd v64.1 (Int32.toNatClampNeg (6 + v64.2.2.2.2)) ((v64.1 (Int32.toNatClampNeg (6 + v64.2.2.2.2))) + 1)) ++ (gA t (mb 5) 24 v64.2.1 ++ (gA t (mb 6) 24 v64.2.2.1 ++ (gA t (mb 7) 24 v64.2.2.2.1))))) := hD
        refine lv_aload_n hx hb dX3_shoots_81 rfl (lv_at hl 0 rfl) ?_
        refine lv_iconst (v := 4) hx hb dX3_shoots_82 (by decide) ?_
        refine lv_iload hx hb dX3_shoots_83 (lv_at hl 1 rfl) ?_
        refine lv_iadd hx hb dX3_shoots_85 ?_
        refine lv_dup2_11 hx hb dX3_shoots_86 rfl rfl ?_
        obtain ⟨g9, h⟩ := og h
        refine va_iald hx hb hK hP 1 0 rfl rfl (pin_in g9) dX3_shoots_87 ?_
        refine lv_aload_n hx hb dX3_shoots_88 rfl (lv_at hl 0 rfl) ?_
        refine lv_bipush (v := 20) hx hb dX3_shoots_89 (by decide) ?_
        refine va_iald hx hb hK hP 1 0 rfl rfl (pin_in (by decide)) dX3_shoots_91 ?_
        refine lv_aload_n hx hb dX3_shoots_92 rfl (lv_at hl 0 rfl) ?_
        refine lv_iconst (v := 3) hx hb dX3_shoots_93 (by decide) ?_
        refine va_iald hx hb hK hP 1 0 rfl rfl (pin_in (by decide)) dX3_shoots_94 ?_
        obtain ⟨g10, h⟩ := og h
        refine lv_irem hx hb dX3_shoots_95 (nz_ne g10) ?_
        refine lv_if_ne (tgt := 113) hx hb dX3_shoots_96 (by decide) (fun c11 => ?_) (fun c11 => ?_)
        · have h := it_n c11 h
          refine lv_iconst (v := 0) hx hb dX3_shoots_113 (by decide) ?_
          refine lv_isub hx hb dX3_shoots_114 ?_
          refine va_iast hx hb hK hP hD hS 1 0 rfl rfl (pin_in g9) dX3_shoots_115 (fun H locs hP hD hS => ?_)
          have hP : va_P D vwCl (gMo mh mb mo ++ (gA t fsa 71 (upd (upd v64.1 (Int32.toNatClampNeg (6 + v64.2.2.2.2)) ((v64.1 (Int32.toNatClampNeg (6 + v64.2.2.2.2))) + 1)) (Int32.toNatClampNeg (4 + v64.2.2.2.2)) (((upd v64.1 (Int32.toNatClampNeg (6 + v64.2.2.2.2)) ((v64.1 (Int32.toNatClampNeg (6 + v64.2.2.2.2))) + 1)) (Int32.toNatClampNeg (4 + v64.2.2.2.2))) - 0)) ++ (gA t (mb 5) 24 v64.2.1 ++ (gA t (mb 6) 24 v64.2.2.1 ++ (gA t (mb 7) 24 v64.2.2.2.1))))) H := hP
          have hD : va_D A (gMo mh mb mo ++ (gA t fsa 71 (upd (upd v64.1 (Int32.toNatClampNeg (6 + v64.2.2.2.2)) ((v64.1 (Int32.toNatClampNeg (6 + v64.2.2.2.2))) + 1)) (Int32.toNatClampNeg (4 + v64.2.2.2.2)) (((upd v64.1 (Int32.toNatClampNeg (6 + v64.2.2.2.2)) ((v64.1 (Int32.toNatClampNeg (6 + v64.2.2.2.2))) + 1)) (Int32.toNatClampNeg (4 + v64.2.2.2.2))) - 0)) ++ (gA t (mb 5) 24 v64.2.1 ++ (gA t (mb 6) 24 v64.2.2.1 ++ (gA t (mb 7) 24 v64.2.2.2.1))))) := hD
          refine lv_iinc (v := v64.2.2.2.2 + 1) (lv' := [(4, .int (v64.2.2.2.2 + 1)), (1, .ref fsa)]) hx hb dX3_shoots_116 hl (k := 1) rfl rfl (by decide) rfl (fun ls hl => ?_)
          refine lv_goto (tgt := 64) hx hb dX3_shoots_119 (by decide) ?_
          exact ih64 ((upd (upd v64.1 (Int32.toNatClampNeg (6 + v64.2.2.2.2)) ((v64.1 (Int32.toNatClampNeg (6 + v64.2.2.2.2))) + 1)) (Int32.toNatClampNeg (4 + v64.2.2.2.2)) (((upd v64.1 (Int32.toNatClampNeg (6 + v64.2.2.2.2)) ((v64.1 (Int32.toNatClampNeg (6 + v64.2.2.2.2))) + 1)) (Int32.toNatClampNeg (4 + v64.2.2.2.2))) - 0)), v64.2.1, v64.2.2.1, v64.2.2.2.1, v64.2.2.2.2 + 1) h _ _ hP hD hS _ (lv_sub hl [1, 0] rfl)
        · have h := it_p c11 h
          refine lv_aload_n hx hb dX3_shoots_99 rfl (lv_at hl 0 rfl) ?_
          refine lv_iconst (v := 4) hx hb dX3_shoots_100 (by decide) ?_
          refine lv_iload hx hb dX3_shoots_101 (lv_at hl 1 rfl) ?_
          refine lv_iadd hx hb dX3_shoots_103 ?_
          refine va_iald hx hb hK hP 1 0 rfl rfl (pin_in g9) dX3_shoots_104 ?_
          refine lv_iconst (v := 1) hx hb dX3_shoots_105 (by decide) ?_
          refine lv_icmp_le (tgt := 113) hx hb dX3_shoots_106 (by decide) (fun c12 => ?_) (fun c12 => ?_)
          · have h := it_p c12 h
            refine lv_iconst (v := 0) hx hb dX3_shoots_113 (by decide) ?_
            refine lv_isub hx hb dX3_shoots_114 ?_
            refine va_iast hx hb hK hP hD hS 1 0 rfl rfl (pin_in g9) dX3_shoots_115 (fun H locs hP hD hS => ?_)
            have hP : va_P D vwCl (gMo mh mb mo ++ (gA t fsa 71 (upd (upd v64.1 (Int32.toNatClampNeg (6 + v64.2.2.2.2)) ((v64.1 (Int32.toNatClampNeg (6 + v64.2.2.2.2))) + 1)) (Int32.toNatClampNeg (4 + v64.2.2.2.2)) (((upd v64.1 (Int32.toNatClampNeg (6 + v64.2.2.2.2)) ((v64.1 (Int32.toNatClampNeg (6 + v64.2.2.2.2))) + 1)) (Int32.toNatClampNeg (4 + v64.2.2.2.2))) - 0)) ++ (gA t (mb 5) 24 v64.2.1 ++ (gA t (mb 6) 24 v64.2.2.1 ++ (gA t (mb 7) 24 v64.2.2.2.1))))) H := hP
            have hD : va_D A (gMo mh mb mo ++ (gA t fsa 71 (upd (upd v64.1 (Int32.toNatClampNeg (6 + v64.2.2.2.2)) ((v64.1 (Int32.toNatClampNeg (6 + v64.2.2.2.2))) + 1)) (Int32.toNatClampNeg (4 + v64.2.2.2.2)) (((upd v64.1 (Int32.toNatClampNeg (6 + v64.2.2.2.2)) ((v64.1 (Int32.toNatClampNeg (6 + v64.2.2.2.2))) + 1)) (Int32.toNatClampNeg (4 + v64.2.2.2.2))) - 0)) ++ (gA t (mb 5) 24 v64.2.1 ++ (gA t (mb 6) 24 v64.2.2.1 ++ (gA t (mb 7) 24 v64.2.2.2.1))))) := hD
            refine lv_iinc (v := v64.2.2.2.2 + 1) (lv' := [(4, .int (v64.2.2.2.2 + 1)), (1, .ref fsa)]) hx hb dX3_shoots_116 hl (k := 1) rfl rfl (by decide) rfl (fun ls hl => ?_)
            refine lv_goto (tgt := 64) hx hb dX3_shoots_119 (by decide) ?_
            exact ih64 ((upd (upd v64.1 (Int32.toNatClampNeg (6 + v64.2.2.2.2)) ((v64.1 (Int32.toNatClampNeg (6 + v64.2.2.2.2))) + 1)) (Int32.toNatClampNeg (4 + v64.2.2.2.2)) (((upd v64.1 (Int32.toNatClampNeg (6 + v64.2.2.2.2)) ((v64.1 (Int32.toNatClampNeg (6 + v64.2.2.2.2))) + 1)) (Int32.toNatClampNeg (4 + v64.2.2.2.2))) - 0)), v64.2.1, v64.2.2.1, v64.2.2.2.1, v64.2.2.2.2 + 1) h _ _ hP hD hS _ (lv_sub hl [1, 0] rfl)
          · have h := it_n c12 h
            refine lv_iconst (v := 1) hx hb dX3_shoots_109 (by decide) ?_
            refine lv_goto (tgt := 114) hx hb dX3_shoots_110 (by decide) ?_
            refine lv_isub hx hb dX3_shoots_114 ?_
            refine va_iast hx hb hK hP hD hS 1 0 rfl rfl (pin_in g9) dX3_shoots_115 (fun H locs hP hD hS => ?_)
            have hP : va_P D vwCl (gMo mh mb mo ++ (gA t fsa 71 (upd (upd v64.1 (Int32.toNatClampNeg (6 + v64.2.2.2.2)) ((v64.1 (Int32.toNatClampNeg (6 + v64.2.2.2.2))) + 1)) (Int32.toNatClampNeg (4 + v64.2.2.2.2)) (((upd v64.1 (Int32.toNatClampNeg (6 + v64.2.2.2.2)) ((v64.1 (Int32.toNatClampNeg (6 + v64.2.2.2.2))) + 1)) (Int32.toNatClampNeg (4 + v64.2.2.2.2))) - 1)) ++ (gA t (mb 5) 24 v64.2.1 ++ (gA t (mb 6) 24 v64.2.2.1 ++ (gA t (mb 7) 24 v64.2.2.2.1))))) H := hP
            have hD : va_D A (gMo mh mb mo ++ (gA t fsa 71 (upd (upd v64.1 (Int32.toNatClampNeg (6 + v64.2.2.2.2)) ((v64.1 (Int32.toNatClampNeg (6 + v64.2.2.2.2))) + 1)) (Int32.toNatClampNeg (4 + v64.2.2.2.2)) (((upd v64.1 (Int32.toNatClampNeg (6 + v64.2.2.2.2)) ((v64.1 (Int32.toNatClampNeg (6 + v64.2.2.2.2))) + 1)) (Int32.toNatClampNeg (4 + v64.2.2.2.2))) - 1)) ++ (gA t (mb 5) 24 v64.2.1 ++ (gA t (mb 6) 24 v64.2.2.1 ++ (gA t (mb 7) 24 v64.2.2.2.1))))) := hD
            refine lv_iinc (v := v64.2.2.2.2 + 1) (lv' := [(4, .int (v64.2.2.2.2 + 1)), (1, .ref fsa)]) hx hb dX3_shoots_116 hl (k := 1) rfl rfl (by decide) rfl (fun ls hl => ?_)
            refine lv_goto (tgt := 64) hx hb dX3_shoots_119 (by decide) ?_
            exact ih64 ((upd (upd v64.1 (Int32.toNatClampNeg (6 + v64.2.2.2.2)) ((v64.1 (Int32.toNatClampNeg (6 + v64.2.2.2.2))) + 1)) (Int32.toNatClampNeg (4 + v64.2.2.2.2)) (((upd v64.1 (Int32.toNatClampNeg (6 + v64.2.2.2.2)) ((v64.1 (Int32.toNatClampNeg (6 + v64.2.2.2.2))) + 1)) (Int32.toNatClampNeg (4 + v64.2.2.2.2))) - 1)), v64.2.1, v64.2.2.1, v64.2.2.2.1, v64.2.2.2.2 + 1) h _ _ hP hD hS _ (lv_sub hl [1, 0] rfl)
  have J42 : ∀ v42 : (Nat → Int32) × (Nat → Int32) × (Nat → Int32) × (Nat → Int32) × Int32 × Int32 × Int32, fX3_shoots_j42 mo v42 = some out → ∀ (H : Heap) (locs : List Loc), va_P D vwCl (gMo mh mb mo ++ (gA t fsa 71 v42.1 ++ (gA t (mb 5) 24 v42.2.1 ++ (gA t (mb 6) 24 v42.2.2.1 ++ (gA t (mb 7) 24 v42.2.2.2.1))))) H → va_D A (gMo mh mb mo ++ (gA t fsa 71 v42.1 ++ (gA t (mb 5) 24 v42.2.1 ++ (gA t (mb 6) 24 v42.2.2.1 ++ (gA t (mb 7) 24 v42.2.2.2.1))))) → va_S A s.heap H locs → ∀ ls : Array Slot, lv_has ls 5 [(1, .ref fsa), (2, .int v42.2.2.2.2.1)] → W p l e ({ frames := 3, cells := 0, slots := 0, locals := 68 }) s m args below meth c H locs 0 0 (MQ below (qV D t (gMo mh mb mo ++ (gA t fsa 71 out.1 ++ (gA t (mb 5) 24 out.2.1 ++ (gA t (mb 6) 24 out.2.2.1 ++ (gA t (mb 7) 24 out.2.2.2))))) A) args s 0 0 A) (F0 m 42 ls [.int v42.2.2.2.2.2.1, .int v42.2.2.2.2.2.2, .ref fsa]) := by
    intro v42 h H locs hP hD hS ls hl
    unfold fX3_shoots_j42 at h
    obtain ⟨g5, h⟩ := og h
    refine va_iast hx hb hK hP hD hS 1 0 rfl rfl (pin_in g5) dX3_shoots_42 (fun H locs hP hD hS => ?_)
    have hP : va_P D vwCl (gMo mh mb mo ++ (gA t fsa 71 (upd v42.1 (Int32.toNatClampNeg v42.2.2.2.2.2.2) v42.2.2.2.2.2.1) ++ (gA t (mb 5) 24 v42.2.1 ++ (gA t (mb 6) 24 v42.2.2.1 ++ (gA t (mb 7) 24 v42.2.2.2.1))))) H := hP
    have hD : va_D A (gMo mh mb mo ++ (gA t fsa 71 (upd v42.1 (Int32.toNatClampNeg v42.2.2.2.2.2.2) v42.2.2.2.2.2.1) ++ (gA t (mb 5) 24 v42.2.1 ++ (gA t (mb 6) 24 v42.2.2.1 ++ (gA t (mb 7) 24 v42.2.2.2.1))))) := hD
    refine lv_aload_n hx hb dX3_shoots_43 rfl (lv_at hl 0 rfl) ?_
    refine lv_bipush (v := 14) hx hb dX3_shoots_44 (by decide) ?_
    refine lv_iload_n hx hb dX3_shoots_46 rfl (lv_at hl 1 rfl) ?_
    refine lv_iadd hx hb dX3_shoots_47 ?_
    refine lv_dup2_11 hx hb dX3_shoots_48 rfl rfl ?_
    obtain ⟨g6, h⟩ := og h
    refine va_iald hx hb hK hP 1 0 rfl rfl (pin_in g6) dX3_shoots_49 ?_
    refine lv_iconst (v := 1) hx hb dX3_shoots_50 (by decide) ?_
    refine lv_iadd hx hb dX3_shoots_51 ?_
    refine va_iast hx hb hK hP hD hS 1 0 rfl rfl (pin_in g6) dX3_shoots_52 (fun H locs hP hD hS => ?_)
    have hP : va_P D vwCl (gMo mh mb mo ++ (gA t fsa 71 (upd (upd v42.1 (Int32.toNatClampNeg v42.2.2.2.2.2.2) v42.2.2.2.2.2.1) (Int32.toNatClampNeg (14 + v42.2.2.2.2.1)) (((upd v42.1 (Int32.toNatClampNeg v42.2.2.2.2.2.2) v42.2.2.2.2.2.1) (Int32.toNatClampNeg (14 + v42.2.2.2.2.1))) + 1)) ++ (gA t (mb 5) 24 v42.2.1 ++ (gA t (mb 6) 24 v42.2.2.1 ++ (gA t (mb 7) 24 v42.2.2.2.1))))) H := hP
    have hD : va_D A (gMo mh mb mo ++ (gA t fsa 71 (upd (upd v42.1 (Int32.toNatClampNeg v42.2.2.2.2.2.2) v42.2.2.2.2.2.1) (Int32.toNatClampNeg (14 + v42.2.2.2.2.1)) (((upd v42.1 (Int32.toNatClampNeg v42.2.2.2.2.2.2) v42.2.2.2.2.2.1) (Int32.toNatClampNeg (14 + v42.2.2.2.2.1))) + 1)) ++ (gA t (mb 5) 24 v42.2.1 ++ (gA t (mb 6) 24 v42.2.2.1 ++ (gA t (mb 7) 24 v42.2.2.2.1))))) := hD
    refine lv_aload_n hx hb dX3_shoots_53 rfl (lv_at hl 0 rfl) ?_
    refine lv_bipush (v := 20) hx hb dX3_shoots_54 (by decide) ?_
    refine lv_dup2_11 hx hb dX3_shoots_56 rfl rfl ?_
    refine va_iald hx hb hK hP 1 0 rfl rfl (pin_in (by decide)) dX3_shoots_57 ?_
    refine lv_iconst (v := 1) hx hb dX3_shoots_58 (by decide) ?_
    refine lv_iadd hx hb dX3_shoots_59 ?_
    refine va_iast hx hb hK hP hD hS 1 0 rfl rfl (pin_in (by decide)) dX3_shoots_60 (fun H locs hP hD hS => ?_)
    have hP : va_P D vwCl (gMo mh mb mo ++ (gA t fsa 71 (upd (upd (upd v42.1 (Int32.toNatClampNeg v42.2.2.2.2.2.2) v42.2.2.2.2.2.1) (Int32.toNatClampNeg (14 + v42.2.2.2.2.1)) (((upd v42.1 (Int32.toNatClampNeg v42.2.2.2.2.2.2) v42.2.2.2.2.2.1) (Int32.toNatClampNeg (14 + v42.2.2.2.2.1))) + 1)) (Int32.toNatClampNeg 20) (((upd (upd v42.1 (Int32.toNatClampNeg v42.2.2.2.2.2.2) v42.2.2.2.2.2.1) (Int32.toNatClampNeg (14 + v42.2.2.2.2.1)) (((upd v42.1 (Int32.toNatClampNeg v42.2.2.2.2.2.2) v42.2.2.2.2.2.1) (Int32.toNatClampNeg (14 + v42.2.2.2.2.1))) + 1)) (Int32.toNatClampNeg 20)) + 1)) ++ (gA t (mb 5) 24 v42.2.1 ++ (gA t (mb 6) 24 v42.2.2.1 ++ (gA t (mb 7) 24 v42.2.2.2.1))))) H := hP
    have hD : va_D A (gMo mh mb mo ++ (gA t fsa 71 (upd (upd (upd v42.1 (Int32.toNatClampNeg v42.2.2.2.2.2.2) v42.2.2.2.2.2.1) (Int32.toNatClampNeg (14 + v42.2.2.2.2.1)) (((upd v42.1 (Int32.toNatClampNeg v42.2.2.2.2.2.2) v42.2.2.2.2.2.1) (Int32.toNatClampNeg (14 + v42.2.2.2.2.1))) + 1)) (Int32.toNatClampNeg 20) (((upd (upd v42.1 (Int32.toNatClampNeg v42.2.2.2.2.2.2) v42.2.2.2.2.2.1) (Int32.toNatClampNeg (14 + v42.2.2.2.2.1)) (((upd v42.1 (Int32.toNatClampNeg v42.2.2.2.2.2.2) v42.2.2.2.2.2.1) (Int32.toNatClampNeg (14 + v42.2.2.2.2.1))) + 1)) (Int32.toNatClampNeg 20)) + 1)) ++ (gA t (mb 5) 24 v42.2.1 ++ (gA t (mb 6) 24 v42.2.2.1 ++ (gA t (mb 7) 24 v42.2.2.2.1))))) := hD
    refine lv_iconst (v := 0) hx hb dX3_shoots_61 (by decide) ?_
    refine lv_istore (lv' := [(4, .int 0), (1, .ref fsa), (2, .int v42.2.2.2.2.1)]) hx hb dX3_shoots_62 hl (by decide) rfl (fun ls hl => ?_)
    exact J64 2000 ((upd (upd (upd v42.1 (Int32.toNatClampNeg v42.2.2.2.2.2.2) v42.2.2.2.2.2.1) (Int32.toNatClampNeg (14 + v42.2.2.2.2.1)) (((upd v42.1 (Int32.toNatClampNeg v42.2.2.2.2.2.2) v42.2.2.2.2.2.1) (Int32.toNatClampNeg (14 + v42.2.2.2.2.1))) + 1)) (Int32.toNatClampNeg 20) (((upd (upd v42.1 (Int32.toNatClampNeg v42.2.2.2.2.2.2) v42.2.2.2.2.2.1) (Int32.toNatClampNeg (14 + v42.2.2.2.2.1)) (((upd v42.1 (Int32.toNatClampNeg v42.2.2.2.2.2.2) v42.2.2.2.2.2.1) (Int32.toNatClampNeg (14 + v42.2.2.2.2.1))) + 1)) (Int32.toNatClampNeg 20)) + 1)), v42.2.1, v42.2.2.1, v42.2.2.2.1, 0) h _ _ hP hD hS _ (lv_sub hl [1, 0] rfl)
  refine lv_aload_n hx hb dX3_shoots_0 rfl (lv_at hl 0 rfl) ?_
  refine lv_aload_n hx hb dX3_shoots_1 rfl (lv_at hl 1 rfl) ?_
  refine lv_iload_n hx hb dX3_shoots_2 rfl (lv_at hl 2 rfl) ?_
  obtain ⟨r1, h1, h⟩ := ob h
  refine call_v (wc := (gMo mh mb mo ++ (gA t fsa 71 fs ++ (gA t (mb 5) 24 le ++ (gA t (mb 6) 24 co ++ (gA t (mb 7) 24 li)))))) (wc' := (gMo mh mb mo ++ (gA t fsa 71 fs ++ (gA t (mb 5) 24 r1.1 ++ (gA t (mb 6) 24 r1.2.1 ++ (gA t (mb 7) 24 r1.2.2)))))) (ws' := (gMo mh mb mo ++ (gA t fsa 71 fs ++ (gA t (mb 5) 24 r1.1 ++ (gA t (mb 6) 24 r1.2.1 ++ (gA t (mb 7) 24 r1.2.2)))))) (cutB (bs := [gMo mh mb mo, gA t fsa 71 fs, gA t (mb 5) 24 le, gA t (mb 6) 24 co, gA t (mb 7) 24 li]) (cs := [gMo mh mb mo, gA t fsa 71 fs, gA t (mb 5) 24 le, gA t (mb 6) 24 co, gA t (mb 7) 24 li]) (cs' := [gMo mh mb mo, gA t fsa 71 fs, gA t (mb 5) 24 r1.1, gA t (mb 6) 24 r1.2.1, gA t (mb 7) 24 r1.2.2]) (bs' := [gMo mh mb mo, gA t fsa 71 fs, gA t (mb 5) 24 r1.1, gA t (mb 6) 24 r1.2.1, gA t (mb 7) 24 r1.2.2]) [0, 1, 2, 3, 4] hP hD hS hA rfl rfl rfl rfl) hS (fun hPc hDc => va_runV (As := [.ref fsa, .int v]) (rest := []) ⟨hx, hb, hml, hown, hts⟩ (mtX3_lays l D t mh mb mo fsa fs le co li v r1 h1 _) (cwV 2 hts (gBV kw295 kw296 kw297 kw5 kw298) rfl rfl rfl (by decide +kernel) ⟨Nat.le_of_ble_eq_true rfl, Nat.le_of_ble_eq_true rfl⟩) (sPc_V hPc hK hDc hE (va_recv hK hP (ci := 3) (q0 := 0) rfl rfl)) rfl rfl hl.1 rfl (lv_room (Nat.le_of_ble_eq_true rfl)) dX3_shoots_3 ⟨Nat.zero_le _, Nat.zero_le _⟩) (fun H locs hP hD hS => ?_)
  refine lv_aload_n hx hb dX3_shoots_6 rfl (lv_at hl 0 rfl) ?_
  refine lv_iload_n hx hb dX3_shoots_7 rfl (lv_at hl 2 rfl) ?_
  refine lv_iconst (v := 4) hx hb dX3_shoots_8 (by decide) ?_
  obtain ⟨r2, h2, h⟩ := ob h
  refine call_i (v := r2) (wc := (gMo mh mb mo ++ (gA t (mb 7) 24 r1.2.2))) (wc' := (gMo mh mb mo ++ (gA t (mb 7) 24 r1.2.2))) (ws' := (gMo mh mb mo ++ (gA t fsa 71 fs ++ (gA t (mb 5) 24 r1.1 ++ (gA t (mb 6) 24 r1.2.1 ++ (gA t (mb 7) 24 r1.2.2)))))) (cutB (bs := [gMo mh mb mo, gA t fsa 71 fs, gA t (mb 5) 24 r1.1, gA t (mb 6) 24 r1.2.1, gA t (mb 7) 24 r1.2.2]) (cs := [gMo mh mb mo, gA t (mb 7) 24 r1.2.2]) (cs' := [gMo mh mb mo, gA t (mb 7) 24 r1.2.2]) (bs' := [gMo mh mb mo, gA t fsa 71 fs, gA t (mb 5) 24 r1.1, gA t (mb 6) 24 r1.2.1, gA t (mb 7) 24 r1.2.2]) [0, 4] hP hD hS hA rfl rfl rfl rfl) hS (fun hPc hDc => va_runV (As := [.int v, .int 4]) (rest := []) ⟨hx, hb, hml, hown, hts⟩ (mtX3_tells l D t mh mb mo r1.2.2 v 4 r2 h2 _) (cwV 2 hts (gBV kw311 kw312 kw313 kw5 kw314) rfl rfl rfl (by decide +kernel) ⟨Nat.le_of_ble_eq_true rfl, Nat.le_of_ble_eq_true rfl⟩) (sPc_V hPc hK hDc hE (va_recv hK hP (ci := 3) (q0 := 0) rfl rfl)) rfl rfl hl.1 rfl (lv_room (Nat.le_of_ble_eq_true rfl)) dX3_shoots_9 ⟨Nat.zero_le _, Nat.zero_le _⟩) (fun H locs hP hD hS => ?_)
  refine lv_istore_n (lv' := [(3, .int r2), (0, .ref mh), (1, .ref fsa), (2, .int v)]) hx hb dX3_shoots_12 rfl hl (by decide) rfl (fun ls hl => ?_)
  refine lv_aload_n hx hb dX3_shoots_13 rfl (lv_at hl 2 rfl) ?_
  refine lv_bipush (v := 21) hx hb dX3_shoots_14 (by decide) ?_
  refine lv_aload_n hx hb dX3_shoots_16 rfl (lv_at hl 1 rfl) ?_
  refine lv_iload_n hx hb dX3_shoots_17 rfl (lv_at hl 3 rfl) ?_
  refine lv_iconst (v := 3) hx hb dX3_shoots_18 (by decide) ?_
  obtain ⟨r3, h3, h⟩ := ob h
  refine call_i (v := r3) (wc := (gMo mh mb mo ++ (gA t (mb 7) 24 r1.2.2))) (wc' := (gMo mh mb mo ++ (gA t (mb 7) 24 r1.2.2))) (ws' := (gMo mh mb mo ++ (gA t fsa 71 fs ++ (gA t (mb 5) 24 r1.1 ++ (gA t (mb 6) 24 r1.2.1 ++ (gA t (mb 7) 24 r1.2.2)))))) (cutB (bs := [gMo mh mb mo, gA t fsa 71 fs, gA t (mb 5) 24 r1.1, gA t (mb 6) 24 r1.2.1, gA t (mb 7) 24 r1.2.2]) (cs := [gMo mh mb mo, gA t (mb 7) 24 r1.2.2]) (cs' := [gMo mh mb mo, gA t (mb 7) 24 r1.2.2]) (bs' := [gMo mh mb mo, gA t fsa 71 fs, gA t (mb 5) 24 r1.1, gA t (mb 6) 24 r1.2.1, gA t (mb 7) 24 r1.2.2]) [0, 4] hP hD hS hA rfl rfl rfl rfl) hS (fun hPc hDc => va_runV (As := [.int v, .int 3]) (rest := [.int 21, .ref fsa]) ⟨hx, hb, hml, hown, hts⟩ (mtX3_tells l D t mh mb mo r1.2.2 v 3 r3 h3 _) (cwV 2 hts (gBV kw311 kw312 kw313 kw5 kw314) rfl rfl rfl (by decide +kernel) ⟨Nat.le_of_ble_eq_true rfl, Nat.le_of_ble_eq_true rfl⟩) (sPc_V hPc hK hDc hE (va_recv hK hP (ci := 3) (q0 := 0) rfl rfl)) rfl rfl hl.1 rfl (lv_room (Nat.le_of_ble_eq_true rfl)) dX3_shoots_19 ⟨Nat.zero_le _, Nat.zero_le _⟩) (fun H locs hP hD hS => ?_)
  refine va_iast hx hb hK hP hD hS 1 0 rfl rfl (pin_in (by decide)) dX3_shoots_22 (fun H locs hP hD hS => ?_)
  have hP : va_P D vwCl (gMo mh mb mo ++ (gA t fsa 71 (upd fs (Int32.toNatClampNeg 21) r3) ++ (gA t (mb 5) 24 r1.1 ++ (gA t (mb 6) 24 r1.2.1 ++ (gA t (mb 7) 24 r1.2.2))))) H := hP
  have hD : va_D A (gMo mh mb mo ++ (gA t fsa 71 (upd fs (Int32.toNatClampNeg 21) r3) ++ (gA t (mb 5) 24 r1.1 ++ (gA t (mb 6) 24 r1.2.1 ++ (gA t (mb 7) 24 r1.2.2))))) := hD
  refine lv_aload_n hx hb dX3_shoots_23 rfl (lv_at hl 2 rfl) ?_
  refine lv_bipush (v := 22) hx hb dX3_shoots_24 (by decide) ?_
  refine lv_iload_n hx hb dX3_shoots_26 rfl (lv_at hl 0 rfl) ?_
  refine lv_aload_n hx hb dX3_shoots_27 rfl (lv_at hl 2 rfl) ?_
  refine lv_bipush (v := 22) hx hb dX3_shoots_28 (by decide) ?_
  refine va_iald hx hb hK hP 1 0 rfl rfl (pin_in (by decide)) dX3_shoots_30 ?_
  refine lv_icmp_le (tgt := 38) hx hb dX3_shoots_31 (by decide) (fun c4 => ?_) (fun c4 => ?_)
  · have h := it_p c4 h
    refine lv_aload_n hx hb dX3_shoots_38 rfl (lv_at hl 2 rfl) ?_
    refine lv_bipush (v := 22) hx hb dX3_shoots_39 (by decide) ?_
    refine va_iald hx hb hK hP 1 0 rfl rfl (pin_in (by decide)) dX3_shoots_41 ?_
    exact J42 ((upd fs (Int32.toNatClampNeg 21) r3), r1.1, r1.2.1, r1.2.2, v, (upd fs (Int32.toNatClampNeg 21) r3) (Int32.toNatClampNeg 22), 22) h _ _ hP hD hS _ (lv_sub hl [2, 3] rfl)
  · have h := it_n c4 h
    refine lv_iload_n hx hb dX3_shoots_34 rfl (lv_at hl 0 rfl) ?_
    refine lv_goto (tgt := 42) hx hb dX3_shoots_35 (by decide) ?_
    exact J42 ((upd fs (Int32.toNatClampNeg 21) r3), r1.1, r1.2.1, r1.2.2, v, r2, 22) h _ _ hP hD hS _ (lv_sub hl [2, 3] rfl)

theorem dX3_shots_0 : decode cX3_shots 0 = .ok (.iconst 0, 1) := by decide +kernel
theorem dX3_shots_1 : decode cX3_shots 1 = .ok (.istore 4, 2) := by decide +kernel
theorem dX3_shots_3 : decode cX3_shots 3 = .ok (.iload 4, 2) := by decide +kernel
theorem dX3_shots_5 : decode cX3_shots 5 = .ok (.iload_n 3, 1) := by decide +kernel
theorem dX3_shots_6 : decode cX3_shots 6 = .ok (.if_icmp .ge 15, 3) := by decide +kernel
theorem dX3_shots_9 : decode cX3_shots 9 = .ok (.aload_n 0, 1) := by decide +kernel
theorem dX3_shots_10 : decode cX3_shots 10 = .ok (.aload_n 1, 1) := by decide +kernel
theorem dX3_shots_11 : decode cX3_shots 11 = .ok (.iload_n 2, 1) := by decide +kernel
theorem dX3_shots_12 : decode cX3_shots 12 = .ok (.invokevirtual 99, 3) := by decide +kernel
theorem dX3_shots_15 : decode cX3_shots 15 = .ok (.iinc 4 1, 3) := by decide +kernel
theorem dX3_shots_18 : decode cX3_shots 18 = .ok (.goto (-15), 3) := by decide +kernel
theorem dX3_shots_21 : decode cX3_shots 21 = .ok (.return_, 1) := by decide +kernel
abbrev zX3_shots : List Cond := .code yX3_shots cX3_shots 5 none :: BIG
def fX3_shots_l3 (mo : MoT)  (K3 : ((Nat → Int32) × (Nat → Int32) × (Nat → Int32) × (Nat → Int32) × Int32 × Int32 × Int32) → Option ((Nat → Int32) × (Nat → Int32) × (Nat → Int32) × (Nat → Int32))) (v3 : (Nat → Int32) × (Nat → Int32) × (Nat → Int32) × (Nat → Int32) × Int32 × Int32 × Int32) : Option ((Nat → Int32) × (Nat → Int32) × (Nat → Int32) × (Nat → Int32)) := (if v3.2.2.2.2.2.1 ≤ v3.2.2.2.2.2.2 then some (v3.1, v3.2.1, v3.2.2.1, v3.2.2.2.1) else (fX3_shoots mo v3.1 v3.2.1 v3.2.2.1 v3.2.2.2.1 v3.2.2.2.2.1).bind (fun r2 => K3 (r2.1, r2.2.1, r2.2.2.1, r2.2.2.2, v3.2.2.2.2.1, v3.2.2.2.2.2.1, v3.2.2.2.2.2.2 + 1)))
def fX3_shots (mo : MoT) (fs : (Nat → Int32)) (le : (Nat → Int32)) (co : (Nat → Int32)) (li : (Nat → Int32)) (v : Int32) (n : Int32) : Option ((Nat → Int32) × (Nat → Int32) × (Nat → Int32) × (Nat → Int32)) := lp (fX3_shots_l3 mo) 2000 (fs, le, co, li, v, n, 0)
set_option maxHeartbeats 4000000 in
set_option maxRecDepth 100000 in
theorem mtX3_shots (l : Launch) (D : va_G) (t : Nat → ClassId) (mh : Nat) (mb : Nat → Nat) (mo : MoT) (fsa : Nat) (fs : (Nat → Int32)) (le : (Nat → Int32)) (co : (Nat → Int32)) (li : (Nat → Int32)) (v : Int32) (n : Int32) (out : (Nat → Int32) × (Nat → Int32) × (Nat → Int32) × (Nat → Int32)) (h : fX3_shots mo fs le co li v n = some out)  (sz : Nat) : Met l yX3_shots zX3_shots ({ frames := 4, cells := 0, slots := 0, locals := 92 }) (sPc D t (gMo mh mb mo ++ (gA t fsa 71 fs ++ (gA t (mb 5) 24 le ++ (gA t (mb 6) 24 co ++ (gA t (mb 7) 24 li))))) sz [.ref mh, .ref fsa, .int v, .int n]) (qV D t (gMo mh mb mo ++ (gA t fsa 71 out.1 ++ (gA t (mb 5) 24 out.2.1 ++ (gA t (mb 6) 24 out.2.2.1 ++ (gA t (mb 7) 24 out.2.2.2))))) (va_A (gMo mh mb mo ++ (gA t fsa 71 fs ++ (gA t (mb 5) 24 le ++ (gA t (mb 6) 24 co ++ (gA t (mb 7) 24 li))))) sz)) 0 0 (va_A (gMo mh mb mo ++ (gA t fsa 71 fs ++ (gA t (mb 5) 24 le ++ (gA t (mb 6) 24 co ++ (gA t (mb 7) 24 li))))) sz) := by
  refine met_of (Qf := fun A => qV D t (gMo mh mb mo ++ (gA t fsa 71 out.1 ++ (gA t (mb 5) 24 out.2.1 ++ (gA t (mb 6) 24 out.2.2.1 ++ (gA t (mb 7) 24 out.2.2.2))))) A) (cc := cX3_shots) (maxL := 5) (ret := none) (by decide) rfl (Nat.le_of_ble_eq_true rfl) ?_
  intro p e s m args below meth c A hx hb hr hml hts hown hlocks hA hP hK hD hE hS ls hl
  have htB : ∀ w ∈ BIG, w.before args s = true := fun w h => hts w (List.mem_cons_of_mem _ h)
  have hown : s.vm.findClass RX3 = some m.cls := hown
  have hl : lv_has ls 5 [(0, .ref mh), (1, .ref fsa), (2, .int v), (3, .int n)] := hl
  unfold fX3_shots at h
  have J3 : ∀ (fu3 : Nat) (v3 : (Nat → Int32) × (Nat → Int32) × (Nat → Int32) × (Nat → Int32) × Int32 × Int32 × Int32), lp (fX3_shots_l3 mo) fu3 v3 = some out → ∀ (H : Heap) (locs : List Loc), va_P D vwCl (gMo mh mb mo ++ (gA t fsa 71 v3.1 ++ (gA t (mb 5) 24 v3.2.1 ++ (gA t (mb 6) 24 v3.2.2.1 ++ (gA t (mb 7) 24 v3.2.2.2.1))))) H → va_D A (gMo mh mb mo ++ (gA t fsa 71 v3.1 ++ (gA t (mb 5) 24 v3.2.1 ++ (gA t (mb 6) 24 v3.2.2.1 ++ (gA t (mb 7) 24 v3.2.2.2.1))))) → va_S A s.heap H locs → ∀ ls : Array Slot, lv_has ls 5 [(0, .ref mh), (1, .ref fsa), (2, .int v3.2.2.2.2.1), (3, .int v3.2.2.2.2.2.1), (4, .int v3.2.2.2.2.2.2)] → W p l e ({ frames := 4, cells := 0, slots := 0, locals := 92 }) s m args below meth c H locs 0 0 (MQ below (qV D t (gMo mh mb mo ++ (gA t fsa 71 out.1 ++ (gA t (mb 5) 24 out.2.1 ++ (gA t (mb 6) 24 out.2.2.1 ++ (gA t (mb 7) 24 out.2.2.2))))) A) args s 0 0 A) (F0 m 3 ls []) := by
    intro fu3
    induction fu3 with
    | zero => intro v3 h; cases h
    | succ fu3 ih3 =>
      intro v3 h H locs hP hD hS ls hl
      have h : fX3_shots_l3 mo (lp (fX3_shots_l3 mo) fu3) v3 = some out := h
      unfold fX3_shots_l3 at h
      refine lv_iload hx hb dX3_shots_3 (lv_at hl 4 rfl) ?_
      refine lv_iload_n hx hb dX3_shots_5 rfl (lv_at hl 3 rfl) ?_
      refine lv_icmp_ge (tgt := 21) hx hb dX3_shots_6 (by decide) (fun c1 => ?_) (fun c1 => ?_)
      · have h := it_p c1 h
        obtain rfl := os h
        exact ret_v hx hb hr hlocks hP hK hD hS dX3_shots_21
      · have h := it_n c1 h
        refine lv_aload_n hx hb dX3_shots_9 rfl (lv_at hl 0 rfl) ?_
        refine lv_aload_n hx hb dX3_shots_10 rfl (lv_at hl 1 rfl) ?_
        refine lv_iload_n hx hb dX3_shots_11 rfl (lv_at hl 2 rfl) ?_
        obtain ⟨r2, h2, h⟩ := ob h
        refine call_v (wc := (gMo mh mb mo ++ (gA t fsa 71 v3.1 ++ (gA t (mb 5) 24 v3.2.1 ++ (gA t (mb 6) 24 v3.2.2.1 ++ (gA t (mb 7) 24 v3.2.2.2.1)))))) (wc' := (gMo mh mb mo ++ (gA t fsa 71 r2.1 ++ (gA t (mb 5) 24 r2.2.1 ++ (gA t (mb 6) 24 r2.2.2.1 ++ (gA t (mb 7) 24 r2.2.2.2)))))) (ws' := (gMo mh mb mo ++ (gA t fsa 71 r2.1 ++ (gA t (mb 5) 24 r2.2.1 ++ (gA t (mb 6) 24 r2.2.2.1 ++ (gA t (mb 7) 24 r2.2.2.2)))))) (cutB (bs := [gMo mh mb mo, gA t fsa 71 v3.1, gA t (mb 5) 24 v3.2.1, gA t (mb 6) 24 v3.2.2.1, gA t (mb 7) 24 v3.2.2.2.1]) (cs := [gMo mh mb mo, gA t fsa 71 v3.1, gA t (mb 5) 24 v3.2.1, gA t (mb 6) 24 v3.2.2.1, gA t (mb 7) 24 v3.2.2.2.1]) (cs' := [gMo mh mb mo, gA t fsa 71 r2.1, gA t (mb 5) 24 r2.2.1, gA t (mb 6) 24 r2.2.2.1, gA t (mb 7) 24 r2.2.2.2]) (bs' := [gMo mh mb mo, gA t fsa 71 r2.1, gA t (mb 5) 24 r2.2.1, gA t (mb 6) 24 r2.2.2.1, gA t (mb 7) 24 r2.2.2.2]) [0, 1, 2, 3, 4] hP hD hS hA rfl rfl rfl rfl) hS (fun hPc hDc => va_runV (As := [.ref fsa, .int v3.2.2.2.2.1]) (rest := []) ⟨hx, hb, hml, hown, hts⟩ (mtX3_shoots l D t mh mb mo fsa v3.1 v3.2.1 v3.2.2.1 v3.2.2.2.1 v3.2.2.2.2.1 r2 h2 _) (cwV 2 hts (gBV kw291 kw292 kw293 kw5 kw294) rfl rfl rfl (by decide +kernel) ⟨Nat.le_of_ble_eq_true rfl, Nat.le_of_ble_eq_true rfl⟩) (sPc_V hPc hK hDc hE (va_recv hK hP (ci := 3) (q0 := 0) rfl rfl)) rfl rfl hl.1 rfl (lv_room (Nat.le_of_ble_eq_true rfl)) dX3_shots_12 ⟨Nat.zero_le _, Nat.zero_le _⟩) (fun H locs hP hD hS => ?_)
        refine lv_iinc (v := v3.2.2.2.2.2.2 + 1) (lv' := [(4, .int (v3.2.2.2.2.2.2 + 1)), (0, .ref mh), (1, .ref fsa), (2, .int v3.2.2.2.2.1), (3, .int v3.2.2.2.2.2.1)]) hx hb dX3_shots_15 hl (k := 4) rfl rfl (by decide) rfl (fun ls hl => ?_)
        refine lv_goto (tgt := 3) hx hb dX3_shots_18 (by decide) ?_
        exact ih3 (r2.1, r2.2.1, r2.2.2.1, r2.2.2.2, v3.2.2.2.2.1, v3.2.2.2.2.2.1, v3.2.2.2.2.2.2 + 1) h _ _ hP hD hS _ (lv_sub hl [1, 2, 3, 4, 0] rfl)
  refine lv_iconst (v := 0) hx hb dX3_shots_0 (by decide) ?_
  refine lv_istore (lv' := [(4, .int 0), (0, .ref mh), (1, .ref fsa), (2, .int v), (3, .int n)]) hx hb dX3_shots_1 hl (by decide) rfl (fun ls hl => ?_)
  exact J3 2000 (fs, le, co, li, v, n, 0) h _ _ hP hD hS _ (lv_sub hl [1, 2, 3, 4, 0] rfl)

theorem dX3_changes_0 : decode cX3_changes 0 = .ok (.aload_n 0, 1) := by decide +kernel
theorem dX3_changes_1 : decode cX3_changes 1 = .ok (.getfield 7, 3) := by decide +kernel
theorem dX3_changes_4 : decode cX3_changes 4 = .ok (.iload_n 1, 1) := by decide +kernel
theorem dX3_changes_5 : decode cX3_changes 5 = .ok (.iaload, 1) := by decide +kernel
theorem dX3_changes_6 : decode cX3_changes 6 = .ok (.istore_n 3, 1) := by decide +kernel
theorem dX3_changes_7 : decode cX3_changes 7 = .ok (.aload_n 0, 1) := by decide +kernel
theorem dX3_changes_8 : decode cX3_changes 8 = .ok (.getfield 7, 3) := by decide +kernel
theorem dX3_changes_11 : decode cX3_changes 11 = .ok (.iload_n 1, 1) := by decide +kernel
theorem dX3_changes_12 : decode cX3_changes 12 = .ok (.iload_n 2, 1) := by decide +kernel
theorem dX3_changes_13 : decode cX3_changes 13 = .ok (.iastore, 1) := by decide +kernel
theorem dX3_changes_14 : decode cX3_changes 14 = .ok (.iload_n 3, 1) := by decide +kernel
theorem dX3_changes_15 : decode cX3_changes 15 = .ok (.ireturn, 1) := by decide +kernel
abbrev zX3_changes : List Cond := .code yX3_changes cX3_changes 4 (some .int) :: BIG
def fX3_changes (mo : MoT) (fn : (Nat → Int32)) (k : Int32) (v : Int32) : Option (Int32 × (Nat → Int32)) := gd (pin k 71) (some (fn (Int32.toNatClampNeg k), (upd fn (Int32.toNatClampNeg k) v)))
set_option maxHeartbeats 4000000 in
set_option maxRecDepth 100000 in
theorem mtX3_changes (l : Launch) (D : va_G) (t : Nat → ClassId) (mh : Nat) (mb : Nat → Nat) (mo : MoT) (fn : (Nat → Int32)) (k : Int32) (v : Int32) (out : Int32 × (Nat → Int32)) (h : fX3_changes mo fn k v = some out)  (sz : Nat) : Met l yX3_changes zX3_changes ({ frames := 0, cells := 0, slots := 0, locals := 0 }) (sPc D t (gMo mh mb mo ++ (gA t (mb 0) 71 fn)) sz [.ref mh, .int k, .int v]) (qI D t (gMo mh mb mo ++ (gA t (mb 0) 71 out.2)) out.1 (va_A (gMo mh mb mo ++ (gA t (mb 0) 71 fn)) sz)) 0 0 (va_A (gMo mh mb mo ++ (gA t (mb 0) 71 fn)) sz) := by
  refine met_of (Qf := fun A => qI D t (gMo mh mb mo ++ (gA t (mb 0) 71 out.2)) out.1 A) (cc := cX3_changes) (maxL := 4) (ret := some .int) (by decide) rfl (Nat.le_of_ble_eq_true rfl) ?_
  intro p e s m args below meth c A hx hb hr hml hts hown hlocks hA hP hK hD hE hS ls hl
  have htB : ∀ w ∈ BIG, w.before args s = true := fun w h => hts w (List.mem_cons_of_mem _ h)
  have hown : s.vm.findClass RX3 = some m.cls := hown
  have hl : lv_has ls 4 [(0, .ref mh), (1, .int k), (2, .int v)] := hl
  unfold fX3_changes at h
  refine lv_aload_n hx hb dX3_changes_0 rfl (lv_at hl 0 rfl) ?_
  refine va_get (D := D) (ci := 3) (v := .ref (mb 0)) (C := RX3) (T := TX3) (N := 14) hx hb htB inlX3 hown hK hP 0 rfl rfl 0 (by decide) (htB _ kw54) (fun _ h9 => h9) rfl dX3_changes_1 ?_
  refine lv_iload_n hx hb dX3_changes_4 rfl (lv_at hl 1 rfl) ?_
  obtain ⟨g1, h⟩ := og h
  refine va_iald hx hb hK hP 1 0 rfl rfl (pin_in g1) dX3_changes_5 ?_
  refine lv_istore_n (lv' := [(3, .int (fn (Int32.toNatClampNeg k))), (0, .ref mh), (1, .int k), (2, .int v)]) hx hb dX3_changes_6 rfl hl (by decide) rfl (fun ls hl => ?_)
  refine lv_aload_n hx hb dX3_changes_7 rfl (lv_at hl 1 rfl) ?_
  refine va_get (D := D) (ci := 3) (v := .ref (mb 0)) (C := RX3) (T := TX3) (N := 14) hx hb htB inlX3 hown hK hP 0 rfl rfl 0 (by decide) (htB _ kw54) (fun _ h9 => h9) rfl dX3_changes_8 ?_
  refine lv_iload_n hx hb dX3_changes_11 rfl (lv_at hl 2 rfl) ?_
  refine lv_iload_n hx hb dX3_changes_12 rfl (lv_at hl 3 rfl) ?_
  refine va_iast hx hb hK hP hD hS 1 0 rfl rfl (pin_in g1) dX3_changes_13 (fun H locs hP hD hS => ?_)
  have hP : va_P D vwCl (gMo mh mb mo ++ (gA t (mb 0) 71 (upd fn (Int32.toNatClampNeg k) v))) H := hP
  have hD : va_D A (gMo mh mb mo ++ (gA t (mb 0) 71 (upd fn (Int32.toNatClampNeg k) v))) := hD
  refine lv_iload_n hx hb dX3_changes_14 rfl (lv_at hl 0 rfl) ?_
  obtain rfl := os h
  exact ret_i hx hb hr hlocks hP hK hD hS dX3_changes_15
