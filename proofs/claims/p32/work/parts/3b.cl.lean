-- X1_middleOf
theorem i1_middleOf_X1 : ∀ w ∈ wsX10, w ∈ wsX1_middleOf := fun w h => List.mem_cons_of_mem _ (inG_X1 w h)
theorem k1_middleOf_21 : Cond.fieldLink RX1 21 "PaperBodies$Box" "middles" "[I" ∈ wsX1_middleOf := (List.mem_cons_of_mem _ mw_46)
theorem k1_middleOf_34 : Cond.initialized yX8_within.cls ∈ wsX1_middleOf ∧ Cond.static yX8_within ∈ wsX1_middleOf := ⟨(List.mem_cons_of_mem _ mw_13), (List.mem_cons_of_mem _ mw_14)⟩
def w1_middleOf_b32 (t0 : Int32) (S : MS) (Q : Int32 → Prop) : Prop :=
  Q t0
set_option maxHeartbeats 4000000 in
set_option maxRecDepth 100000 in
theorem b1_middleOf_b32 {p : Program} {l : Launch} {e : Env} {s : State} {m : MethodId} {args : Array Value} {below : List Frame} {meth : Method} {c : Code} {D : va_G} {cy : Nat → ClassId} {A : Nat → Prop} {o : Nat} {q : Nat → Nat} (t0 : Int32) (S : MS) {Q : Int32 → Prop} (C : Cx p s m args meth c cX1_middleOf 3 (some .int) wsX1_middleOf RX1 D cy nestWs A) (h : w1_middleOf_b32 t0 S Q) {H : Heap} {locs : List Loc} (hG : GW D A s (w1 o q cy S) H locs) {ls : Array Slot} (hl : lv_has ls 3 [(0, .ref o)]) : W p l e ({ frames := 1, cells := 0, slots := 0, locals := 22 } : Room) s m args below meth c H locs 0 0 (MQ below (va_Qi (fun r z => z = S ∧ Q r ) (B1 D (w1 o q cy) A) A) args s 0 0 A) (F0 m 32 ls [.int t0]) := by
  have hx := C.1
  have hb := C.2.1
  unfold w1_middleOf_b32 at h
  exact retI (w := (w1 o q cy)) (S := S) C hG ⟨rfl, h⟩ dX1_middleOf_32
def w1_middleOf_b30 (S : MS) (Q : Int32 → Prop) : Prop :=
  w1_middleOf_b32 (-9 : Int32) S Q
set_option maxHeartbeats 4000000 in
set_option maxRecDepth 100000 in
theorem b1_middleOf_b30 {p : Program} {l : Launch} {e : Env} {s : State} {m : MethodId} {args : Array Value} {below : List Frame} {meth : Method} {c : Code} {D : va_G} {cy : Nat → ClassId} {A : Nat → Prop} {o : Nat} {q : Nat → Nat} (S : MS) {Q : Int32 → Prop} (C : Cx p s m args meth c cX1_middleOf 3 (some .int) wsX1_middleOf RX1 D cy nestWs A) (h : w1_middleOf_b30 S Q) {H : Heap} {locs : List Loc} (hG : GW D A s (w1 o q cy S) H locs) {ls : Array Slot} (hl : lv_has ls 3 [(0, .ref o)]) : W p l e ({ frames := 1, cells := 0, slots := 0, locals := 22 } : Room) s m args below meth c H locs 0 0 (MQ below (va_Qi (fun r z => z = S ∧ Q r ) (B1 D (w1 o q cy) A) A) args s 0 0 A) (F0 m 30 ls []) := by
  have hx := C.1
  have hb := C.2.1
  unfold w1_middleOf_b30 at h
  refine lv_bipush (v := -9) hx hb dX1_middleOf_30 (by decide) ?_
  exact b1_middleOf_b32 (-9 : Int32) S C h hG hl
def w1_middleOf (x1 : Int32) (x2 : Int32) (S : MS) (Q : Int32 → Prop) : Prop :=
  w1_hasCell x1 S (fun r1 => ((r1 = 0 → w1_middleOf_b30 S Q) ∧ (¬ r1 = 0 → w8_within x2 (0 : Int32) (2 : Int32) (fun r4 => ((r4 = 0 → w1_middleOf_b30 S Q) ∧ (¬ r4 = 0 → vp_in (((3 : Int32) * x1) + x2) 72 ∧ w1_middleOf_b32 (rA S 3 (((3 : Int32) * x1) + x2)) S Q))))))
set_option maxHeartbeats 4000000 in
set_option maxRecDepth 100000 in
theorem c1_middleOf (l : Launch) (D : va_G) (cy : Nat → ClassId)  (o : Nat) (q : Nat → Nat) (x1 : Int32) (x2 : Int32) (S : MS) (Q : Int32 → Prop) (h : w1_middleOf x1 x2 S Q) : MetI l yX1_middleOf wsX1_middleOf ({ frames := 1, cells := 0, slots := 0, locals := 22 } : Room) D cy nestWs (w1 o q cy) [.ref o, .int x1, .int x2] S (fun r z => z = S ∧ Q r ) := by
  refine MetI.mk RX1 cX1_middleOf 3 .int (by decide) rfl nestWs_ok rfl (Nat.le_of_ble_eq_true rfl) ?_
  intro p e s m below meth c A ls C hG hl
  have hl : lv_has ls 3 [(0, .ref o), (1, .int x1), (2, .int x2)] := hl
  have hx := C.1
  have hb := C.2.1
  unfold w1_middleOf at h
  refine lv_aload_n hx hb dX1_middleOf_0 rfl (lv_at hl 0 rfl) ?_
  refine lv_iload_n hx hb dX1_middleOf_1 rfl (lv_at hl 1 rfl) ?_
  refine callVI (As := [.int x1]) (rest := []) C hG (c1_hasCell l D cy o q x1 S _ h) 1 gX1_middleOf_X1_hasCell rfl (by decide +kernel) ⟨⟨Nat.le_of_ble_eq_true rfl, Nat.le_of_ble_eq_true rfl⟩, rfl, rfl⟩ rfl rfl (Foc.all C.2.2.2.2.2.2.2.2.1) rfl hl.1 rfl (Nat.le_of_ble_eq_true rfl) dX1_middleOf_2 ⟨Nat.zero_le _, Nat.zero_le _⟩ (fun r1 u2 H locs h hG => ?_)
  obtain ⟨eu2, h⟩ := h
  have eu2 : u2 = S := eu2
  subst u2
  have hG : GW D A s (w1 o q cy S) H locs := hG
  refine lv_if_eq (tgt := 30) hx hb dX1_middleOf_5 (by decide) (fun c3 => ?_) (fun c3 => ?_)
  · replace h := h.1 c3
    exact b1_middleOf_b30 S C h hG (lv_sub hl [0] rfl)
  · replace h := h.2 c3
    refine lv_iload_n hx hb dX1_middleOf_8 rfl (lv_at hl 2 rfl) ?_
    refine lv_iconst (v := 0) hx hb dX1_middleOf_9 (by decide) ?_
    refine lv_iconst (v := 2) hx hb dX1_middleOf_10 (by decide) ?_
    refine callSNI (As := [.int x2, .int (0 : Int32), .int (2 : Int32)]) (rest := []) (host := "PaperBodies") C hG (c8_within l D cy x2 (0 : Int32) (2 : Int32) _ h) 3 gX1_middleOf_X8_within_n34 rfl (by decide +kernel) k1_middleOf_34.1 k1_middleOf_34.2 (by decide +kernel) ⟨⟨Nat.le_of_ble_eq_true rfl, Nat.le_of_ble_eq_true rfl⟩, rfl, rfl⟩ (Foc.none C.2.2.2.2.2.2.2.2.1) rfl hl.1 rfl (Nat.le_of_ble_eq_true rfl) dX1_middleOf_11 ⟨Nat.zero_le _, Nat.zero_le _⟩ (fun r4 z H locs h hG => ?_)
    refine lv_if_eq (tgt := 30) hx hb dX1_middleOf_14 (by decide) (fun c5 => ?_) (fun c5 => ?_)
    · replace h := h.1 c5
      exact b1_middleOf_b30 S C h hG (lv_sub hl [0] rfl)
    · replace h := h.2 c5
      refine lv_aload_n hx hb dX1_middleOf_17 rfl (lv_at hl 0 rfl) ?_
      refine gx_get C i1_middleOf_X1 hG 0 rfl rfl 3 (by decide) k1_middleOf_21 rfl dX1_middleOf_18 ?_
      refine lv_iconst (v := 3) hx hb dX1_middleOf_21 (by decide) ?_
      refine lv_iload_n hx hb dX1_middleOf_22 rfl (lv_at hl 1 rfl) ?_
      refine lv_imul hx hb dX1_middleOf_23 ?_
      refine lv_iload_n hx hb dX1_middleOf_24 rfl (lv_at hl 2 rfl) ?_
      refine lv_iadd hx hb dX1_middleOf_25 ?_
      obtain ⟨hv6, h⟩ := h
      refine gx_ald C hG 4 rfl hv6 dX1_middleOf_26 ?_
      refine lv_goto (tgt := 32) hx hb dX1_middleOf_27 (by decide) ?_
      exact b1_middleOf_b32 (rA S 3 (((3 : Int32) * x1) + x2)) S C h hG (lv_sub hl [0] rfl)
-- X8_frameOf
def w8_frameOf (x0 : Int32) (x1 : Int32) (Q : Int32 → Prop) : Prop :=
  Q (((4 : Int32) * x0) + x1)
set_option maxHeartbeats 4000000 in
set_option maxRecDepth 100000 in
theorem c8_frameOf (l : Launch) (D : va_G) (cy : Nat → ClassId)  (x0 : Int32) (x1 : Int32) (Q : Int32 → Prop) (h : w8_frameOf x0 x1 Q) : MetI l yX8_frameOf wsX8_frameOf ({ frames := 0, cells := 0, slots := 0, locals := 0 } : Room) D cy nestWs (fun _ : Unit => ([] : va_W)) [.int x0, .int x1] () (fun r _ => Q r) := by
  refine MetI.mk RX8 cX8_frameOf 2 .int (by decide) rfl nestWs_ok rfl (Nat.le_of_ble_eq_true rfl) ?_
  intro p e s m below meth c A ls C hG hl
  have hl : lv_has ls 2 [(0, .int x0), (1, .int x1)] := hl
  have hx := C.1
  have hb := C.2.1
  unfold w8_frameOf at h
  refine lv_iconst (v := 4) hx hb dX8_frameOf_0 (by decide) ?_
  refine lv_iload_n hx hb dX8_frameOf_1 rfl (lv_at hl 0 rfl) ?_
  refine lv_imul hx hb dX8_frameOf_2 ?_
  refine lv_iload_n hx hb dX8_frameOf_3 rfl (lv_at hl 1 rfl) ?_
  refine lv_iadd hx hb dX8_frameOf_4 ?_
  exact retI (w := (fun _ : Unit => ([] : va_W))) (S := ()) C hG h dX8_frameOf_5
-- X1_leadsTo
theorem i1_leadsTo_X1 : ∀ w ∈ wsX10, w ∈ wsX1_leadsTo := fun w h => List.mem_cons_of_mem _ (inG_X1 w h)
theorem k1_leadsTo_24 : Cond.fieldLink RX1 24 "PaperBodies$Box" "leads" "[I" ∈ wsX1_leadsTo := (List.mem_cons_of_mem _ mw_47)
theorem k1_leadsTo_42 : Cond.initialized yX8_frameOf.cls ∈ wsX1_leadsTo ∧ Cond.static yX8_frameOf ∈ wsX1_leadsTo := ⟨(List.mem_cons_of_mem _ mw_13), (List.mem_cons_of_mem _ mw_62)⟩
def w1_leadsTo (x1 : Int32) (x2 : Int32) (S : MS) (Q : Int32 → Prop) : Prop :=
  ∀ y1 : Int32, y1 = (x1 >>> ((2 : Int32) &&& 31)) → ∀ y2 : Int32, y2 = (x1 &&& (3 : Int32)) → w1_hasCell y1 S (fun r3 => ((¬ r3 = 0 → vp_in (((4 : Int32) * y1) + ((x2 + y2) &&& (3 : Int32))) 96 ∧ ∀ y7 : Int32, y7 = (rA S 4 (((4 : Int32) * y1) + ((x2 + y2) &&& (3 : Int32)))) → w8_frameOf (y7 >>> ((2 : Int32) &&& 31)) ((y7 + y2) &&& (3 : Int32)) (fun r8 => Q r8)) ∧ (r3 = 0 → Q (-9 : Int32))))
set_option maxHeartbeats 4000000 in
set_option maxRecDepth 100000 in
theorem c1_leadsTo (l : Launch) (D : va_G) (cy : Nat → ClassId)  (o : Nat) (q : Nat → Nat) (x1 : Int32) (x2 : Int32) (S : MS) (Q : Int32 → Prop) (h : w1_leadsTo x1 x2 S Q) : MetI l yX1_leadsTo wsX1_leadsTo ({ frames := 1, cells := 0, slots := 0, locals := 21 } : Room) D cy nestWs (w1 o q cy) [.ref o, .int x1, .int x2] S (fun r z => z = S ∧ Q r ) := by
  refine MetI.mk RX1 cX1_leadsTo 6 .int (by decide) rfl nestWs_ok rfl (Nat.le_of_ble_eq_true rfl) ?_
  intro p e s m below meth c A ls C hG hl
  have hl : lv_has ls 6 [(0, .ref o), (1, .int x1), (2, .int x2)] := hl
  have hx := C.1
  have hb := C.2.1
  unfold w1_leadsTo at h
  refine lv_iload_n hx hb dX1_leadsTo_0 rfl (lv_at hl 1 rfl) ?_
  refine lv_iconst (v := 2) hx hb dX1_leadsTo_1 (by decide) ?_
  refine lv_ishr hx hb dX1_leadsTo_2 ?_
  refine lv_topi (fun y1 ey1 => ?_)
  replace h := h y1 ey1
  refine lv_istore_n (lv' := [(3, .int y1), (0, .ref o), (1, .int x1), (2, .int x2)]) hx hb dX1_leadsTo_3 rfl hl (by decide) rfl (fun ls hl => ?_)
  refine lv_iload_n hx hb dX1_leadsTo_4 rfl (lv_at hl 2 rfl) ?_
  refine lv_iconst (v := 3) hx hb dX1_leadsTo_5 (by decide) ?_
  refine lv_iand hx hb dX1_leadsTo_6 ?_
  refine lv_topi (fun y2 ey2 => ?_)
  replace h := h y2 ey2
  refine lv_istore (lv' := [(4, .int y2), (3, .int y1), (0, .ref o), (1, .int x1), (2, .int x2)]) hx hb dX1_leadsTo_7 hl (by decide) rfl (fun ls hl => ?_)
  refine lv_aload_n hx hb dX1_leadsTo_9 rfl (lv_at hl 2 rfl) ?_
  refine lv_iload_n hx hb dX1_leadsTo_10 rfl (lv_at hl 1 rfl) ?_
  refine callVI (As := [.int y1]) (rest := []) C hG (c1_hasCell l D cy o q y1 S _ h) 1 gX1_leadsTo_X1_hasCell rfl (by decide +kernel) ⟨⟨Nat.le_of_ble_eq_true rfl, Nat.le_of_ble_eq_true rfl⟩, rfl, rfl⟩ rfl rfl (Foc.all C.2.2.2.2.2.2.2.2.1) rfl hl.1 rfl (Nat.le_of_ble_eq_true rfl) dX1_leadsTo_11 ⟨Nat.zero_le _, Nat.zero_le _⟩ (fun r3 u4 H locs h hG => ?_)
  obtain ⟨eu4, h⟩ := h
  have eu4 : u4 = S := eu4
  subst u4
  have hG : GW D A s (w1 o q cy S) H locs := hG
  refine lv_if_ne (tgt := 20) hx hb dX1_leadsTo_14 (by decide) (fun c5 => ?_) (fun c5 => ?_)
  · replace h := h.1 c5
    refine lv_aload_n hx hb dX1_leadsTo_20 rfl (lv_at hl 2 rfl) ?_
    refine gx_get C i1_leadsTo_X1 hG 0 rfl rfl 4 (by decide) k1_leadsTo_24 rfl dX1_leadsTo_21 ?_
    refine lv_iconst (v := 4) hx hb dX1_leadsTo_24 (by decide) ?_
    refine lv_iload_n hx hb dX1_leadsTo_25 rfl (lv_at hl 1 rfl) ?_
    refine lv_imul hx hb dX1_leadsTo_26 ?_
    refine lv_iload_n hx hb dX1_leadsTo_27 rfl (lv_at hl 4 rfl) ?_
    refine lv_iload hx hb dX1_leadsTo_28 (lv_at hl 0 rfl) ?_
    refine lv_iadd hx hb dX1_leadsTo_30 ?_
    refine lv_iconst (v := 3) hx hb dX1_leadsTo_31 (by decide) ?_
    refine lv_iand hx hb dX1_leadsTo_32 ?_
    refine lv_iadd hx hb dX1_leadsTo_33 ?_
    obtain ⟨hv6, h⟩ := h
    refine gx_ald C hG 5 rfl hv6 dX1_leadsTo_34 ?_
    refine lv_topi (fun y7 ey7 => ?_)
    replace h := h y7 ey7
    refine lv_istore (lv' := [(5, .int y7), (4, .int y2), (3, .int y1), (0, .ref o), (1, .int x1), (2, .int x2)]) hx hb dX1_leadsTo_35 hl (by decide) rfl (fun ls hl => ?_)
    refine lv_iload hx hb dX1_leadsTo_37 (lv_at hl 0 rfl) ?_
    refine lv_iconst (v := 2) hx hb dX1_leadsTo_39 (by decide) ?_
    refine lv_ishr hx hb dX1_leadsTo_40 ?_
    refine lv_iload hx hb dX1_leadsTo_41 (lv_at hl 0 rfl) ?_
    refine lv_iload hx hb dX1_leadsTo_43 (lv_at hl 1 rfl) ?_
    refine lv_iadd hx hb dX1_leadsTo_45 ?_
    refine lv_iconst (v := 3) hx hb dX1_leadsTo_46 (by decide) ?_
    refine lv_iand hx hb dX1_leadsTo_47 ?_
    refine callSNI (As := [.int (y7 >>> ((2 : Int32) &&& 31)), .int ((y7 + y2) &&& (3 : Int32))]) (rest := []) (host := "PaperBodies") C hG (c8_frameOf l D cy (y7 >>> ((2 : Int32) &&& 31)) ((y7 + y2) &&& (3 : Int32)) _ h) 2 gX1_leadsTo_X8_frameOf_n42 rfl (by decide +kernel) k1_leadsTo_42.1 k1_leadsTo_42.2 (by decide +kernel) ⟨⟨Nat.le_of_ble_eq_true rfl, Nat.le_of_ble_eq_true rfl⟩, rfl, rfl⟩ (Foc.none C.2.2.2.2.2.2.2.2.1) rfl hl.1 rfl (Nat.le_of_ble_eq_true rfl) dX1_leadsTo_48 ⟨Nat.zero_le _, Nat.zero_le _⟩ (fun r8 z H locs h hG => ?_)
    exact retI (w := (w1 o q cy)) (S := S) C hG ⟨rfl, h⟩ dX1_leadsTo_51
  · replace h := h.2 c5
    refine lv_bipush (v := -9) hx hb dX1_leadsTo_17 (by decide) ?_
    exact retI (w := (w1 o q cy)) (S := S) C hG ⟨rfl, h⟩ dX1_leadsTo_19
-- X1_endAt
def w1_endAt_b19 (t0 : Int32) (S : MS) (Q : Int32 → Prop) : Prop :=
  Q t0
set_option maxHeartbeats 4000000 in
set_option maxRecDepth 100000 in
theorem b1_endAt_b19 {p : Program} {l : Launch} {e : Env} {s : State} {m : MethodId} {args : Array Value} {below : List Frame} {meth : Method} {c : Code} {D : va_G} {cy : Nat → ClassId} {A : Nat → Prop} {o : Nat} {q : Nat → Nat} (t0 : Int32) (S : MS) {Q : Int32 → Prop} (C : Cx p s m args meth c cX1_endAt 2 (some .int) wsX1_endAt RX1 D cy nestWs A) (h : w1_endAt_b19 t0 S Q) {H : Heap} {locs : List Loc} (hG : GW D A s (w1 o q cy S) H locs) {ls : Array Slot} (hl : lv_has ls 2 [(0, .ref o)]) : W p l e ({ frames := 2, cells := 0, slots := 0, locals := 43 } : Room) s m args below meth c H locs 0 0 (MQ below (va_Qi (fun r z => z = S ∧ Q r ) (B1 D (w1 o q cy) A) A) args s 0 0 A) (F0 m 19 ls [.int t0]) := by
  have hx := C.1
  have hb := C.2.1
  unfold w1_endAt_b19 at h
  exact retI (w := (w1 o q cy)) (S := S) C hG ⟨rfl, h⟩ dX1_endAt_19
def w1_endAt (x1 : Int32) (S : MS) (Q : Int32 → Prop) : Prop :=
  ((¬ (x1 &&& (1 : Int32)) = 0 → w1_length (x1 >>> ((1 : Int32) &&& 31)) S (fun r2 => w1_endAt_b19 ((2 : Int32) * r2) S Q)) ∧ ((x1 &&& (1 : Int32)) = 0 → w1_endAt_b19 (0 : Int32) S Q))
set_option maxHeartbeats 4000000 in
set_option maxRecDepth 100000 in
theorem c1_endAt (l : Launch) (D : va_G) (cy : Nat → ClassId)  (o : Nat) (q : Nat → Nat) (x1 : Int32) (S : MS) (Q : Int32 → Prop) (h : w1_endAt x1 S Q) : MetI l yX1_endAt wsX1_endAt ({ frames := 2, cells := 0, slots := 0, locals := 43 } : Room) D cy nestWs (w1 o q cy) [.ref o, .int x1] S (fun r z => z = S ∧ Q r ) := by
  refine MetI.mk RX1 cX1_endAt 2 .int (by decide) rfl nestWs_ok rfl (Nat.le_of_ble_eq_true rfl) ?_
  intro p e s m below meth c A ls C hG hl
  have hl : lv_has ls 2 [(0, .ref o), (1, .int x1)] := hl
  have hx := C.1
  have hb := C.2.1
  unfold w1_endAt at h
  refine lv_iload_n hx hb dX1_endAt_0 rfl (lv_at hl 1 rfl) ?_
  refine lv_iconst (v := 1) hx hb dX1_endAt_1 (by decide) ?_
  refine lv_iand hx hb dX1_endAt_2 ?_
  refine lv_if_ne (tgt := 10) hx hb dX1_endAt_3 (by decide) (fun c1 => ?_) (fun c1 => ?_)
  · replace h := h.1 c1
    refine lv_iconst (v := 2) hx hb dX1_endAt_10 (by decide) ?_
    refine lv_aload_n hx hb dX1_endAt_11 rfl (lv_at hl 0 rfl) ?_
    refine lv_iload_n hx hb dX1_endAt_12 rfl (lv_at hl 1 rfl) ?_
    refine lv_iconst (v := 1) hx hb dX1_endAt_13 (by decide) ?_
    refine lv_ishr hx hb dX1_endAt_14 ?_
    refine callVI (As := [.int (x1 >>> ((1 : Int32) &&& 31))]) (rest := [.int (2 : Int32)]) C hG (c1_length l D cy o q (x1 >>> ((1 : Int32) &&& 31)) S _ h) 1 gX1_endAt_X1_length rfl (by decide +kernel) ⟨⟨Nat.le_of_ble_eq_true rfl, Nat.le_of_ble_eq_true rfl⟩, rfl, rfl⟩ rfl rfl (Foc.all C.2.2.2.2.2.2.2.2.1) rfl hl.1 rfl (Nat.le_of_ble_eq_true rfl) dX1_endAt_15 ⟨Nat.zero_le _, Nat.zero_le _⟩ (fun r2 u3 H locs h hG => ?_)
    obtain ⟨eu3, h⟩ := h
    have eu3 : u3 = S := eu3
    subst u3
    have hG : GW D A s (w1 o q cy S) H locs := hG
    refine lv_imul hx hb dX1_endAt_18 ?_
    exact b1_endAt_b19 ((2 : Int32) * r2) S C h hG (lv_sub hl [0] rfl)
  · replace h := h.2 c1
    refine lv_iconst (v := 0) hx hb dX1_endAt_6 (by decide) ?_
    refine lv_goto (tgt := 19) hx hb dX1_endAt_7 (by decide) ?_
    exact b1_endAt_b19 (0 : Int32) S C h hG (lv_sub hl [0] rfl)
-- X1_numberSide
theorem i1_numberSide_X1 : ∀ w ∈ wsX10, w ∈ wsX1_numberSide := fun w h => List.mem_cons_of_mem _ (inG_X1 w h)
theorem k1_numberSide_11 : Cond.fieldLink RX1 11 "PaperBodies$Box" "lengths" "[I" ∈ wsX1_numberSide := (List.mem_cons_of_mem _ mw_43)
theorem k1_numberSide_18 : Cond.fieldLink RX1 18 "PaperBodies$Box" "sides" "[I" ∈ wsX1_numberSide := (List.mem_cons_of_mem _ mw_45)
theorem k1_numberSide_21 : Cond.fieldLink RX1 21 "PaperBodies$Box" "middles" "[I" ∈ wsX1_numberSide := (List.mem_cons_of_mem _ mw_46)
theorem k1_numberSide_30 : Cond.fieldLink RX1 30 "PaperBodies$Box" "cells" "I" ∈ wsX1_numberSide := (List.mem_cons_of_mem _ mw_50)
theorem k1_numberSide_53 : Cond.fieldLink RX1 53 "PaperBodies$Box" "FIRST_LETTER" "[I" ∈ wsX1_numberSide := (List.mem_cons_of_mem _ mw_68)
theorem k1_numberSide_56 : Cond.fieldLink RX1 56 "PaperBodies$Box" "OTHER_LETTER" "[I" ∈ wsX1_numberSide := (List.mem_cons_of_mem _ mw_69)
def w1_numberSide_b137 (K19 : Int32 → MS → Prop) (x1 : Int32) (x2 : Int32) (x3 : Int32) (x4 : Int32) (S : MS) (Q : MS → Prop) : Prop :=
  ∀ y1 : Int32, y1 = x4 + 1 → K19 y1 S
set_option maxHeartbeats 4000000 in
set_option maxRecDepth 100000 in
theorem b1_numberSide_b137 {p : Program} {l : Launch} {e : Env} {s : State} {m : MethodId} {args : Array Value} {below : List Frame} {meth : Method} {c : Code} {D : va_G} {cy : Nat → ClassId} {A : Nat → Prop} {o : Nat} {q : Nat → Nat} {K19 : Int32 → MS → Prop} (x1 : Int32) (x2 : Int32) (x3 : Int32) (x4 : Int32) (S : MS) {Q : MS → Prop} (C : Cx p s m args meth c cX1_numberSide 6 (none) wsX1_numberSide RX1 D cy nestWs A) (hK19 : ∀ (x4 : Int32) (S : MS) (H : Heap) (locs : List Loc) (ls : Array Slot), K19 x4 S → GW D A s (w1 o q cy S) H locs → lv_has ls 6 [(0, .ref o), (1, .int x1), (2, .int x2), (3, .int x3), (4, .int x4)] → W p l e ({ frames := 3, cells := 0, slots := 0, locals := 64 } : Room) s m args below meth c H locs 0 0 (MQ below (va_Qv Q (B1 D (w1 o q cy) A) A) args s 0 0 A) (F0 m 19 ls [])) (h : w1_numberSide_b137 K19 x1 x2 x3 x4 S Q) {H : Heap} {locs : List Loc} (hG : GW D A s (w1 o q cy S) H locs) {ls : Array Slot} (hl : lv_has ls 6 [(0, .ref o), (1, .int x1), (2, .int x2), (3, .int x3), (4, .int x4)]) : W p l e ({ frames := 3, cells := 0, slots := 0, locals := 64 } : Room) s m args below meth c H locs 0 0 (MQ below (va_Qv Q (B1 D (w1 o q cy) A) A) args s 0 0 A) (F0 m 137 ls []) := by
  have hx := C.1
  have hb := C.2.1
  unfold w1_numberSide_b137 at h
  obtain ⟨y1, ey1⟩ : ∃ y : Int32, y = x4 + 1 := ⟨_, rfl⟩
  replace h := h y1 ey1
  refine lv_iinc (v := y1) (lv' := [(4, .int y1), (0, .ref o), (1, .int x1), (2, .int x2), (3, .int x3)]) hx hb dX1_numberSide_137 hl (k := 4) rfl (by rw [ey1]; rfl) (by decide) rfl (fun ls hl => ?_)
  refine lv_goto (tgt := 19) hx hb dX1_numberSide_140 (by decide) ?_
  exact hK19 y1 S _ _ _ h hG (lv_sub hl [1, 2, 3, 4, 0] rfl)
def w1_numberSide_d33 (K19 : Int32 → MS → Prop) (K33 : Int32 → MS → Prop) (x1 : Int32) (x2 : Int32) (x3 : Int32) (x4 : Int32) (x5 : Int32) (S : MS) (Q : MS → Prop) : Prop :=
  vp_in x3 3 ∧ (((rA S 0 x3) ≤ x5 → w1_numberSide_b137 K19 x1 x2 x3 x4 S Q) ∧ (¬ (rA S 0 x3) ≤ x5 → (((24 : Int32) ≤ (fI S 6) → w1_numberSide_b137 K19 x1 x2 x3 x4 S Q) ∧ (¬ (24 : Int32) ≤ (fI S 6) → vp_in (fI S 6) 24 ∧ ∀ S5 : MS, S5 = sA S 2 (fI S 6) x1 → w1_endAt x1 S5 (fun r6 => vp_in (((3 : Int32) * (fI S5 6)) + (x1 >>> ((1 : Int32) &&& 31))) 72 ∧ ∀ S9 : MS, S9 = sA S5 3 (((3 : Int32) * (fI S5 6)) + (x1 >>> ((1 : Int32) &&& 31))) r6 → vp_in (((3 : Int32) * (fI S9 6)) + x2) 72 ∧ ∀ S11 : MS, S11 = sA S9 3 (((3 : Int32) * (fI S9 6)) + x2) (((2 : Int32) * x4) + (1 : Int32)) → vp_in (((3 : Int32) * (fI S11 6)) + x3) 72 ∧ ∀ S13 : MS, S13 = sA S11 3 (((3 : Int32) * (fI S11 6)) + x3) (((2 : Int32) * x5) + (1 : Int32)) → ∀ S14 : MS, S14 = sI S13 6 ((fI S13 6) + (1 : Int32)) → ∀ y15 : Int32, y15 = x5 + 1 → K33 y15 S14)))))
set_option maxHeartbeats 4000000 in
set_option maxRecDepth 100000 in
theorem b1_numberSide_d33 {p : Program} {l : Launch} {e : Env} {s : State} {m : MethodId} {args : Array Value} {below : List Frame} {meth : Method} {c : Code} {D : va_G} {cy : Nat → ClassId} {A : Nat → Prop} {o : Nat} {q : Nat → Nat} {K19 : Int32 → MS → Prop} {K33 : Int32 → MS → Prop} (x1 : Int32) (x2 : Int32) (x3 : Int32) (x4 : Int32) (x5 : Int32) (S : MS) {Q : MS → Prop} (C : Cx p s m args meth c cX1_numberSide 6 (none) wsX1_numberSide RX1 D cy nestWs A) (hK19 : ∀ (x4 : Int32) (S : MS) (H : Heap) (locs : List Loc) (ls : Array Slot), K19 x4 S → GW D A s (w1 o q cy S) H locs → lv_has ls 6 [(0, .ref o), (1, .int x1), (2, .int x2), (3, .int x3), (4, .int x4)] → W p l e ({ frames := 3, cells := 0, slots := 0, locals := 64 } : Room) s m args below meth c H locs 0 0 (MQ below (va_Qv Q (B1 D (w1 o q cy) A) A) args s 0 0 A) (F0 m 19 ls [])) (hK33 : ∀ (x5 : Int32) (S : MS) (H : Heap) (locs : List Loc) (ls : Array Slot), K33 x5 S → GW D A s (w1 o q cy S) H locs → lv_has ls 6 [(0, .ref o), (1, .int x1), (2, .int x2), (3, .int x3), (4, .int x4), (5, .int x5)] → W p l e ({ frames := 3, cells := 0, slots := 0, locals := 64 } : Room) s m args below meth c H locs 0 0 (MQ below (va_Qv Q (B1 D (w1 o q cy) A) A) args s 0 0 A) (F0 m 33 ls [])) (h : w1_numberSide_d33 K19 K33 x1 x2 x3 x4 x5 S Q) {H : Heap} {locs : List Loc} (hG : GW D A s (w1 o q cy S) H locs) {ls : Array Slot} (hl : lv_has ls 6 [(0, .ref o), (1, .int x1), (2, .int x2), (3, .int x3), (4, .int x4), (5, .int x5)]) : W p l e ({ frames := 3, cells := 0, slots := 0, locals := 64 } : Room) s m args below meth c H locs 0 0 (MQ below (va_Qv Q (B1 D (w1 o q cy) A) A) args s 0 0 A) (F0 m 33 ls []) := by
  have hx := C.1
  have hb := C.2.1
  unfold w1_numberSide_d33 at h
  refine lv_iload hx hb dX1_numberSide_33 (lv_at hl 5 rfl) ?_
  refine lv_aload_n hx hb dX1_numberSide_35 rfl (lv_at hl 0 rfl) ?_
  refine gx_get C i1_numberSide_X1 hG 0 rfl rfl 0 (by decide) k1_numberSide_11 rfl dX1_numberSide_36 ?_
  refine lv_iload_n hx hb dX1_numberSide_39 rfl (lv_at hl 3 rfl) ?_
  obtain ⟨hv1, h⟩ := h
  refine gx_ald C hG 1 rfl hv1 dX1_numberSide_40 ?_
  refine lv_icmp_ge (tgt := 137) hx hb dX1_numberSide_41 (by decide) (fun c2 => ?_) (fun c2 => ?_)
  · replace h := h.1 c2
    exact b1_numberSide_b137 (K19 := K19) x1 x2 x3 x4 S C hK19 h hG (lv_sub hl [0, 1, 2, 3, 4] rfl)
  · replace h := h.2 c2
    refine lv_aload_n hx hb dX1_numberSide_44 rfl (lv_at hl 0 rfl) ?_
    refine gx_get C i1_numberSide_X1 hG 0 rfl rfl 6 (by decide) k1_numberSide_30 rfl dX1_numberSide_45 ?_
    refine lv_bipush (v := 24) hx hb dX1_numberSide_48 (by decide) ?_
    refine lv_icmp_ge (tgt := 137) hx hb dX1_numberSide_50 (by decide) (fun c3 => ?_) (fun c3 => ?_)
    · replace h := h.1 c3
      exact b1_numberSide_b137 (K19 := K19) x1 x2 x3 x4 S C hK19 h hG (lv_sub hl [0, 1, 2, 3, 4] rfl)
    · replace h := h.2 c3
      refine lv_aload_n hx hb dX1_numberSide_53 rfl (lv_at hl 0 rfl) ?_
      refine gx_get C i1_numberSide_X1 hG 0 rfl rfl 2 (by decide) k1_numberSide_18 rfl dX1_numberSide_54 ?_
      refine lv_aload_n hx hb dX1_numberSide_57 rfl (lv_at hl 0 rfl) ?_
      refine gx_get C i1_numberSide_X1 hG 0 rfl rfl 6 (by decide) k1_numberSide_30 rfl dX1_numberSide_58 ?_
      refine lv_iload_n hx hb dX1_numberSide_61 rfl (lv_at hl 1 rfl) ?_
      obtain ⟨hv4, h⟩ := h
      refine gx_ast (ws' := w1 o q cy (sA S 2 (fI S 6) x1)) C hG 3 rfl hv4 dX1_numberSide_62 rfl (fun H locs hG => ?_)
      obtain ⟨S5, eS5⟩ : ∃ z : MS, z = sA S 2 (fI S 6) x1 := ⟨_, rfl⟩
      rw [← eS5] at hG
      replace h := h S5 eS5
      refine lv_aload_n hx hb dX1_numberSide_63 rfl (lv_at hl 0 rfl) ?_
      refine gx_get C i1_numberSide_X1 hG 0 rfl rfl 3 (by decide) k1_numberSide_21 rfl dX1_numberSide_64 ?_
      refine lv_iconst (v := 3) hx hb dX1_numberSide_67 (by decide) ?_
      refine lv_aload_n hx hb dX1_numberSide_68 rfl (lv_at hl 0 rfl) ?_
      refine gx_get C i1_numberSide_X1 hG 0 rfl rfl 6 (by decide) k1_numberSide_30 rfl dX1_numberSide_69 ?_
      refine lv_imul hx hb dX1_numberSide_72 ?_
      refine lv_iload_n hx hb dX1_numberSide_73 rfl (lv_at hl 1 rfl) ?_
      refine lv_iconst (v := 1) hx hb dX1_numberSide_74 (by decide) ?_
      refine lv_ishr hx hb dX1_numberSide_75 ?_
      refine lv_iadd hx hb dX1_numberSide_76 ?_
      refine lv_aload_n hx hb dX1_numberSide_77 rfl (lv_at hl 0 rfl) ?_
      refine lv_iload_n hx hb dX1_numberSide_78 rfl (lv_at hl 1 rfl) ?_
      refine callVI (As := [.int x1]) (rest := [.int (((3 : Int32) * (fI S5 6)) + (x1 >>> ((1 : Int32) &&& 31))), .ref (q 3)]) C hG (c1_endAt l D cy o q x1 S5 _ h) 1 gX1_numberSide_X1_endAt rfl (by decide +kernel) ⟨⟨Nat.le_of_ble_eq_true rfl, Nat.le_of_ble_eq_true rfl⟩, rfl, rfl⟩ rfl rfl (Foc.all C.2.2.2.2.2.2.2.2.1) rfl hl.1 rfl (Nat.le_of_ble_eq_true rfl) dX1_numberSide_79 ⟨Nat.zero_le _, Nat.zero_le _⟩ (fun r6 u7 H locs h hG => ?_)
      obtain ⟨eu7, h⟩ := h
      have eu7 : u7 = S5 := eu7
      subst u7
      have hG : GW D A s (w1 o q cy S5) H locs := hG
      obtain ⟨hv8, h⟩ := h
      refine gx_ast (ws' := w1 o q cy (sA S5 3 (((3 : Int32) * (fI S5 6)) + (x1 >>> ((1 : Int32) &&& 31))) r6)) C hG 4 rfl hv8 dX1_numberSide_82 rfl (fun H locs hG => ?_)
      obtain ⟨S9, eS9⟩ : ∃ z : MS, z = sA S5 3 (((3 : Int32) * (fI S5 6)) + (x1 >>> ((1 : Int32) &&& 31))) r6 := ⟨_, rfl⟩
      rw [← eS9] at hG
      replace h := h S9 eS9
      refine lv_aload_n hx hb dX1_numberSide_83 rfl (lv_at hl 0 rfl) ?_
      refine gx_get C i1_numberSide_X1 hG 0 rfl rfl 3 (by decide) k1_numberSide_21 rfl dX1_numberSide_84 ?_
      refine lv_iconst (v := 3) hx hb dX1_numberSide_87 (by decide) ?_
      refine lv_aload_n hx hb dX1_numberSide_88 rfl (lv_at hl 0 rfl) ?_
      refine gx_get C i1_numberSide_X1 hG 0 rfl rfl 6 (by decide) k1_numberSide_30 rfl dX1_numberSide_89 ?_
      refine lv_imul hx hb dX1_numberSide_92 ?_
      refine lv_iload_n hx hb dX1_numberSide_93 rfl (lv_at hl 2 rfl) ?_
      refine lv_iadd hx hb dX1_numberSide_94 ?_
      refine lv_iconst (v := 2) hx hb dX1_numberSide_95 (by decide) ?_
      refine lv_iload hx hb dX1_numberSide_96 (lv_at hl 4 rfl) ?_
      refine lv_imul hx hb dX1_numberSide_98 ?_
      refine lv_iconst (v := 1) hx hb dX1_numberSide_99 (by decide) ?_
      refine lv_iadd hx hb dX1_numberSide_100 ?_
      obtain ⟨hv10, h⟩ := h
      refine gx_ast (ws' := w1 o q cy (sA S9 3 (((3 : Int32) * (fI S9 6)) + x2) (((2 : Int32) * x4) + (1 : Int32)))) C hG 4 rfl hv10 dX1_numberSide_101 rfl (fun H locs hG => ?_)
      obtain ⟨S11, eS11⟩ : ∃ z : MS, z = sA S9 3 (((3 : Int32) * (fI S9 6)) + x2) (((2 : Int32) * x4) + (1 : Int32)) := ⟨_, rfl⟩
      rw [← eS11] at hG
      replace h := h S11 eS11
      refine lv_aload_n hx hb dX1_numberSide_102 rfl (lv_at hl 0 rfl) ?_
      refine gx_get C i1_numberSide_X1 hG 0 rfl rfl 3 (by decide) k1_numberSide_21 rfl dX1_numberSide_103 ?_
      refine lv_iconst (v := 3) hx hb dX1_numberSide_106 (by decide) ?_
      refine lv_aload_n hx hb dX1_numberSide_107 rfl (lv_at hl 0 rfl) ?_
      refine gx_get C i1_numberSide_X1 hG 0 rfl rfl 6 (by decide) k1_numberSide_30 rfl dX1_numberSide_108 ?_
      refine lv_imul hx hb dX1_numberSide_111 ?_
      refine lv_iload_n hx hb dX1_numberSide_112 rfl (lv_at hl 3 rfl) ?_
      refine lv_iadd hx hb dX1_numberSide_113 ?_
      refine lv_iconst (v := 2) hx hb dX1_numberSide_114 (by decide) ?_
      refine lv_iload hx hb dX1_numberSide_115 (lv_at hl 5 rfl) ?_
      refine lv_imul hx hb dX1_numberSide_117 ?_
      refine lv_iconst (v := 1) hx hb dX1_numberSide_118 (by decide) ?_
      refine lv_iadd hx hb dX1_numberSide_119 ?_
      obtain ⟨hv12, h⟩ := h
      refine gx_ast (ws' := w1 o q cy (sA S11 3 (((3 : Int32) * (fI S11 6)) + x3) (((2 : Int32) * x5) + (1 : Int32)))) C hG 4 rfl hv12 dX1_numberSide_120 rfl (fun H locs hG => ?_)
      obtain ⟨S13, eS13⟩ : ∃ z : MS, z = sA S11 3 (((3 : Int32) * (fI S11 6)) + x3) (((2 : Int32) * x5) + (1 : Int32)) := ⟨_, rfl⟩
      rw [← eS13] at hG
      replace h := h S13 eS13
      refine lv_aload_n hx hb dX1_numberSide_121 rfl (lv_at hl 0 rfl) ?_
      refine lv_dup hx hb dX1_numberSide_122 rfl ?_
      refine gx_get C i1_numberSide_X1 hG 0 rfl rfl 6 (by decide) k1_numberSide_30 rfl dX1_numberSide_123 ?_
      refine lv_iconst (v := 1) hx hb dX1_numberSide_126 (by decide) ?_
      refine lv_iadd hx hb dX1_numberSide_127 ?_
      refine gx_put (ty := .int) (ws' := w1 o q cy (sI S13 6 ((fI S13 6) + (1 : Int32)))) C i1_numberSide_X1 tyX1 tyX1_ok nmX1 hG 0 rfl rfl 6 (by decide) k1_numberSide_30 rfl (by decide +kernel) rfl rfl (Nat.le_of_ble_eq_true rfl) dX1_numberSide_128 rfl (fun H locs hG => ?_)
      obtain ⟨S14, eS14⟩ : ∃ z : MS, z = sI S13 6 ((fI S13 6) + (1 : Int32)) := ⟨_, rfl⟩
      rw [← eS14] at hG
      replace h := h S14 eS14
      obtain ⟨y15, ey15⟩ : ∃ y : Int32, y = x5 + 1 := ⟨_, rfl⟩
      replace h := h y15 ey15
      refine lv_iinc (v := y15) (lv' := [(5, .int y15), (0, .ref o), (1, .int x1), (2, .int x2), (3, .int x3), (4, .int x4)]) hx hb dX1_numberSide_131 hl (k := 5) rfl (by rw [ey15]; rfl) (by decide) rfl (fun ls hl => ?_)
      refine lv_goto (tgt := 33) hx hb dX1_numberSide_134 (by decide) ?_
      exact hK33 y15 S14 _ _ _ h hG (lv_sub hl [1, 2, 3, 4, 5, 0] rfl)
def w1_numberSide_F33 (K19 : Int32 → MS → Prop) (x1 : Int32) (x2 : Int32) (x3 : Int32) (x4 : Int32) (Q : MS → Prop) (K : Int32 × MS → Prop) (a : Int32 × MS) : Prop := w1_numberSide_d33 K19 (fun y0 y1 => K (y0, y1)) x1 x2 x3 x4 a.1 a.2 Q
def w1_numberSide_b33 (K19 : Int32 → MS → Prop) (x1 : Int32) (x2 : Int32) (x3 : Int32) (x4 : Int32) (x5 : Int32) (S : MS) (Q : MS → Prop) : Prop := lp (w1_numberSide_F33 K19 x1 x2 x3 x4 Q) (x5, S)
set_option maxHeartbeats 4000000 in
set_option maxRecDepth 100000 in
theorem b1_numberSide_b33 {p : Program} {l : Launch} {e : Env} {s : State} {m : MethodId} {args : Array Value} {below : List Frame} {meth : Method} {c : Code} {D : va_G} {cy : Nat → ClassId} {A : Nat → Prop} {o : Nat} {q : Nat → Nat} {K19 : Int32 → MS → Prop} (x1 : Int32) (x2 : Int32) (x3 : Int32) (x4 : Int32) (x5 : Int32) (S : MS) {Q : MS → Prop} (C : Cx p s m args meth c cX1_numberSide 6 (none) wsX1_numberSide RX1 D cy nestWs A) (hK19 : ∀ (x4 : Int32) (S : MS) (H : Heap) (locs : List Loc) (ls : Array Slot), K19 x4 S → GW D A s (w1 o q cy S) H locs → lv_has ls 6 [(0, .ref o), (1, .int x1), (2, .int x2), (3, .int x3), (4, .int x4)] → W p l e ({ frames := 3, cells := 0, slots := 0, locals := 64 } : Room) s m args below meth c H locs 0 0 (MQ below (va_Qv Q (B1 D (w1 o q cy) A) A) args s 0 0 A) (F0 m 19 ls [])) (h : w1_numberSide_b33 K19 x1 x2 x3 x4 x5 S Q) {H : Heap} {locs : List Loc} (hG : GW D A s (w1 o q cy S) H locs) {ls : Array Slot} (hl : lv_has ls 6 [(0, .ref o), (1, .int x1), (2, .int x2), (3, .int x3), (4, .int x4), (5, .int x5)]) : W p l e ({ frames := 3, cells := 0, slots := 0, locals := 64 } : Room) s m args below meth c H locs 0 0 (MQ below (va_Qv Q (B1 D (w1 o q cy) A) A) args s 0 0 A) (F0 m 33 ls []) := by
  obtain ⟨k, hn⟩ := h
  induction k generalizing x5 S H locs ls with
  | zero => exact hn.elim
  | succ k ih => exact b1_numberSide_d33 (K19 := K19) (K33 := fun y0 y1 => itr (w1_numberSide_F33 K19 x1 x2 x3 x4 Q) k (y0, y1)) x1 x2 x3 x4 x5 S C hK19 (fun x5 S H locs ls hk hG hl => ih x5 S hG hl hk) hn hG hl
def w1_numberSide_d19 (K19 : Int32 → MS → Prop) (x1 : Int32) (x2 : Int32) (x3 : Int32) (x4 : Int32) (S : MS) (Q : MS → Prop) : Prop :=
  vp_in x2 3 ∧ (((rA S 0 x2) ≤ x4 → Q S) ∧ (¬ (rA S 0 x2) ≤ x4 → w1_numberSide_b33 K19 x1 x2 x3 x4 (0 : Int32) S Q))
set_option maxHeartbeats 4000000 in
set_option maxRecDepth 100000 in
theorem b1_numberSide_d19 {p : Program} {l : Launch} {e : Env} {s : State} {m : MethodId} {args : Array Value} {below : List Frame} {meth : Method} {c : Code} {D : va_G} {cy : Nat → ClassId} {A : Nat → Prop} {o : Nat} {q : Nat → Nat} {K19 : Int32 → MS → Prop} (x1 : Int32) (x2 : Int32) (x3 : Int32) (x4 : Int32) (S : MS) {Q : MS → Prop} (C : Cx p s m args meth c cX1_numberSide 6 (none) wsX1_numberSide RX1 D cy nestWs A) (hK19 : ∀ (x4 : Int32) (S : MS) (H : Heap) (locs : List Loc) (ls : Array Slot), K19 x4 S → GW D A s (w1 o q cy S) H locs → lv_has ls 6 [(0, .ref o), (1, .int x1), (2, .int x2), (3, .int x3), (4, .int x4)] → W p l e ({ frames := 3, cells := 0, slots := 0, locals := 64 } : Room) s m args below meth c H locs 0 0 (MQ below (va_Qv Q (B1 D (w1 o q cy) A) A) args s 0 0 A) (F0 m 19 ls [])) (h : w1_numberSide_d19 K19 x1 x2 x3 x4 S Q) {H : Heap} {locs : List Loc} (hG : GW D A s (w1 o q cy S) H locs) {ls : Array Slot} (hl : lv_has ls 6 [(0, .ref o), (1, .int x1), (2, .int x2), (3, .int x3), (4, .int x4)]) : W p l e ({ frames := 3, cells := 0, slots := 0, locals := 64 } : Room) s m args below meth c H locs 0 0 (MQ below (va_Qv Q (B1 D (w1 o q cy) A) A) args s 0 0 A) (F0 m 19 ls []) := by
  have hx := C.1
  have hb := C.2.1
  unfold w1_numberSide_d19 at h
  refine lv_iload hx hb dX1_numberSide_19 (lv_at hl 4 rfl) ?_
  refine lv_aload_n hx hb dX1_numberSide_21 rfl (lv_at hl 0 rfl) ?_
  refine gx_get C i1_numberSide_X1 hG 0 rfl rfl 0 (by decide) k1_numberSide_11 rfl dX1_numberSide_22 ?_
  refine lv_iload_n hx hb dX1_numberSide_25 rfl (lv_at hl 2 rfl) ?_
  obtain ⟨hv1, h⟩ := h
  refine gx_ald C hG 1 rfl hv1 dX1_numberSide_26 ?_
  refine lv_icmp_ge (tgt := 143) hx hb dX1_numberSide_27 (by decide) (fun c2 => ?_) (fun c2 => ?_)
  · replace h := h.1 c2
    exact retV (w := (w1 o q cy)) (S := S) C hG h dX1_numberSide_143
  · replace h := h.2 c2
    refine lv_iconst (v := 0) hx hb dX1_numberSide_30 (by decide) ?_
    refine lv_istore (lv' := [(5, .int (0 : Int32)), (0, .ref o), (1, .int x1), (2, .int x2), (3, .int x3), (4, .int x4)]) hx hb dX1_numberSide_31 hl (by decide) rfl (fun ls hl => ?_)
    exact b1_numberSide_b33 (K19 := K19) x1 x2 x3 x4 (0 : Int32) S C hK19 h hG (lv_sub hl [1, 2, 3, 4, 5, 0] rfl)
def w1_numberSide_F19 (x1 : Int32) (x2 : Int32) (x3 : Int32) (Q : MS → Prop) (K : Int32 × MS → Prop) (a : Int32 × MS) : Prop := w1_numberSide_d19 (fun y0 y1 => K (y0, y1)) x1 x2 x3 a.1 a.2 Q
def w1_numberSide_b19 (x1 : Int32) (x2 : Int32) (x3 : Int32) (x4 : Int32) (S : MS) (Q : MS → Prop) : Prop := lp (w1_numberSide_F19 x1 x2 x3 Q) (x4, S)
set_option maxHeartbeats 4000000 in
set_option maxRecDepth 100000 in
theorem b1_numberSide_b19 {p : Program} {l : Launch} {e : Env} {s : State} {m : MethodId} {args : Array Value} {below : List Frame} {meth : Method} {c : Code} {D : va_G} {cy : Nat → ClassId} {A : Nat → Prop} {o : Nat} {q : Nat → Nat} (x1 : Int32) (x2 : Int32) (x3 : Int32) (x4 : Int32) (S : MS) {Q : MS → Prop} (C : Cx p s m args meth c cX1_numberSide 6 (none) wsX1_numberSide RX1 D cy nestWs A) (h : w1_numberSide_b19 x1 x2 x3 x4 S Q) {H : Heap} {locs : List Loc} (hG : GW D A s (w1 o q cy S) H locs) {ls : Array Slot} (hl : lv_has ls 6 [(0, .ref o), (1, .int x1), (2, .int x2), (3, .int x3), (4, .int x4)]) : W p l e ({ frames := 3, cells := 0, slots := 0, locals := 64 } : Room) s m args below meth c H locs 0 0 (MQ below (va_Qv Q (B1 D (w1 o q cy) A) A) args s 0 0 A) (F0 m 19 ls []) := by
  obtain ⟨k, hn⟩ := h
  induction k generalizing x4 S H locs ls with
  | zero => exact hn.elim
  | succ k ih => exact b1_numberSide_d19 (K19 := fun y0 y1 => itr (w1_numberSide_F19 x1 x2 x3 Q) k (y0, y1)) x1 x2 x3 x4 S C (fun x4 S H locs ls hk hG hl => ih x4 S hG hl hk) hn hG hl
def w1_numberSide (x1 : Int32) (S : MS) (Q : MS → Prop) : Prop :=
  vp_in (x1 >>> ((1 : Int32) &&& 31)) 3 ∧ ∀ y4 : Int32, y4 = (tbF (x1 >>> ((1 : Int32) &&& 31)).toNatClampNeg) → ∀ y7 : Int32, y7 = (tbO (x1 >>> ((1 : Int32) &&& 31)).toNatClampNeg) → w1_numberSide_b19 x1 y4 y7 (0 : Int32) S Q
set_option maxHeartbeats 4000000 in
set_option maxRecDepth 100000 in
theorem c1_numberSide (l : Launch) (D : va_G) (cy : Nat → ClassId)  (o : Nat) (q : Nat → Nat) (x1 : Int32) (S : MS) (Q : MS → Prop) (h : w1_numberSide x1 S Q) : MetV l yX1_numberSide wsX1_numberSide ({ frames := 3, cells := 0, slots := 0, locals := 64 } : Room) D cy nestWs (w1 o q cy) [.ref o, .int x1] S Q := by
  refine MetV.mk RX1 cX1_numberSide 6 (by decide) rfl nestWs_ok rfl (Nat.le_of_ble_eq_true rfl) ?_
  intro p e s m below meth c A ls C hG hl
  have hl : lv_has ls 6 [(0, .ref o), (1, .int x1)] := hl
  have hx := C.1
  have hb := C.2.1
  unfold w1_numberSide at h
  refine gx_tab C hG C.2.2.2.2.2.2.2.2.2.2.2.2.2.1 k1_numberSide_53 dX1_numberSide_0 (fun tt1 ht2 => ?_)
  refine lv_iload_n hx hb dX1_numberSide_3 rfl (lv_at hl 1 rfl) ?_
  refine lv_iconst (v := 1) hx hb dX1_numberSide_4 (by decide) ?_
  refine lv_ishr hx hb dX1_numberSide_5 ?_
  obtain ⟨hv3, h⟩ := h
  refine gx_tald C hG ht2 hv3 dX1_numberSide_6 ?_
  refine lv_topi (fun y4 ey4 => ?_)
  replace h := h y4 ey4
  refine lv_istore_n (lv' := [(2, .int y4), (0, .ref o), (1, .int x1)]) hx hb dX1_numberSide_7 rfl hl (by decide) rfl (fun ls hl => ?_)
  refine gx_tab C hG C.2.2.2.2.2.2.2.2.2.2.2.2.2.2 k1_numberSide_56 dX1_numberSide_8 (fun tt5 ht6 => ?_)
  refine lv_iload_n hx hb dX1_numberSide_11 rfl (lv_at hl 2 rfl) ?_
  refine lv_iconst (v := 1) hx hb dX1_numberSide_12 (by decide) ?_
  refine lv_ishr hx hb dX1_numberSide_13 ?_
  refine gx_tald C hG ht6 hv3 dX1_numberSide_14 ?_
  refine lv_topi (fun y7 ey7 => ?_)
  replace h := h y7 ey7
  refine lv_istore_n (lv' := [(3, .int y7), (2, .int y4), (0, .ref o), (1, .int x1)]) hx hb dX1_numberSide_15 rfl hl (by decide) rfl (fun ls hl => ?_)
  refine lv_iconst (v := 0) hx hb dX1_numberSide_16 (by decide) ?_
  refine lv_istore (lv' := [(4, .int (0 : Int32)), (3, .int y7), (2, .int y4), (0, .ref o), (1, .int x1)]) hx hb dX1_numberSide_17 hl (by decide) rfl (fun ls hl => ?_)
  exact b1_numberSide_b19 x1 y4 y7 (0 : Int32) S C h hG (lv_sub hl [3, 4, 2, 1, 0] rfl)
-- X1_directionOf
theorem k1_directionOf_82 : Cond.fieldLink RX1 82 "PaperBodies$Box" "RIGHT" "[I" ∈ wsX1_directionOf := (List.mem_cons_of_mem _ mw_74)
theorem k1_directionOf_85 : Cond.fieldLink RX1 85 "PaperBodies$Box" "UP" "[I" ∈ wsX1_directionOf := (List.mem_cons_of_mem _ mw_75)
def w1_directionOf_b32 (t0 : Int32) (Q : Int32 → Prop) : Prop :=
  Q t0
set_option maxHeartbeats 4000000 in
set_option maxRecDepth 100000 in
theorem b1_directionOf_b32 {p : Program} {l : Launch} {e : Env} {s : State} {m : MethodId} {args : Array Value} {below : List Frame} {meth : Method} {c : Code} {D : va_G} {cy : Nat → ClassId} {A : Nat → Prop} (t0 : Int32) {Q : Int32 → Prop} (C : Cx p s m args meth c cX1_directionOf 3 (some .int) wsX1_directionOf RX1 D cy nestWs A) (h : w1_directionOf_b32 t0 Q) {H : Heap} {locs : List Loc} (hG : GW D A s (([] : va_W)) H locs) {ls : Array Slot} (hl : lv_has ls 3 []) : W p l e ({ frames := 0, cells := 0, slots := 0, locals := 0 } : Room) s m args below meth c H locs 0 0 (MQ below (va_Qi (fun r _ => Q r) (B1 D (fun _ : Unit => ([] : va_W)) A) A) args s 0 0 A) (F0 m 32 ls [.int t0]) := by
  have hx := C.1
  have hb := C.2.1
  unfold w1_directionOf_b32 at h
  exact retI (w := (fun _ : Unit => ([] : va_W))) (S := ()) C hG h dX1_directionOf_32
def w1_directionOf_b19 (x1 : Int32) (t0 : Int32) (Q : Int32 → Prop) : Prop :=
  (((2 : Int32) ≤ x1 → w1_directionOf_b32 (t0 ^^^ (1 : Int32)) Q) ∧ (¬ (2 : Int32) ≤ x1 → w1_directionOf_b32 t0 Q))
set_option maxHeartbeats 4000000 in
set_option maxRecDepth 100000 in
theorem b1_directionOf_b19 {p : Program} {l : Launch} {e : Env} {s : State} {m : MethodId} {args : Array Value} {below : List Frame} {meth : Method} {c : Code} {D : va_G} {cy : Nat → ClassId} {A : Nat → Prop} (x1 : Int32) (t0 : Int32) {Q : Int32 → Prop} (C : Cx p s m args meth c cX1_directionOf 3 (some .int) wsX1_directionOf RX1 D cy nestWs A) (h : w1_directionOf_b19 x1 t0 Q) {H : Heap} {locs : List Loc} (hG : GW D A s (([] : va_W)) H locs) {ls : Array Slot} (hl : lv_has ls 3 [(1, .int x1)]) : W p l e ({ frames := 0, cells := 0, slots := 0, locals := 0 } : Room) s m args below meth c H locs 0 0 (MQ below (va_Qi (fun r _ => Q r) (B1 D (fun _ : Unit => ([] : va_W)) A) A) args s 0 0 A) (F0 m 19 ls [.int t0]) := by
  have hx := C.1
  have hb := C.2.1
  unfold w1_directionOf_b19 at h
  refine lv_istore_n (lv' := [(2, .int t0), (1, .int x1)]) hx hb dX1_directionOf_19 rfl hl (by decide) rfl (fun ls hl => ?_)
  refine lv_iload_n hx hb dX1_directionOf_20 rfl (lv_at hl 1 rfl) ?_
  refine lv_iconst (v := 2) hx hb dX1_directionOf_21 (by decide) ?_
  refine lv_icmp_ge (tgt := 29) hx hb dX1_directionOf_22 (by decide) (fun c1 => ?_) (fun c1 => ?_)
  · replace h := h.1 c1
    refine lv_iload_n hx hb dX1_directionOf_29 rfl (lv_at hl 0 rfl) ?_
    refine lv_iconst (v := 1) hx hb dX1_directionOf_30 (by decide) ?_
    refine lv_ixor hx hb dX1_directionOf_31 ?_
    exact b1_directionOf_b32 (t0 ^^^ (1 : Int32)) C h hG (lv_sub hl [] rfl)
  · replace h := h.2 c1
    refine lv_iload_n hx hb dX1_directionOf_25 rfl (lv_at hl 0 rfl) ?_
    refine lv_goto (tgt := 32) hx hb dX1_directionOf_26 (by decide) ?_
    exact b1_directionOf_b32 t0 C h hG (lv_sub hl [] rfl)
def w1_directionOf (x0 : Int32) (x1 : Int32) (Q : Int32 → Prop) : Prop :=
  ((¬ (x1 &&& (1 : Int32)) = 0 → vp_in x0 6 ∧ w1_directionOf_b19 x1 (tbU x0.toNatClampNeg) Q) ∧ ((x1 &&& (1 : Int32)) = 0 → vp_in x0 6 ∧ w1_directionOf_b19 x1 (tbR x0.toNatClampNeg) Q))
set_option maxHeartbeats 4000000 in
set_option maxRecDepth 100000 in
theorem c1_directionOf (l : Launch) (D : va_G) (cy : Nat → ClassId)  (x0 : Int32) (x1 : Int32) (Q : Int32 → Prop) (h : w1_directionOf x0 x1 Q) : MetI l yX1_directionOf wsX1_directionOf ({ frames := 0, cells := 0, slots := 0, locals := 0 } : Room) D cy nestWs (fun _ : Unit => ([] : va_W)) [.int x0, .int x1] () (fun r _ => Q r) := by
  refine MetI.mk RX1 cX1_directionOf 3 .int (by decide) rfl nestWs_ok rfl (Nat.le_of_ble_eq_true rfl) ?_
  intro p e s m below meth c A ls C hG hl
  have hl : lv_has ls 3 [(0, .int x0), (1, .int x1)] := hl
  have hx := C.1
  have hb := C.2.1
  unfold w1_directionOf at h
  refine lv_iload_n hx hb dX1_directionOf_0 rfl (lv_at hl 1 rfl) ?_
  refine lv_iconst (v := 1) hx hb dX1_directionOf_1 (by decide) ?_
  refine lv_iand hx hb dX1_directionOf_2 ?_
  refine lv_if_ne (tgt := 14) hx hb dX1_directionOf_3 (by decide) (fun c1 => ?_) (fun c1 => ?_)
  · replace h := h.1 c1
    refine gx_tab C hG C.2.2.2.2.2.2.2.2.2.2.2.2.1 k1_directionOf_85 dX1_directionOf_14 (fun tt2 ht3 => ?_)
    refine lv_iload_n hx hb dX1_directionOf_17 rfl (lv_at hl 0 rfl) ?_
    obtain ⟨hv4, h⟩ := h
    refine gx_tald C hG ht3 hv4 dX1_directionOf_18 ?_
    exact b1_directionOf_b19 x1 (tbU x0.toNatClampNeg) C h hG (lv_sub hl [1] rfl)
  · replace h := h.2 c1
    refine gx_tab C hG C.2.2.2.2.2.2.2.2.2.2.2.1 k1_directionOf_82 dX1_directionOf_6 (fun tt5 ht6 => ?_)
    refine lv_iload_n hx hb dX1_directionOf_9 rfl (lv_at hl 0 rfl) ?_
    obtain ⟨hv7, h⟩ := h
    refine gx_tald C hG ht6 hv7 dX1_directionOf_10 ?_
    refine lv_goto (tgt := 19) hx hb dX1_directionOf_11 (by decide) ?_
    exact b1_directionOf_b19 x1 (tbR x0.toNatClampNeg) C h hG (lv_sub hl [1] rfl)
-- X1_signOf
def w1_signOf_b11 (t0 : Int32) (Q : Int32 → Prop) : Prop :=
  Q t0
set_option maxHeartbeats 4000000 in
set_option maxRecDepth 100000 in
theorem b1_signOf_b11 {p : Program} {l : Launch} {e : Env} {s : State} {m : MethodId} {args : Array Value} {below : List Frame} {meth : Method} {c : Code} {D : va_G} {cy : Nat → ClassId} {A : Nat → Prop} (t0 : Int32) {Q : Int32 → Prop} (C : Cx p s m args meth c cX1_signOf 1 (some .int) wsX1_signOf RX1 D cy nestWs A) (h : w1_signOf_b11 t0 Q) {H : Heap} {locs : List Loc} (hG : GW D A s (([] : va_W)) H locs) {ls : Array Slot} (hl : lv_has ls 1 []) : W p l e ({ frames := 0, cells := 0, slots := 0, locals := 0 } : Room) s m args below meth c H locs 0 0 (MQ below (va_Qi (fun r _ => Q r) (B1 D (fun _ : Unit => ([] : va_W)) A) A) args s 0 0 A) (F0 m 11 ls [.int t0]) := by
  have hx := C.1
  have hb := C.2.1
  unfold w1_signOf_b11 at h
  exact retI (w := (fun _ : Unit => ([] : va_W))) (S := ()) C hG h dX1_signOf_11
def w1_signOf (x0 : Int32) (Q : Int32 → Prop) : Prop :=
  ((¬ (x0 &&& (1 : Int32)) = 0 → w1_signOf_b11 (1 : Int32) Q) ∧ ((x0 &&& (1 : Int32)) = 0 → w1_signOf_b11 (-1 : Int32) Q))
set_option maxHeartbeats 4000000 in
set_option maxRecDepth 100000 in
theorem c1_signOf (l : Launch) (D : va_G) (cy : Nat → ClassId)  (x0 : Int32) (Q : Int32 → Prop) (h : w1_signOf x0 Q) : MetI l yX1_signOf wsX1_signOf ({ frames := 0, cells := 0, slots := 0, locals := 0 } : Room) D cy nestWs (fun _ : Unit => ([] : va_W)) [.int x0] () (fun r _ => Q r) := by
  refine MetI.mk RX1 cX1_signOf 1 .int (by decide) rfl nestWs_ok rfl (Nat.le_of_ble_eq_true rfl) ?_
  intro p e s m below meth c A ls C hG hl
  have hl : lv_has ls 1 [(0, .int x0)] := hl
  have hx := C.1
  have hb := C.2.1
  unfold w1_signOf at h
  refine lv_iload_n hx hb dX1_signOf_0 rfl (lv_at hl 0 rfl) ?_
  refine lv_iconst (v := 1) hx hb dX1_signOf_1 (by decide) ?_
  refine lv_iand hx hb dX1_signOf_2 ?_
  refine lv_if_ne (tgt := 10) hx hb dX1_signOf_3 (by decide) (fun c1 => ?_) (fun c1 => ?_)
  · replace h := h.1 c1
    refine lv_iconst (v := 1) hx hb dX1_signOf_10 (by decide) ?_
    exact b1_signOf_b11 (1 : Int32) C h hG (lv_sub hl [] rfl)
  · replace h := h.2 c1
    refine lv_iconst (v := -1) hx hb dX1_signOf_6 (by decide) ?_
    refine lv_goto (tgt := 11) hx hb dX1_signOf_7 (by decide) ?_
    exact b1_signOf_b11 (-1 : Int32) C h hG (lv_sub hl [] rfl)
-- X1_cellAtSpot
theorem i1_cellAtSpot_X1 : ∀ w ∈ wsX10, w ∈ wsX1_cellAtSpot := fun w h => List.mem_cons_of_mem _ (inG_X1 w h)
theorem k1_cellAtSpot_11 : Cond.fieldLink RX1 11 "PaperBodies$Box" "lengths" "[I" ∈ wsX1_cellAtSpot := (List.mem_cons_of_mem _ mw_43)
theorem k1_cellAtSpot_15 : Cond.fieldLink RX1 15 "PaperBodies$Box" "firstCells" "[I" ∈ wsX1_cellAtSpot := (List.mem_cons_of_mem _ mw_44)
theorem k1_cellAtSpot_27 : Cond.fieldLink RX1 27 "PaperBodies$Box" "spot" "[I" ∈ wsX1_cellAtSpot := (List.mem_cons_of_mem _ mw_48)
theorem k1_cellAtSpot_53 : Cond.fieldLink RX1 53 "PaperBodies$Box" "FIRST_LETTER" "[I" ∈ wsX1_cellAtSpot := (List.mem_cons_of_mem _ mw_68)
theorem k1_cellAtSpot_56 : Cond.fieldLink RX1 56 "PaperBodies$Box" "OTHER_LETTER" "[I" ∈ wsX1_cellAtSpot := (List.mem_cons_of_mem _ mw_69)
def w1_cellAtSpot (x1 : Int32) (S : MS) (Q : Int32 → Prop) : Prop :=
  vp_in (x1 >>> ((1 : Int32) &&& 31)) 3 ∧ ∀ y4 : Int32, y4 = (tbF (x1 >>> ((1 : Int32) &&& 31)).toNatClampNeg) → ∀ y7 : Int32, y7 = (tbO (x1 >>> ((1 : Int32) &&& 31)).toNatClampNeg) → vp_in x1 6 ∧ vp_in y4 3 ∧ vp_in y7 3 ∧ Q (((rA S 1 x1) + (((rA S 5 y4) >>> ((1 : Int32) &&& 31)) * (rA S 0 y7))) + ((rA S 5 y7) >>> ((1 : Int32) &&& 31)))
set_option maxHeartbeats 4000000 in
set_option maxRecDepth 100000 in
theorem c1_cellAtSpot (l : Launch) (D : va_G) (cy : Nat → ClassId)  (o : Nat) (q : Nat → Nat) (x1 : Int32) (S : MS) (Q : Int32 → Prop) (h : w1_cellAtSpot x1 S Q) : MetI l yX1_cellAtSpot wsX1_cellAtSpot ({ frames := 0, cells := 0, slots := 0, locals := 0 } : Room) D cy nestWs (w1 o q cy) [.ref o, .int x1] S (fun r z => z = S ∧ Q r ) := by
  refine MetI.mk RX1 cX1_cellAtSpot 4 .int (by decide) rfl nestWs_ok rfl (Nat.le_of_ble_eq_true rfl) ?_
  intro p e s m below meth c A ls C hG hl
  have hl : lv_has ls 4 [(0, .ref o), (1, .int x1)] := hl
  have hx := C.1
  have hb := C.2.1
  unfold w1_cellAtSpot at h
  refine gx_tab C hG C.2.2.2.2.2.2.2.2.2.2.2.2.2.1 k1_cellAtSpot_53 dX1_cellAtSpot_0 (fun tt1 ht2 => ?_)
  refine lv_iload_n hx hb dX1_cellAtSpot_3 rfl (lv_at hl 1 rfl) ?_
  refine lv_iconst (v := 1) hx hb dX1_cellAtSpot_4 (by decide) ?_
  refine lv_ishr hx hb dX1_cellAtSpot_5 ?_
  obtain ⟨hv3, h⟩ := h
  refine gx_tald C hG ht2 hv3 dX1_cellAtSpot_6 ?_
  refine lv_topi (fun y4 ey4 => ?_)
  replace h := h y4 ey4
  refine lv_istore_n (lv' := [(2, .int y4), (0, .ref o), (1, .int x1)]) hx hb dX1_cellAtSpot_7 rfl hl (by decide) rfl (fun ls hl => ?_)
  refine gx_tab C hG C.2.2.2.2.2.2.2.2.2.2.2.2.2.2 k1_cellAtSpot_56 dX1_cellAtSpot_8 (fun tt5 ht6 => ?_)
  refine lv_iload_n hx hb dX1_cellAtSpot_11 rfl (lv_at hl 2 rfl) ?_
  refine lv_iconst (v := 1) hx hb dX1_cellAtSpot_12 (by decide) ?_
  refine lv_ishr hx hb dX1_cellAtSpot_13 ?_
  refine gx_tald C hG ht6 hv3 dX1_cellAtSpot_14 ?_
  refine lv_topi (fun y7 ey7 => ?_)
  replace h := h y7 ey7
  refine lv_istore_n (lv' := [(3, .int y7), (2, .int y4), (0, .ref o), (1, .int x1)]) hx hb dX1_cellAtSpot_15 rfl hl (by decide) rfl (fun ls hl => ?_)
  refine lv_aload_n hx hb dX1_cellAtSpot_16 rfl (lv_at hl 2 rfl) ?_
  refine gx_get C i1_cellAtSpot_X1 hG 0 rfl rfl 1 (by decide) k1_cellAtSpot_15 rfl dX1_cellAtSpot_17 ?_
  refine lv_iload_n hx hb dX1_cellAtSpot_20 rfl (lv_at hl 3 rfl) ?_
  obtain ⟨hv8, h⟩ := h
  refine gx_ald C hG 2 rfl hv8 dX1_cellAtSpot_21 ?_
  refine lv_aload_n hx hb dX1_cellAtSpot_22 rfl (lv_at hl 2 rfl) ?_
  refine gx_get C i1_cellAtSpot_X1 hG 0 rfl rfl 5 (by decide) k1_cellAtSpot_27 rfl dX1_cellAtSpot_23 ?_
  refine lv_iload_n hx hb dX1_cellAtSpot_26 rfl (lv_at hl 1 rfl) ?_
  obtain ⟨hv9, h⟩ := h
  refine gx_ald C hG 6 rfl hv9 dX1_cellAtSpot_27 ?_
  refine lv_iconst (v := 1) hx hb dX1_cellAtSpot_28 (by decide) ?_
  refine lv_ishr hx hb dX1_cellAtSpot_29 ?_
  refine lv_aload_n hx hb dX1_cellAtSpot_30 rfl (lv_at hl 2 rfl) ?_
  refine gx_get C i1_cellAtSpot_X1 hG 0 rfl rfl 0 (by decide) k1_cellAtSpot_11 rfl dX1_cellAtSpot_31 ?_
  refine lv_iload_n hx hb dX1_cellAtSpot_34 rfl (lv_at hl 0 rfl) ?_
  obtain ⟨hv10, h⟩ := h
  refine gx_ald C hG 1 rfl hv10 dX1_cellAtSpot_35 ?_
  refine lv_imul hx hb dX1_cellAtSpot_36 ?_
  refine lv_iadd hx hb dX1_cellAtSpot_37 ?_
  refine lv_aload_n hx hb dX1_cellAtSpot_38 rfl (lv_at hl 2 rfl) ?_
  refine gx_get C i1_cellAtSpot_X1 hG 0 rfl rfl 5 (by decide) k1_cellAtSpot_27 rfl dX1_cellAtSpot_39 ?_
  refine lv_iload_n hx hb dX1_cellAtSpot_42 rfl (lv_at hl 0 rfl) ?_
  refine gx_ald C hG 6 rfl hv10 dX1_cellAtSpot_43 ?_
  refine lv_iconst (v := 1) hx hb dX1_cellAtSpot_44 (by decide) ?_
  refine lv_ishr hx hb dX1_cellAtSpot_45 ?_
  refine lv_iadd hx hb dX1_cellAtSpot_46 ?_
  exact retI (w := (w1 o q cy)) (S := S) C hG ⟨rfl, h⟩ dX1_cellAtSpot_47
-- X1_roundEdge
def w1_roundEdge_b21 (t0 : Int32) (Q : Int32 → Prop) : Prop :=
  Q t0
set_option maxHeartbeats 4000000 in
set_option maxRecDepth 100000 in
theorem b1_roundEdge_b21 {p : Program} {l : Launch} {e : Env} {s : State} {m : MethodId} {args : Array Value} {below : List Frame} {meth : Method} {c : Code} {D : va_G} {cy : Nat → ClassId} {A : Nat → Prop} (t0 : Int32) {Q : Int32 → Prop} (C : Cx p s m args meth c cX1_roundEdge 3 (some .int) wsX1_roundEdge RX1 D cy nestWs A) (h : w1_roundEdge_b21 t0 Q) {H : Heap} {locs : List Loc} (hG : GW D A s (([] : va_W)) H locs) {ls : Array Slot} (hl : lv_has ls 3 []) : W p l e ({ frames := 0, cells := 0, slots := 0, locals := 0 } : Room) s m args below meth c H locs 0 0 (MQ below (va_Qi (fun r _ => Q r) (B1 D (fun _ : Unit => ([] : va_W)) A) A) args s 0 0 A) (F0 m 21 ls [.int t0]) := by
  have hx := C.1
  have hb := C.2.1
  unfold w1_roundEdge_b21 at h
  exact retI (w := (fun _ : Unit => ([] : va_W))) (S := ()) C hG h dX1_roundEdge_21
def w1_roundEdge (x0 : Int32) (x1 : Int32) (x2 : Int32) (Q : Int32 → Prop) : Prop :=
  ((¬ x0 = x1 → ((¬ x0 = (x1 ^^^ (1 : Int32)) → w1_roundEdge_b21 x0 Q) ∧ (x0 = (x1 ^^^ (1 : Int32)) → w1_roundEdge_b21 x2 Q))) ∧ (x0 = x1 → Q (x2 ^^^ (1 : Int32))))
set_option maxHeartbeats 4000000 in
set_option maxRecDepth 100000 in
theorem c1_roundEdge (l : Launch) (D : va_G) (cy : Nat → ClassId)  (x0 : Int32) (x1 : Int32) (x2 : Int32) (Q : Int32 → Prop) (h : w1_roundEdge x0 x1 x2 Q) : MetI l yX1_roundEdge wsX1_roundEdge ({ frames := 0, cells := 0, slots := 0, locals := 0 } : Room) D cy nestWs (fun _ : Unit => ([] : va_W)) [.int x0, .int x1, .int x2] () (fun r _ => Q r) := by
  refine MetI.mk RX1 cX1_roundEdge 3 .int (by decide) rfl nestWs_ok rfl (Nat.le_of_ble_eq_true rfl) ?_
  intro p e s m below meth c A ls C hG hl
  have hl : lv_has ls 3 [(0, .int x0), (1, .int x1), (2, .int x2)] := hl
  have hx := C.1
  have hb := C.2.1
  unfold w1_roundEdge at h
  refine lv_iload_n hx hb dX1_roundEdge_0 rfl (lv_at hl 0 rfl) ?_
  refine lv_iload_n hx hb dX1_roundEdge_1 rfl (lv_at hl 1 rfl) ?_
  refine lv_icmp_ne (tgt := 9) hx hb dX1_roundEdge_2 (by decide) (fun c1 => ?_) (fun c1 => ?_)
  · replace h := h.1 c1
    refine lv_iload_n hx hb dX1_roundEdge_9 rfl (lv_at hl 0 rfl) ?_
    refine lv_iload_n hx hb dX1_roundEdge_10 rfl (lv_at hl 1 rfl) ?_
    refine lv_iconst (v := 1) hx hb dX1_roundEdge_11 (by decide) ?_
    refine lv_ixor hx hb dX1_roundEdge_12 ?_
    refine lv_icmp_ne (tgt := 20) hx hb dX1_roundEdge_13 (by decide) (fun c2 => ?_) (fun c2 => ?_)
    · replace h := h.1 c2
      refine lv_iload_n hx hb dX1_roundEdge_20 rfl (lv_at hl 0 rfl) ?_
      exact b1_roundEdge_b21 x0 C h hG (lv_sub hl [] rfl)
    · replace h := h.2 c2
      refine lv_iload_n hx hb dX1_roundEdge_16 rfl (lv_at hl 2 rfl) ?_
      refine lv_goto (tgt := 21) hx hb dX1_roundEdge_17 (by decide) ?_
      exact b1_roundEdge_b21 x2 C h hG (lv_sub hl [] rfl)
  · replace h := h.2 c1
    refine lv_iload_n hx hb dX1_roundEdge_5 rfl (lv_at hl 2 rfl) ?_
    refine lv_iconst (v := 1) hx hb dX1_roundEdge_6 (by decide) ?_
    refine lv_ixor hx hb dX1_roundEdge_7 ?_
    exact retI (w := (fun _ : Unit => ([] : va_W))) (S := ()) C hG h dX1_roundEdge_8
-- X1_turnWithRight
def w1_turnWithRight_b22 (x2 : Int32) (Q : Int32 → Prop) : Prop :=
  Q x2
set_option maxHeartbeats 4000000 in
set_option maxRecDepth 100000 in
theorem b1_turnWithRight_b22 {p : Program} {l : Launch} {e : Env} {s : State} {m : MethodId} {args : Array Value} {below : List Frame} {meth : Method} {c : Code} {D : va_G} {cy : Nat → ClassId} {A : Nat → Prop} (x2 : Int32) {Q : Int32 → Prop} (C : Cx p s m args meth c cX1_turnWithRight 3 (some .int) wsX1_turnWithRight RX1 D cy nestWs A) (h : w1_turnWithRight_b22 x2 Q) {H : Heap} {locs : List Loc} (hG : GW D A s (([] : va_W)) H locs) {ls : Array Slot} (hl : lv_has ls 3 [(2, .int x2)]) : W p l e ({ frames := 1, cells := 0, slots := 0, locals := 22 } : Room) s m args below meth c H locs 0 0 (MQ below (va_Qi (fun r _ => Q r) (B1 D (fun _ : Unit => ([] : va_W)) A) A) args s 0 0 A) (F0 m 22 ls []) := by
  have hx := C.1
  have hb := C.2.1
  unfold w1_turnWithRight_b22 at h
  refine lv_iload_n hx hb dX1_turnWithRight_22 rfl (lv_at hl 0 rfl) ?_
  exact retI (w := (fun _ : Unit => ([] : va_W))) (S := ()) C hG h dX1_turnWithRight_23
def w1_turnWithRight_d2 (K2 : Int32 → Prop) (x0 : Int32) (x1 : Int32) (x2 : Int32) (Q : Int32 → Prop) : Prop :=
  (((3 : Int32) ≤ x2 → w1_turnWithRight_b22 x2 Q) ∧ (¬ (3 : Int32) ≤ x2 → w1_directionOf x0 x2 (fun r2 => ((r2 = x1 → w1_turnWithRight_b22 x2 Q) ∧ (¬ r2 = x1 → ∀ y4 : Int32, y4 = x2 + 1 → K2 y4)))))
set_option maxHeartbeats 4000000 in
set_option maxRecDepth 100000 in
theorem b1_turnWithRight_d2 {p : Program} {l : Launch} {e : Env} {s : State} {m : MethodId} {args : Array Value} {below : List Frame} {meth : Method} {c : Code} {D : va_G} {cy : Nat → ClassId} {A : Nat → Prop} {K2 : Int32 → Prop} (x0 : Int32) (x1 : Int32) (x2 : Int32) {Q : Int32 → Prop} (C : Cx p s m args meth c cX1_turnWithRight 3 (some .int) wsX1_turnWithRight RX1 D cy nestWs A) (hK2 : ∀ (x2 : Int32) (H : Heap) (locs : List Loc) (ls : Array Slot), K2 x2 → GW D A s (([] : va_W)) H locs → lv_has ls 3 [(0, .int x0), (1, .int x1), (2, .int x2)] → W p l e ({ frames := 1, cells := 0, slots := 0, locals := 22 } : Room) s m args below meth c H locs 0 0 (MQ below (va_Qi (fun r _ => Q r) (B1 D (fun _ : Unit => ([] : va_W)) A) A) args s 0 0 A) (F0 m 2 ls [])) (h : w1_turnWithRight_d2 K2 x0 x1 x2 Q) {H : Heap} {locs : List Loc} (hG : GW D A s (([] : va_W)) H locs) {ls : Array Slot} (hl : lv_has ls 3 [(0, .int x0), (1, .int x1), (2, .int x2)]) : W p l e ({ frames := 1, cells := 0, slots := 0, locals := 22 } : Room) s m args below meth c H locs 0 0 (MQ below (va_Qi (fun r _ => Q r) (B1 D (fun _ : Unit => ([] : va_W)) A) A) args s 0 0 A) (F0 m 2 ls []) := by
  have hx := C.1
  have hb := C.2.1
  unfold w1_turnWithRight_d2 at h
  refine lv_iload_n hx hb dX1_turnWithRight_2 rfl (lv_at hl 2 rfl) ?_
  refine lv_iconst (v := 3) hx hb dX1_turnWithRight_3 (by decide) ?_
  refine lv_icmp_ge (tgt := 22) hx hb dX1_turnWithRight_4 (by decide) (fun c1 => ?_) (fun c1 => ?_)
  · replace h := h.1 c1
    exact b1_turnWithRight_b22 x2 C h hG (lv_sub hl [2] rfl)
  · replace h := h.2 c1
    refine lv_iload_n hx hb dX1_turnWithRight_7 rfl (lv_at hl 0 rfl) ?_
    refine lv_iload_n hx hb dX1_turnWithRight_8 rfl (lv_at hl 2 rfl) ?_
    refine callSI (As := [.int x0, .int x2]) (rest := []) C hG (c1_directionOf l D cy x0 x2 _ h) 2 gX1_turnWithRight_X1_directionOf rfl (by decide +kernel) ⟨⟨Nat.le_of_ble_eq_true rfl, Nat.le_of_ble_eq_true rfl⟩, rfl, rfl⟩ (Foc.none C.2.2.2.2.2.2.2.2.1) rfl hl.1 rfl (Nat.le_of_ble_eq_true rfl) dX1_turnWithRight_9 ⟨Nat.zero_le _, Nat.zero_le _⟩ (fun r2 z H locs h hG => ?_)
    refine lv_iload_n hx hb dX1_turnWithRight_12 rfl (lv_at hl 1 rfl) ?_
    refine lv_icmp_eq (tgt := 22) hx hb dX1_turnWithRight_13 (by decide) (fun c3 => ?_) (fun c3 => ?_)
    · replace h := h.1 c3
      exact b1_turnWithRight_b22 x2 C h hG (lv_sub hl [2] rfl)
    · replace h := h.2 c3
      obtain ⟨y4, ey4⟩ : ∃ y : Int32, y = x2 + 1 := ⟨_, rfl⟩
      replace h := h y4 ey4
      refine lv_iinc (v := y4) (lv' := [(2, .int y4), (0, .int x0), (1, .int x1)]) hx hb dX1_turnWithRight_16 hl (k := 2) rfl (by rw [ey4]; rfl) (by decide) rfl (fun ls hl => ?_)
      refine lv_goto (tgt := 2) hx hb dX1_turnWithRight_19 (by decide) ?_
      exact hK2 y4 _ _ _ h hG (lv_sub hl [1, 2, 0] rfl)
def w1_turnWithRight_F2 (x0 : Int32) (x1 : Int32) (Q : Int32 → Prop) (K : Int32 → Prop) (a : Int32) : Prop := w1_turnWithRight_d2 (fun y0 => K (y0)) x0 x1 a Q
def w1_turnWithRight_b2 (x0 : Int32) (x1 : Int32) (x2 : Int32) (Q : Int32 → Prop) : Prop := lp (w1_turnWithRight_F2 x0 x1 Q) (x2)
set_option maxHeartbeats 4000000 in
set_option maxRecDepth 100000 in
theorem b1_turnWithRight_b2 {p : Program} {l : Launch} {e : Env} {s : State} {m : MethodId} {args : Array Value} {below : List Frame} {meth : Method} {c : Code} {D : va_G} {cy : Nat → ClassId} {A : Nat → Prop} (x0 : Int32) (x1 : Int32) (x2 : Int32) {Q : Int32 → Prop} (C : Cx p s m args meth c cX1_turnWithRight 3 (some .int) wsX1_turnWithRight RX1 D cy nestWs A) (h : w1_turnWithRight_b2 x0 x1 x2 Q) {H : Heap} {locs : List Loc} (hG : GW D A s (([] : va_W)) H locs) {ls : Array Slot} (hl : lv_has ls 3 [(0, .int x0), (1, .int x1), (2, .int x2)]) : W p l e ({ frames := 1, cells := 0, slots := 0, locals := 22 } : Room) s m args below meth c H locs 0 0 (MQ below (va_Qi (fun r _ => Q r) (B1 D (fun _ : Unit => ([] : va_W)) A) A) args s 0 0 A) (F0 m 2 ls []) := by
  obtain ⟨k, hn⟩ := h
  induction k generalizing x2 H locs ls with
  | zero => exact hn.elim
  | succ k ih => exact b1_turnWithRight_d2 (K2 := fun y0 => itr (w1_turnWithRight_F2 x0 x1 Q) k (y0)) x0 x1 x2 C (fun x2 H locs ls hk hG hl => ih x2 hG hl hk) hn hG hl
def w1_turnWithRight (x0 : Int32) (x1 : Int32) (Q : Int32 → Prop) : Prop :=
  w1_turnWithRight_b2 x0 x1 (0 : Int32) Q
set_option maxHeartbeats 4000000 in
set_option maxRecDepth 100000 in
theorem c1_turnWithRight (l : Launch) (D : va_G) (cy : Nat → ClassId)  (x0 : Int32) (x1 : Int32) (Q : Int32 → Prop) (h : w1_turnWithRight x0 x1 Q) : MetI l yX1_turnWithRight wsX1_turnWithRight ({ frames := 1, cells := 0, slots := 0, locals := 22 } : Room) D cy nestWs (fun _ : Unit => ([] : va_W)) [.int x0, .int x1] () (fun r _ => Q r) := by
  refine MetI.mk RX1 cX1_turnWithRight 3 .int (by decide) rfl nestWs_ok rfl (Nat.le_of_ble_eq_true rfl) ?_
  intro p e s m below meth c A ls C hG hl
  have hl : lv_has ls 3 [(0, .int x0), (1, .int x1)] := hl
  have hx := C.1
  have hb := C.2.1
  unfold w1_turnWithRight at h
  refine lv_iconst (v := 0) hx hb dX1_turnWithRight_0 (by decide) ?_
  refine lv_istore_n (lv' := [(2, .int (0 : Int32)), (0, .int x0), (1, .int x1)]) hx hb dX1_turnWithRight_1 rfl hl (by decide) rfl (fun ls hl => ?_)
  exact b1_turnWithRight_b2 x0 x1 (0 : Int32) C h hG (lv_sub hl [1, 2, 0] rfl)
-- X1_arrivalFrom
theorem i1_arrivalFrom_X1 : ∀ w ∈ wsX10, w ∈ wsX1_arrivalFrom := fun w h => List.mem_cons_of_mem _ (inG_X1 w h)
theorem k1_arrivalFrom_11 : Cond.fieldLink RX1 11 "PaperBodies$Box" "lengths" "[I" ∈ wsX1_arrivalFrom := (List.mem_cons_of_mem _ mw_43)
theorem k1_arrivalFrom_18 : Cond.fieldLink RX1 18 "PaperBodies$Box" "sides" "[I" ∈ wsX1_arrivalFrom := (List.mem_cons_of_mem _ mw_45)
theorem k1_arrivalFrom_21 : Cond.fieldLink RX1 21 "PaperBodies$Box" "middles" "[I" ∈ wsX1_arrivalFrom := (List.mem_cons_of_mem _ mw_46)
theorem k1_arrivalFrom_27 : Cond.fieldLink RX1 27 "PaperBodies$Box" "spot" "[I" ∈ wsX1_arrivalFrom := (List.mem_cons_of_mem _ mw_48)
theorem k1_arrivalFrom_42 : Cond.initialized yX8_frameOf.cls ∈ wsX1_arrivalFrom ∧ Cond.static yX8_frameOf ∈ wsX1_arrivalFrom := ⟨(List.mem_cons_of_mem _ mw_13), (List.mem_cons_of_mem _ mw_62)⟩
def w1_arrivalFrom_b108 (x3 : Int32) (x4 : Int32) (S : MS) (Q : Int32 → MS → Prop) : Prop :=
  w1_endAt x4 S (fun r1 => vp_in (x4 >>> ((1 : Int32) &&& 31)) 3 ∧ ∀ S4 : MS, S4 = sA S 5 (x4 >>> ((1 : Int32) &&& 31)) r1 → w1_endAt x3 S4 (fun r5 => w1_signOf x3 (fun r7 => vp_in (x3 >>> ((1 : Int32) &&& 31)) 3 ∧ ∀ S9 : MS, S9 = sA S4 5 (x3 >>> ((1 : Int32) &&& 31)) (r5 - r7) → w1_directionOf x3 (0 : Int32) (fun r10 => w1_roundEdge r10 x4 x3 (fun r11 => w1_cellAtSpot x4 S9 (fun r12 => w1_turnWithRight x4 r11 (fun r14 => w8_frameOf r12 r14 (fun r15 => Q r15 S9))))))))
set_option maxHeartbeats 4000000 in
set_option maxRecDepth 100000 in
theorem b1_arrivalFrom_b108 {p : Program} {l : Launch} {e : Env} {s : State} {m : MethodId} {args : Array Value} {below : List Frame} {meth : Method} {c : Code} {D : va_G} {cy : Nat → ClassId} {A : Nat → Prop} {o : Nat} {q : Nat → Nat} (x3 : Int32) (x4 : Int32) (S : MS) {Q : Int32 → MS → Prop} (C : Cx p s m args meth c cX1_arrivalFrom 7 (some .int) wsX1_arrivalFrom RX1 D cy nestWs A) (h : w1_arrivalFrom_b108 x3 x4 S Q) {H : Heap} {locs : List Loc} (hG : GW D A s (w1 o q cy S) H locs) {ls : Array Slot} (hl : lv_has ls 7 [(0, .ref o), (3, .int x3), (4, .int x4)]) : W p l e ({ frames := 3, cells := 0, slots := 0, locals := 64 } : Room) s m args below meth c H locs 0 0 (MQ below (va_Qi Q (B1 D (w1 o q cy) A) A) args s 0 0 A) (F0 m 108 ls []) := by
  have hx := C.1
  have hb := C.2.1
  unfold w1_arrivalFrom_b108 at h
  refine lv_aload_n hx hb dX1_arrivalFrom_108 rfl (lv_at hl 0 rfl) ?_
  refine gx_get C i1_arrivalFrom_X1 hG 0 rfl rfl 5 (by decide) k1_arrivalFrom_27 rfl dX1_arrivalFrom_109 ?_
  refine lv_iload hx hb dX1_arrivalFrom_112 (lv_at hl 2 rfl) ?_
  refine lv_iconst (v := 1) hx hb dX1_arrivalFrom_114 (by decide) ?_
  refine lv_ishr hx hb dX1_arrivalFrom_115 ?_
  refine lv_aload_n hx hb dX1_arrivalFrom_116 rfl (lv_at hl 0 rfl) ?_
  refine lv_iload hx hb dX1_arrivalFrom_117 (lv_at hl 2 rfl) ?_
  refine callVI (As := [.int x4]) (rest := [.int (x4 >>> ((1 : Int32) &&& 31)), .ref (q 5)]) C hG (c1_endAt l D cy o q x4 S _ h) 1 gX1_arrivalFrom_X1_endAt rfl (by decide +kernel) ⟨⟨Nat.le_of_ble_eq_true rfl, Nat.le_of_ble_eq_true rfl⟩, rfl, rfl⟩ rfl rfl (Foc.all C.2.2.2.2.2.2.2.2.1) rfl hl.1 rfl (Nat.le_of_ble_eq_true rfl) dX1_arrivalFrom_119 ⟨Nat.zero_le _, Nat.zero_le _⟩ (fun r1 u2 H locs h hG => ?_)
  obtain ⟨eu2, h⟩ := h
  have eu2 : u2 = S := eu2
  subst u2
  have hG : GW D A s (w1 o q cy S) H locs := hG
  obtain ⟨hv3, h⟩ := h
  refine gx_ast (ws' := w1 o q cy (sA S 5 (x4 >>> ((1 : Int32) &&& 31)) r1)) C hG 6 rfl hv3 dX1_arrivalFrom_122 rfl (fun H locs hG => ?_)
  obtain ⟨S4, eS4⟩ : ∃ z : MS, z = sA S 5 (x4 >>> ((1 : Int32) &&& 31)) r1 := ⟨_, rfl⟩
  rw [← eS4] at hG
  replace h := h S4 eS4
  refine lv_aload_n hx hb dX1_arrivalFrom_123 rfl (lv_at hl 0 rfl) ?_
  refine gx_get C i1_arrivalFrom_X1 hG 0 rfl rfl 5 (by decide) k1_arrivalFrom_27 rfl dX1_arrivalFrom_124 ?_
  refine lv_iload_n hx hb dX1_arrivalFrom_127 rfl (lv_at hl 1 rfl) ?_
  refine lv_iconst (v := 1) hx hb dX1_arrivalFrom_128 (by decide) ?_
  refine lv_ishr hx hb dX1_arrivalFrom_129 ?_
  refine lv_aload_n hx hb dX1_arrivalFrom_130 rfl (lv_at hl 0 rfl) ?_
  refine lv_iload_n hx hb dX1_arrivalFrom_131 rfl (lv_at hl 1 rfl) ?_
  refine callVI (As := [.int x3]) (rest := [.int (x3 >>> ((1 : Int32) &&& 31)), .ref (q 5)]) C hG (c1_endAt l D cy o q x3 S4 _ h) 1 gX1_arrivalFrom_X1_endAt rfl (by decide +kernel) ⟨⟨Nat.le_of_ble_eq_true rfl, Nat.le_of_ble_eq_true rfl⟩, rfl, rfl⟩ rfl rfl (Foc.all C.2.2.2.2.2.2.2.2.1) rfl hl.1 rfl (Nat.le_of_ble_eq_true rfl) dX1_arrivalFrom_132 ⟨Nat.zero_le _, Nat.zero_le _⟩ (fun r5 u6 H locs h hG => ?_)
  obtain ⟨eu6, h⟩ := h
  have eu6 : u6 = S4 := eu6
  subst u6
  have hG : GW D A s (w1 o q cy S4) H locs := hG
  refine lv_iload_n hx hb dX1_arrivalFrom_135 rfl (lv_at hl 1 rfl) ?_
  refine callSI (As := [.int x3]) (rest := [.int r5, .int (x3 >>> ((1 : Int32) &&& 31)), .ref (q 5)]) C hG (c1_signOf l D cy x3 _ h) 1 gX1_arrivalFrom_X1_signOf rfl (by decide +kernel) ⟨⟨Nat.le_of_ble_eq_true rfl, Nat.le_of_ble_eq_true rfl⟩, rfl, rfl⟩ (Foc.none C.2.2.2.2.2.2.2.2.1) rfl hl.1 rfl (Nat.le_of_ble_eq_true rfl) dX1_arrivalFrom_136 ⟨Nat.zero_le _, Nat.zero_le _⟩ (fun r7 z H locs h hG => ?_)
  refine lv_isub hx hb dX1_arrivalFrom_139 ?_
  obtain ⟨hv8, h⟩ := h
  refine gx_ast (ws' := w1 o q cy (sA S4 5 (x3 >>> ((1 : Int32) &&& 31)) (r5 - r7))) C hG 6 rfl hv8 dX1_arrivalFrom_140 rfl (fun H locs hG => ?_)
  obtain ⟨S9, eS9⟩ : ∃ z : MS, z = sA S4 5 (x3 >>> ((1 : Int32) &&& 31)) (r5 - r7) := ⟨_, rfl⟩
  rw [← eS9] at hG
  replace h := h S9 eS9
  refine lv_iload_n hx hb dX1_arrivalFrom_141 rfl (lv_at hl 1 rfl) ?_
  refine lv_iconst (v := 0) hx hb dX1_arrivalFrom_142 (by decide) ?_
  refine callSI (As := [.int x3, .int (0 : Int32)]) (rest := []) C hG (c1_directionOf l D cy x3 (0 : Int32) _ h) 2 gX1_arrivalFrom_X1_directionOf rfl (by decide +kernel) ⟨⟨Nat.le_of_ble_eq_true rfl, Nat.le_of_ble_eq_true rfl⟩, rfl, rfl⟩ (Foc.none C.2.2.2.2.2.2.2.2.1) rfl hl.1 rfl (Nat.le_of_ble_eq_true rfl) dX1_arrivalFrom_143 ⟨Nat.zero_le _, Nat.zero_le _⟩ (fun r10 z H locs h hG => ?_)
  refine lv_iload hx hb dX1_arrivalFrom_146 (lv_at hl 2 rfl) ?_
  refine lv_iload_n hx hb dX1_arrivalFrom_148 rfl (lv_at hl 1 rfl) ?_
  refine callSI (As := [.int r10, .int x4, .int x3]) (rest := []) C hG (c1_roundEdge l D cy r10 x4 x3 _ h) 3 gX1_arrivalFrom_X1_roundEdge rfl (by decide +kernel) ⟨⟨Nat.le_of_ble_eq_true rfl, Nat.le_of_ble_eq_true rfl⟩, rfl, rfl⟩ (Foc.none C.2.2.2.2.2.2.2.2.1) rfl hl.1 rfl (Nat.le_of_ble_eq_true rfl) dX1_arrivalFrom_149 ⟨Nat.zero_le _, Nat.zero_le _⟩ (fun r11 z H locs h hG => ?_)
  refine lv_istore (lv' := [(6, .int r11), (0, .ref o), (3, .int x3), (4, .int x4)]) hx hb dX1_arrivalFrom_152 hl (by decide) rfl (fun ls hl => ?_)
  refine lv_aload_n hx hb dX1_arrivalFrom_154 rfl (lv_at hl 1 rfl) ?_
  refine lv_iload hx hb dX1_arrivalFrom_155 (lv_at hl 3 rfl) ?_
  refine callVI (As := [.int x4]) (rest := []) C hG (c1_cellAtSpot l D cy o q x4 S9 _ h) 1 gX1_arrivalFrom_X1_cellAtSpot rfl (by decide +kernel) ⟨⟨Nat.le_of_ble_eq_true rfl, Nat.le_of_ble_eq_true rfl⟩, rfl, rfl⟩ rfl rfl (Foc.all C.2.2.2.2.2.2.2.2.1) rfl hl.1 rfl (Nat.le_of_ble_eq_true rfl) dX1_arrivalFrom_157 ⟨Nat.zero_le _, Nat.zero_le _⟩ (fun r12 u13 H locs h hG => ?_)
  obtain ⟨eu13, h⟩ := h
  have eu13 : u13 = S9 := eu13
  subst u13
  have hG : GW D A s (w1 o q cy S9) H locs := hG
  refine lv_iload hx hb dX1_arrivalFrom_160 (lv_at hl 3 rfl) ?_
  refine lv_iload hx hb dX1_arrivalFrom_162 (lv_at hl 0 rfl) ?_
  refine callSI (As := [.int x4, .int r11]) (rest := [.int r12]) C hG (c1_turnWithRight l D cy x4 r11 _ h) 2 gX1_arrivalFrom_X1_turnWithRight rfl (by decide +kernel) ⟨⟨Nat.le_of_ble_eq_true rfl, Nat.le_of_ble_eq_true rfl⟩, rfl, rfl⟩ (Foc.none C.2.2.2.2.2.2.2.2.1) rfl hl.1 rfl (Nat.le_of_ble_eq_true rfl) dX1_arrivalFrom_164 ⟨Nat.zero_le _, Nat.zero_le _⟩ (fun r14 z H locs h hG => ?_)
  refine callSNI (As := [.int r12, .int r14]) (rest := []) (host := "PaperBodies") C hG (c8_frameOf l D cy r12 r14 _ h) 2 gX1_arrivalFrom_X8_frameOf_n42 rfl (by decide +kernel) k1_arrivalFrom_42.1 k1_arrivalFrom_42.2 (by decide +kernel) ⟨⟨Nat.le_of_ble_eq_true rfl, Nat.le_of_ble_eq_true rfl⟩, rfl, rfl⟩ (Foc.none C.2.2.2.2.2.2.2.2.1) rfl hl.1 rfl (Nat.le_of_ble_eq_true rfl) dX1_arrivalFrom_167 ⟨Nat.zero_le _, Nat.zero_le _⟩ (fun r15 z H locs h hG => ?_)
  exact retI (w := (w1 o q cy)) (S := S9) C hG h dX1_arrivalFrom_170
def w1_arrivalFrom_d17 (K17 : Int32 → MS → Prop) (x1 : Int32) (x3 : Int32) (x4 : Int32) (x5 : Int32) (S : MS) (Q : Int32 → MS → Prop) : Prop :=
  (((3 : Int32) ≤ x5 → vp_in (x4 >>> ((1 : Int32) &&& 31)) 3 ∧ w1_signOf x4 (fun r3 => ∀ y4 : Int32, y4 = ((rA S 5 (x4 >>> ((1 : Int32) &&& 31))) + ((2 : Int32) * r3)) → ((y4 ≤ 0 → w1_arrivalFrom_b108 x3 x4 S Q) ∧ (¬ y4 ≤ 0 → ((((2 : Int32) * (rA S 0 (x4 >>> ((1 : Int32) &&& 31)))) ≤ y4 → w1_arrivalFrom_b108 x3 x4 S Q) ∧ (¬ ((2 : Int32) * (rA S 0 (x4 >>> ((1 : Int32) &&& 31)))) ≤ y4 → ∀ S7 : MS, S7 = sA S 5 (x4 >>> ((1 : Int32) &&& 31)) y4 → w1_cellAtSpot x3 S7 (fun r8 => w8_frameOf r8 (0 : Int32) (fun r10 => Q r10 S7)))))))) ∧ (¬ (3 : Int32) ≤ x5 → vp_in (((3 : Int32) * x1) + x5) 72 ∧ vp_in x5 3 ∧ ∀ S13 : MS, S13 = sA S 5 x5 (rA S 3 (((3 : Int32) * x1) + x5)) → ∀ y14 : Int32, y14 = x5 + 1 → K17 y14 S13))
set_option maxHeartbeats 4000000 in
set_option maxRecDepth 100000 in
theorem b1_arrivalFrom_d17 {p : Program} {l : Launch} {e : Env} {s : State} {m : MethodId} {args : Array Value} {below : List Frame} {meth : Method} {c : Code} {D : va_G} {cy : Nat → ClassId} {A : Nat → Prop} {o : Nat} {q : Nat → Nat} {K17 : Int32 → MS → Prop} (x1 : Int32) (x3 : Int32) (x4 : Int32) (x5 : Int32) (S : MS) {Q : Int32 → MS → Prop} (C : Cx p s m args meth c cX1_arrivalFrom 7 (some .int) wsX1_arrivalFrom RX1 D cy nestWs A) (hK17 : ∀ (x5 : Int32) (S : MS) (H : Heap) (locs : List Loc) (ls : Array Slot), K17 x5 S → GW D A s (w1 o q cy S) H locs → lv_has ls 7 [(0, .ref o), (1, .int x1), (3, .int x3), (4, .int x4), (5, .int x5)] → W p l e ({ frames := 3, cells := 0, slots := 0, locals := 64 } : Room) s m args below meth c H locs 0 0 (MQ below (va_Qi Q (B1 D (w1 o q cy) A) A) args s 0 0 A) (F0 m 17 ls [])) (h : w1_arrivalFrom_d17 K17 x1 x3 x4 x5 S Q) {H : Heap} {locs : List Loc} (hG : GW D A s (w1 o q cy S) H locs) {ls : Array Slot} (hl : lv_has ls 7 [(0, .ref o), (1, .int x1), (3, .int x3), (4, .int x4), (5, .int x5)]) : W p l e ({ frames := 3, cells := 0, slots := 0, locals := 64 } : Room) s m args below meth c H locs 0 0 (MQ below (va_Qi Q (B1 D (w1 o q cy) A) A) args s 0 0 A) (F0 m 17 ls []) := by
  have hx := C.1
  have hb := C.2.1
  unfold w1_arrivalFrom_d17 at h
  refine lv_iload hx hb dX1_arrivalFrom_17 (lv_at hl 4 rfl) ?_
  refine lv_iconst (v := 3) hx hb dX1_arrivalFrom_19 (by decide) ?_
  refine lv_icmp_ge (tgt := 47) hx hb dX1_arrivalFrom_20 (by decide) (fun c1 => ?_) (fun c1 => ?_)
  · replace h := h.1 c1
    refine lv_aload_n hx hb dX1_arrivalFrom_47 rfl (lv_at hl 0 rfl) ?_
    refine gx_get C i1_arrivalFrom_X1 hG 0 rfl rfl 5 (by decide) k1_arrivalFrom_27 rfl dX1_arrivalFrom_48 ?_
    refine lv_iload hx hb dX1_arrivalFrom_51 (lv_at hl 3 rfl) ?_
    refine lv_iconst (v := 1) hx hb dX1_arrivalFrom_53 (by decide) ?_
    refine lv_ishr hx hb dX1_arrivalFrom_54 ?_
    obtain ⟨hv2, h⟩ := h
    refine gx_ald C hG 6 rfl hv2 dX1_arrivalFrom_55 ?_
    refine lv_iconst (v := 2) hx hb dX1_arrivalFrom_56 (by decide) ?_
    refine lv_iload hx hb dX1_arrivalFrom_57 (lv_at hl 3 rfl) ?_
    refine callSI (As := [.int x4]) (rest := [.int (2 : Int32), .int (rA S 5 (x4 >>> ((1 : Int32) &&& 31)))]) C hG (c1_signOf l D cy x4 _ h) 1 gX1_arrivalFrom_X1_signOf rfl (by decide +kernel) ⟨⟨Nat.le_of_ble_eq_true rfl, Nat.le_of_ble_eq_true rfl⟩, rfl, rfl⟩ (Foc.none C.2.2.2.2.2.2.2.2.1) rfl hl.1 rfl (Nat.le_of_ble_eq_true rfl) dX1_arrivalFrom_59 ⟨Nat.zero_le _, Nat.zero_le _⟩ (fun r3 z H locs h hG => ?_)
    refine lv_imul hx hb dX1_arrivalFrom_62 ?_
    refine lv_iadd hx hb dX1_arrivalFrom_63 ?_
    refine lv_topi (fun y4 ey4 => ?_)
    replace h := h y4 ey4
    refine lv_istore (lv' := [(5, .int y4), (0, .ref o), (1, .int x1), (3, .int x3), (4, .int x4)]) hx hb dX1_arrivalFrom_64 hl (by decide) rfl (fun ls hl => ?_)
    refine lv_iload hx hb dX1_arrivalFrom_66 (lv_at hl 0 rfl) ?_
    refine lv_if_le (tgt := 108) hx hb dX1_arrivalFrom_68 (by decide) (fun c5 => ?_) (fun c5 => ?_)
    · replace h := h.1 c5
      exact b1_arrivalFrom_b108 x3 x4 S C h hG (lv_sub hl [1, 3, 4] rfl)
    · replace h := h.2 c5
      refine lv_iload hx hb dX1_arrivalFrom_71 (lv_at hl 0 rfl) ?_
      refine lv_iconst (v := 2) hx hb dX1_arrivalFrom_73 (by decide) ?_
      refine lv_aload_n hx hb dX1_arrivalFrom_74 rfl (lv_at hl 1 rfl) ?_
      refine gx_get C i1_arrivalFrom_X1 hG 0 rfl rfl 0 (by decide) k1_arrivalFrom_11 rfl dX1_arrivalFrom_75 ?_
      refine lv_iload hx hb dX1_arrivalFrom_78 (lv_at hl 4 rfl) ?_
      refine lv_iconst (v := 1) hx hb dX1_arrivalFrom_80 (by decide) ?_
      refine lv_ishr hx hb dX1_arrivalFrom_81 ?_
      refine gx_ald C hG 1 rfl hv2 dX1_arrivalFrom_82 ?_
      refine lv_imul hx hb dX1_arrivalFrom_83 ?_
      refine lv_icmp_ge (tgt := 108) hx hb dX1_arrivalFrom_84 (by decide) (fun c6 => ?_) (fun c6 => ?_)
      · replace h := h.1 c6
        exact b1_arrivalFrom_b108 x3 x4 S C h hG (lv_sub hl [1, 3, 4] rfl)
      · replace h := h.2 c6
        refine lv_aload_n hx hb dX1_arrivalFrom_87 rfl (lv_at hl 1 rfl) ?_
        refine gx_get C i1_arrivalFrom_X1 hG 0 rfl rfl 5 (by decide) k1_arrivalFrom_27 rfl dX1_arrivalFrom_88 ?_
        refine lv_iload hx hb dX1_arrivalFrom_91 (lv_at hl 4 rfl) ?_
        refine lv_iconst (v := 1) hx hb dX1_arrivalFrom_93 (by decide) ?_
        refine lv_ishr hx hb dX1_arrivalFrom_94 ?_
        refine lv_iload hx hb dX1_arrivalFrom_95 (lv_at hl 0 rfl) ?_
        refine gx_ast (ws' := w1 o q cy (sA S 5 (x4 >>> ((1 : Int32) &&& 31)) y4)) C hG 6 rfl hv2 dX1_arrivalFrom_97 rfl (fun H locs hG => ?_)
        obtain ⟨S7, eS7⟩ : ∃ z : MS, z = sA S 5 (x4 >>> ((1 : Int32) &&& 31)) y4 := ⟨_, rfl⟩
        rw [← eS7] at hG
        replace h := h S7 eS7
        refine lv_aload_n hx hb dX1_arrivalFrom_98 rfl (lv_at hl 1 rfl) ?_
        refine lv_iload_n hx hb dX1_arrivalFrom_99 rfl (lv_at hl 3 rfl) ?_
        refine callVI (As := [.int x3]) (rest := []) C hG (c1_cellAtSpot l D cy o q x3 S7 _ h) 1 gX1_arrivalFrom_X1_cellAtSpot rfl (by decide +kernel) ⟨⟨Nat.le_of_ble_eq_true rfl, Nat.le_of_ble_eq_true rfl⟩, rfl, rfl⟩ rfl rfl (Foc.all C.2.2.2.2.2.2.2.2.1) rfl hl.1 rfl (Nat.le_of_ble_eq_true rfl) dX1_arrivalFrom_100 ⟨Nat.zero_le _, Nat.zero_le _⟩ (fun r8 u9 H locs h hG => ?_)
        obtain ⟨eu9, h⟩ := h
        have eu9 : u9 = S7 := eu9
        subst u9
        have hG : GW D A s (w1 o q cy S7) H locs := hG
        refine lv_iconst (v := 0) hx hb dX1_arrivalFrom_103 (by decide) ?_
        refine callSNI (As := [.int r8, .int (0 : Int32)]) (rest := []) (host := "PaperBodies") C hG (c8_frameOf l D cy r8 (0 : Int32) _ h) 2 gX1_arrivalFrom_X8_frameOf_n42 rfl (by decide +kernel) k1_arrivalFrom_42.1 k1_arrivalFrom_42.2 (by decide +kernel) ⟨⟨Nat.le_of_ble_eq_true rfl, Nat.le_of_ble_eq_true rfl⟩, rfl, rfl⟩ (Foc.none C.2.2.2.2.2.2.2.2.1) rfl hl.1 rfl (Nat.le_of_ble_eq_true rfl) dX1_arrivalFrom_104 ⟨Nat.zero_le _, Nat.zero_le _⟩ (fun r10 z H locs h hG => ?_)
        exact retI (w := (w1 o q cy)) (S := S7) C hG h dX1_arrivalFrom_107
  · replace h := h.2 c1
    refine lv_aload_n hx hb dX1_arrivalFrom_23 rfl (lv_at hl 0 rfl) ?_
    refine gx_get C i1_arrivalFrom_X1 hG 0 rfl rfl 5 (by decide) k1_arrivalFrom_27 rfl dX1_arrivalFrom_24 ?_
    refine lv_iload hx hb dX1_arrivalFrom_27 (lv_at hl 4 rfl) ?_
    refine lv_aload_n hx hb dX1_arrivalFrom_29 rfl (lv_at hl 0 rfl) ?_
    refine gx_get C i1_arrivalFrom_X1 hG 0 rfl rfl 3 (by decide) k1_arrivalFrom_21 rfl dX1_arrivalFrom_30 ?_
    refine lv_iconst (v := 3) hx hb dX1_arrivalFrom_33 (by decide) ?_
    refine lv_iload_n hx hb dX1_arrivalFrom_34 rfl (lv_at hl 1 rfl) ?_
    refine lv_imul hx hb dX1_arrivalFrom_35 ?_
    refine lv_iload hx hb dX1_arrivalFrom_36 (lv_at hl 4 rfl) ?_
    refine lv_iadd hx hb dX1_arrivalFrom_38 ?_
    obtain ⟨hv11, h⟩ := h
    refine gx_ald C hG 4 rfl hv11 dX1_arrivalFrom_39 ?_
    obtain ⟨hv12, h⟩ := h
    refine gx_ast (ws' := w1 o q cy (sA S 5 x5 (rA S 3 (((3 : Int32) * x1) + x5)))) C hG 6 rfl hv12 dX1_arrivalFrom_40 rfl (fun H locs hG => ?_)
    obtain ⟨S13, eS13⟩ : ∃ z : MS, z = sA S 5 x5 (rA S 3 (((3 : Int32) * x1) + x5)) := ⟨_, rfl⟩
    rw [← eS13] at hG
    replace h := h S13 eS13
    obtain ⟨y14, ey14⟩ : ∃ y : Int32, y = x5 + 1 := ⟨_, rfl⟩
    replace h := h y14 ey14
    refine lv_iinc (v := y14) (lv' := [(5, .int y14), (0, .ref o), (1, .int x1), (3, .int x3), (4, .int x4)]) hx hb dX1_arrivalFrom_41 hl (k := 4) rfl (by rw [ey14]; rfl) (by decide) rfl (fun ls hl => ?_)
    refine lv_goto (tgt := 17) hx hb dX1_arrivalFrom_44 (by decide) ?_
    exact hK17 y14 S13 _ _ _ h hG (lv_sub hl [1, 2, 3, 4, 0] rfl)
def w1_arrivalFrom_F17 (x1 : Int32) (x3 : Int32) (x4 : Int32) (Q : Int32 → MS → Prop) (K : Int32 × MS → Prop) (a : Int32 × MS) : Prop := w1_arrivalFrom_d17 (fun y0 y1 => K (y0, y1)) x1 x3 x4 a.1 a.2 Q
def w1_arrivalFrom_b17 (x1 : Int32) (x3 : Int32) (x4 : Int32) (x5 : Int32) (S : MS) (Q : Int32 → MS → Prop) : Prop := lp (w1_arrivalFrom_F17 x1 x3 x4 Q) (x5, S)
set_option maxHeartbeats 4000000 in
set_option maxRecDepth 100000 in
theorem b1_arrivalFrom_b17 {p : Program} {l : Launch} {e : Env} {s : State} {m : MethodId} {args : Array Value} {below : List Frame} {meth : Method} {c : Code} {D : va_G} {cy : Nat → ClassId} {A : Nat → Prop} {o : Nat} {q : Nat → Nat} (x1 : Int32) (x3 : Int32) (x4 : Int32) (x5 : Int32) (S : MS) {Q : Int32 → MS → Prop} (C : Cx p s m args meth c cX1_arrivalFrom 7 (some .int) wsX1_arrivalFrom RX1 D cy nestWs A) (h : w1_arrivalFrom_b17 x1 x3 x4 x5 S Q) {H : Heap} {locs : List Loc} (hG : GW D A s (w1 o q cy S) H locs) {ls : Array Slot} (hl : lv_has ls 7 [(0, .ref o), (1, .int x1), (3, .int x3), (4, .int x4), (5, .int x5)]) : W p l e ({ frames := 3, cells := 0, slots := 0, locals := 64 } : Room) s m args below meth c H locs 0 0 (MQ below (va_Qi Q (B1 D (w1 o q cy) A) A) args s 0 0 A) (F0 m 17 ls []) := by
  obtain ⟨k, hn⟩ := h
  induction k generalizing x5 S H locs ls with
  | zero => exact hn.elim
  | succ k ih => exact b1_arrivalFrom_d17 (K17 := fun y0 y1 => itr (w1_arrivalFrom_F17 x1 x3 x4 Q) k (y0, y1)) x1 x3 x4 x5 S C (fun x5 S H locs ls hk hG hl => ih x5 S hG hl hk) hn hG hl
def w1_arrivalFrom (x1 : Int32) (x2 : Int32) (S : MS) (Q : Int32 → MS → Prop) : Prop :=
  vp_in x1 24 ∧ ∀ y2 : Int32, y2 = (rA S 2 x1) → w1_directionOf y2 x2 (fun r3 => w1_arrivalFrom_b17 x1 y2 r3 (0 : Int32) S Q)
set_option maxHeartbeats 4000000 in
set_option maxRecDepth 100000 in
theorem c1_arrivalFrom (l : Launch) (D : va_G) (cy : Nat → ClassId)  (o : Nat) (q : Nat → Nat) (x1 : Int32) (x2 : Int32) (S : MS) (Q : Int32 → MS → Prop) (h : w1_arrivalFrom x1 x2 S Q) : MetI l yX1_arrivalFrom wsX1_arrivalFrom ({ frames := 3, cells := 0, slots := 0, locals := 64 } : Room) D cy nestWs (w1 o q cy) [.ref o, .int x1, .int x2] S Q := by
  refine MetI.mk RX1 cX1_arrivalFrom 7 .int (by decide) rfl nestWs_ok rfl (Nat.le_of_ble_eq_true rfl) ?_
  intro p e s m below meth c A ls C hG hl
  have hl : lv_has ls 7 [(0, .ref o), (1, .int x1), (2, .int x2)] := hl
  have hx := C.1
  have hb := C.2.1
  unfold w1_arrivalFrom at h
  refine lv_aload_n hx hb dX1_arrivalFrom_0 rfl (lv_at hl 0 rfl) ?_
  refine gx_get C i1_arrivalFrom_X1 hG 0 rfl rfl 2 (by decide) k1_arrivalFrom_18 rfl dX1_arrivalFrom_1 ?_
  refine lv_iload_n hx hb dX1_arrivalFrom_4 rfl (lv_at hl 1 rfl) ?_
  obtain ⟨hv1, h⟩ := h
  refine gx_ald C hG 3 rfl hv1 dX1_arrivalFrom_5 ?_
  refine lv_topi (fun y2 ey2 => ?_)
  replace h := h y2 ey2
  refine lv_istore_n (lv' := [(3, .int y2), (0, .ref o), (1, .int x1), (2, .int x2)]) hx hb dX1_arrivalFrom_6 rfl hl (by decide) rfl (fun ls hl => ?_)
  refine lv_iload_n hx hb dX1_arrivalFrom_7 rfl (lv_at hl 0 rfl) ?_
  refine lv_iload_n hx hb dX1_arrivalFrom_8 rfl (lv_at hl 3 rfl) ?_
  refine callSI (As := [.int y2, .int x2]) (rest := []) C hG (c1_directionOf l D cy y2 x2 _ h) 2 gX1_arrivalFrom_X1_directionOf rfl (by decide +kernel) ⟨⟨Nat.le_of_ble_eq_true rfl, Nat.le_of_ble_eq_true rfl⟩, rfl, rfl⟩ (Foc.none C.2.2.2.2.2.2.2.2.1) rfl hl.1 rfl (Nat.le_of_ble_eq_true rfl) dX1_arrivalFrom_9 ⟨Nat.zero_le _, Nat.zero_le _⟩ (fun r3 z H locs h hG => ?_)
  refine lv_istore (lv' := [(4, .int r3), (3, .int y2), (0, .ref o), (1, .int x1), (2, .int x2)]) hx hb dX1_arrivalFrom_12 hl (by decide) rfl (fun ls hl => ?_)
  refine lv_iconst (v := 0) hx hb dX1_arrivalFrom_14 (by decide) ?_
  refine lv_istore (lv' := [(5, .int (0 : Int32)), (4, .int r3), (3, .int y2), (0, .ref o), (1, .int x1), (2, .int x2)]) hx hb dX1_arrivalFrom_15 hl (by decide) rfl (fun ls hl => ?_)
  exact b1_arrivalFrom_b17 x1 y2 r3 (0 : Int32) S C h hG (lv_sub hl [3, 4, 2, 1, 0] rfl)
-- X1_build
theorem i1_build_X1 : ∀ w ∈ wsX10, w ∈ wsX1_build := fun w h => List.mem_cons_of_mem _ (inG_X1 w h)
theorem k1_build_11 : Cond.fieldLink RX1 11 "PaperBodies$Box" "lengths" "[I" ∈ wsX1_build := (List.mem_cons_of_mem _ mw_43)
theorem k1_build_15 : Cond.fieldLink RX1 15 "PaperBodies$Box" "firstCells" "[I" ∈ wsX1_build := (List.mem_cons_of_mem _ mw_44)
theorem k1_build_24 : Cond.fieldLink RX1 24 "PaperBodies$Box" "leads" "[I" ∈ wsX1_build := (List.mem_cons_of_mem _ mw_47)
theorem k1_build_30 : Cond.fieldLink RX1 30 "PaperBodies$Box" "cells" "I" ∈ wsX1_build := (List.mem_cons_of_mem _ mw_50)
def w1_build_d74 (K62 : Int32 → MS → Prop) (K74 : Int32 → MS → Prop) (x4 : Int32) (x5 : Int32) (S : MS) (Q : MS → Prop) : Prop :=
  (((4 : Int32) ≤ x5 → ∀ y2 : Int32, y2 = x4 + 1 → K62 y2 S) ∧ (¬ (4 : Int32) ≤ x5 → w1_arrivalFrom x4 x5 S (fun r3 S4 => vp_in (((4 : Int32) * x4) + x5) 96 ∧ ∀ S6 : MS, S6 = sA S4 4 (((4 : Int32) * x4) + x5) r3 → ∀ y7 : Int32, y7 = x5 + 1 → K74 y7 S6)))
set_option maxHeartbeats 4000000 in
set_option maxRecDepth 100000 in
theorem b1_build_d74 {p : Program} {l : Launch} {e : Env} {s : State} {m : MethodId} {args : Array Value} {below : List Frame} {meth : Method} {c : Code} {D : va_G} {cy : Nat → ClassId} {A : Nat → Prop} {o : Nat} {q : Nat → Nat} {K62 : Int32 → MS → Prop} {K74 : Int32 → MS → Prop} (x4 : Int32) (x5 : Int32) (S : MS) {Q : MS → Prop} (C : Cx p s m args meth c cX1_build 6 (none) wsX1_build RX1 D cy nestWs A) (hK62 : ∀ (x4 : Int32) (S : MS) (H : Heap) (locs : List Loc) (ls : Array Slot), K62 x4 S → GW D A s (w1 o q cy S) H locs → lv_has ls 6 [(0, .ref o), (4, .int x4)] → W p l e ({ frames := 4, cells := 0, slots := 0, locals := 90 } : Room) s m args below meth c H locs 0 0 (MQ below (va_Qv Q (B1 D (w1 o q cy) A) A) args s 0 0 A) (F0 m 62 ls [])) (hK74 : ∀ (x5 : Int32) (S : MS) (H : Heap) (locs : List Loc) (ls : Array Slot), K74 x5 S → GW D A s (w1 o q cy S) H locs → lv_has ls 6 [(0, .ref o), (4, .int x4), (5, .int x5)] → W p l e ({ frames := 4, cells := 0, slots := 0, locals := 90 } : Room) s m args below meth c H locs 0 0 (MQ below (va_Qv Q (B1 D (w1 o q cy) A) A) args s 0 0 A) (F0 m 74 ls [])) (h : w1_build_d74 K62 K74 x4 x5 S Q) {H : Heap} {locs : List Loc} (hG : GW D A s (w1 o q cy S) H locs) {ls : Array Slot} (hl : lv_has ls 6 [(0, .ref o), (4, .int x4), (5, .int x5)]) : W p l e ({ frames := 4, cells := 0, slots := 0, locals := 90 } : Room) s m args below meth c H locs 0 0 (MQ below (va_Qv Q (B1 D (w1 o q cy) A) A) args s 0 0 A) (F0 m 74 ls []) := by
  have hx := C.1
  have hb := C.2.1
  unfold w1_build_d74 at h
  refine lv_iload hx hb dX1_build_74 (lv_at hl 2 rfl) ?_
  refine lv_iconst (v := 4) hx hb dX1_build_76 (by decide) ?_
  refine lv_icmp_ge (tgt := 106) hx hb dX1_build_77 (by decide) (fun c1 => ?_) (fun c1 => ?_)
  · replace h := h.1 c1
    obtain ⟨y2, ey2⟩ : ∃ y : Int32, y = x4 + 1 := ⟨_, rfl⟩
    replace h := h y2 ey2
    refine lv_iinc (v := y2) (lv' := [(4, .int y2), (0, .ref o), (5, .int x5)]) hx hb dX1_build_106 hl (k := 1) rfl (by rw [ey2]; rfl) (by decide) rfl (fun ls hl => ?_)
    refine lv_goto (tgt := 62) hx hb dX1_build_109 (by decide) ?_
    exact hK62 y2 S _ _ _ h hG (lv_sub hl [1, 0] rfl)
  · replace h := h.2 c1
    refine lv_aload_n hx hb dX1_build_80 rfl (lv_at hl 0 rfl) ?_
    refine gx_get C i1_build_X1 hG 0 rfl rfl 4 (by decide) k1_build_24 rfl dX1_build_81 ?_
    refine lv_iconst (v := 4) hx hb dX1_build_84 (by decide) ?_
    refine lv_iload hx hb dX1_build_85 (lv_at hl 1 rfl) ?_
    refine lv_imul hx hb dX1_build_87 ?_
    refine lv_iload hx hb dX1_build_88 (lv_at hl 2 rfl) ?_
    refine lv_iadd hx hb dX1_build_90 ?_
    refine lv_aload_n hx hb dX1_build_91 rfl (lv_at hl 0 rfl) ?_
    refine lv_iload hx hb dX1_build_92 (lv_at hl 1 rfl) ?_
    refine lv_iload hx hb dX1_build_94 (lv_at hl 2 rfl) ?_
    refine callVI (As := [.int x4, .int x5]) (rest := [.int (((4 : Int32) * x4) + x5), .ref (q 4)]) C hG (c1_arrivalFrom l D cy o q x4 x5 S _ h) 2 gX1_build_X1_arrivalFrom rfl (by decide +kernel) ⟨⟨Nat.le_of_ble_eq_true rfl, Nat.le_of_ble_eq_true rfl⟩, rfl, rfl⟩ rfl rfl (Foc.all C.2.2.2.2.2.2.2.2.1) rfl hl.1 rfl (Nat.le_of_ble_eq_true rfl) dX1_build_96 ⟨Nat.zero_le _, Nat.zero_le _⟩ (fun r3 S4 H locs h hG => ?_)
    have hG : GW D A s (w1 o q cy S4) H locs := hG
    obtain ⟨hv5, h⟩ := h
    refine gx_ast (ws' := w1 o q cy (sA S4 4 (((4 : Int32) * x4) + x5) r3)) C hG 5 rfl hv5 dX1_build_99 rfl (fun H locs hG => ?_)
    obtain ⟨S6, eS6⟩ : ∃ z : MS, z = sA S4 4 (((4 : Int32) * x4) + x5) r3 := ⟨_, rfl⟩
    rw [← eS6] at hG
    replace h := h S6 eS6
    obtain ⟨y7, ey7⟩ : ∃ y : Int32, y = x5 + 1 := ⟨_, rfl⟩
    replace h := h y7 ey7
    refine lv_iinc (v := y7) (lv' := [(5, .int y7), (0, .ref o), (4, .int x4)]) hx hb dX1_build_100 hl (k := 2) rfl (by rw [ey7]; rfl) (by decide) rfl (fun ls hl => ?_)
    refine lv_goto (tgt := 74) hx hb dX1_build_103 (by decide) ?_
    exact hK74 y7 S6 _ _ _ h hG (lv_sub hl [1, 2, 0] rfl)
def w1_build_F74 (K62 : Int32 → MS → Prop) (x4 : Int32) (Q : MS → Prop) (K : Int32 × MS → Prop) (a : Int32 × MS) : Prop := w1_build_d74 K62 (fun y0 y1 => K (y0, y1)) x4 a.1 a.2 Q
def w1_build_b74 (K62 : Int32 → MS → Prop) (x4 : Int32) (x5 : Int32) (S : MS) (Q : MS → Prop) : Prop := lp (w1_build_F74 K62 x4 Q) (x5, S)
set_option maxHeartbeats 4000000 in
set_option maxRecDepth 100000 in
theorem b1_build_b74 {p : Program} {l : Launch} {e : Env} {s : State} {m : MethodId} {args : Array Value} {below : List Frame} {meth : Method} {c : Code} {D : va_G} {cy : Nat → ClassId} {A : Nat → Prop} {o : Nat} {q : Nat → Nat} {K62 : Int32 → MS → Prop} (x4 : Int32) (x5 : Int32) (S : MS) {Q : MS → Prop} (C : Cx p s m args meth c cX1_build 6 (none) wsX1_build RX1 D cy nestWs A) (hK62 : ∀ (x4 : Int32) (S : MS) (H : Heap) (locs : List Loc) (ls : Array Slot), K62 x4 S → GW D A s (w1 o q cy S) H locs → lv_has ls 6 [(0, .ref o), (4, .int x4)] → W p l e ({ frames := 4, cells := 0, slots := 0, locals := 90 } : Room) s m args below meth c H locs 0 0 (MQ below (va_Qv Q (B1 D (w1 o q cy) A) A) args s 0 0 A) (F0 m 62 ls [])) (h : w1_build_b74 K62 x4 x5 S Q) {H : Heap} {locs : List Loc} (hG : GW D A s (w1 o q cy S) H locs) {ls : Array Slot} (hl : lv_has ls 6 [(0, .ref o), (4, .int x4), (5, .int x5)]) : W p l e ({ frames := 4, cells := 0, slots := 0, locals := 90 } : Room) s m args below meth c H locs 0 0 (MQ below (va_Qv Q (B1 D (w1 o q cy) A) A) args s 0 0 A) (F0 m 74 ls []) := by
  obtain ⟨k, hn⟩ := h
  induction k generalizing x5 S H locs ls with
  | zero => exact hn.elim
  | succ k ih => exact b1_build_d74 (K62 := K62) (K74 := fun y0 y1 => itr (w1_build_F74 K62 x4 Q) k (y0, y1)) x4 x5 S C hK62 (fun x5 S H locs ls hk hG hl => ih x5 S hG hl hk) hn hG hl
def w1_build_d62 (K62 : Int32 → MS → Prop) (x4 : Int32) (S : MS) (Q : MS → Prop) : Prop :=
  (((fI S 6) ≤ x4 → Q S) ∧ (¬ (fI S 6) ≤ x4 → w1_build_b74 K62 x4 (0 : Int32) S Q))
set_option maxHeartbeats 4000000 in
set_option maxRecDepth 100000 in
theorem b1_build_d62 {p : Program} {l : Launch} {e : Env} {s : State} {m : MethodId} {args : Array Value} {below : List Frame} {meth : Method} {c : Code} {D : va_G} {cy : Nat → ClassId} {A : Nat → Prop} {o : Nat} {q : Nat → Nat} {K62 : Int32 → MS → Prop} (x4 : Int32) (S : MS) {Q : MS → Prop} (C : Cx p s m args meth c cX1_build 6 (none) wsX1_build RX1 D cy nestWs A) (hK62 : ∀ (x4 : Int32) (S : MS) (H : Heap) (locs : List Loc) (ls : Array Slot), K62 x4 S → GW D A s (w1 o q cy S) H locs → lv_has ls 6 [(0, .ref o), (4, .int x4)] → W p l e ({ frames := 4, cells := 0, slots := 0, locals := 90 } : Room) s m args below meth c H locs 0 0 (MQ below (va_Qv Q (B1 D (w1 o q cy) A) A) args s 0 0 A) (F0 m 62 ls [])) (h : w1_build_d62 K62 x4 S Q) {H : Heap} {locs : List Loc} (hG : GW D A s (w1 o q cy S) H locs) {ls : Array Slot} (hl : lv_has ls 6 [(0, .ref o), (4, .int x4)]) : W p l e ({ frames := 4, cells := 0, slots := 0, locals := 90 } : Room) s m args below meth c H locs 0 0 (MQ below (va_Qv Q (B1 D (w1 o q cy) A) A) args s 0 0 A) (F0 m 62 ls []) := by
  have hx := C.1
  have hb := C.2.1
  unfold w1_build_d62 at h
  refine lv_iload hx hb dX1_build_62 (lv_at hl 1 rfl) ?_
  refine lv_aload_n hx hb dX1_build_64 rfl (lv_at hl 0 rfl) ?_
  refine gx_get C i1_build_X1 hG 0 rfl rfl 6 (by decide) k1_build_30 rfl dX1_build_65 ?_
  refine lv_icmp_ge (tgt := 112) hx hb dX1_build_68 (by decide) (fun c1 => ?_) (fun c1 => ?_)
  · replace h := h.1 c1
    exact retV (w := (w1 o q cy)) (S := S) C hG h dX1_build_112
  · replace h := h.2 c1
    refine lv_iconst (v := 0) hx hb dX1_build_71 (by decide) ?_
    refine lv_istore (lv' := [(5, .int (0 : Int32)), (0, .ref o), (4, .int x4)]) hx hb dX1_build_72 hl (by decide) rfl (fun ls hl => ?_)
    exact b1_build_b74 (K62 := K62) x4 (0 : Int32) S C hK62 h hG (lv_sub hl [1, 2, 0] rfl)
def w1_build_F62 (Q : MS → Prop) (K : Int32 × MS → Prop) (a : Int32 × MS) : Prop := w1_build_d62 (fun y0 y1 => K (y0, y1)) a.1 a.2 Q
def w1_build_b62 (x4 : Int32) (S : MS) (Q : MS → Prop) : Prop := lp (w1_build_F62 Q) (x4, S)
set_option maxHeartbeats 4000000 in
set_option maxRecDepth 100000 in
theorem b1_build_b62 {p : Program} {l : Launch} {e : Env} {s : State} {m : MethodId} {args : Array Value} {below : List Frame} {meth : Method} {c : Code} {D : va_G} {cy : Nat → ClassId} {A : Nat → Prop} {o : Nat} {q : Nat → Nat} (x4 : Int32) (S : MS) {Q : MS → Prop} (C : Cx p s m args meth c cX1_build 6 (none) wsX1_build RX1 D cy nestWs A) (h : w1_build_b62 x4 S Q) {H : Heap} {locs : List Loc} (hG : GW D A s (w1 o q cy S) H locs) {ls : Array Slot} (hl : lv_has ls 6 [(0, .ref o), (4, .int x4)]) : W p l e ({ frames := 4, cells := 0, slots := 0, locals := 90 } : Room) s m args below meth c H locs 0 0 (MQ below (va_Qv Q (B1 D (w1 o q cy) A) A) args s 0 0 A) (F0 m 62 ls []) := by
  obtain ⟨k, hn⟩ := h
  induction k generalizing x4 S H locs ls with
  | zero => exact hn.elim
  | succ k ih => exact b1_build_d62 (K62 := fun y0 y1 => itr (w1_build_F62 Q) k (y0, y1)) x4 S C (fun x4 S H locs ls hk hG hl => ih x4 S hG hl hk) hn hG hl
def w1_build_d29 (K29 : Int32 → MS → Prop) (x4 : Int32) (S : MS) (Q : MS → Prop) : Prop :=
  (((6 : Int32) ≤ x4 → w1_build_b62 (0 : Int32) S Q) ∧ (¬ (6 : Int32) ≤ x4 → vp_in x4 6 ∧ ∀ S3 : MS, S3 = sA S 1 x4 (fI S 6) → w1_numberSide x4 S3 (fun S4 => ∀ y5 : Int32, y5 = x4 + 1 → K29 y5 S4)))
set_option maxHeartbeats 4000000 in
set_option maxRecDepth 100000 in
theorem b1_build_d29 {p : Program} {l : Launch} {e : Env} {s : State} {m : MethodId} {args : Array Value} {below : List Frame} {meth : Method} {c : Code} {D : va_G} {cy : Nat → ClassId} {A : Nat → Prop} {o : Nat} {q : Nat → Nat} {K29 : Int32 → MS → Prop} (x4 : Int32) (S : MS) {Q : MS → Prop} (C : Cx p s m args meth c cX1_build 6 (none) wsX1_build RX1 D cy nestWs A) (hK29 : ∀ (x4 : Int32) (S : MS) (H : Heap) (locs : List Loc) (ls : Array Slot), K29 x4 S → GW D A s (w1 o q cy S) H locs → lv_has ls 6 [(0, .ref o), (4, .int x4)] → W p l e ({ frames := 4, cells := 0, slots := 0, locals := 90 } : Room) s m args below meth c H locs 0 0 (MQ below (va_Qv Q (B1 D (w1 o q cy) A) A) args s 0 0 A) (F0 m 29 ls [])) (h : w1_build_d29 K29 x4 S Q) {H : Heap} {locs : List Loc} (hG : GW D A s (w1 o q cy S) H locs) {ls : Array Slot} (hl : lv_has ls 6 [(0, .ref o), (4, .int x4)]) : W p l e ({ frames := 4, cells := 0, slots := 0, locals := 90 } : Room) s m args below meth c H locs 0 0 (MQ below (va_Qv Q (B1 D (w1 o q cy) A) A) args s 0 0 A) (F0 m 29 ls []) := by
  have hx := C.1
  have hb := C.2.1
  unfold w1_build_d29 at h
  refine lv_iload hx hb dX1_build_29 (lv_at hl 1 rfl) ?_
  refine lv_bipush (v := 6) hx hb dX1_build_31 (by decide) ?_
  refine lv_icmp_ge (tgt := 59) hx hb dX1_build_33 (by decide) (fun c1 => ?_) (fun c1 => ?_)
  · replace h := h.1 c1
    refine lv_iconst (v := 0) hx hb dX1_build_59 (by decide) ?_
    refine lv_istore (lv' := [(4, .int (0 : Int32)), (0, .ref o)]) hx hb dX1_build_60 hl (by decide) rfl (fun ls hl => ?_)
    exact b1_build_b62 (0 : Int32) S C h hG (lv_sub hl [1, 0] rfl)
  · replace h := h.2 c1
    refine lv_aload_n hx hb dX1_build_36 rfl (lv_at hl 0 rfl) ?_
    refine gx_get C i1_build_X1 hG 0 rfl rfl 1 (by decide) k1_build_15 rfl dX1_build_37 ?_
    refine lv_iload hx hb dX1_build_40 (lv_at hl 1 rfl) ?_
    refine lv_aload_n hx hb dX1_build_42 rfl (lv_at hl 0 rfl) ?_
    refine gx_get C i1_build_X1 hG 0 rfl rfl 6 (by decide) k1_build_30 rfl dX1_build_43 ?_
    obtain ⟨hv2, h⟩ := h
    refine gx_ast (ws' := w1 o q cy (sA S 1 x4 (fI S 6))) C hG 2 rfl hv2 dX1_build_46 rfl (fun H locs hG => ?_)
    obtain ⟨S3, eS3⟩ : ∃ z : MS, z = sA S 1 x4 (fI S 6) := ⟨_, rfl⟩
    rw [← eS3] at hG
    replace h := h S3 eS3
    refine lv_aload_n hx hb dX1_build_47 rfl (lv_at hl 0 rfl) ?_
    refine lv_iload hx hb dX1_build_48 (lv_at hl 1 rfl) ?_
    refine callVV (As := [.int x4]) (rest := []) C hG (c1_numberSide l D cy o q x4 S3 _ h) 1 gX1_build_X1_numberSide rfl (by decide +kernel) ⟨⟨Nat.le_of_ble_eq_true rfl, Nat.le_of_ble_eq_true rfl⟩, rfl, rfl⟩ rfl rfl (Foc.all C.2.2.2.2.2.2.2.2.1) rfl hl.1 rfl (Nat.le_of_ble_eq_true rfl) dX1_build_50 ⟨Nat.zero_le _, Nat.zero_le _⟩ (fun  S4 H locs h hG => ?_)
    have hG : GW D A s (w1 o q cy S4) H locs := hG
    obtain ⟨y5, ey5⟩ : ∃ y : Int32, y = x4 + 1 := ⟨_, rfl⟩
    replace h := h y5 ey5
    refine lv_iinc (v := y5) (lv' := [(4, .int y5), (0, .ref o)]) hx hb dX1_build_53 hl (k := 1) rfl (by rw [ey5]; rfl) (by decide) rfl (fun ls hl => ?_)
    refine lv_goto (tgt := 29) hx hb dX1_build_56 (by decide) ?_
    exact hK29 y5 S4 _ _ _ h hG (lv_sub hl [1, 0] rfl)
def w1_build_F29 (Q : MS → Prop) (K : Int32 × MS → Prop) (a : Int32 × MS) : Prop := w1_build_d29 (fun y0 y1 => K (y0, y1)) a.1 a.2 Q
def w1_build_b29 (x4 : Int32) (S : MS) (Q : MS → Prop) : Prop := lp (w1_build_F29 Q) (x4, S)
set_option maxHeartbeats 4000000 in
set_option maxRecDepth 100000 in
theorem b1_build_b29 {p : Program} {l : Launch} {e : Env} {s : State} {m : MethodId} {args : Array Value} {below : List Frame} {meth : Method} {c : Code} {D : va_G} {cy : Nat → ClassId} {A : Nat → Prop} {o : Nat} {q : Nat → Nat} (x4 : Int32) (S : MS) {Q : MS → Prop} (C : Cx p s m args meth c cX1_build 6 (none) wsX1_build RX1 D cy nestWs A) (h : w1_build_b29 x4 S Q) {H : Heap} {locs : List Loc} (hG : GW D A s (w1 o q cy S) H locs) {ls : Array Slot} (hl : lv_has ls 6 [(0, .ref o), (4, .int x4)]) : W p l e ({ frames := 4, cells := 0, slots := 0, locals := 90 } : Room) s m args below meth c H locs 0 0 (MQ below (va_Qv Q (B1 D (w1 o q cy) A) A) args s 0 0 A) (F0 m 29 ls []) := by
  obtain ⟨k, hn⟩ := h
  induction k generalizing x4 S H locs ls with
  | zero => exact hn.elim
  | succ k ih => exact b1_build_d29 (K29 := fun y0 y1 => itr (w1_build_F29 Q) k (y0, y1)) x4 S C (fun x4 S H locs ls hk hG hl => ih x4 S hG hl hk) hn hG hl
def w1_build (x1 : Int32) (x2 : Int32) (x3 : Int32) (S : MS) (Q : MS → Prop) : Prop :=
  ∀ S1 : MS, S1 = sA S 0 (0 : Int32) x1 → ∀ S2 : MS, S2 = sA S1 0 (1 : Int32) x2 → ∀ S3 : MS, S3 = sA S2 0 (2 : Int32) x3 → ∀ S4 : MS, S4 = sI S3 6 (0 : Int32) → w1_build_b29 (0 : Int32) S4 Q
set_option maxHeartbeats 4000000 in
set_option maxRecDepth 100000 in
theorem c1_build (l : Launch) (D : va_G) (cy : Nat → ClassId)  (o : Nat) (q : Nat → Nat) (x1 : Int32) (x2 : Int32) (x3 : Int32) (S : MS) (Q : MS → Prop) (h : w1_build x1 x2 x3 S Q) : MetV l yX1_build wsX1_build ({ frames := 4, cells := 0, slots := 0, locals := 90 } : Room) D cy nestWs (w1 o q cy) [.ref o, .int x1, .int x2, .int x3] S Q := by
  refine MetV.mk RX1 cX1_build 6 (by decide) rfl nestWs_ok rfl (Nat.le_of_ble_eq_true rfl) ?_
  intro p e s m below meth c A ls C hG hl
  have hl : lv_has ls 6 [(0, .ref o), (1, .int x1), (2, .int x2), (3, .int x3)] := hl
  have hx := C.1
  have hb := C.2.1
  unfold w1_build at h
  refine lv_aload_n hx hb dX1_build_0 rfl (lv_at hl 0 rfl) ?_
  refine gx_get C i1_build_X1 hG 0 rfl rfl 0 (by decide) k1_build_11 rfl dX1_build_1 ?_
  refine lv_iconst (v := 0) hx hb dX1_build_4 (by decide) ?_
  refine lv_iload_n hx hb dX1_build_5 rfl (lv_at hl 1 rfl) ?_
  refine gx_ast (ws' := w1 o q cy (sA S 0 (0 : Int32) x1)) C hG 1 rfl (by unfold vp_in; decide) dX1_build_6 rfl (fun H locs hG => ?_)
  obtain ⟨S1, eS1⟩ : ∃ z : MS, z = sA S 0 (0 : Int32) x1 := ⟨_, rfl⟩
  rw [← eS1] at hG
  replace h := h S1 eS1
  refine lv_aload_n hx hb dX1_build_7 rfl (lv_at hl 0 rfl) ?_
  refine gx_get C i1_build_X1 hG 0 rfl rfl 0 (by decide) k1_build_11 rfl dX1_build_8 ?_
  refine lv_iconst (v := 1) hx hb dX1_build_11 (by decide) ?_
  refine lv_iload_n hx hb dX1_build_12 rfl (lv_at hl 2 rfl) ?_
  refine gx_ast (ws' := w1 o q cy (sA S1 0 (1 : Int32) x2)) C hG 1 rfl (by unfold vp_in; decide) dX1_build_13 rfl (fun H locs hG => ?_)
  obtain ⟨S2, eS2⟩ : ∃ z : MS, z = sA S1 0 (1 : Int32) x2 := ⟨_, rfl⟩
  rw [← eS2] at hG
  replace h := h S2 eS2
  refine lv_aload_n hx hb dX1_build_14 rfl (lv_at hl 0 rfl) ?_
  refine gx_get C i1_build_X1 hG 0 rfl rfl 0 (by decide) k1_build_11 rfl dX1_build_15 ?_
  refine lv_iconst (v := 2) hx hb dX1_build_18 (by decide) ?_
  refine lv_iload_n hx hb dX1_build_19 rfl (lv_at hl 3 rfl) ?_
  refine gx_ast (ws' := w1 o q cy (sA S2 0 (2 : Int32) x3)) C hG 1 rfl (by unfold vp_in; decide) dX1_build_20 rfl (fun H locs hG => ?_)
  obtain ⟨S3, eS3⟩ : ∃ z : MS, z = sA S2 0 (2 : Int32) x3 := ⟨_, rfl⟩
  rw [← eS3] at hG
  replace h := h S3 eS3
  refine lv_aload_n hx hb dX1_build_21 rfl (lv_at hl 0 rfl) ?_
  refine lv_iconst (v := 0) hx hb dX1_build_22 (by decide) ?_
  refine gx_put (ty := .int) (ws' := w1 o q cy (sI S3 6 (0 : Int32))) C i1_build_X1 tyX1 tyX1_ok nmX1 hG 0 rfl rfl 6 (by decide) k1_build_30 rfl (by decide +kernel) rfl rfl (Nat.le_of_ble_eq_true rfl) dX1_build_23 rfl (fun H locs hG => ?_)
  obtain ⟨S4, eS4⟩ : ∃ z : MS, z = sI S3 6 (0 : Int32) := ⟨_, rfl⟩
  rw [← eS4] at hG
  replace h := h S4 eS4
  refine lv_iconst (v := 0) hx hb dX1_build_26 (by decide) ?_
  refine lv_istore (lv' := [(4, .int (0 : Int32)), (0, .ref o), (1, .int x1), (2, .int x2), (3, .int x3)]) hx hb dX1_build_27 hl (by decide) rfl (fun ls hl => ?_)
  exact b1_build_b29 (0 : Int32) S4 C h hG (lv_sub hl [1, 0] rfl)
