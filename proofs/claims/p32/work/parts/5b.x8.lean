-- X8_missingCell
def w8_missingCell_b22 (t0 : Int32) (V1 : MS) (Q : Int32 → Prop) : Prop :=
  Q t0
set_option maxHeartbeats 4000000 in
set_option maxRecDepth 100000 in
theorem b8_missingCell_b22 {p : Program} {l : Launch} {e : Env} {s : State} {m : MethodId} {args : Array Value} {below : List Frame} {meth : Method} {c : Code} {D : va_G} {cy : Nat → ClassId} {A : Nat → Prop} {o1 : Nat} {q1 : Nat → Nat} (t0 : Int32) (V1 : MS) {Q : Int32 → Prop} (C : Cx p s m args meth c cX8_missingCell 2 (some .int) wsX8_missingCell RX8 D cy nestWs A) (h : w8_missingCell_b22 t0 V1 Q) {H : Heap} {locs : List Loc} (hG : GW D A s (w1 o1 q1 cy V1) H locs) {ls : Array Slot} (hl : lv_has ls 2 [(0, .ref o1)]) : W p l e ({ frames := 1, cells := 0, slots := 0, locals := 21 } : Room) s m args below meth c H locs 0 0 (MQ below (va_Qi (fun r z => z = V1 ∧ Q r ) (B1 D (w1 o1 q1 cy) A) A) args s 0 0 A) (F0 m 22 ls [.int t0]) := by
  have hx := C.1
  have hb := C.2.1
  unfold w8_missingCell_b22 at h
  exact retI (w := (w1 o1 q1 cy)) (S := V1) C hG ⟨rfl, h⟩ dX8_missingCell_22
def w8_missingCell (x1 : Int32) (V1 : MS) (Q : Int32 → Prop) : Prop :=
  w1_isThere V1 (fun r1 => ((¬ r1 = 0 → w1_hasCell x1 V1 (fun r4 => ((r4 = 0 → w8_missingCell_b22 (2 : Int32) V1 Q) ∧ (¬ r4 = 0 → w8_missingCell_b22 (0 : Int32) V1 Q)))) ∧ (r1 = 0 → Q (1 : Int32))))
set_option maxHeartbeats 4000000 in
set_option maxRecDepth 100000 in
theorem c8_missingCell (l : Launch) (D : va_G) (cy : Nat → ClassId)  (o1 : Nat) (q1 : Nat → Nat) (x1 : Int32) (V1 : MS) (Q : Int32 → Prop) (h : w8_missingCell x1 V1 Q) : MetI l yX8_missingCell wsX8_missingCell ({ frames := 1, cells := 0, slots := 0, locals := 21 } : Room) D cy nestWs (w1 o1 q1 cy) [.ref o1, .int x1] V1 (fun r z => z = V1 ∧ Q r ) := by
  refine MetI.mk RX8 cX8_missingCell 2 .int (by decide) rfl nestWs_ok rfl (Nat.le_of_ble_eq_true rfl) ?_
  intro p e s m below meth c A ls C hG hl
  have hl : lv_has ls 2 [(0, .ref o1), (1, .int x1)] := hl
  have hx := C.1
  have hb := C.2.1
  unfold w8_missingCell at h
  refine lv_aload_n hx hb dX8_missingCell_0 rfl (lv_at hl 0 rfl) ?_
  refine callVI (As := []) (rest := []) C hG (c1_isThere l D cy o1 q1 V1 _ h) 0 gX8_missingCell_X1_isThere rfl (by decide +kernel) ⟨⟨Nat.le_of_ble_eq_true rfl, Nat.le_of_ble_eq_true rfl⟩, rfl, rfl⟩ rfl rfl (Foc.all C.2.2.2.2.2.2.2.2.1) rfl hl.1 rfl (Nat.le_of_ble_eq_true rfl) dX8_missingCell_1 ⟨Nat.zero_le _, Nat.zero_le _⟩ (fun r1 u2 H locs h hG => ?_)
  obtain ⟨eu2, h⟩ := h
  have eu2 : u2 = V1 := eu2
  subst u2
  have hG : GW D A s (w1 o1 q1 cy V1) H locs := hG
  refine lv_if_ne (tgt := 9) hx hb dX8_missingCell_4 (by decide) (fun c3 => ?_) (fun c3 => ?_)
  · replace h := h.1 c3
    refine lv_aload_n hx hb dX8_missingCell_9 rfl (lv_at hl 0 rfl) ?_
    refine lv_iload_n hx hb dX8_missingCell_10 rfl (lv_at hl 1 rfl) ?_
    refine callVI (As := [.int x1]) (rest := []) C hG (c1_hasCell l D cy o1 q1 x1 V1 _ h) 1 gX8_missingCell_X1_hasCell rfl (by decide +kernel) ⟨⟨Nat.le_of_ble_eq_true rfl, Nat.le_of_ble_eq_true rfl⟩, rfl, rfl⟩ rfl rfl (Foc.all C.2.2.2.2.2.2.2.2.1) rfl hl.1 rfl (Nat.le_of_ble_eq_true rfl) dX8_missingCell_11 ⟨Nat.zero_le _, Nat.zero_le _⟩ (fun r4 u5 H locs h hG => ?_)
    obtain ⟨eu5, h⟩ := h
    have eu5 : u5 = V1 := eu5
    subst u5
    have hG : GW D A s (w1 o1 q1 cy V1) H locs := hG
    refine lv_if_eq (tgt := 21) hx hb dX8_missingCell_14 (by decide) (fun c6 => ?_) (fun c6 => ?_)
    · replace h := h.1 c6
      refine lv_iconst (v := 2) hx hb dX8_missingCell_21 (by decide) ?_
      exact b8_missingCell_b22 (2 : Int32) V1 C h hG (lv_sub hl [0] rfl)
    · replace h := h.2 c6
      refine lv_iconst (v := 0) hx hb dX8_missingCell_17 (by decide) ?_
      refine lv_goto (tgt := 22) hx hb dX8_missingCell_18 (by decide) ?_
      exact b8_missingCell_b22 (0 : Int32) V1 C h hG (lv_sub hl [0] rfl)
  · replace h := h.2 c3
    refine lv_iconst (v := 1) hx hb dX8_missingCell_7 (by decide) ?_
    exact retI (w := (w1 o1 q1 cy)) (S := V1) C hG ⟨rfl, h⟩ dX8_missingCell_8
-- X8_cell
theorem i8_cell_X8 : ∀ w ∈ wsX80, w ∈ wsX8_cell := fun w h => List.mem_cons_of_mem _ (inG_X8 w h)
theorem k8_cell_17 : Cond.fieldLink RX8 17 "PaperBodies" "boxes" "[LPaperBodies$Box;" ∈ wsX8_cell := (List.mem_cons_of_mem _ mw_319)
def w8_cell_b72 (t0 : Int32) (Z : MS) (X : (Nat → MS)) (Q : Int32 → MS → Prop) : Prop :=
  Q t0 Z
set_option maxHeartbeats 4000000 in
set_option maxRecDepth 100000 in
theorem b8_cell_b72 {p : Program} {l : Launch} {e : Env} {s : State} {m : MethodId} {args : Array Value} {below : List Frame} {meth : Method} {c : Code} {D : va_G} {cy : Nat → ClassId} {A : Nat → Prop} {o : Nat} {qp oa : Nat → Nat} {qa : Nat → Nat → Nat} (t0 : Int32) (Z : MS) (X : (Nat → MS)) {Q : Int32 → MS → Prop} (C : Cx p s m args meth c cX8_cell 5 (some .int) wsX8_cell RX8 D cy nestWs A) (h : w8_cell_b72 t0 Z X Q) {H : Heap} {locs : List Loc} (hG : GW D A s (wP o qp oa qa cy Z X) H locs) {ls : Array Slot} (hl : lv_has ls 5 [(0, .ref o)]) : W p l e ({ frames := 2, cells := 0, slots := 0, locals := 44 } : Room) s m args below meth c H locs 0 0 (MQ below (va_Qi (fun r z => z.2 = X ∧ Q r z.1) (B1 D (fun z : MS × (Nat → MS) => wP o qp oa qa cy z.1 z.2) A) A) args s 0 0 A) (F0 m 72 ls [.int t0]) := by
  have hx := C.1
  have hb := C.2.1
  unfold w8_cell_b72 at h
  exact retI (w := (fun z : MS × (Nat → MS) => wP o qp oa qa cy z.1 z.2)) (S := (Z, X)) (Qp := (fun r z => z.2 = X ∧ Q r z.1)) C hG ⟨rfl, h⟩ dX8_cell_72
def w8_cell_b16 (Z : MS) (X : (Nat → MS)) (Q : Int32 → MS → Prop) : Prop :=
  Q (-1 : Int32) Z
set_option maxHeartbeats 4000000 in
set_option maxRecDepth 100000 in
theorem b8_cell_b16 {p : Program} {l : Launch} {e : Env} {s : State} {m : MethodId} {args : Array Value} {below : List Frame} {meth : Method} {c : Code} {D : va_G} {cy : Nat → ClassId} {A : Nat → Prop} {o : Nat} {qp oa : Nat → Nat} {qa : Nat → Nat → Nat} (Z : MS) (X : (Nat → MS)) {Q : Int32 → MS → Prop} (C : Cx p s m args meth c cX8_cell 5 (some .int) wsX8_cell RX8 D cy nestWs A) (h : w8_cell_b16 Z X Q) {H : Heap} {locs : List Loc} (hG : GW D A s (wP o qp oa qa cy Z X) H locs) {ls : Array Slot} (hl : lv_has ls 5 [(0, .ref o)]) : W p l e ({ frames := 2, cells := 0, slots := 0, locals := 44 } : Room) s m args below meth c H locs 0 0 (MQ below (va_Qi (fun r z => z.2 = X ∧ Q r z.1) (B1 D (fun z : MS × (Nat → MS) => wP o qp oa qa cy z.1 z.2) A) A) args s 0 0 A) (F0 m 16 ls []) := by
  have hx := C.1
  have hb := C.2.1
  unfold w8_cell_b16 at h
  refine lv_iconst (v := -1) hx hb dX8_cell_16 (by decide) ?_
  exact retI (w := (fun z : MS × (Nat → MS) => wP o qp oa qa cy z.1 z.2)) (S := (Z, X)) (Qp := (fun r z => z.2 = X ∧ Q r z.1)) C hG ⟨rfl, h⟩ dX8_cell_17
def w8_cell (x1 : Int32) (x2 : Int32) (x3 : Int32) (Z : MS) (X : (Nat → MS)) (Q : Int32 → MS → Prop) : Prop :=
  w8_isBox x1 (fun r1 => ((r1 = 0 → w8_cell_b16 Z X Q) ∧ (¬ r1 = 0 → w8_within x3 (0 : Int32) (3 : Int32) (fun r3 => ((¬ r3 = 0 → vp_in x1 4 ∧ (6 ≤ (6 + x1.toNatClampNeg) ∧ (6 + x1.toNatClampNeg) < 10) ∧ w8_missingCell x2 (X (6 + x1.toNatClampNeg)) (fun r6 => ((r6 = 0 → ((¬ x3 = 0 → w1_middleOf x2 (x3 - (1 : Int32)) (X (6 + x1.toNatClampNeg)) (fun r11 => w8_cell_b72 r11 Z X Q)) ∧ (x3 = 0 → w1_sideOf x2 (X (6 + x1.toNatClampNeg)) (fun r13 => w8_cell_b72 r13 Z X Q)))) ∧ (¬ r6 = 0 → w8_refuse r6 Z X (fun r15 S16 => Q r15 S16))))) ∧ (r3 = 0 → w8_cell_b16 Z X Q))))))
set_option maxHeartbeats 4000000 in
set_option maxRecDepth 100000 in
theorem c8_cell (l : Launch) (D : va_G) (cy : Nat → ClassId)  (o : Nat) (qp oa : Nat → Nat) (qa : Nat → Nat → Nat) (x1 : Int32) (x2 : Int32) (x3 : Int32) (Z : MS) (X : (Nat → MS)) (Q : Int32 → MS → Prop) (h : w8_cell x1 x2 x3 Z X Q) : MetI l yX8_cell wsX8_cell ({ frames := 2, cells := 0, slots := 0, locals := 44 } : Room) D cy nestWs (fun z : MS × (Nat → MS) => wP o qp oa qa cy z.1 z.2) [.ref o, .int x1, .int x2, .int x3] (Z, X) (fun r z => z.2 = X ∧ Q r z.1) := by
  refine MetI.mk RX8 cX8_cell 5 .int (by decide) rfl nestWs_ok rfl (Nat.le_of_ble_eq_true rfl) ?_
  intro p e s m below meth c A ls C hG hl
  have hl : lv_has ls 5 [(0, .ref o), (1, .int x1), (2, .int x2), (3, .int x3)] := hl
  have hx := C.1
  have hb := C.2.1
  unfold w8_cell at h
  refine lv_iload_n hx hb dX8_cell_0 rfl (lv_at hl 1 rfl) ?_
  refine callSI (As := [.int x1]) (rest := []) C hG (c8_isBox l D cy x1 _ h) 1 gX8_cell_X8_isBox rfl (by decide +kernel) ⟨⟨Nat.le_of_ble_eq_true rfl, Nat.le_of_ble_eq_true rfl⟩, rfl, rfl⟩ (Foc.none C.2.2.2.2.2.2.2.2.1) rfl hl.1 rfl (Nat.le_of_ble_eq_true rfl) dX8_cell_1 ⟨Nat.zero_le _, Nat.zero_le _⟩ (fun r1 z H locs h hG => ?_)
  refine lv_if_eq (tgt := 16) hx hb dX8_cell_4 (by decide) (fun c2 => ?_) (fun c2 => ?_)
  · replace h := h.1 c2
    exact b8_cell_b16 Z X C h hG (lv_sub hl [0] rfl)
  · replace h := h.2 c2
    refine lv_iload_n hx hb dX8_cell_7 rfl (lv_at hl 3 rfl) ?_
    refine lv_iconst (v := 0) hx hb dX8_cell_8 (by decide) ?_
    refine lv_iconst (v := 3) hx hb dX8_cell_9 (by decide) ?_
    refine callSI (As := [.int x3, .int (0 : Int32), .int (3 : Int32)]) (rest := []) C hG (c8_within l D cy x3 (0 : Int32) (3 : Int32) _ h) 3 gX8_cell_X8_within rfl (by decide +kernel) ⟨⟨Nat.le_of_ble_eq_true rfl, Nat.le_of_ble_eq_true rfl⟩, rfl, rfl⟩ (Foc.none C.2.2.2.2.2.2.2.2.1) rfl hl.1 rfl (Nat.le_of_ble_eq_true rfl) dX8_cell_10 ⟨Nat.zero_le _, Nat.zero_le _⟩ (fun r3 z H locs h hG => ?_)
    refine lv_if_ne (tgt := 18) hx hb dX8_cell_13 (by decide) (fun c4 => ?_) (fun c4 => ?_)
    · replace h := h.1 c4
      refine lv_aload_n hx hb dX8_cell_18 rfl (lv_at hl 0 rfl) ?_
      refine gx_get C i8_cell_X8 hG 0 rfl rfl 1 (by decide) k8_cell_17 rfl dX8_cell_19 ?_
      refine lv_iload_n hx hb dX8_cell_22 rfl (lv_at hl 1 rfl) ?_
      obtain ⟨hv5, h⟩ := h
      refine gx_aald (C' := "PaperBodies$Box") C hG 2 2 rfl rfl hv5 dX8_cell_23 ?_
      refine lv_iload_n hx hb dX8_cell_24 rfl (lv_at hl 2 rfl) ?_
      obtain ⟨hr7, h⟩ := h
      refine callSI (As := [.ref (oa (6 + x1.toNatClampNeg)), .int x2]) (rest := []) C hG (c8_missingCell l D cy (oa (6 + x1.toNatClampNeg)) (qa (6 + x1.toNatClampNeg)) x2 (X (6 + x1.toNatClampNeg)) _ h) 2 gX8_cell_X8_missingCell rfl (by decide +kernel) ⟨⟨Nat.le_of_ble_eq_true rfl, Nat.le_of_ble_eq_true rfl⟩, rfl, rfl⟩ (fo_1 C.2.2.2.2.2.2.2.2.1 (k0 := (6 + x1.toNatClampNeg)) hr7) rfl hl.1 rfl (Nat.le_of_ble_eq_true rfl) dX8_cell_25 ⟨Nat.zero_le _, Nat.zero_le _⟩ (fun r6 u8 H locs h hG => ?_)
      obtain ⟨eu8, h⟩ := h
      have eu8 : u8 = (X (6 + x1.toNatClampNeg)) := eu8
      subst u8
      have hG : GW D A s (wP o qp oa qa cy Z X) H locs := by
        have e9 : (va_up X (6 + x1.toNatClampNeg) (X (6 + x1.toNatClampNeg))) = X := by simp only [up_same]
        have hG : GW D A s (wP o qp oa qa cy Z (va_up X (6 + x1.toNatClampNeg) (X (6 + x1.toNatClampNeg)))) H locs := hG
        rw [e9] at hG
        exact hG
      refine lv_istore (lv' := [(4, .int r6), (0, .ref o), (1, .int x1), (2, .int x2), (3, .int x3)]) hx hb dX8_cell_28 hl (by decide) rfl (fun ls hl => ?_)
      refine lv_iload hx hb dX8_cell_30 (lv_at hl 0 rfl) ?_
      refine lv_if_eq (tgt := 42) hx hb dX8_cell_32 (by decide) (fun c9 => ?_) (fun c9 => ?_)
      · replace h := h.1 c9
        refine lv_iload_n hx hb dX8_cell_42 rfl (lv_at hl 4 rfl) ?_
        refine lv_if_ne (tgt := 59) hx hb dX8_cell_43 (by decide) (fun c10 => ?_) (fun c10 => ?_)
        · replace h := h.1 c10
          refine lv_aload_n hx hb dX8_cell_59 rfl (lv_at hl 1 rfl) ?_
          refine gx_get C i8_cell_X8 hG 0 rfl rfl 1 (by decide) k8_cell_17 rfl dX8_cell_60 ?_
          refine lv_iload_n hx hb dX8_cell_63 rfl (lv_at hl 2 rfl) ?_
          refine gx_aald (C' := "PaperBodies$Box") C hG 2 2 rfl rfl hv5 dX8_cell_64 ?_
          refine lv_iload_n hx hb dX8_cell_65 rfl (lv_at hl 3 rfl) ?_
          refine lv_iload_n hx hb dX8_cell_66 rfl (lv_at hl 4 rfl) ?_
          refine lv_iconst (v := 1) hx hb dX8_cell_67 (by decide) ?_
          refine lv_isub hx hb dX8_cell_68 ?_
          refine callVI (As := [.int x2, .int (x3 - (1 : Int32))]) (rest := []) C hG (c1_middleOf l D cy (oa (6 + x1.toNatClampNeg)) (qa (6 + x1.toNatClampNeg)) x2 (x3 - (1 : Int32)) (X (6 + x1.toNatClampNeg)) _ h) 2 gX8_cell_X1_middleOf rfl (by decide +kernel) ⟨⟨Nat.le_of_ble_eq_true rfl, Nat.le_of_ble_eq_true rfl⟩, rfl, rfl⟩ rfl rfl (fo_1 C.2.2.2.2.2.2.2.2.1 (k0 := (6 + x1.toNatClampNeg)) hr7) rfl hl.1 rfl (Nat.le_of_ble_eq_true rfl) dX8_cell_69 ⟨Nat.zero_le _, Nat.zero_le _⟩ (fun r11 u12 H locs h hG => ?_)
          obtain ⟨eu12, h⟩ := h
          have eu12 : u12 = (X (6 + x1.toNatClampNeg)) := eu12
          subst u12
          have hG : GW D A s (wP o qp oa qa cy Z X) H locs := by
            have e9 : (va_up X (6 + x1.toNatClampNeg) (X (6 + x1.toNatClampNeg))) = X := by simp only [up_same]
            have hG : GW D A s (wP o qp oa qa cy Z (va_up X (6 + x1.toNatClampNeg) (X (6 + x1.toNatClampNeg)))) H locs := hG
            rw [e9] at hG
            exact hG
          exact b8_cell_b72 r11 Z X C h hG (lv_sub hl [1] rfl)
        · replace h := h.2 c10
          refine lv_aload_n hx hb dX8_cell_46 rfl (lv_at hl 1 rfl) ?_
          refine gx_get C i8_cell_X8 hG 0 rfl rfl 1 (by decide) k8_cell_17 rfl dX8_cell_47 ?_
          refine lv_iload_n hx hb dX8_cell_50 rfl (lv_at hl 2 rfl) ?_
          refine gx_aald (C' := "PaperBodies$Box") C hG 2 2 rfl rfl hv5 dX8_cell_51 ?_
          refine lv_iload_n hx hb dX8_cell_52 rfl (lv_at hl 3 rfl) ?_
          refine callVI (As := [.int x2]) (rest := []) C hG (c1_sideOf l D cy (oa (6 + x1.toNatClampNeg)) (qa (6 + x1.toNatClampNeg)) x2 (X (6 + x1.toNatClampNeg)) _ h) 1 gX8_cell_X1_sideOf rfl (by decide +kernel) ⟨⟨Nat.le_of_ble_eq_true rfl, Nat.le_of_ble_eq_true rfl⟩, rfl, rfl⟩ rfl rfl (fo_1 C.2.2.2.2.2.2.2.2.1 (k0 := (6 + x1.toNatClampNeg)) hr7) rfl hl.1 rfl (Nat.le_of_ble_eq_true rfl) dX8_cell_53 ⟨Nat.zero_le _, Nat.zero_le _⟩ (fun r13 u14 H locs h hG => ?_)
          obtain ⟨eu14, h⟩ := h
          have eu14 : u14 = (X (6 + x1.toNatClampNeg)) := eu14
          subst u14
          have hG : GW D A s (wP o qp oa qa cy Z X) H locs := by
            have e9 : (va_up X (6 + x1.toNatClampNeg) (X (6 + x1.toNatClampNeg))) = X := by simp only [up_same]
            have hG : GW D A s (wP o qp oa qa cy Z (va_up X (6 + x1.toNatClampNeg) (X (6 + x1.toNatClampNeg)))) H locs := hG
            rw [e9] at hG
            exact hG
          refine lv_goto (tgt := 72) hx hb dX8_cell_56 (by decide) ?_
          exact b8_cell_b72 r13 Z X C h hG (lv_sub hl [1] rfl)
      · replace h := h.2 c9
        refine lv_aload_n hx hb dX8_cell_35 rfl (lv_at hl 1 rfl) ?_
        refine lv_iload hx hb dX8_cell_36 (lv_at hl 0 rfl) ?_
        refine callVI (As := [.int r6]) (rest := []) C hG (c8_refuse l D cy o qp oa qa r6 Z X _ h) 1 gX8_cell_X8_refuse rfl (by decide +kernel) ⟨⟨Nat.le_of_ble_eq_true rfl, Nat.le_of_ble_eq_true rfl⟩, rfl, rfl⟩ rfl rfl (Foc.all (w' := (fun z : MS × (Nat → MS) => wP o qp oa qa cy z.1 z.2)) (S' := (Z, X)) C.2.2.2.2.2.2.2.2.1) rfl hl.1 rfl (Nat.le_of_ble_eq_true rfl) dX8_cell_38 ⟨Nat.zero_le _, Nat.zero_le _⟩ (fun r15 z H locs h hG => ?_)
        obtain ⟨S16, u17⟩ := z
        obtain ⟨eu17, h⟩ := h
        have eu17 : u17 = X := eu17
        replace h := h
        subst u17
        have hG : GW D A s (wP o qp oa qa cy S16 X) H locs := hG
        exact retI (w := (fun z : MS × (Nat → MS) => wP o qp oa qa cy z.1 z.2)) (S := (S16, X)) (Qp := (fun r z => z.2 = X ∧ Q r z.1)) C hG ⟨rfl, h⟩ dX8_cell_41
    · replace h := h.2 c4
      exact b8_cell_b16 Z X C h hG (lv_sub hl [0] rfl)
-- X8_next
theorem i8_next_X8 : ∀ w ∈ wsX80, w ∈ wsX8_next := fun w h => List.mem_cons_of_mem _ (inG_X8 w h)
theorem k8_next_17 : Cond.fieldLink RX8 17 "PaperBodies" "boxes" "[LPaperBodies$Box;" ∈ wsX8_next := (List.mem_cons_of_mem _ mw_319)
theorem k8_next_147 : Cond.fieldLink RX8 147 "PaperBodies" "latestTold" "J" ∈ wsX8_next := (List.mem_cons_of_mem _ mw_390)
def w8_next_b22 (Z : MS) (X : (Nat → MS)) (Q : Int32 → MS → Prop) : Prop :=
  Q (-1 : Int32) Z
set_option maxHeartbeats 4000000 in
set_option maxRecDepth 100000 in
theorem b8_next_b22 {p : Program} {l : Launch} {e : Env} {s : State} {m : MethodId} {args : Array Value} {below : List Frame} {meth : Method} {c : Code} {D : va_G} {cy : Nat → ClassId} {A : Nat → Prop} {o : Nat} {qp oa : Nat → Nat} {qa : Nat → Nat → Nat} (Z : MS) (X : (Nat → MS)) {Q : Int32 → MS → Prop} (C : Cx p s m args meth c cX8_next 7 (some .int) wsX8_next RX8 D cy nestWs A) (h : w8_next_b22 Z X Q) {H : Heap} {locs : List Loc} (hG : GW D A s (wP o qp oa qa cy Z X) H locs) {ls : Array Slot} (hl : lv_has ls 7 [(0, .ref o)]) : W p l e ({ frames := 2, cells := 0, slots := 0, locals := 46 } : Room) s m args below meth c H locs 0 0 (MQ below (va_Qi (fun r z => z.2 = X ∧ Q r z.1) (B1 D (fun z : MS × (Nat → MS) => wP o qp oa qa cy z.1 z.2) A) A) args s 0 0 A) (F0 m 22 ls []) := by
  have hx := C.1
  have hb := C.2.1
  unfold w8_next_b22 at h
  refine lv_iconst (v := -1) hx hb dX8_next_22 (by decide) ?_
  exact retI (w := (fun z : MS × (Nat → MS) => wP o qp oa qa cy z.1 z.2)) (S := (Z, X)) (Qp := (fun r z => z.2 = X ∧ Q r z.1)) C hG ⟨rfl, h⟩ dX8_next_23
def w8_next (x1 : Int32) (x2 : Int32) (x3 : Int32) (x4 : Int32) (Z : MS) (X : (Nat → MS)) (Q : Int32 → MS → Prop) : Prop :=
  w8_isBox x1 (fun r1 => ((r1 = 0 → w8_next_b22 Z X Q) ∧ (¬ r1 = 0 → w8_isQuarter x3 (fun r3 => ((r3 = 0 → w8_next_b22 Z X Q) ∧ (¬ r3 = 0 → w8_isQuarter x4 (fun r5 => ((¬ r5 = 0 → vp_in x1 4 ∧ (6 ≤ (6 + x1.toNatClampNeg) ∧ (6 + x1.toNatClampNeg) < 10) ∧ w8_missingCell x2 (X (6 + x1.toNatClampNeg)) (fun r8 => ((r8 = 0 → w8_frameOf x2 x3 (fun r12 => w1_leadsTo r12 x4 (X (6 + x1.toNatClampNeg)) (fun r13 => ∀ S15 : MS, S15 = sJ Z 11 (r13 &&& (3 : Int32)).toInt64 → Q (r13 >>> ((2 : Int32) &&& 31)) S15))) ∧ (¬ r8 = 0 → w8_refuse r8 Z X (fun r16 S17 => Q r16 S17))))) ∧ (r5 = 0 → w8_next_b22 Z X Q)))))))))
set_option maxHeartbeats 4000000 in
set_option maxRecDepth 100000 in
theorem c8_next (l : Launch) (D : va_G) (cy : Nat → ClassId)  (o : Nat) (qp oa : Nat → Nat) (qa : Nat → Nat → Nat) (x1 : Int32) (x2 : Int32) (x3 : Int32) (x4 : Int32) (Z : MS) (X : (Nat → MS)) (Q : Int32 → MS → Prop) (h : w8_next x1 x2 x3 x4 Z X Q) : MetI l yX8_next wsX8_next ({ frames := 2, cells := 0, slots := 0, locals := 46 } : Room) D cy nestWs (fun z : MS × (Nat → MS) => wP o qp oa qa cy z.1 z.2) [.ref o, .int x1, .int x2, .int x3, .int x4] (Z, X) (fun r z => z.2 = X ∧ Q r z.1) := by
  refine MetI.mk RX8 cX8_next 7 .int (by decide) rfl nestWs_ok rfl (Nat.le_of_ble_eq_true rfl) ?_
  intro p e s m below meth c A ls C hG hl
  have hl : lv_has ls 7 [(0, .ref o), (1, .int x1), (2, .int x2), (3, .int x3), (4, .int x4)] := hl
  have hx := C.1
  have hb := C.2.1
  unfold w8_next at h
  refine lv_iload_n hx hb dX8_next_0 rfl (lv_at hl 1 rfl) ?_
  refine callSI (As := [.int x1]) (rest := []) C hG (c8_isBox l D cy x1 _ h) 1 gX8_next_X8_isBox rfl (by decide +kernel) ⟨⟨Nat.le_of_ble_eq_true rfl, Nat.le_of_ble_eq_true rfl⟩, rfl, rfl⟩ (Foc.none C.2.2.2.2.2.2.2.2.1) rfl hl.1 rfl (Nat.le_of_ble_eq_true rfl) dX8_next_1 ⟨Nat.zero_le _, Nat.zero_le _⟩ (fun r1 z H locs h hG => ?_)
  refine lv_if_eq (tgt := 22) hx hb dX8_next_4 (by decide) (fun c2 => ?_) (fun c2 => ?_)
  · replace h := h.1 c2
    exact b8_next_b22 Z X C h hG (lv_sub hl [0] rfl)
  · replace h := h.2 c2
    refine lv_iload_n hx hb dX8_next_7 rfl (lv_at hl 3 rfl) ?_
    refine callSI (As := [.int x3]) (rest := []) C hG (c8_isQuarter l D cy x3 _ h) 1 gX8_next_X8_isQuarter rfl (by decide +kernel) ⟨⟨Nat.le_of_ble_eq_true rfl, Nat.le_of_ble_eq_true rfl⟩, rfl, rfl⟩ (Foc.none C.2.2.2.2.2.2.2.2.1) rfl hl.1 rfl (Nat.le_of_ble_eq_true rfl) dX8_next_8 ⟨Nat.zero_le _, Nat.zero_le _⟩ (fun r3 z H locs h hG => ?_)
    refine lv_if_eq (tgt := 22) hx hb dX8_next_11 (by decide) (fun c4 => ?_) (fun c4 => ?_)
    · replace h := h.1 c4
      exact b8_next_b22 Z X C h hG (lv_sub hl [0] rfl)
    · replace h := h.2 c4
      refine lv_iload hx hb dX8_next_14 (lv_at hl 4 rfl) ?_
      refine callSI (As := [.int x4]) (rest := []) C hG (c8_isQuarter l D cy x4 _ h) 1 gX8_next_X8_isQuarter rfl (by decide +kernel) ⟨⟨Nat.le_of_ble_eq_true rfl, Nat.le_of_ble_eq_true rfl⟩, rfl, rfl⟩ (Foc.none C.2.2.2.2.2.2.2.2.1) rfl hl.1 rfl (Nat.le_of_ble_eq_true rfl) dX8_next_16 ⟨Nat.zero_le _, Nat.zero_le _⟩ (fun r5 z H locs h hG => ?_)
      refine lv_if_ne (tgt := 24) hx hb dX8_next_19 (by decide) (fun c6 => ?_) (fun c6 => ?_)
      · replace h := h.1 c6
        refine lv_aload_n hx hb dX8_next_24 rfl (lv_at hl 0 rfl) ?_
        refine gx_get C i8_next_X8 hG 0 rfl rfl 1 (by decide) k8_next_17 rfl dX8_next_25 ?_
        refine lv_iload_n hx hb dX8_next_28 rfl (lv_at hl 1 rfl) ?_
        obtain ⟨hv7, h⟩ := h
        refine gx_aald (C' := "PaperBodies$Box") C hG 2 2 rfl rfl hv7 dX8_next_29 ?_
        refine lv_iload_n hx hb dX8_next_30 rfl (lv_at hl 2 rfl) ?_
        obtain ⟨hr9, h⟩ := h
        refine callSI (As := [.ref (oa (6 + x1.toNatClampNeg)), .int x2]) (rest := []) C hG (c8_missingCell l D cy (oa (6 + x1.toNatClampNeg)) (qa (6 + x1.toNatClampNeg)) x2 (X (6 + x1.toNatClampNeg)) _ h) 2 gX8_next_X8_missingCell rfl (by decide +kernel) ⟨⟨Nat.le_of_ble_eq_true rfl, Nat.le_of_ble_eq_true rfl⟩, rfl, rfl⟩ (fo_1 C.2.2.2.2.2.2.2.2.1 (k0 := (6 + x1.toNatClampNeg)) hr9) rfl hl.1 rfl (Nat.le_of_ble_eq_true rfl) dX8_next_31 ⟨Nat.zero_le _, Nat.zero_le _⟩ (fun r8 u10 H locs h hG => ?_)
        obtain ⟨eu10, h⟩ := h
        have eu10 : u10 = (X (6 + x1.toNatClampNeg)) := eu10
        subst u10
        have hG : GW D A s (wP o qp oa qa cy Z X) H locs := by
          have e9 : (va_up X (6 + x1.toNatClampNeg) (X (6 + x1.toNatClampNeg))) = X := by simp only [up_same]
          have hG : GW D A s (wP o qp oa qa cy Z (va_up X (6 + x1.toNatClampNeg) (X (6 + x1.toNatClampNeg)))) H locs := hG
          rw [e9] at hG
          exact hG
        refine lv_istore (lv' := [(5, .int r8), (0, .ref o), (1, .int x1), (2, .int x2), (3, .int x3), (4, .int x4)]) hx hb dX8_next_34 hl (by decide) rfl (fun ls hl => ?_)
        refine lv_iload hx hb dX8_next_36 (lv_at hl 0 rfl) ?_
        refine lv_if_eq (tgt := 48) hx hb dX8_next_38 (by decide) (fun c11 => ?_) (fun c11 => ?_)
        · replace h := h.1 c11
          refine lv_aload_n hx hb dX8_next_48 rfl (lv_at hl 1 rfl) ?_
          refine gx_get C i8_next_X8 hG 0 rfl rfl 1 (by decide) k8_next_17 rfl dX8_next_49 ?_
          refine lv_iload_n hx hb dX8_next_52 rfl (lv_at hl 2 rfl) ?_
          refine gx_aald (C' := "PaperBodies$Box") C hG 2 2 rfl rfl hv7 dX8_next_53 ?_
          refine lv_iload_n hx hb dX8_next_54 rfl (lv_at hl 3 rfl) ?_
          refine lv_iload_n hx hb dX8_next_55 rfl (lv_at hl 4 rfl) ?_
          refine callSI (As := [.int x2, .int x3]) (rest := [.ref (oa (6 + x1.toNatClampNeg))]) C hG (c8_frameOf l D cy x2 x3 _ h) 2 gX8_next_X8_frameOf rfl (by decide +kernel) ⟨⟨Nat.le_of_ble_eq_true rfl, Nat.le_of_ble_eq_true rfl⟩, rfl, rfl⟩ (Foc.none C.2.2.2.2.2.2.2.2.1) rfl hl.1 rfl (Nat.le_of_ble_eq_true rfl) dX8_next_56 ⟨Nat.zero_le _, Nat.zero_le _⟩ (fun r12 z H locs h hG => ?_)
          refine lv_iload hx hb dX8_next_59 (lv_at hl 5 rfl) ?_
          refine callVI (As := [.int r12, .int x4]) (rest := []) C hG (c1_leadsTo l D cy (oa (6 + x1.toNatClampNeg)) (qa (6 + x1.toNatClampNeg)) r12 x4 (X (6 + x1.toNatClampNeg)) _ h) 2 gX8_next_X1_leadsTo rfl (by decide +kernel) ⟨⟨Nat.le_of_ble_eq_true rfl, Nat.le_of_ble_eq_true rfl⟩, rfl, rfl⟩ rfl rfl (fo_1 C.2.2.2.2.2.2.2.2.1 (k0 := (6 + x1.toNatClampNeg)) hr9) rfl hl.1 rfl (Nat.le_of_ble_eq_true rfl) dX8_next_61 ⟨Nat.zero_le _, Nat.zero_le _⟩ (fun r13 u14 H locs h hG => ?_)
          obtain ⟨eu14, h⟩ := h
          have eu14 : u14 = (X (6 + x1.toNatClampNeg)) := eu14
          subst u14
          have hG : GW D A s (wP o qp oa qa cy Z X) H locs := by
            have e9 : (va_up X (6 + x1.toNatClampNeg) (X (6 + x1.toNatClampNeg))) = X := by simp only [up_same]
            have hG : GW D A s (wP o qp oa qa cy Z (va_up X (6 + x1.toNatClampNeg) (X (6 + x1.toNatClampNeg)))) H locs := hG
            rw [e9] at hG
            exact hG
          refine lv_istore (lv' := [(6, .int r13), (5, .int r8), (0, .ref o), (1, .int x1), (2, .int x2), (3, .int x3), (4, .int x4)]) hx hb dX8_next_64 hl (by decide) rfl (fun ls hl => ?_)
          refine lv_aload_n hx hb dX8_next_66 rfl (lv_at hl 2 rfl) ?_
          refine lv_iload hx hb dX8_next_67 (lv_at hl 0 rfl) ?_
          refine lv_iconst (v := 3) hx hb dX8_next_69 (by decide) ?_
          refine lv_iand hx hb dX8_next_70 ?_
          refine lv_i2l hx hb dX8_next_71 rfl ?_
          refine gx_put (ty := .long) (ws' := wP o qp oa qa cy (sJ Z 11 (r13 &&& (3 : Int32)).toInt64) X) C i8_next_X8 tyX8 tyX8_ok nmX8 hG 0 rfl rfl 11 (by decide) k8_next_147 rfl (by decide +kernel) rfl rfl (Nat.le_of_ble_eq_true rfl) dX8_next_72 rfl (fun H locs hG => ?_)
          obtain ⟨S15, eS15⟩ : ∃ z : MS, z = sJ Z 11 (r13 &&& (3 : Int32)).toInt64 := ⟨_, rfl⟩
          rw [← eS15] at hG
          replace h := h S15 eS15
          refine lv_iload hx hb dX8_next_75 (lv_at hl 0 rfl) ?_
          refine lv_iconst (v := 2) hx hb dX8_next_77 (by decide) ?_
          refine lv_ishr hx hb dX8_next_78 ?_
          exact retI (w := (fun z : MS × (Nat → MS) => wP o qp oa qa cy z.1 z.2)) (S := (S15, X)) (Qp := (fun r z => z.2 = X ∧ Q r z.1)) C hG ⟨rfl, h⟩ dX8_next_79
        · replace h := h.2 c11
          refine lv_aload_n hx hb dX8_next_41 rfl (lv_at hl 1 rfl) ?_
          refine lv_iload hx hb dX8_next_42 (lv_at hl 0 rfl) ?_
          refine callVI (As := [.int r8]) (rest := []) C hG (c8_refuse l D cy o qp oa qa r8 Z X _ h) 1 gX8_next_X8_refuse rfl (by decide +kernel) ⟨⟨Nat.le_of_ble_eq_true rfl, Nat.le_of_ble_eq_true rfl⟩, rfl, rfl⟩ rfl rfl (Foc.all (w' := (fun z : MS × (Nat → MS) => wP o qp oa qa cy z.1 z.2)) (S' := (Z, X)) C.2.2.2.2.2.2.2.2.1) rfl hl.1 rfl (Nat.le_of_ble_eq_true rfl) dX8_next_44 ⟨Nat.zero_le _, Nat.zero_le _⟩ (fun r16 z H locs h hG => ?_)
          obtain ⟨S17, u18⟩ := z
          obtain ⟨eu18, h⟩ := h
          have eu18 : u18 = X := eu18
          replace h := h
          subst u18
          have hG : GW D A s (wP o qp oa qa cy S17 X) H locs := hG
          exact retI (w := (fun z : MS × (Nat → MS) => wP o qp oa qa cy z.1 z.2)) (S := (S17, X)) (Qp := (fun r z => z.2 = X ∧ Q r z.1)) C hG ⟨rfl, h⟩ dX8_next_47
      · replace h := h.2 c6
        exact b8_next_b22 Z X C h hG (lv_sub hl [0] rfl)
-- X8_missingToFold
theorem i8_missingToFold_X8 : ∀ w ∈ wsX80, w ∈ wsX8_missingToFold := fun w h => List.mem_cons_of_mem _ (inG_X8 w h)
theorem k8_missingToFold_11 : Cond.fieldLink RX8 11 "PaperBodies" "figures" "[LPaperBodies$Figure;" ∈ wsX8_missingToFold := (List.mem_cons_of_mem _ mw_317)
theorem k8_missingToFold_17 : Cond.fieldLink RX8 17 "PaperBodies" "boxes" "[LPaperBodies$Box;" ∈ wsX8_missingToFold := (List.mem_cons_of_mem _ mw_319)
def w8_missingToFold_b26 (t0 : Int32) (Z : MS) (X : (Nat → MS)) (Q : Int32 → Prop) : Prop :=
  Q t0
set_option maxHeartbeats 4000000 in
set_option maxRecDepth 100000 in
theorem b8_missingToFold_b26 {p : Program} {l : Launch} {e : Env} {s : State} {m : MethodId} {args : Array Value} {below : List Frame} {meth : Method} {c : Code} {D : va_G} {cy : Nat → ClassId} {A : Nat → Prop} {o : Nat} {qp oa : Nat → Nat} {qa : Nat → Nat → Nat} (t0 : Int32) (Z : MS) (X : (Nat → MS)) {Q : Int32 → Prop} (C : Cx p s m args meth c cX8_missingToFold 4 (some .int) wsX8_missingToFold RX8 D cy nestWs A) (h : w8_missingToFold_b26 t0 Z X Q) {H : Heap} {locs : List Loc} (hG : GW D A s (wP o qp oa qa cy Z X) H locs) {ls : Array Slot} (hl : lv_has ls 4 [(0, .ref o)]) : W p l e ({ frames := 2, cells := 0, slots := 0, locals := 42 } : Room) s m args below meth c H locs 0 0 (MQ below (va_Qi (fun r z => z.1 = Z ∧ z.2 = X ∧ Q r ) (B1 D (fun z : MS × (Nat → MS) => wP o qp oa qa cy z.1 z.2) A) A) args s 0 0 A) (F0 m 26 ls [.int t0]) := by
  have hx := C.1
  have hb := C.2.1
  unfold w8_missingToFold_b26 at h
  exact retI (w := (fun z : MS × (Nat → MS) => wP o qp oa qa cy z.1 z.2)) (S := (Z, X)) (Qp := (fun r z => z.1 = Z ∧ z.2 = X ∧ Q r )) C hG ⟨rfl, rfl, h⟩ dX8_missingToFold_26
def w8_missingToFold (x1 : Int32) (x2 : Int32) (x3 : Int32) (Z : MS) (X : (Nat → MS)) (Q : Int32 → Prop) : Prop :=
  vp_in x1 6 ∧ (0 ≤ (x1.toNatClampNeg) ∧ (x1.toNatClampNeg) < 6) ∧ w2_isThere (X (x1.toNatClampNeg)) (fun r2 => ((r2 = 0 → w8_missingToFold_b26 (1 : Int32) Z X Q) ∧ (¬ r2 = 0 → vp_in x2 4 ∧ (6 ≤ (6 + x2.toNatClampNeg) ∧ (6 + x2.toNatClampNeg) < 10) ∧ w8_missingCell x3 (X (6 + x2.toNatClampNeg)) (fun r7 => w8_missingToFold_b26 r7 Z X Q))))
set_option maxHeartbeats 4000000 in
set_option maxRecDepth 100000 in
theorem c8_missingToFold (l : Launch) (D : va_G) (cy : Nat → ClassId)  (o : Nat) (qp oa : Nat → Nat) (qa : Nat → Nat → Nat) (x1 : Int32) (x2 : Int32) (x3 : Int32) (Z : MS) (X : (Nat → MS)) (Q : Int32 → Prop) (h : w8_missingToFold x1 x2 x3 Z X Q) : MetI l yX8_missingToFold wsX8_missingToFold ({ frames := 2, cells := 0, slots := 0, locals := 42 } : Room) D cy nestWs (fun z : MS × (Nat → MS) => wP o qp oa qa cy z.1 z.2) [.ref o, .int x1, .int x2, .int x3] (Z, X) (fun r z => z.1 = Z ∧ z.2 = X ∧ Q r ) := by
  refine MetI.mk RX8 cX8_missingToFold 4 .int (by decide) rfl nestWs_ok rfl (Nat.le_of_ble_eq_true rfl) ?_
  intro p e s m below meth c A ls C hG hl
  have hl : lv_has ls 4 [(0, .ref o), (1, .int x1), (2, .int x2), (3, .int x3)] := hl
  have hx := C.1
  have hb := C.2.1
  unfold w8_missingToFold at h
  refine lv_aload_n hx hb dX8_missingToFold_0 rfl (lv_at hl 0 rfl) ?_
  refine gx_get C i8_missingToFold_X8 hG 0 rfl rfl 0 (by decide) k8_missingToFold_11 rfl dX8_missingToFold_1 ?_
  refine lv_iload_n hx hb dX8_missingToFold_4 rfl (lv_at hl 1 rfl) ?_
  obtain ⟨hv1, h⟩ := h
  refine gx_aald (C' := "PaperBodies$Figure") C hG 1 3 rfl rfl hv1 dX8_missingToFold_5 ?_
  obtain ⟨hr3, h⟩ := h
  refine callVI (As := []) (rest := []) C hG (c2_isThere l D cy (oa (x1.toNatClampNeg)) (qa (x1.toNatClampNeg)) (X (x1.toNatClampNeg)) _ h) 0 gX8_missingToFold_X2_isThere rfl (by decide +kernel) ⟨⟨Nat.le_of_ble_eq_true rfl, Nat.le_of_ble_eq_true rfl⟩, rfl, rfl⟩ rfl rfl (fo_2 C.2.2.2.2.2.2.2.2.1 (k0 := (x1.toNatClampNeg)) hr3) rfl hl.1 rfl (Nat.le_of_ble_eq_true rfl) dX8_missingToFold_6 ⟨Nat.zero_le _, Nat.zero_le _⟩ (fun r2 u4 H locs h hG => ?_)
  obtain ⟨eu4, h⟩ := h
  have eu4 : u4 = (X (x1.toNatClampNeg)) := eu4
  subst u4
  have hG : GW D A s (wP o qp oa qa cy Z X) H locs := by
    have e9 : (va_up X (x1.toNatClampNeg) (X (x1.toNatClampNeg))) = X := by simp only [up_same]
    have hG : GW D A s (wP o qp oa qa cy Z (va_up X (x1.toNatClampNeg) (X (x1.toNatClampNeg)))) H locs := hG
    rw [e9] at hG
    exact hG
  refine lv_if_eq (tgt := 25) hx hb dX8_missingToFold_9 (by decide) (fun c5 => ?_) (fun c5 => ?_)
  · replace h := h.1 c5
    refine lv_iconst (v := 1) hx hb dX8_missingToFold_25 (by decide) ?_
    exact b8_missingToFold_b26 (1 : Int32) Z X C h hG (lv_sub hl [0] rfl)
  · replace h := h.2 c5
    refine lv_aload_n hx hb dX8_missingToFold_12 rfl (lv_at hl 0 rfl) ?_
    refine gx_get C i8_missingToFold_X8 hG 0 rfl rfl 1 (by decide) k8_missingToFold_17 rfl dX8_missingToFold_13 ?_
    refine lv_iload_n hx hb dX8_missingToFold_16 rfl (lv_at hl 2 rfl) ?_
    obtain ⟨hv6, h⟩ := h
    refine gx_aald (C' := "PaperBodies$Box") C hG 2 2 rfl rfl hv6 dX8_missingToFold_17 ?_
    refine lv_iload_n hx hb dX8_missingToFold_18 rfl (lv_at hl 3 rfl) ?_
    obtain ⟨hr8, h⟩ := h
    refine callSI (As := [.ref (oa (6 + x2.toNatClampNeg)), .int x3]) (rest := []) C hG (c8_missingCell l D cy (oa (6 + x2.toNatClampNeg)) (qa (6 + x2.toNatClampNeg)) x3 (X (6 + x2.toNatClampNeg)) _ h) 2 gX8_missingToFold_X8_missingCell rfl (by decide +kernel) ⟨⟨Nat.le_of_ble_eq_true rfl, Nat.le_of_ble_eq_true rfl⟩, rfl, rfl⟩ (fo_1 C.2.2.2.2.2.2.2.2.1 (k0 := (6 + x2.toNatClampNeg)) hr8) rfl hl.1 rfl (Nat.le_of_ble_eq_true rfl) dX8_missingToFold_19 ⟨Nat.zero_le _, Nat.zero_le _⟩ (fun r7 u9 H locs h hG => ?_)
    obtain ⟨eu9, h⟩ := h
    have eu9 : u9 = (X (6 + x2.toNatClampNeg)) := eu9
    subst u9
    have hG : GW D A s (wP o qp oa qa cy Z X) H locs := by
      have e9 : (va_up X (6 + x2.toNatClampNeg) (X (6 + x2.toNatClampNeg))) = X := by simp only [up_same]
      have hG : GW D A s (wP o qp oa qa cy Z (va_up X (6 + x2.toNatClampNeg) (X (6 + x2.toNatClampNeg)))) H locs := hG
      rw [e9] at hG
      exact hG
    refine lv_goto (tgt := 26) hx hb dX8_missingToFold_22 (by decide) ?_
    exact b8_missingToFold_b26 r7 Z X C h hG (lv_sub hl [0] rfl)
-- X8_folds
theorem i8_folds_X8 : ∀ w ∈ wsX80, w ∈ wsX8_folds := fun w h => List.mem_cons_of_mem _ (inG_X8 w h)
theorem i8_folds_X6 : ∀ w ∈ wsX60, w ∈ wsX8_folds := fun w h => List.mem_cons_of_mem _ (inG_X6 w h)
theorem i8_folds_X2 : ∀ w ∈ wsX20, w ∈ wsX8_folds := fun w h => List.mem_cons_of_mem _ (inG_X2 w h)
theorem i8_folds_X1 : ∀ w ∈ wsX10, w ∈ wsX8_folds := fun w h => List.mem_cons_of_mem _ (inG_X1 w h)
theorem k8_folds_11 : Cond.fieldLink RX8 11 "PaperBodies" "figures" "[LPaperBodies$Figure;" ∈ wsX8_folds := (List.mem_cons_of_mem _ mw_317)
theorem k8_folds_17 : Cond.fieldLink RX8 17 "PaperBodies" "boxes" "[LPaperBodies$Box;" ∈ wsX8_folds := (List.mem_cons_of_mem _ mw_319)
theorem k8_folds_35 : Cond.fieldLink RX8 35 "PaperBodies" "folded" "LPaperBodies$Sheet;" ∈ wsX8_folds := (List.mem_cons_of_mem _ mw_326)
def w8_folds_b102 (t0 : Int32) (Z : MS) (X : (Nat → MS)) (Q : Int32 → MS → (Nat → MS) → Prop) : Prop :=
  Q t0 Z X
set_option maxHeartbeats 4000000 in
set_option maxRecDepth 100000 in
theorem b8_folds_b102 {p : Program} {l : Launch} {e : Env} {s : State} {m : MethodId} {args : Array Value} {below : List Frame} {meth : Method} {c : Code} {D : va_G} {cy : Nat → ClassId} {A : Nat → Prop} {o : Nat} {qp oa : Nat → Nat} {qa : Nat → Nat → Nat} (t0 : Int32) (Z : MS) (X : (Nat → MS)) {Q : Int32 → MS → (Nat → MS) → Prop} (C : Cx p s m args meth c cX8_folds 6 (some .int) wsX8_folds RX8 D cy nestWs A) (h : w8_folds_b102 t0 Z X Q) {H : Heap} {locs : List Loc} (hG : GW D A s (wP o qp oa qa cy Z X) H locs) {ls : Array Slot} (hl : lv_has ls 6 [(0, .ref o)]) : W p l e ({ frames := 4, cells := 0, slots := 0, locals := 100 } : Room) s m args below meth c H locs 0 0 (MQ below (va_Qi (fun r z => Q r z.1 z.2) (B1 D (fun z : MS × (Nat → MS) => wP o qp oa qa cy z.1 z.2) A) A) args s 0 0 A) (F0 m 102 ls [.int t0]) := by
  have hx := C.1
  have hb := C.2.1
  unfold w8_folds_b102 at h
  exact retI (w := (fun z : MS × (Nat → MS) => wP o qp oa qa cy z.1 z.2)) (S := (Z, X)) (Qp := (fun r z => Q r z.1 z.2)) C hG h dX8_folds_102
def w8_folds_b22 (Z : MS) (X : (Nat → MS)) (Q : Int32 → MS → (Nat → MS) → Prop) : Prop :=
  Q (-1 : Int32) Z X
set_option maxHeartbeats 4000000 in
set_option maxRecDepth 100000 in
theorem b8_folds_b22 {p : Program} {l : Launch} {e : Env} {s : State} {m : MethodId} {args : Array Value} {below : List Frame} {meth : Method} {c : Code} {D : va_G} {cy : Nat → ClassId} {A : Nat → Prop} {o : Nat} {qp oa : Nat → Nat} {qa : Nat → Nat → Nat} (Z : MS) (X : (Nat → MS)) {Q : Int32 → MS → (Nat → MS) → Prop} (C : Cx p s m args meth c cX8_folds 6 (some .int) wsX8_folds RX8 D cy nestWs A) (h : w8_folds_b22 Z X Q) {H : Heap} {locs : List Loc} (hG : GW D A s (wP o qp oa qa cy Z X) H locs) {ls : Array Slot} (hl : lv_has ls 6 [(0, .ref o)]) : W p l e ({ frames := 4, cells := 0, slots := 0, locals := 100 } : Room) s m args below meth c H locs 0 0 (MQ below (va_Qi (fun r z => Q r z.1 z.2) (B1 D (fun z : MS × (Nat → MS) => wP o qp oa qa cy z.1 z.2) A) A) args s 0 0 A) (F0 m 22 ls []) := by
  have hx := C.1
  have hb := C.2.1
  unfold w8_folds_b22 at h
  refine lv_iconst (v := -1) hx hb dX8_folds_22 (by decide) ?_
  exact retI (w := (fun z : MS × (Nat → MS) => wP o qp oa qa cy z.1 z.2)) (S := (Z, X)) (Qp := (fun r z => Q r z.1 z.2)) C hG h dX8_folds_23
def w8_folds (x1 : Int32) (x2 : Int32) (x3 : Int32) (x4 : Int32) (Z : MS) (X : (Nat → MS)) (Q : Int32 → MS → (Nat → MS) → Prop) : Prop :=
  w8_isFigure x1 (fun r1 => ((r1 = 0 → w8_folds_b22 Z X Q) ∧ (¬ r1 = 0 → w8_isBox x2 (fun r3 => ((r3 = 0 → w8_folds_b22 Z X Q) ∧ (¬ r3 = 0 → w8_isQuarter x4 (fun r5 => ((¬ r5 = 0 → w8_missingToFold x1 x2 x3 Z X (fun r7 => ((r7 = 0 → vp_in x2 4 ∧ vp_in x1 6 ∧ (0 ≤ (x1.toNatClampNeg) ∧ (x1.toNatClampNeg) < 6) ∧ w8_frameOf x3 x4 (fun r16 => (6 ≤ (6 + x2.toNatClampNeg) ∧ (6 + x2.toNatClampNeg) < 10) ∧ w6_fold (fJ (X (x1.toNatClampNeg)) 1) r16 (X 15) (X (6 + x2.toNatClampNeg)) (fun r17 S19 => ∀ X21 : Nat → MS, X21 = (va_up X 15 S19) → ((¬ r17 = 0 → ((¬ (fI (X21 15) 2) = (fI (X21 (6 + x2.toNatClampNeg)) 6) → w8_folds_b102 (1 : Int32) Z X21 Q) ∧ ((fI (X21 15) 2) = (fI (X21 (6 + x2.toNatClampNeg)) 6) → w8_folds_b102 (2 : Int32) Z X21 Q))) ∧ (r17 = 0 → Q (0 : Int32) Z X21))))) ∧ (¬ r7 = 0 → w8_refuse r7 Z X (fun r28 S29 => Q r28 S29 X))))) ∧ (r5 = 0 → w8_folds_b22 Z X Q)))))))))
set_option maxHeartbeats 4000000 in
set_option maxRecDepth 100000 in
theorem c8_folds (l : Launch) (D : va_G) (cy : Nat → ClassId)  (o : Nat) (qp oa : Nat → Nat) (qa : Nat → Nat → Nat) (x1 : Int32) (x2 : Int32) (x3 : Int32) (x4 : Int32) (Z : MS) (X : (Nat → MS)) (Q : Int32 → MS → (Nat → MS) → Prop) (h : w8_folds x1 x2 x3 x4 Z X Q) : MetI l yX8_folds wsX8_folds ({ frames := 4, cells := 0, slots := 0, locals := 100 } : Room) D cy nestWs (fun z : MS × (Nat → MS) => wP o qp oa qa cy z.1 z.2) [.ref o, .int x1, .int x2, .int x3, .int x4] (Z, X) (fun r z => Q r z.1 z.2) := by
  refine MetI.mk RX8 cX8_folds 6 .int (by decide) rfl nestWs_ok rfl (Nat.le_of_ble_eq_true rfl) ?_
  intro p e s m below meth c A ls C hG hl
  have hl : lv_has ls 6 [(0, .ref o), (1, .int x1), (2, .int x2), (3, .int x3), (4, .int x4)] := hl
  have hx := C.1
  have hb := C.2.1
  unfold w8_folds at h
  refine lv_iload_n hx hb dX8_folds_0 rfl (lv_at hl 1 rfl) ?_
  refine callSI (As := [.int x1]) (rest := []) C hG (c8_isFigure l D cy x1 _ h) 1 gX8_folds_X8_isFigure rfl (by decide +kernel) ⟨⟨Nat.le_of_ble_eq_true rfl, Nat.le_of_ble_eq_true rfl⟩, rfl, rfl⟩ (Foc.none C.2.2.2.2.2.2.2.2.1) rfl hl.1 rfl (Nat.le_of_ble_eq_true rfl) dX8_folds_1 ⟨Nat.zero_le _, Nat.zero_le _⟩ (fun r1 z H locs h hG => ?_)
  refine lv_if_eq (tgt := 22) hx hb dX8_folds_4 (by decide) (fun c2 => ?_) (fun c2 => ?_)
  · replace h := h.1 c2
    exact b8_folds_b22 Z X C h hG (lv_sub hl [0] rfl)
  · replace h := h.2 c2
    refine lv_iload_n hx hb dX8_folds_7 rfl (lv_at hl 2 rfl) ?_
    refine callSI (As := [.int x2]) (rest := []) C hG (c8_isBox l D cy x2 _ h) 1 gX8_folds_X8_isBox rfl (by decide +kernel) ⟨⟨Nat.le_of_ble_eq_true rfl, Nat.le_of_ble_eq_true rfl⟩, rfl, rfl⟩ (Foc.none C.2.2.2.2.2.2.2.2.1) rfl hl.1 rfl (Nat.le_of_ble_eq_true rfl) dX8_folds_8 ⟨Nat.zero_le _, Nat.zero_le _⟩ (fun r3 z H locs h hG => ?_)
    refine lv_if_eq (tgt := 22) hx hb dX8_folds_11 (by decide) (fun c4 => ?_) (fun c4 => ?_)
    · replace h := h.1 c4
      exact b8_folds_b22 Z X C h hG (lv_sub hl [0] rfl)
    · replace h := h.2 c4
      refine lv_iload hx hb dX8_folds_14 (lv_at hl 4 rfl) ?_
      refine callSI (As := [.int x4]) (rest := []) C hG (c8_isQuarter l D cy x4 _ h) 1 gX8_folds_X8_isQuarter rfl (by decide +kernel) ⟨⟨Nat.le_of_ble_eq_true rfl, Nat.le_of_ble_eq_true rfl⟩, rfl, rfl⟩ (Foc.none C.2.2.2.2.2.2.2.2.1) rfl hl.1 rfl (Nat.le_of_ble_eq_true rfl) dX8_folds_16 ⟨Nat.zero_le _, Nat.zero_le _⟩ (fun r5 z H locs h hG => ?_)
      refine lv_if_ne (tgt := 24) hx hb dX8_folds_19 (by decide) (fun c6 => ?_) (fun c6 => ?_)
      · replace h := h.1 c6
        refine lv_aload_n hx hb dX8_folds_24 rfl (lv_at hl 0 rfl) ?_
        refine lv_iload_n hx hb dX8_folds_25 rfl (lv_at hl 1 rfl) ?_
        refine lv_iload_n hx hb dX8_folds_26 rfl (lv_at hl 2 rfl) ?_
        refine lv_iload_n hx hb dX8_folds_27 rfl (lv_at hl 3 rfl) ?_
        refine callVI (As := [.int x1, .int x2, .int x3]) (rest := []) C hG (c8_missingToFold l D cy o qp oa qa x1 x2 x3 Z X _ h) 3 gX8_folds_X8_missingToFold rfl (by decide +kernel) ⟨⟨Nat.le_of_ble_eq_true rfl, Nat.le_of_ble_eq_true rfl⟩, rfl, rfl⟩ rfl rfl (Foc.all (w' := (fun z : MS × (Nat → MS) => wP o qp oa qa cy z.1 z.2)) (S' := (Z, X)) C.2.2.2.2.2.2.2.2.1) rfl hl.1 rfl (Nat.le_of_ble_eq_true rfl) dX8_folds_28 ⟨Nat.zero_le _, Nat.zero_le _⟩ (fun r7 z H locs h hG => ?_)
        obtain ⟨u8, u9⟩ := z
        obtain ⟨eu8, h⟩ := h
        have eu8 : u8 = Z := eu8
        obtain ⟨eu9, h⟩ := h
        have eu9 : u9 = X := eu9
        replace h := h
        subst u8
        subst u9
        have hG : GW D A s (wP o qp oa qa cy Z X) H locs := hG
        refine lv_istore (lv' := [(5, .int r7), (0, .ref o), (1, .int x1), (2, .int x2), (3, .int x3), (4, .int x4)]) hx hb dX8_folds_31 hl (by decide) rfl (fun ls hl => ?_)
        refine lv_iload hx hb dX8_folds_33 (lv_at hl 0 rfl) ?_
        refine lv_if_eq (tgt := 45) hx hb dX8_folds_35 (by decide) (fun c10 => ?_) (fun c10 => ?_)
        · replace h := h.1 c10
          refine lv_aload_n hx hb dX8_folds_45 rfl (lv_at hl 1 rfl) ?_
          refine gx_get C i8_folds_X8 hG 0 rfl rfl 4 (by decide) k8_folds_35 rfl dX8_folds_46 ?_
          refine lv_aload_n hx hb dX8_folds_49 rfl (lv_at hl 1 rfl) ?_
          refine gx_get C i8_folds_X8 hG 0 rfl rfl 1 (by decide) k8_folds_17 rfl dX8_folds_50 ?_
          refine lv_iload_n hx hb dX8_folds_53 rfl (lv_at hl 3 rfl) ?_
          obtain ⟨hv11, h⟩ := h
          refine gx_aald (C' := "PaperBodies$Box") C hG 2 2 rfl rfl hv11 dX8_folds_54 ?_
          refine lv_aload_n hx hb dX8_folds_55 rfl (lv_at hl 1 rfl) ?_
          refine gx_get C i8_folds_X8 hG 0 rfl rfl 0 (by decide) k8_folds_11 rfl dX8_folds_56 ?_
          refine lv_iload_n hx hb dX8_folds_59 rfl (lv_at hl 2 rfl) ?_
          obtain ⟨hv12, h⟩ := h
          refine gx_aald (C' := "PaperBodies$Figure") C hG 1 3 rfl rfl hv12 dX8_folds_60 ?_
          obtain ⟨hr13, h⟩ := h
          obtain ⟨qq14, he15⟩ := at2 (o := o) (qp := qp) (oa := oa) (qa := qa) (cy := cy) (Z := Z) (X := X) (k := (x1.toNatClampNeg)) hr13
          refine gx_getN (host := "PaperBodies") C i8_folds_X2 hG qq14 he15 rfl 1 (by decide) (by decide +kernel) rfl dX8_folds_61 ?_
          refine lv_iload_n hx hb dX8_folds_64 rfl (lv_at hl 4 rfl) ?_
          refine lv_iload hx hb dX8_folds_65 (lv_at hl 5 rfl) ?_
          refine callSI (As := [.int x3, .int x4]) (rest := [.long (fJ (X (x1.toNatClampNeg)) 1), .ref (oa (6 + x2.toNatClampNeg)), .ref (oa 15)]) C hG (c8_frameOf l D cy x3 x4 _ h) 2 gX8_folds_X8_frameOf rfl (by decide +kernel) ⟨⟨Nat.le_of_ble_eq_true rfl, Nat.le_of_ble_eq_true rfl⟩, rfl, rfl⟩ (Foc.none C.2.2.2.2.2.2.2.2.1) rfl hl.1 rfl (Nat.le_of_ble_eq_true rfl) dX8_folds_67 ⟨Nat.zero_le _, Nat.zero_le _⟩ (fun r16 z H locs h hG => ?_)
          obtain ⟨hr18, h⟩ := h
          refine callVI (As := [.ref (oa (6 + x2.toNatClampNeg)), .long (fJ (X (x1.toNatClampNeg)) 1), .int r16]) (rest := []) C hG (c6_fold l D cy (oa 15) (qa 15) (oa (6 + x2.toNatClampNeg)) (qa (6 + x2.toNatClampNeg)) (fJ (X (x1.toNatClampNeg)) 1) r16 (X 15) (X (6 + x2.toNatClampNeg)) _ h) 3 gX8_folds_X6_fold rfl (by decide +kernel) ⟨⟨Nat.le_of_ble_eq_true rfl, Nat.le_of_ble_eq_true rfl⟩, rfl, rfl⟩ rfl rfl (fo_6_1 C.2.2.2.2.2.2.2.2.1 (k0 := 15) (k1 := (6 + x2.toNatClampNeg)) ⟨by decide, by decide⟩ hr18) rfl hl.1 rfl (Nat.le_of_ble_eq_true rfl) dX8_folds_70 ⟨Nat.zero_le _, Nat.zero_le _⟩ (fun r17 z H locs h hG => ?_)
          obtain ⟨S19, u20⟩ := z
          obtain ⟨eu20, h⟩ := h
          have eu20 : u20 = (X (6 + x2.toNatClampNeg)) := eu20
          replace h := h
          subst u20
          obtain ⟨X21, eX21⟩ : ∃ z : Nat → MS, z = (va_up X 15 S19) := ⟨_, rfl⟩
          have hG : GW D A s (wP o qp oa qa cy Z X21) H locs := by
            rw [eX21]
            have e9 : (va_up (va_up X 15 S19) (6 + x2.toNatClampNeg) (X (6 + x2.toNatClampNeg))) = (va_up X 15 S19) := by rw [up_back (show (6 + x2.toNatClampNeg) ≠ 15 by omega)]
            rw [← e9]
            exact hG
          replace h := h X21 eX21
          refine lv_if_ne (tgt := 78) hx hb dX8_folds_73 (by decide) (fun c22 => ?_) (fun c22 => ?_)
          · replace h := h.1 c22
            refine lv_aload_n hx hb dX8_folds_78 rfl (lv_at hl 1 rfl) ?_
            refine gx_get C i8_folds_X8 hG 0 rfl rfl 4 (by decide) k8_folds_35 rfl dX8_folds_79 ?_
            obtain ⟨qq23, he24⟩ := at6 (o := o) (qp := qp) (oa := oa) (qa := qa) (cy := cy) (Z := Z) (X := X21) (k := 15) ⟨by decide, by decide⟩
            refine gx_getN (host := "PaperBodies") C i8_folds_X6 hG qq23 he24 rfl 2 (by decide) (by decide +kernel) rfl dX8_folds_82 ?_
            refine lv_aload_n hx hb dX8_folds_85 rfl (lv_at hl 1 rfl) ?_
            refine gx_get C i8_folds_X8 hG 0 rfl rfl 1 (by decide) k8_folds_17 rfl dX8_folds_86 ?_
            refine lv_iload_n hx hb dX8_folds_89 rfl (lv_at hl 3 rfl) ?_
            refine gx_aald (C' := "PaperBodies$Box") C hG 2 2 rfl rfl hv11 dX8_folds_90 ?_
            obtain ⟨qq25, he26⟩ := at1 (o := o) (qp := qp) (oa := oa) (qa := qa) (cy := cy) (Z := Z) (X := X21) (k := (6 + x2.toNatClampNeg)) hr18
            refine gx_getN (host := "PaperBodies") C i8_folds_X1 hG qq25 he26 rfl 6 (by decide) (by decide +kernel) rfl dX8_folds_91 ?_
            refine lv_icmp_ne (tgt := 101) hx hb dX8_folds_94 (by decide) (fun c27 => ?_) (fun c27 => ?_)
            · replace h := h.1 c27
              refine lv_iconst (v := 1) hx hb dX8_folds_101 (by decide) ?_
              exact b8_folds_b102 (1 : Int32) Z X21 C h hG (lv_sub hl [1] rfl)
            · replace h := h.2 c27
              refine lv_iconst (v := 2) hx hb dX8_folds_97 (by decide) ?_
              refine lv_goto (tgt := 102) hx hb dX8_folds_98 (by decide) ?_
              exact b8_folds_b102 (2 : Int32) Z X21 C h hG (lv_sub hl [1] rfl)
          · replace h := h.2 c22
            refine lv_iconst (v := 0) hx hb dX8_folds_76 (by decide) ?_
            exact retI (w := (fun z : MS × (Nat → MS) => wP o qp oa qa cy z.1 z.2)) (S := (Z, X21)) (Qp := (fun r z => Q r z.1 z.2)) C hG h dX8_folds_77
        · replace h := h.2 c10
          refine lv_aload_n hx hb dX8_folds_38 rfl (lv_at hl 1 rfl) ?_
          refine lv_iload hx hb dX8_folds_39 (lv_at hl 0 rfl) ?_
          refine callVI (As := [.int r7]) (rest := []) C hG (c8_refuse l D cy o qp oa qa r7 Z X _ h) 1 gX8_folds_X8_refuse rfl (by decide +kernel) ⟨⟨Nat.le_of_ble_eq_true rfl, Nat.le_of_ble_eq_true rfl⟩, rfl, rfl⟩ rfl rfl (Foc.all (w' := (fun z : MS × (Nat → MS) => wP o qp oa qa cy z.1 z.2)) (S' := (Z, X)) C.2.2.2.2.2.2.2.2.1) rfl hl.1 rfl (Nat.le_of_ble_eq_true rfl) dX8_folds_41 ⟨Nat.zero_le _, Nat.zero_le _⟩ (fun r28 z H locs h hG => ?_)
          obtain ⟨S29, u30⟩ := z
          obtain ⟨eu30, h⟩ := h
          have eu30 : u30 = X := eu30
          replace h := h
          subst u30
          have hG : GW D A s (wP o qp oa qa cy S29 X) H locs := hG
          exact retI (w := (fun z : MS × (Nat → MS) => wP o qp oa qa cy z.1 z.2)) (S := (S29, X)) (Qp := (fun r z => Q r z.1 z.2)) C hG h dX8_folds_44
      · replace h := h.2 c6
        exact b8_folds_b22 Z X C h hG (lv_sub hl [0] rfl)
-- X8_lies
theorem i8_lies_X8 : ∀ w ∈ wsX80, w ∈ wsX8_lies := fun w h => List.mem_cons_of_mem _ (inG_X8 w h)
theorem i8_lies_X2 : ∀ w ∈ wsX20, w ∈ wsX8_lies := fun w h => List.mem_cons_of_mem _ (inG_X2 w h)
theorem k8_lies_11 : Cond.fieldLink RX8 11 "PaperBodies" "figures" "[LPaperBodies$Figure;" ∈ wsX8_lies := (List.mem_cons_of_mem _ mw_317)
theorem k8_lies_17 : Cond.fieldLink RX8 17 "PaperBodies" "boxes" "[LPaperBodies$Box;" ∈ wsX8_lies := (List.mem_cons_of_mem _ mw_319)
theorem k8_lies_35 : Cond.fieldLink RX8 35 "PaperBodies" "folded" "LPaperBodies$Sheet;" ∈ wsX8_lies := (List.mem_cons_of_mem _ mw_326)
def w8_lies_b30 (Z : MS) (X : (Nat → MS)) (Q : Int32 → MS → (Nat → MS) → Prop) : Prop :=
  Q (-1 : Int32) Z X
set_option maxHeartbeats 4000000 in
set_option maxRecDepth 100000 in
theorem b8_lies_b30 {p : Program} {l : Launch} {e : Env} {s : State} {m : MethodId} {args : Array Value} {below : List Frame} {meth : Method} {c : Code} {D : va_G} {cy : Nat → ClassId} {A : Nat → Prop} {o : Nat} {qp oa : Nat → Nat} {qa : Nat → Nat → Nat} (Z : MS) (X : (Nat → MS)) {Q : Int32 → MS → (Nat → MS) → Prop} (C : Cx p s m args meth c cX8_lies 7 (some .int) wsX8_lies RX8 D cy nestWs A) (h : w8_lies_b30 Z X Q) {H : Heap} {locs : List Loc} (hG : GW D A s (wP o qp oa qa cy Z X) H locs) {ls : Array Slot} (hl : lv_has ls 7 [(0, .ref o)]) : W p l e ({ frames := 4, cells := 0, slots := 0, locals := 100 } : Room) s m args below meth c H locs 0 0 (MQ below (va_Qi (fun r z => Q r z.1 z.2) (B1 D (fun z : MS × (Nat → MS) => wP o qp oa qa cy z.1 z.2) A) A) args s 0 0 A) (F0 m 30 ls []) := by
  have hx := C.1
  have hb := C.2.1
  unfold w8_lies_b30 at h
  refine lv_iconst (v := -1) hx hb dX8_lies_30 (by decide) ?_
  exact retI (w := (fun z : MS × (Nat → MS) => wP o qp oa qa cy z.1 z.2)) (S := (Z, X)) (Qp := (fun r z => Q r z.1 z.2)) C hG h dX8_lies_31
def w8_lies (x1 : Int32) (x2 : Int32) (x3 : Int32) (x4 : Int32) (x5 : Int32) (Z : MS) (X : (Nat → MS)) (Q : Int32 → MS → (Nat → MS) → Prop) : Prop :=
  w8_isFigure x1 (fun r1 => ((r1 = 0 → w8_lies_b30 Z X Q) ∧ (¬ r1 = 0 → w8_isBox x2 (fun r3 => ((r3 = 0 → w8_lies_b30 Z X Q) ∧ (¬ r3 = 0 → w8_isQuarter x4 (fun r5 => ((r5 = 0 → w8_lies_b30 Z X Q) ∧ (¬ r5 = 0 → w8_isSquare x5 (fun r7 => ((¬ r7 = 0 → w8_missingToFold x1 x2 x3 Z X (fun r9 => ((r9 = 0 → vp_in x1 6 ∧ (0 ≤ (x1.toNatClampNeg) ∧ (x1.toNatClampNeg) < 6) ∧ w0_has (fJ (X (x1.toNatClampNeg)) 1) x5 (fun r17 => ((¬ r17 = 0 → vp_in x2 4 ∧ w8_frameOf x3 x4 (fun r22 => (6 ≤ (6 + x2.toNatClampNeg) ∧ (6 + x2.toNatClampNeg) < 10) ∧ w6_fold (fJ (X (x1.toNatClampNeg)) 1) r22 (X 15) (X (6 + x2.toNatClampNeg)) (fun r23 S25 => ∀ X27 : Nat → MS, X27 = (va_up X 15 S25) → ((¬ r23 = 0 → w6_frameAt x5 (X27 15) (fun r29 => Q (r29 >>> ((2 : Int32) &&& 31)) Z X27)) ∧ (r23 = 0 → Q (-9 : Int32) Z X27))))) ∧ (r17 = 0 → Q (-9 : Int32) Z X)))) ∧ (¬ r9 = 0 → w8_refuse r9 Z X (fun r31 S32 => Q r31 S32 X))))) ∧ (r7 = 0 → w8_lies_b30 Z X Q))))))))))))
set_option maxHeartbeats 4000000 in
set_option maxRecDepth 100000 in
theorem c8_lies (l : Launch) (D : va_G) (cy : Nat → ClassId)  (o : Nat) (qp oa : Nat → Nat) (qa : Nat → Nat → Nat) (x1 : Int32) (x2 : Int32) (x3 : Int32) (x4 : Int32) (x5 : Int32) (Z : MS) (X : (Nat → MS)) (Q : Int32 → MS → (Nat → MS) → Prop) (h : w8_lies x1 x2 x3 x4 x5 Z X Q) : MetI l yX8_lies wsX8_lies ({ frames := 4, cells := 0, slots := 0, locals := 100 } : Room) D cy nestWs (fun z : MS × (Nat → MS) => wP o qp oa qa cy z.1 z.2) [.ref o, .int x1, .int x2, .int x3, .int x4, .int x5] (Z, X) (fun r z => Q r z.1 z.2) := by
  refine MetI.mk RX8 cX8_lies 7 .int (by decide) rfl nestWs_ok rfl (Nat.le_of_ble_eq_true rfl) ?_
  intro p e s m below meth c A ls C hG hl
  have hl : lv_has ls 7 [(0, .ref o), (1, .int x1), (2, .int x2), (3, .int x3), (4, .int x4), (5, .int x5)] := hl
  have hx := C.1
  have hb := C.2.1
  unfold w8_lies at h
  refine lv_iload_n hx hb dX8_lies_0 rfl (lv_at hl 1 rfl) ?_
  refine callSI (As := [.int x1]) (rest := []) C hG (c8_isFigure l D cy x1 _ h) 1 gX8_lies_X8_isFigure rfl (by decide +kernel) ⟨⟨Nat.le_of_ble_eq_true rfl, Nat.le_of_ble_eq_true rfl⟩, rfl, rfl⟩ (Foc.none C.2.2.2.2.2.2.2.2.1) rfl hl.1 rfl (Nat.le_of_ble_eq_true rfl) dX8_lies_1 ⟨Nat.zero_le _, Nat.zero_le _⟩ (fun r1 z H locs h hG => ?_)
  refine lv_if_eq (tgt := 30) hx hb dX8_lies_4 (by decide) (fun c2 => ?_) (fun c2 => ?_)
  · replace h := h.1 c2
    exact b8_lies_b30 Z X C h hG (lv_sub hl [0] rfl)
  · replace h := h.2 c2
    refine lv_iload_n hx hb dX8_lies_7 rfl (lv_at hl 2 rfl) ?_
    refine callSI (As := [.int x2]) (rest := []) C hG (c8_isBox l D cy x2 _ h) 1 gX8_lies_X8_isBox rfl (by decide +kernel) ⟨⟨Nat.le_of_ble_eq_true rfl, Nat.le_of_ble_eq_true rfl⟩, rfl, rfl⟩ (Foc.none C.2.2.2.2.2.2.2.2.1) rfl hl.1 rfl (Nat.le_of_ble_eq_true rfl) dX8_lies_8 ⟨Nat.zero_le _, Nat.zero_le _⟩ (fun r3 z H locs h hG => ?_)
    refine lv_if_eq (tgt := 30) hx hb dX8_lies_11 (by decide) (fun c4 => ?_) (fun c4 => ?_)
    · replace h := h.1 c4
      exact b8_lies_b30 Z X C h hG (lv_sub hl [0] rfl)
    · replace h := h.2 c4
      refine lv_iload hx hb dX8_lies_14 (lv_at hl 4 rfl) ?_
      refine callSI (As := [.int x4]) (rest := []) C hG (c8_isQuarter l D cy x4 _ h) 1 gX8_lies_X8_isQuarter rfl (by decide +kernel) ⟨⟨Nat.le_of_ble_eq_true rfl, Nat.le_of_ble_eq_true rfl⟩, rfl, rfl⟩ (Foc.none C.2.2.2.2.2.2.2.2.1) rfl hl.1 rfl (Nat.le_of_ble_eq_true rfl) dX8_lies_16 ⟨Nat.zero_le _, Nat.zero_le _⟩ (fun r5 z H locs h hG => ?_)
      refine lv_if_eq (tgt := 30) hx hb dX8_lies_19 (by decide) (fun c6 => ?_) (fun c6 => ?_)
      · replace h := h.1 c6
        exact b8_lies_b30 Z X C h hG (lv_sub hl [0] rfl)
      · replace h := h.2 c6
        refine lv_iload hx hb dX8_lies_22 (lv_at hl 5 rfl) ?_
        refine callSI (As := [.int x5]) (rest := []) C hG (c8_isSquare l D cy x5 _ h) 1 gX8_lies_X8_isSquare rfl (by decide +kernel) ⟨⟨Nat.le_of_ble_eq_true rfl, Nat.le_of_ble_eq_true rfl⟩, rfl, rfl⟩ (Foc.none C.2.2.2.2.2.2.2.2.1) rfl hl.1 rfl (Nat.le_of_ble_eq_true rfl) dX8_lies_24 ⟨Nat.zero_le _, Nat.zero_le _⟩ (fun r7 z H locs h hG => ?_)
        refine lv_if_ne (tgt := 32) hx hb dX8_lies_27 (by decide) (fun c8 => ?_) (fun c8 => ?_)
        · replace h := h.1 c8
          refine lv_aload_n hx hb dX8_lies_32 rfl (lv_at hl 0 rfl) ?_
          refine lv_iload_n hx hb dX8_lies_33 rfl (lv_at hl 1 rfl) ?_
          refine lv_iload_n hx hb dX8_lies_34 rfl (lv_at hl 2 rfl) ?_
          refine lv_iload_n hx hb dX8_lies_35 rfl (lv_at hl 3 rfl) ?_
          refine callVI (As := [.int x1, .int x2, .int x3]) (rest := []) C hG (c8_missingToFold l D cy o qp oa qa x1 x2 x3 Z X _ h) 3 gX8_lies_X8_missingToFold rfl (by decide +kernel) ⟨⟨Nat.le_of_ble_eq_true rfl, Nat.le_of_ble_eq_true rfl⟩, rfl, rfl⟩ rfl rfl (Foc.all (w' := (fun z : MS × (Nat → MS) => wP o qp oa qa cy z.1 z.2)) (S' := (Z, X)) C.2.2.2.2.2.2.2.2.1) rfl hl.1 rfl (Nat.le_of_ble_eq_true rfl) dX8_lies_36 ⟨Nat.zero_le _, Nat.zero_le _⟩ (fun r9 z H locs h hG => ?_)
          obtain ⟨u10, u11⟩ := z
          obtain ⟨eu10, h⟩ := h
          have eu10 : u10 = Z := eu10
          obtain ⟨eu11, h⟩ := h
          have eu11 : u11 = X := eu11
          replace h := h
          subst u10
          subst u11
          have hG : GW D A s (wP o qp oa qa cy Z X) H locs := hG
          refine lv_istore (lv' := [(6, .int r9), (0, .ref o), (1, .int x1), (2, .int x2), (3, .int x3), (4, .int x4), (5, .int x5)]) hx hb dX8_lies_39 hl (by decide) rfl (fun ls hl => ?_)
          refine lv_iload hx hb dX8_lies_41 (lv_at hl 0 rfl) ?_
          refine lv_if_eq (tgt := 53) hx hb dX8_lies_43 (by decide) (fun c12 => ?_) (fun c12 => ?_)
          · replace h := h.1 c12
            refine lv_aload_n hx hb dX8_lies_53 rfl (lv_at hl 1 rfl) ?_
            refine gx_get C i8_lies_X8 hG 0 rfl rfl 0 (by decide) k8_lies_11 rfl dX8_lies_54 ?_
            refine lv_iload_n hx hb dX8_lies_57 rfl (lv_at hl 2 rfl) ?_
            obtain ⟨hv13, h⟩ := h
            refine gx_aald (C' := "PaperBodies$Figure") C hG 1 3 rfl rfl hv13 dX8_lies_58 ?_
            obtain ⟨hr14, h⟩ := h
            obtain ⟨qq15, he16⟩ := at2 (o := o) (qp := qp) (oa := oa) (qa := qa) (cy := cy) (Z := Z) (X := X) (k := (x1.toNatClampNeg)) hr14
            refine gx_getN (host := "PaperBodies") C i8_lies_X2 hG qq15 he16 rfl 1 (by decide) (by decide +kernel) rfl dX8_lies_59 ?_
            refine lv_iload hx hb dX8_lies_62 (lv_at hl 6 rfl) ?_
            refine callSI (As := [.long (fJ (X (x1.toNatClampNeg)) 1), .int x5]) (rest := []) C hG (c0_has l D cy (fJ (X (x1.toNatClampNeg)) 1) x5 _ h) 2 gX8_lies_X0_has rfl (by decide +kernel) ⟨⟨Nat.le_of_ble_eq_true rfl, Nat.le_of_ble_eq_true rfl⟩, rfl, rfl⟩ (Foc.none C.2.2.2.2.2.2.2.2.1) rfl hl.1 rfl (Nat.le_of_ble_eq_true rfl) dX8_lies_64 ⟨Nat.zero_le _, Nat.zero_le _⟩ (fun r17 z H locs h hG => ?_)
            refine lv_if_ne (tgt := 73) hx hb dX8_lies_67 (by decide) (fun c18 => ?_) (fun c18 => ?_)
            · replace h := h.1 c18
              refine lv_aload_n hx hb dX8_lies_73 rfl (lv_at hl 1 rfl) ?_
              refine gx_get C i8_lies_X8 hG 0 rfl rfl 4 (by decide) k8_lies_35 rfl dX8_lies_74 ?_
              refine lv_aload_n hx hb dX8_lies_77 rfl (lv_at hl 1 rfl) ?_
              refine gx_get C i8_lies_X8 hG 0 rfl rfl 1 (by decide) k8_lies_17 rfl dX8_lies_78 ?_
              refine lv_iload_n hx hb dX8_lies_81 rfl (lv_at hl 3 rfl) ?_
              obtain ⟨hv19, h⟩ := h
              refine gx_aald (C' := "PaperBodies$Box") C hG 2 2 rfl rfl hv19 dX8_lies_82 ?_
              refine lv_aload_n hx hb dX8_lies_83 rfl (lv_at hl 1 rfl) ?_
              refine gx_get C i8_lies_X8 hG 0 rfl rfl 0 (by decide) k8_lies_11 rfl dX8_lies_84 ?_
              refine lv_iload_n hx hb dX8_lies_87 rfl (lv_at hl 2 rfl) ?_
              refine gx_aald (C' := "PaperBodies$Figure") C hG 1 3 rfl rfl hv13 dX8_lies_88 ?_
              obtain ⟨qq20, he21⟩ := at2 (o := o) (qp := qp) (oa := oa) (qa := qa) (cy := cy) (Z := Z) (X := X) (k := (x1.toNatClampNeg)) hr14
              refine gx_getN (host := "PaperBodies") C i8_lies_X2 hG qq20 he21 rfl 1 (by decide) (by decide +kernel) rfl dX8_lies_89 ?_
              refine lv_iload_n hx hb dX8_lies_92 rfl (lv_at hl 4 rfl) ?_
              refine lv_iload hx hb dX8_lies_93 (lv_at hl 5 rfl) ?_
              refine callSI (As := [.int x3, .int x4]) (rest := [.long (fJ (X (x1.toNatClampNeg)) 1), .ref (oa (6 + x2.toNatClampNeg)), .ref (oa 15)]) C hG (c8_frameOf l D cy x3 x4 _ h) 2 gX8_lies_X8_frameOf rfl (by decide +kernel) ⟨⟨Nat.le_of_ble_eq_true rfl, Nat.le_of_ble_eq_true rfl⟩, rfl, rfl⟩ (Foc.none C.2.2.2.2.2.2.2.2.1) rfl hl.1 rfl (Nat.le_of_ble_eq_true rfl) dX8_lies_95 ⟨Nat.zero_le _, Nat.zero_le _⟩ (fun r22 z H locs h hG => ?_)
              obtain ⟨hr24, h⟩ := h
              refine callVI (As := [.ref (oa (6 + x2.toNatClampNeg)), .long (fJ (X (x1.toNatClampNeg)) 1), .int r22]) (rest := []) C hG (c6_fold l D cy (oa 15) (qa 15) (oa (6 + x2.toNatClampNeg)) (qa (6 + x2.toNatClampNeg)) (fJ (X (x1.toNatClampNeg)) 1) r22 (X 15) (X (6 + x2.toNatClampNeg)) _ h) 3 gX8_lies_X6_fold rfl (by decide +kernel) ⟨⟨Nat.le_of_ble_eq_true rfl, Nat.le_of_ble_eq_true rfl⟩, rfl, rfl⟩ rfl rfl (fo_6_1 C.2.2.2.2.2.2.2.2.1 (k0 := 15) (k1 := (6 + x2.toNatClampNeg)) ⟨by decide, by decide⟩ hr24) rfl hl.1 rfl (Nat.le_of_ble_eq_true rfl) dX8_lies_98 ⟨Nat.zero_le _, Nat.zero_le _⟩ (fun r23 z H locs h hG => ?_)
              obtain ⟨S25, u26⟩ := z
              obtain ⟨eu26, h⟩ := h
              have eu26 : u26 = (X (6 + x2.toNatClampNeg)) := eu26
              replace h := h
              subst u26
              obtain ⟨X27, eX27⟩ : ∃ z : Nat → MS, z = (va_up X 15 S25) := ⟨_, rfl⟩
              have hG : GW D A s (wP o qp oa qa cy Z X27) H locs := by
                rw [eX27]
                have e9 : (va_up (va_up X 15 S25) (6 + x2.toNatClampNeg) (X (6 + x2.toNatClampNeg))) = (va_up X 15 S25) := by rw [up_back (show (6 + x2.toNatClampNeg) ≠ 15 by omega)]
                rw [← e9]
                exact hG
              replace h := h X27 eX27
              refine lv_if_ne (tgt := 107) hx hb dX8_lies_101 (by decide) (fun c28 => ?_) (fun c28 => ?_)
              · replace h := h.1 c28
                refine lv_aload_n hx hb dX8_lies_107 rfl (lv_at hl 1 rfl) ?_
                refine gx_get C i8_lies_X8 hG 0 rfl rfl 4 (by decide) k8_lies_35 rfl dX8_lies_108 ?_
                refine lv_iload hx hb dX8_lies_111 (lv_at hl 6 rfl) ?_
                refine callVI (As := [.int x5]) (rest := []) C hG (c6_frameAt l D cy (oa 15) (qa 15) x5 (X27 15) _ h) 1 gX8_lies_X6_frameAt rfl (by decide +kernel) ⟨⟨Nat.le_of_ble_eq_true rfl, Nat.le_of_ble_eq_true rfl⟩, rfl, rfl⟩ rfl rfl (fo_6 C.2.2.2.2.2.2.2.2.1 (k0 := 15) ⟨by decide, by decide⟩) rfl hl.1 rfl (Nat.le_of_ble_eq_true rfl) dX8_lies_113 ⟨Nat.zero_le _, Nat.zero_le _⟩ (fun r29 u30 H locs h hG => ?_)
                obtain ⟨eu30, h⟩ := h
                have eu30 : u30 = (X27 15) := eu30
                subst u30
                have hG : GW D A s (wP o qp oa qa cy Z X27) H locs := by
                  have e9 : (va_up X27 15 (X27 15)) = X27 := by simp only [up_same]
                  have hG : GW D A s (wP o qp oa qa cy Z (va_up X27 15 (X27 15))) H locs := hG
                  rw [e9] at hG
                  exact hG
                refine lv_iconst (v := 2) hx hb dX8_lies_116 (by decide) ?_
                refine lv_ishr hx hb dX8_lies_117 ?_
                exact retI (w := (fun z : MS × (Nat → MS) => wP o qp oa qa cy z.1 z.2)) (S := (Z, X27)) (Qp := (fun r z => Q r z.1 z.2)) C hG h dX8_lies_118
              · replace h := h.2 c28
                refine lv_bipush (v := -9) hx hb dX8_lies_104 (by decide) ?_
                exact retI (w := (fun z : MS × (Nat → MS) => wP o qp oa qa cy z.1 z.2)) (S := (Z, X27)) (Qp := (fun r z => Q r z.1 z.2)) C hG h dX8_lies_106
            · replace h := h.2 c18
              refine lv_bipush (v := -9) hx hb dX8_lies_70 (by decide) ?_
              exact retI (w := (fun z : MS × (Nat → MS) => wP o qp oa qa cy z.1 z.2)) (S := (Z, X)) (Qp := (fun r z => Q r z.1 z.2)) C hG h dX8_lies_72
          · replace h := h.2 c12
            refine lv_aload_n hx hb dX8_lies_46 rfl (lv_at hl 1 rfl) ?_
            refine lv_iload hx hb dX8_lies_47 (lv_at hl 0 rfl) ?_
            refine callVI (As := [.int r9]) (rest := []) C hG (c8_refuse l D cy o qp oa qa r9 Z X _ h) 1 gX8_lies_X8_refuse rfl (by decide +kernel) ⟨⟨Nat.le_of_ble_eq_true rfl, Nat.le_of_ble_eq_true rfl⟩, rfl, rfl⟩ rfl rfl (Foc.all (w' := (fun z : MS × (Nat → MS) => wP o qp oa qa cy z.1 z.2)) (S' := (Z, X)) C.2.2.2.2.2.2.2.2.1) rfl hl.1 rfl (Nat.le_of_ble_eq_true rfl) dX8_lies_49 ⟨Nat.zero_le _, Nat.zero_le _⟩ (fun r31 z H locs h hG => ?_)
            obtain ⟨S32, u33⟩ := z
            obtain ⟨eu33, h⟩ := h
            have eu33 : u33 = X := eu33
            replace h := h
            subst u33
            have hG : GW D A s (wP o qp oa qa cy S32 X) H locs := hG
            exact retI (w := (fun z : MS × (Nat → MS) => wP o qp oa qa cy z.1 z.2)) (S := (S32, X)) (Qp := (fun r z => Q r z.1 z.2)) C hG h dX8_lies_52
        · replace h := h.2 c8
          exact b8_lies_b30 Z X C h hG (lv_sub hl [0] rfl)
-- X8_wholes
theorem i8_wholes_X8 : ∀ w ∈ wsX80, w ∈ wsX8_wholes := fun w h => List.mem_cons_of_mem _ (inG_X8 w h)
theorem i8_wholes_X2 : ∀ w ∈ wsX20, w ∈ wsX8_wholes := fun w h => List.mem_cons_of_mem _ (inG_X2 w h)
theorem i8_wholes_X1 : ∀ w ∈ wsX10, w ∈ wsX8_wholes := fun w h => List.mem_cons_of_mem _ (inG_X1 w h)
theorem k8_wholes_11 : Cond.fieldLink RX8 11 "PaperBodies" "figures" "[LPaperBodies$Figure;" ∈ wsX8_wholes := (List.mem_cons_of_mem _ mw_317)
theorem k8_wholes_17 : Cond.fieldLink RX8 17 "PaperBodies" "boxes" "[LPaperBodies$Box;" ∈ wsX8_wholes := (List.mem_cons_of_mem _ mw_319)
theorem k8_wholes_35 : Cond.fieldLink RX8 35 "PaperBodies" "folded" "LPaperBodies$Sheet;" ∈ wsX8_wholes := (List.mem_cons_of_mem _ mw_326)
theorem k8_wholes_147 : Cond.fieldLink RX8 147 "PaperBodies" "latestTold" "J" ∈ wsX8_wholes := (List.mem_cons_of_mem _ mw_390)
def w8_wholes_b112 (K64 : Int32 → Int32 → MS → (Nat → MS) → Prop) (x1 : Int32) (x2 : Int32) (x3 : Int32) (x4 : Int32) (x5 : Int32) (Z : MS) (X : (Nat → MS)) (Q : Int32 → MS → (Nat → MS) → Prop) : Prop :=
  ∀ y1 : Int32, y1 = x5 + 1 → K64 x4 y1 Z X
set_option maxHeartbeats 4000000 in
set_option maxRecDepth 100000 in
theorem b8_wholes_b112 {p : Program} {l : Launch} {e : Env} {s : State} {m : MethodId} {args : Array Value} {below : List Frame} {meth : Method} {c : Code} {D : va_G} {cy : Nat → ClassId} {A : Nat → Prop} {o : Nat} {qp oa : Nat → Nat} {qa : Nat → Nat → Nat} {K64 : Int32 → Int32 → MS → (Nat → MS) → Prop} (x1 : Int32) (x2 : Int32) (x3 : Int32) (x4 : Int32) (x5 : Int32) (Z : MS) (X : (Nat → MS)) {Q : Int32 → MS → (Nat → MS) → Prop} (C : Cx p s m args meth c cX8_wholes 6 (some .int) wsX8_wholes RX8 D cy nestWs A) (hK64 : ∀ (x4 : Int32) (x5 : Int32) (Z : MS) (X : (Nat → MS)) (H : Heap) (locs : List Loc) (ls : Array Slot), K64 x4 x5 Z X → GW D A s (wP o qp oa qa cy Z X) H locs → lv_has ls 6 [(0, .ref o), (1, .int x1), (2, .int x2), (3, .int x3), (4, .int x4), (5, .int x5)] → W p l e ({ frames := 5, cells := 0, slots := 0, locals := 124 } : Room) s m args below meth c H locs 0 0 (MQ below (va_Qi (fun r z => Q r z.1 z.2) (B1 D (fun z : MS × (Nat → MS) => wP o qp oa qa cy z.1 z.2) A) A) args s 0 0 A) (F0 m 64 ls [])) (h : w8_wholes_b112 K64 x1 x2 x3 x4 x5 Z X Q) {H : Heap} {locs : List Loc} (hG : GW D A s (wP o qp oa qa cy Z X) H locs) {ls : Array Slot} (hl : lv_has ls 6 [(0, .ref o), (1, .int x1), (2, .int x2), (3, .int x3), (4, .int x4), (5, .int x5)]) : W p l e ({ frames := 5, cells := 0, slots := 0, locals := 124 } : Room) s m args below meth c H locs 0 0 (MQ below (va_Qi (fun r z => Q r z.1 z.2) (B1 D (fun z : MS × (Nat → MS) => wP o qp oa qa cy z.1 z.2) A) A) args s 0 0 A) (F0 m 112 ls []) := by
  have hx := C.1
  have hb := C.2.1
  unfold w8_wholes_b112 at h
  obtain ⟨y1, ey1⟩ : ∃ y : Int32, y = x5 + 1 := ⟨_, rfl⟩
  replace h := h y1 ey1
  refine lv_iinc (v := y1) (lv' := [(5, .int y1), (0, .ref o), (1, .int x1), (2, .int x2), (3, .int x3), (4, .int x4)]) hx hb dX8_wholes_112 hl (k := 5) rfl (by rw [ey1]; rfl) (by decide) rfl (fun ls hl => ?_)
  refine lv_goto (tgt := 64) hx hb dX8_wholes_115 (by decide) ?_
  exact hK64 x4 y1 Z X _ _ _ h hG (lv_sub hl [1, 2, 3, 4, 5, 0] rfl)
def w8_wholes_b109 (K64 : Int32 → Int32 → MS → (Nat → MS) → Prop) (x1 : Int32) (x2 : Int32) (x3 : Int32) (x4 : Int32) (x5 : Int32) (Z : MS) (X : (Nat → MS)) (Q : Int32 → MS → (Nat → MS) → Prop) : Prop :=
  ∀ y1 : Int32, y1 = x4 + 1 → w8_wholes_b112 K64 x1 x2 x3 y1 x5 Z X Q
set_option maxHeartbeats 4000000 in
set_option maxRecDepth 100000 in
theorem b8_wholes_b109 {p : Program} {l : Launch} {e : Env} {s : State} {m : MethodId} {args : Array Value} {below : List Frame} {meth : Method} {c : Code} {D : va_G} {cy : Nat → ClassId} {A : Nat → Prop} {o : Nat} {qp oa : Nat → Nat} {qa : Nat → Nat → Nat} {K64 : Int32 → Int32 → MS → (Nat → MS) → Prop} (x1 : Int32) (x2 : Int32) (x3 : Int32) (x4 : Int32) (x5 : Int32) (Z : MS) (X : (Nat → MS)) {Q : Int32 → MS → (Nat → MS) → Prop} (C : Cx p s m args meth c cX8_wholes 6 (some .int) wsX8_wholes RX8 D cy nestWs A) (hK64 : ∀ (x4 : Int32) (x5 : Int32) (Z : MS) (X : (Nat → MS)) (H : Heap) (locs : List Loc) (ls : Array Slot), K64 x4 x5 Z X → GW D A s (wP o qp oa qa cy Z X) H locs → lv_has ls 6 [(0, .ref o), (1, .int x1), (2, .int x2), (3, .int x3), (4, .int x4), (5, .int x5)] → W p l e ({ frames := 5, cells := 0, slots := 0, locals := 124 } : Room) s m args below meth c H locs 0 0 (MQ below (va_Qi (fun r z => Q r z.1 z.2) (B1 D (fun z : MS × (Nat → MS) => wP o qp oa qa cy z.1 z.2) A) A) args s 0 0 A) (F0 m 64 ls [])) (h : w8_wholes_b109 K64 x1 x2 x3 x4 x5 Z X Q) {H : Heap} {locs : List Loc} (hG : GW D A s (wP o qp oa qa cy Z X) H locs) {ls : Array Slot} (hl : lv_has ls 6 [(0, .ref o), (1, .int x1), (2, .int x2), (3, .int x3), (4, .int x4), (5, .int x5)]) : W p l e ({ frames := 5, cells := 0, slots := 0, locals := 124 } : Room) s m args below meth c H locs 0 0 (MQ below (va_Qi (fun r z => Q r z.1 z.2) (B1 D (fun z : MS × (Nat → MS) => wP o qp oa qa cy z.1 z.2) A) A) args s 0 0 A) (F0 m 109 ls []) := by
  have hx := C.1
  have hb := C.2.1
  unfold w8_wholes_b109 at h
  obtain ⟨y1, ey1⟩ : ∃ y : Int32, y = x4 + 1 := ⟨_, rfl⟩
  replace h := h y1 ey1
  refine lv_iinc (v := y1) (lv' := [(4, .int y1), (0, .ref o), (1, .int x1), (2, .int x2), (3, .int x3), (5, .int x5)]) hx hb dX8_wholes_109 hl (k := 4) rfl (by rw [ey1]; rfl) (by decide) rfl (fun ls hl => ?_)
  exact b8_wholes_b112 (K64 := K64) x1 x2 x3 y1 x5 Z X C hK64 h hG (lv_sub hl [1, 2, 3, 4, 0, 5] rfl)
def w8_wholes_d64 (K64 : Int32 → Int32 → MS → (Nat → MS) → Prop) (x1 : Int32) (x2 : Int32) (x3 : Int32) (x4 : Int32) (x5 : Int32) (Z : MS) (X : (Nat → MS)) (Q : Int32 → MS → (Nat → MS) → Prop) : Prop :=
  ((x3 ≤ x5 → Q x4 Z X) ∧ (¬ x3 ≤ x5 → vp_in x2 4 ∧ vp_in x1 6 ∧ (0 ≤ (x1.toNatClampNeg) ∧ (x1.toNatClampNeg) < 6) ∧ (6 ≤ (6 + x2.toNatClampNeg) ∧ (6 + x2.toNatClampNeg) < 10) ∧ w6_isWhole (fJ (X (x1.toNatClampNeg)) 1) x5 (X 15) (X (6 + x2.toNatClampNeg)) (fun r7 S9 => ∀ X11 : Nat → MS, X11 = (va_up X 15 S9) → ((r7 = 0 → w8_wholes_b112 K64 x1 x2 x3 x4 x5 Z X11 Q) ∧ (¬ r7 = 0 → ((¬ x4 = 0 → w8_wholes_b109 K64 x1 x2 x3 x4 x5 Z X11 Q) ∧ (x4 = 0 → ∀ S14 : MS, S14 = sJ Z 11 x5.toInt64 → w8_wholes_b109 K64 x1 x2 x3 x4 x5 S14 X11 Q)))))))
set_option maxHeartbeats 4000000 in
set_option maxRecDepth 100000 in
theorem b8_wholes_d64 {p : Program} {l : Launch} {e : Env} {s : State} {m : MethodId} {args : Array Value} {below : List Frame} {meth : Method} {c : Code} {D : va_G} {cy : Nat → ClassId} {A : Nat → Prop} {o : Nat} {qp oa : Nat → Nat} {qa : Nat → Nat → Nat} {K64 : Int32 → Int32 → MS → (Nat → MS) → Prop} (x1 : Int32) (x2 : Int32) (x3 : Int32) (x4 : Int32) (x5 : Int32) (Z : MS) (X : (Nat → MS)) {Q : Int32 → MS → (Nat → MS) → Prop} (C : Cx p s m args meth c cX8_wholes 6 (some .int) wsX8_wholes RX8 D cy nestWs A) (hK64 : ∀ (x4 : Int32) (x5 : Int32) (Z : MS) (X : (Nat → MS)) (H : Heap) (locs : List Loc) (ls : Array Slot), K64 x4 x5 Z X → GW D A s (wP o qp oa qa cy Z X) H locs → lv_has ls 6 [(0, .ref o), (1, .int x1), (2, .int x2), (3, .int x3), (4, .int x4), (5, .int x5)] → W p l e ({ frames := 5, cells := 0, slots := 0, locals := 124 } : Room) s m args below meth c H locs 0 0 (MQ below (va_Qi (fun r z => Q r z.1 z.2) (B1 D (fun z : MS × (Nat → MS) => wP o qp oa qa cy z.1 z.2) A) A) args s 0 0 A) (F0 m 64 ls [])) (h : w8_wholes_d64 K64 x1 x2 x3 x4 x5 Z X Q) {H : Heap} {locs : List Loc} (hG : GW D A s (wP o qp oa qa cy Z X) H locs) {ls : Array Slot} (hl : lv_has ls 6 [(0, .ref o), (1, .int x1), (2, .int x2), (3, .int x3), (4, .int x4), (5, .int x5)]) : W p l e ({ frames := 5, cells := 0, slots := 0, locals := 124 } : Room) s m args below meth c H locs 0 0 (MQ below (va_Qi (fun r z => Q r z.1 z.2) (B1 D (fun z : MS × (Nat → MS) => wP o qp oa qa cy z.1 z.2) A) A) args s 0 0 A) (F0 m 64 ls []) := by
  have hx := C.1
  have hb := C.2.1
  unfold w8_wholes_d64 at h
  refine lv_iload hx hb dX8_wholes_64 (lv_at hl 5 rfl) ?_
  refine lv_iload_n hx hb dX8_wholes_66 rfl (lv_at hl 3 rfl) ?_
  refine lv_icmp_ge (tgt := 118) hx hb dX8_wholes_67 (by decide) (fun c1 => ?_) (fun c1 => ?_)
  · replace h := h.1 c1
    refine lv_iload hx hb dX8_wholes_118 (lv_at hl 4 rfl) ?_
    exact retI (w := (fun z : MS × (Nat → MS) => wP o qp oa qa cy z.1 z.2)) (S := (Z, X)) (Qp := (fun r z => Q r z.1 z.2)) C hG h dX8_wholes_120
  · replace h := h.2 c1
    refine lv_aload_n hx hb dX8_wholes_70 rfl (lv_at hl 0 rfl) ?_
    refine gx_get C i8_wholes_X8 hG 0 rfl rfl 4 (by decide) k8_wholes_35 rfl dX8_wholes_71 ?_
    refine lv_aload_n hx hb dX8_wholes_74 rfl (lv_at hl 0 rfl) ?_
    refine gx_get C i8_wholes_X8 hG 0 rfl rfl 1 (by decide) k8_wholes_17 rfl dX8_wholes_75 ?_
    refine lv_iload_n hx hb dX8_wholes_78 rfl (lv_at hl 2 rfl) ?_
    obtain ⟨hv2, h⟩ := h
    refine gx_aald (C' := "PaperBodies$Box") C hG 2 2 rfl rfl hv2 dX8_wholes_79 ?_
    refine lv_aload_n hx hb dX8_wholes_80 rfl (lv_at hl 0 rfl) ?_
    refine gx_get C i8_wholes_X8 hG 0 rfl rfl 0 (by decide) k8_wholes_11 rfl dX8_wholes_81 ?_
    refine lv_iload_n hx hb dX8_wholes_84 rfl (lv_at hl 1 rfl) ?_
    obtain ⟨hv3, h⟩ := h
    refine gx_aald (C' := "PaperBodies$Figure") C hG 1 3 rfl rfl hv3 dX8_wholes_85 ?_
    obtain ⟨hr4, h⟩ := h
    obtain ⟨qq5, he6⟩ := at2 (o := o) (qp := qp) (oa := oa) (qa := qa) (cy := cy) (Z := Z) (X := X) (k := (x1.toNatClampNeg)) hr4
    refine gx_getN (host := "PaperBodies") C i8_wholes_X2 hG qq5 he6 rfl 1 (by decide) (by decide +kernel) rfl dX8_wholes_86 ?_
    refine lv_iload hx hb dX8_wholes_89 (lv_at hl 5 rfl) ?_
    obtain ⟨hr8, h⟩ := h
    refine callVI (As := [.ref (oa (6 + x2.toNatClampNeg)), .long (fJ (X (x1.toNatClampNeg)) 1), .int x5]) (rest := []) C hG (c6_isWhole l D cy (oa 15) (qa 15) (oa (6 + x2.toNatClampNeg)) (qa (6 + x2.toNatClampNeg)) (fJ (X (x1.toNatClampNeg)) 1) x5 (X 15) (X (6 + x2.toNatClampNeg)) _ h) 3 gX8_wholes_X6_isWhole rfl (by decide +kernel) ⟨⟨Nat.le_of_ble_eq_true rfl, Nat.le_of_ble_eq_true rfl⟩, rfl, rfl⟩ rfl rfl (fo_6_1 C.2.2.2.2.2.2.2.2.1 (k0 := 15) (k1 := (6 + x2.toNatClampNeg)) ⟨by decide, by decide⟩ hr8) rfl hl.1 rfl (Nat.le_of_ble_eq_true rfl) dX8_wholes_91 ⟨Nat.zero_le _, Nat.zero_le _⟩ (fun r7 z H locs h hG => ?_)
    obtain ⟨S9, u10⟩ := z
    obtain ⟨eu10, h⟩ := h
    have eu10 : u10 = (X (6 + x2.toNatClampNeg)) := eu10
    replace h := h
    subst u10
    obtain ⟨X11, eX11⟩ : ∃ z : Nat → MS, z = (va_up X 15 S9) := ⟨_, rfl⟩
    have hG : GW D A s (wP o qp oa qa cy Z X11) H locs := by
      rw [eX11]
      have e9 : (va_up (va_up X 15 S9) (6 + x2.toNatClampNeg) (X (6 + x2.toNatClampNeg))) = (va_up X 15 S9) := by rw [up_back (show (6 + x2.toNatClampNeg) ≠ 15 by omega)]
      rw [← e9]
      exact hG
    replace h := h X11 eX11
    refine lv_if_eq (tgt := 112) hx hb dX8_wholes_94 (by decide) (fun c12 => ?_) (fun c12 => ?_)
    · replace h := h.1 c12
      exact b8_wholes_b112 (K64 := K64) x1 x2 x3 x4 x5 Z X11 C hK64 h hG hl
    · replace h := h.2 c12
      refine lv_iload hx hb dX8_wholes_97 (lv_at hl 4 rfl) ?_
      refine lv_if_ne (tgt := 109) hx hb dX8_wholes_99 (by decide) (fun c13 => ?_) (fun c13 => ?_)
      · replace h := h.1 c13
        exact b8_wholes_b109 (K64 := K64) x1 x2 x3 x4 x5 Z X11 C hK64 h hG hl
      · replace h := h.2 c13
        refine lv_aload_n hx hb dX8_wholes_102 rfl (lv_at hl 0 rfl) ?_
        refine lv_iload hx hb dX8_wholes_103 (lv_at hl 5 rfl) ?_
        refine lv_i2l hx hb dX8_wholes_105 rfl ?_
        refine gx_put (ty := .long) (ws' := wP o qp oa qa cy (sJ Z 11 x5.toInt64) X11) C i8_wholes_X8 tyX8 tyX8_ok nmX8 hG 0 rfl rfl 11 (by decide) k8_wholes_147 rfl (by decide +kernel) rfl rfl (Nat.le_of_ble_eq_true rfl) dX8_wholes_106 rfl (fun H locs hG => ?_)
        obtain ⟨S14, eS14⟩ : ∃ z : MS, z = sJ Z 11 x5.toInt64 := ⟨_, rfl⟩
        rw [← eS14] at hG
        replace h := h S14 eS14
        exact b8_wholes_b109 (K64 := K64) x1 x2 x3 x4 x5 S14 X11 C hK64 h hG hl
def w8_wholes_F64 (x1 : Int32) (x2 : Int32) (x3 : Int32) (Q : Int32 → MS → (Nat → MS) → Prop) (K : Int32 × Int32 × MS × (Nat → MS) → Prop) (a : Int32 × Int32 × MS × (Nat → MS)) : Prop := w8_wholes_d64 (fun y0 y1 y2 y3 => K (y0, y1, y2, y3)) x1 x2 x3 a.1 a.2.1 a.2.2.1 a.2.2.2 Q
def w8_wholes_b64 (x1 : Int32) (x2 : Int32) (x3 : Int32) (x4 : Int32) (x5 : Int32) (Z : MS) (X : (Nat → MS)) (Q : Int32 → MS → (Nat → MS) → Prop) : Prop := lp (w8_wholes_F64 x1 x2 x3 Q) (x4, x5, Z, X)
set_option maxHeartbeats 4000000 in
set_option maxRecDepth 100000 in
theorem b8_wholes_b64 {p : Program} {l : Launch} {e : Env} {s : State} {m : MethodId} {args : Array Value} {below : List Frame} {meth : Method} {c : Code} {D : va_G} {cy : Nat → ClassId} {A : Nat → Prop} {o : Nat} {qp oa : Nat → Nat} {qa : Nat → Nat → Nat} (x1 : Int32) (x2 : Int32) (x3 : Int32) (x4 : Int32) (x5 : Int32) (Z : MS) (X : (Nat → MS)) {Q : Int32 → MS → (Nat → MS) → Prop} (C : Cx p s m args meth c cX8_wholes 6 (some .int) wsX8_wholes RX8 D cy nestWs A) (h : w8_wholes_b64 x1 x2 x3 x4 x5 Z X Q) {H : Heap} {locs : List Loc} (hG : GW D A s (wP o qp oa qa cy Z X) H locs) {ls : Array Slot} (hl : lv_has ls 6 [(0, .ref o), (1, .int x1), (2, .int x2), (3, .int x3), (4, .int x4), (5, .int x5)]) : W p l e ({ frames := 5, cells := 0, slots := 0, locals := 124 } : Room) s m args below meth c H locs 0 0 (MQ below (va_Qi (fun r z => Q r z.1 z.2) (B1 D (fun z : MS × (Nat → MS) => wP o qp oa qa cy z.1 z.2) A) A) args s 0 0 A) (F0 m 64 ls []) := by
  obtain ⟨k, hn⟩ := h
  induction k generalizing x4 x5 Z X H locs ls with
  | zero => exact hn.elim
  | succ k ih => exact b8_wholes_d64 (K64 := fun y0 y1 y2 y3 => itr (w8_wholes_F64 x1 x2 x3 Q) k (y0, y1, y2, y3)) x1 x2 x3 x4 x5 Z X C (fun x4 x5 Z X H locs ls hk hG hl => ih x4 x5 Z X hG hl hk) hn hG hl
def w8_wholes_b40 (Z : MS) (X : (Nat → MS)) (Q : Int32 → MS → (Nat → MS) → Prop) : Prop :=
  w8_refuse (1 : Int32) Z X (fun r1 S2 => Q r1 S2 X)
set_option maxHeartbeats 4000000 in
set_option maxRecDepth 100000 in
theorem b8_wholes_b40 {p : Program} {l : Launch} {e : Env} {s : State} {m : MethodId} {args : Array Value} {below : List Frame} {meth : Method} {c : Code} {D : va_G} {cy : Nat → ClassId} {A : Nat → Prop} {o : Nat} {qp oa : Nat → Nat} {qa : Nat → Nat → Nat} (Z : MS) (X : (Nat → MS)) {Q : Int32 → MS → (Nat → MS) → Prop} (C : Cx p s m args meth c cX8_wholes 6 (some .int) wsX8_wholes RX8 D cy nestWs A) (h : w8_wholes_b40 Z X Q) {H : Heap} {locs : List Loc} (hG : GW D A s (wP o qp oa qa cy Z X) H locs) {ls : Array Slot} (hl : lv_has ls 6 [(0, .ref o)]) : W p l e ({ frames := 5, cells := 0, slots := 0, locals := 124 } : Room) s m args below meth c H locs 0 0 (MQ below (va_Qi (fun r z => Q r z.1 z.2) (B1 D (fun z : MS × (Nat → MS) => wP o qp oa qa cy z.1 z.2) A) A) args s 0 0 A) (F0 m 40 ls []) := by
  have hx := C.1
  have hb := C.2.1
  unfold w8_wholes_b40 at h
  refine lv_aload_n hx hb dX8_wholes_40 rfl (lv_at hl 0 rfl) ?_
  refine lv_iconst (v := 1) hx hb dX8_wholes_41 (by decide) ?_
  refine callVI (As := [.int (1 : Int32)]) (rest := []) C hG (c8_refuse l D cy o qp oa qa (1 : Int32) Z X _ h) 1 gX8_wholes_X8_refuse rfl (by decide +kernel) ⟨⟨Nat.le_of_ble_eq_true rfl, Nat.le_of_ble_eq_true rfl⟩, rfl, rfl⟩ rfl rfl (Foc.all (w' := (fun z : MS × (Nat → MS) => wP o qp oa qa cy z.1 z.2)) (S' := (Z, X)) C.2.2.2.2.2.2.2.2.1) rfl hl.1 rfl (Nat.le_of_ble_eq_true rfl) dX8_wholes_42 ⟨Nat.zero_le _, Nat.zero_le _⟩ (fun r1 z H locs h hG => ?_)
  obtain ⟨S2, u3⟩ := z
  obtain ⟨eu3, h⟩ := h
  have eu3 : u3 = X := eu3
  replace h := h
  subst u3
  have hG : GW D A s (wP o qp oa qa cy S2 X) H locs := hG
  exact retI (w := (fun z : MS × (Nat → MS) => wP o qp oa qa cy z.1 z.2)) (S := (S2, X)) (Qp := (fun r z => Q r z.1 z.2)) C hG h dX8_wholes_45
def w8_wholes_b14 (Z : MS) (X : (Nat → MS)) (Q : Int32 → MS → (Nat → MS) → Prop) : Prop :=
  Q (-1 : Int32) Z X
set_option maxHeartbeats 4000000 in
set_option maxRecDepth 100000 in
theorem b8_wholes_b14 {p : Program} {l : Launch} {e : Env} {s : State} {m : MethodId} {args : Array Value} {below : List Frame} {meth : Method} {c : Code} {D : va_G} {cy : Nat → ClassId} {A : Nat → Prop} {o : Nat} {qp oa : Nat → Nat} {qa : Nat → Nat → Nat} (Z : MS) (X : (Nat → MS)) {Q : Int32 → MS → (Nat → MS) → Prop} (C : Cx p s m args meth c cX8_wholes 6 (some .int) wsX8_wholes RX8 D cy nestWs A) (h : w8_wholes_b14 Z X Q) {H : Heap} {locs : List Loc} (hG : GW D A s (wP o qp oa qa cy Z X) H locs) {ls : Array Slot} (hl : lv_has ls 6 [(0, .ref o)]) : W p l e ({ frames := 5, cells := 0, slots := 0, locals := 124 } : Room) s m args below meth c H locs 0 0 (MQ below (va_Qi (fun r z => Q r z.1 z.2) (B1 D (fun z : MS × (Nat → MS) => wP o qp oa qa cy z.1 z.2) A) A) args s 0 0 A) (F0 m 14 ls []) := by
  have hx := C.1
  have hb := C.2.1
  unfold w8_wholes_b14 at h
  refine lv_iconst (v := -1) hx hb dX8_wholes_14 (by decide) ?_
  exact retI (w := (fun z : MS × (Nat → MS) => wP o qp oa qa cy z.1 z.2)) (S := (Z, X)) (Qp := (fun r z => Q r z.1 z.2)) C hG h dX8_wholes_15
def w8_wholes (x1 : Int32) (x2 : Int32) (Z : MS) (X : (Nat → MS)) (Q : Int32 → MS → (Nat → MS) → Prop) : Prop :=
  w8_isFigure x1 (fun r1 => ((r1 = 0 → w8_wholes_b14 Z X Q) ∧ (¬ r1 = 0 → w8_isBox x2 (fun r3 => ((¬ r3 = 0 → vp_in x1 6 ∧ (0 ≤ (x1.toNatClampNeg) ∧ (x1.toNatClampNeg) < 6) ∧ w2_isThere (X (x1.toNatClampNeg)) (fun r6 => ((r6 = 0 → w8_wholes_b40 Z X Q) ∧ (¬ r6 = 0 → vp_in x2 4 ∧ (6 ≤ (6 + x2.toNatClampNeg) ∧ (6 + x2.toNatClampNeg) < 10) ∧ w1_isThere (X (6 + x2.toNatClampNeg)) (fun r11 => ((¬ r11 = 0 → ∀ y17 : Int32, y17 = ((fI (X (6 + x2.toNatClampNeg)) 6) * (4 : Int32)) → w8_wholes_b64 x1 x2 y17 (0 : Int32) (0 : Int32) Z X Q) ∧ (r11 = 0 → w8_wholes_b40 Z X Q))))))) ∧ (r3 = 0 → w8_wholes_b14 Z X Q))))))
set_option maxHeartbeats 4000000 in
set_option maxRecDepth 100000 in
theorem c8_wholes (l : Launch) (D : va_G) (cy : Nat → ClassId)  (o : Nat) (qp oa : Nat → Nat) (qa : Nat → Nat → Nat) (x1 : Int32) (x2 : Int32) (Z : MS) (X : (Nat → MS)) (Q : Int32 → MS → (Nat → MS) → Prop) (h : w8_wholes x1 x2 Z X Q) : MetI l yX8_wholes wsX8_wholes ({ frames := 5, cells := 0, slots := 0, locals := 124 } : Room) D cy nestWs (fun z : MS × (Nat → MS) => wP o qp oa qa cy z.1 z.2) [.ref o, .int x1, .int x2] (Z, X) (fun r z => Q r z.1 z.2) := by
  refine MetI.mk RX8 cX8_wholes 6 .int (by decide) rfl nestWs_ok rfl (Nat.le_of_ble_eq_true rfl) ?_
  intro p e s m below meth c A ls C hG hl
  have hl : lv_has ls 6 [(0, .ref o), (1, .int x1), (2, .int x2)] := hl
  have hx := C.1
  have hb := C.2.1
  unfold w8_wholes at h
  refine lv_iload_n hx hb dX8_wholes_0 rfl (lv_at hl 1 rfl) ?_
  refine callSI (As := [.int x1]) (rest := []) C hG (c8_isFigure l D cy x1 _ h) 1 gX8_wholes_X8_isFigure rfl (by decide +kernel) ⟨⟨Nat.le_of_ble_eq_true rfl, Nat.le_of_ble_eq_true rfl⟩, rfl, rfl⟩ (Foc.none C.2.2.2.2.2.2.2.2.1) rfl hl.1 rfl (Nat.le_of_ble_eq_true rfl) dX8_wholes_1 ⟨Nat.zero_le _, Nat.zero_le _⟩ (fun r1 z H locs h hG => ?_)
  refine lv_if_eq (tgt := 14) hx hb dX8_wholes_4 (by decide) (fun c2 => ?_) (fun c2 => ?_)
  · replace h := h.1 c2
    exact b8_wholes_b14 Z X C h hG (lv_sub hl [0] rfl)
  · replace h := h.2 c2
    refine lv_iload_n hx hb dX8_wholes_7 rfl (lv_at hl 2 rfl) ?_
    refine callSI (As := [.int x2]) (rest := []) C hG (c8_isBox l D cy x2 _ h) 1 gX8_wholes_X8_isBox rfl (by decide +kernel) ⟨⟨Nat.le_of_ble_eq_true rfl, Nat.le_of_ble_eq_true rfl⟩, rfl, rfl⟩ (Foc.none C.2.2.2.2.2.2.2.2.1) rfl hl.1 rfl (Nat.le_of_ble_eq_true rfl) dX8_wholes_8 ⟨Nat.zero_le _, Nat.zero_le _⟩ (fun r3 z H locs h hG => ?_)
    refine lv_if_ne (tgt := 16) hx hb dX8_wholes_11 (by decide) (fun c4 => ?_) (fun c4 => ?_)
    · replace h := h.1 c4
      refine lv_aload_n hx hb dX8_wholes_16 rfl (lv_at hl 0 rfl) ?_
      refine gx_get C i8_wholes_X8 hG 0 rfl rfl 0 (by decide) k8_wholes_11 rfl dX8_wholes_17 ?_
      refine lv_iload_n hx hb dX8_wholes_20 rfl (lv_at hl 1 rfl) ?_
      obtain ⟨hv5, h⟩ := h
      refine gx_aald (C' := "PaperBodies$Figure") C hG 1 3 rfl rfl hv5 dX8_wholes_21 ?_
      obtain ⟨hr7, h⟩ := h
      refine callVI (As := []) (rest := []) C hG (c2_isThere l D cy (oa (x1.toNatClampNeg)) (qa (x1.toNatClampNeg)) (X (x1.toNatClampNeg)) _ h) 0 gX8_wholes_X2_isThere rfl (by decide +kernel) ⟨⟨Nat.le_of_ble_eq_true rfl, Nat.le_of_ble_eq_true rfl⟩, rfl, rfl⟩ rfl rfl (fo_2 C.2.2.2.2.2.2.2.2.1 (k0 := (x1.toNatClampNeg)) hr7) rfl hl.1 rfl (Nat.le_of_ble_eq_true rfl) dX8_wholes_22 ⟨Nat.zero_le _, Nat.zero_le _⟩ (fun r6 u8 H locs h hG => ?_)
      obtain ⟨eu8, h⟩ := h
      have eu8 : u8 = (X (x1.toNatClampNeg)) := eu8
      subst u8
      have hG : GW D A s (wP o qp oa qa cy Z X) H locs := by
        have e9 : (va_up X (x1.toNatClampNeg) (X (x1.toNatClampNeg))) = X := by simp only [up_same]
        have hG : GW D A s (wP o qp oa qa cy Z (va_up X (x1.toNatClampNeg) (X (x1.toNatClampNeg)))) H locs := hG
        rw [e9] at hG
        exact hG
      refine lv_if_eq (tgt := 40) hx hb dX8_wholes_25 (by decide) (fun c9 => ?_) (fun c9 => ?_)
      · replace h := h.1 c9
        exact b8_wholes_b40 Z X C h hG (lv_sub hl [0] rfl)
      · replace h := h.2 c9
        refine lv_aload_n hx hb dX8_wholes_28 rfl (lv_at hl 0 rfl) ?_
        refine gx_get C i8_wholes_X8 hG 0 rfl rfl 1 (by decide) k8_wholes_17 rfl dX8_wholes_29 ?_
        refine lv_iload_n hx hb dX8_wholes_32 rfl (lv_at hl 2 rfl) ?_
        obtain ⟨hv10, h⟩ := h
        refine gx_aald (C' := "PaperBodies$Box") C hG 2 2 rfl rfl hv10 dX8_wholes_33 ?_
        obtain ⟨hr12, h⟩ := h
        refine callVI (As := []) (rest := []) C hG (c1_isThere l D cy (oa (6 + x2.toNatClampNeg)) (qa (6 + x2.toNatClampNeg)) (X (6 + x2.toNatClampNeg)) _ h) 0 gX8_wholes_X1_isThere rfl (by decide +kernel) ⟨⟨Nat.le_of_ble_eq_true rfl, Nat.le_of_ble_eq_true rfl⟩, rfl, rfl⟩ rfl rfl (fo_1 C.2.2.2.2.2.2.2.2.1 (k0 := (6 + x2.toNatClampNeg)) hr12) rfl hl.1 rfl (Nat.le_of_ble_eq_true rfl) dX8_wholes_34 ⟨Nat.zero_le _, Nat.zero_le _⟩ (fun r11 u13 H locs h hG => ?_)
        obtain ⟨eu13, h⟩ := h
        have eu13 : u13 = (X (6 + x2.toNatClampNeg)) := eu13
        subst u13
        have hG : GW D A s (wP o qp oa qa cy Z X) H locs := by
          have e9 : (va_up X (6 + x2.toNatClampNeg) (X (6 + x2.toNatClampNeg))) = X := by simp only [up_same]
          have hG : GW D A s (wP o qp oa qa cy Z (va_up X (6 + x2.toNatClampNeg) (X (6 + x2.toNatClampNeg)))) H locs := hG
          rw [e9] at hG
          exact hG
        refine lv_if_ne (tgt := 46) hx hb dX8_wholes_37 (by decide) (fun c14 => ?_) (fun c14 => ?_)
        · replace h := h.1 c14
          refine lv_aload_n hx hb dX8_wholes_46 rfl (lv_at hl 0 rfl) ?_
          refine gx_get C i8_wholes_X8 hG 0 rfl rfl 1 (by decide) k8_wholes_17 rfl dX8_wholes_47 ?_
          refine lv_iload_n hx hb dX8_wholes_50 rfl (lv_at hl 2 rfl) ?_
          refine gx_aald (C' := "PaperBodies$Box") C hG 2 2 rfl rfl hv10 dX8_wholes_51 ?_
          obtain ⟨qq15, he16⟩ := at1 (o := o) (qp := qp) (oa := oa) (qa := qa) (cy := cy) (Z := Z) (X := X) (k := (6 + x2.toNatClampNeg)) hr12
          refine gx_getN (host := "PaperBodies") C i8_wholes_X1 hG qq15 he16 rfl 6 (by decide) (by decide +kernel) rfl dX8_wholes_52 ?_
          refine lv_iconst (v := 4) hx hb dX8_wholes_55 (by decide) ?_
          refine lv_imul hx hb dX8_wholes_56 ?_
          refine lv_topi (fun y17 ey17 => ?_)
          replace h := h y17 ey17
          refine lv_istore_n (lv' := [(3, .int y17), (0, .ref o), (1, .int x1), (2, .int x2)]) hx hb dX8_wholes_57 rfl hl (by decide) rfl (fun ls hl => ?_)
          refine lv_iconst (v := 0) hx hb dX8_wholes_58 (by decide) ?_
          refine lv_istore (lv' := [(4, .int (0 : Int32)), (3, .int y17), (0, .ref o), (1, .int x1), (2, .int x2)]) hx hb dX8_wholes_59 hl (by decide) rfl (fun ls hl => ?_)
          refine lv_iconst (v := 0) hx hb dX8_wholes_61 (by decide) ?_
          refine lv_istore (lv' := [(5, .int (0 : Int32)), (4, .int (0 : Int32)), (3, .int y17), (0, .ref o), (1, .int x1), (2, .int x2)]) hx hb dX8_wholes_62 hl (by decide) rfl (fun ls hl => ?_)
          exact b8_wholes_b64 x1 x2 y17 (0 : Int32) (0 : Int32) Z X C h hG (lv_sub hl [3, 4, 5, 2, 1, 0] rfl)
        · replace h := h.2 c14
          exact b8_wholes_b40 Z X C h hG (lv_sub hl [0] rfl)
    · replace h := h.2 c4
      exact b8_wholes_b14 Z X C h hG (lv_sub hl [0] rfl)
