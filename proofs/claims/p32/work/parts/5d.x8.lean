-- X8_rim
theorem i8_rim_X8 : ∀ w ∈ wsX80, w ∈ wsX8_rim := fun w h => List.mem_cons_of_mem _ (inG_X8 w h)
theorem i8_rim_X4 : ∀ w ∈ wsX40, w ∈ wsX8_rim := fun w h => List.mem_cons_of_mem _ (inG_X4 w h)
theorem i8_rim_X2 : ∀ w ∈ wsX20, w ∈ wsX8_rim := fun w h => List.mem_cons_of_mem _ (inG_X2 w h)
theorem k8_rim_11 : Cond.fieldLink RX8 11 "PaperBodies" "figures" "[LPaperBodies$Figure;" ∈ wsX8_rim := (List.mem_cons_of_mem _ mw_317)
theorem k8_rim_52 : Cond.fieldLink RX8 52 "PaperBodies" "walked" "LPaperBodies$Rim;" ∈ wsX8_rim := (List.mem_cons_of_mem _ mw_333)
def w8_rim_b58 (t0 : Int32) (Z : MS) (X : (Nat → MS)) (Q : Int32 → MS → (Nat → MS) → Prop) : Prop :=
  Q t0 Z X
set_option maxHeartbeats 4000000 in
set_option maxRecDepth 100000 in
theorem b8_rim_b58 {p : Program} {l : Launch} {e : Env} {s : State} {m : MethodId} {args : Array Value} {below : List Frame} {meth : Method} {c : Code} {D : va_G} {cy : Nat → ClassId} {A : Nat → Prop} {o : Nat} {qp oa : Nat → Nat} {qa : Nat → Nat → Nat} (t0 : Int32) (Z : MS) (X : (Nat → MS)) {Q : Int32 → MS → (Nat → MS) → Prop} (C : Cx p s m args meth c cX8_rim 2 (some .int) wsX8_rim RX8 D cy nestWs A) (h : w8_rim_b58 t0 Z X Q) {H : Heap} {locs : List Loc} (hG : GW D A s (wP o qp oa qa cy Z X) H locs) {ls : Array Slot} (hl : lv_has ls 2 [(0, .ref o)]) : W p l e ({ frames := 3, cells := 0, slots := 0, locals := 74 } : Room) s m args below meth c H locs 0 0 (MQ below (va_Qi (fun r z => Q r z.1 z.2) (B1 D (fun z : MS × (Nat → MS) => wP o qp oa qa cy z.1 z.2) A) A) args s 0 0 A) (F0 m 58 ls [.int t0]) := by
  have hx := C.1
  have hb := C.2.1
  unfold w8_rim_b58 at h
  exact retI (w := (fun z : MS × (Nat → MS) => wP o qp oa qa cy z.1 z.2)) (S := (Z, X)) (Qp := (fun r z => Q r z.1 z.2)) C hG h dX8_rim_58
def w8_rim (x1 : Int32) (Z : MS) (X : (Nat → MS)) (Q : Int32 → MS → (Nat → MS) → Prop) : Prop :=
  w8_isFigure x1 (fun r1 => ((¬ r1 = 0 → vp_in x1 6 ∧ (0 ≤ (x1.toNatClampNeg) ∧ (x1.toNatClampNeg) < 6) ∧ w2_isThere (X (x1.toNatClampNeg)) (fun r4 => ((¬ r4 = 0 → w4_walk (fJ (X (x1.toNatClampNeg)) 1) (X 18) (fun r10 S11 => ∀ X12 : Nat → MS, X12 = (va_up X 18 S11) → ((r10 = 0 → w8_rim_b58 (-4 : Int32) Z X12 Q) ∧ (¬ r10 = 0 → w8_rim_b58 (fI (X12 18) 3) Z X12 Q)))) ∧ (r4 = 0 → w8_refuse (1 : Int32) Z X (fun r16 S17 => Q r16 S17 X))))) ∧ (r1 = 0 → Q (-1 : Int32) Z X)))
set_option maxHeartbeats 4000000 in
set_option maxRecDepth 100000 in
theorem c8_rim (l : Launch) (D : va_G) (cy : Nat → ClassId)  (o : Nat) (qp oa : Nat → Nat) (qa : Nat → Nat → Nat) (x1 : Int32) (Z : MS) (X : (Nat → MS)) (Q : Int32 → MS → (Nat → MS) → Prop) (h : w8_rim x1 Z X Q) : MetI l yX8_rim wsX8_rim ({ frames := 3, cells := 0, slots := 0, locals := 74 } : Room) D cy nestWs (fun z : MS × (Nat → MS) => wP o qp oa qa cy z.1 z.2) [.ref o, .int x1] (Z, X) (fun r z => Q r z.1 z.2) := by
  refine MetI.mk RX8 cX8_rim 2 .int (by decide) rfl nestWs_ok rfl (Nat.le_of_ble_eq_true rfl) ?_
  intro p e s m below meth c A ls C hG hl
  have hl : lv_has ls 2 [(0, .ref o), (1, .int x1)] := hl
  have hx := C.1
  have hb := C.2.1
  unfold w8_rim at h
  refine lv_iload_n hx hb dX8_rim_0 rfl (lv_at hl 1 rfl) ?_
  refine callSI (As := [.int x1]) (rest := []) C hG (c8_isFigure l D cy x1 _ h) 1 gX8_rim_X8_isFigure rfl (by decide +kernel) ⟨⟨Nat.le_of_ble_eq_true rfl, Nat.le_of_ble_eq_true rfl⟩, rfl, rfl⟩ (Foc.none C.2.2.2.2.2.2.2.2.1) rfl hl.1 rfl (Nat.le_of_ble_eq_true rfl) dX8_rim_1 ⟨Nat.zero_le _, Nat.zero_le _⟩ (fun r1 z H locs h hG => ?_)
  refine lv_if_ne (tgt := 9) hx hb dX8_rim_4 (by decide) (fun c2 => ?_) (fun c2 => ?_)
  · replace h := h.1 c2
    refine lv_aload_n hx hb dX8_rim_9 rfl (lv_at hl 0 rfl) ?_
    refine gx_get C i8_rim_X8 hG 0 rfl rfl 0 (by decide) k8_rim_11 rfl dX8_rim_10 ?_
    refine lv_iload_n hx hb dX8_rim_13 rfl (lv_at hl 1 rfl) ?_
    obtain ⟨hv3, h⟩ := h
    refine gx_aald (C' := "PaperBodies$Figure") C hG 1 3 rfl rfl hv3 dX8_rim_14 ?_
    obtain ⟨hr5, h⟩ := h
    refine callVI (As := []) (rest := []) C hG (c2_isThere l D cy (oa (x1.toNatClampNeg)) (qa (x1.toNatClampNeg)) (X (x1.toNatClampNeg)) _ h) 0 gX8_rim_X2_isThere rfl (by decide +kernel) ⟨⟨Nat.le_of_ble_eq_true rfl, Nat.le_of_ble_eq_true rfl⟩, rfl, rfl⟩ rfl rfl (fo_2 C.2.2.2.2.2.2.2.2.1 (k0 := (x1.toNatClampNeg)) hr5) rfl hl.1 rfl (Nat.le_of_ble_eq_true rfl) dX8_rim_15 ⟨Nat.zero_le _, Nat.zero_le _⟩ (fun r4 u6 H locs h hG => ?_)
    obtain ⟨eu6, h⟩ := h
    have eu6 : u6 = (X (x1.toNatClampNeg)) := eu6
    subst u6
    have hG : GW D A s (wP o qp oa qa cy Z X) H locs := by
      have e9 : (va_up X (x1.toNatClampNeg) (X (x1.toNatClampNeg))) = X := by simp only [up_same]
      have hG : GW D A s (wP o qp oa qa cy Z (va_up X (x1.toNatClampNeg) (X (x1.toNatClampNeg)))) H locs := hG
      rw [e9] at hG
      exact hG
    refine lv_if_ne (tgt := 27) hx hb dX8_rim_18 (by decide) (fun c7 => ?_) (fun c7 => ?_)
    · replace h := h.1 c7
      refine lv_aload_n hx hb dX8_rim_27 rfl (lv_at hl 0 rfl) ?_
      refine gx_get C i8_rim_X8 hG 0 rfl rfl 7 (by decide) k8_rim_52 rfl dX8_rim_28 ?_
      refine lv_aload_n hx hb dX8_rim_31 rfl (lv_at hl 0 rfl) ?_
      refine gx_get C i8_rim_X8 hG 0 rfl rfl 0 (by decide) k8_rim_11 rfl dX8_rim_32 ?_
      refine lv_iload_n hx hb dX8_rim_35 rfl (lv_at hl 1 rfl) ?_
      refine gx_aald (C' := "PaperBodies$Figure") C hG 1 3 rfl rfl hv3 dX8_rim_36 ?_
      obtain ⟨qq8, he9⟩ := at2 (o := o) (qp := qp) (oa := oa) (qa := qa) (cy := cy) (Z := Z) (X := X) (k := (x1.toNatClampNeg)) hr5
      refine gx_getN (host := "PaperBodies") C i8_rim_X2 hG qq8 he9 rfl 1 (by decide) (by decide +kernel) rfl dX8_rim_37 ?_
      refine callVI (As := [.long (fJ (X (x1.toNatClampNeg)) 1)]) (rest := []) C hG (c4_walk l D cy (oa 18) (qa 18) (fJ (X (x1.toNatClampNeg)) 1) (X 18) _ h) 1 gX8_rim_X4_walk rfl (by decide +kernel) ⟨⟨Nat.le_of_ble_eq_true rfl, Nat.le_of_ble_eq_true rfl⟩, rfl, rfl⟩ rfl rfl (fo_4 C.2.2.2.2.2.2.2.2.1 (k0 := 18) ⟨by decide, by decide⟩) rfl hl.1 rfl (Nat.le_of_ble_eq_true rfl) dX8_rim_40 ⟨Nat.zero_le _, Nat.zero_le _⟩ (fun r10 S11 H locs h hG => ?_)
      obtain ⟨X12, eX12⟩ : ∃ z : Nat → MS, z = (va_up X 18 S11) := ⟨_, rfl⟩
      have hG : GW D A s (wP o qp oa qa cy Z X12) H locs := by rw [eX12]; exact hG
      replace h := h X12 eX12
      refine lv_if_eq (tgt := 56) hx hb dX8_rim_43 (by decide) (fun c13 => ?_) (fun c13 => ?_)
      · replace h := h.1 c13
        refine lv_bipush (v := -4) hx hb dX8_rim_56 (by decide) ?_
        exact b8_rim_b58 (-4 : Int32) Z X12 C h hG (lv_sub hl [0] rfl)
      · replace h := h.2 c13
        refine lv_aload_n hx hb dX8_rim_46 rfl (lv_at hl 0 rfl) ?_
        refine gx_get C i8_rim_X8 hG 0 rfl rfl 7 (by decide) k8_rim_52 rfl dX8_rim_47 ?_
        obtain ⟨qq14, he15⟩ := at4 (o := o) (qp := qp) (oa := oa) (qa := qa) (cy := cy) (Z := Z) (X := X12) (k := 18) ⟨by decide, by decide⟩
        refine gx_getN (host := "PaperBodies") C i8_rim_X4 hG qq14 he15 rfl 3 (by decide) (by decide +kernel) rfl dX8_rim_50 ?_
        refine lv_goto (tgt := 58) hx hb dX8_rim_53 (by decide) ?_
        exact b8_rim_b58 (fI (X12 18) 3) Z X12 C h hG (lv_sub hl [0] rfl)
    · replace h := h.2 c7
      refine lv_aload_n hx hb dX8_rim_21 rfl (lv_at hl 0 rfl) ?_
      refine lv_iconst (v := 1) hx hb dX8_rim_22 (by decide) ?_
      refine callVI (As := [.int (1 : Int32)]) (rest := []) C hG (c8_refuse l D cy o qp oa qa (1 : Int32) Z X _ h) 1 gX8_rim_X8_refuse rfl (by decide +kernel) ⟨⟨Nat.le_of_ble_eq_true rfl, Nat.le_of_ble_eq_true rfl⟩, rfl, rfl⟩ rfl rfl (Foc.all (w' := (fun z : MS × (Nat → MS) => wP o qp oa qa cy z.1 z.2)) (S' := (Z, X)) C.2.2.2.2.2.2.2.2.1) rfl hl.1 rfl (Nat.le_of_ble_eq_true rfl) dX8_rim_23 ⟨Nat.zero_le _, Nat.zero_le _⟩ (fun r16 z H locs h hG => ?_)
      obtain ⟨S17, u18⟩ := z
      obtain ⟨eu18, h⟩ := h
      have eu18 : u18 = X := eu18
      replace h := h
      subst u18
      have hG : GW D A s (wP o qp oa qa cy S17 X) H locs := hG
      exact retI (w := (fun z : MS × (Nat → MS) => wP o qp oa qa cy z.1 z.2)) (S := (S17, X)) (Qp := (fun r z => Q r z.1 z.2)) C hG h dX8_rim_26
  · replace h := h.2 c2
    refine lv_iconst (v := -1) hx hb dX8_rim_7 (by decide) ?_
    exact retI (w := (fun z : MS × (Nat → MS) => wP o qp oa qa cy z.1 z.2)) (S := (Z, X)) (Qp := (fun r z => Q r z.1 z.2)) C hG h dX8_rim_8
-- X8_edge
theorem i8_edge_X8 : ∀ w ∈ wsX80, w ∈ wsX8_edge := fun w h => List.mem_cons_of_mem _ (inG_X8 w h)
theorem i8_edge_X2 : ∀ w ∈ wsX20, w ∈ wsX8_edge := fun w h => List.mem_cons_of_mem _ (inG_X2 w h)
theorem k8_edge_11 : Cond.fieldLink RX8 11 "PaperBodies" "figures" "[LPaperBodies$Figure;" ∈ wsX8_edge := (List.mem_cons_of_mem _ mw_317)
theorem k8_edge_52 : Cond.fieldLink RX8 52 "PaperBodies" "walked" "LPaperBodies$Rim;" ∈ wsX8_edge := (List.mem_cons_of_mem _ mw_333)
def w8_edge_b16 (Z : MS) (X : (Nat → MS)) (Q : Int32 → MS → (Nat → MS) → Prop) : Prop :=
  Q (-1 : Int32) Z X
set_option maxHeartbeats 4000000 in
set_option maxRecDepth 100000 in
theorem b8_edge_b16 {p : Program} {l : Launch} {e : Env} {s : State} {m : MethodId} {args : Array Value} {below : List Frame} {meth : Method} {c : Code} {D : va_G} {cy : Nat → ClassId} {A : Nat → Prop} {o : Nat} {qp oa : Nat → Nat} {qa : Nat → Nat → Nat} (Z : MS) (X : (Nat → MS)) {Q : Int32 → MS → (Nat → MS) → Prop} (C : Cx p s m args meth c cX8_edge 4 (some .int) wsX8_edge RX8 D cy nestWs A) (h : w8_edge_b16 Z X Q) {H : Heap} {locs : List Loc} (hG : GW D A s (wP o qp oa qa cy Z X) H locs) {ls : Array Slot} (hl : lv_has ls 4 [(0, .ref o)]) : W p l e ({ frames := 3, cells := 0, slots := 0, locals := 74 } : Room) s m args below meth c H locs 0 0 (MQ below (va_Qi (fun r z => Q r z.1 z.2) (B1 D (fun z : MS × (Nat → MS) => wP o qp oa qa cy z.1 z.2) A) A) args s 0 0 A) (F0 m 16 ls []) := by
  have hx := C.1
  have hb := C.2.1
  unfold w8_edge_b16 at h
  refine lv_iconst (v := -1) hx hb dX8_edge_16 (by decide) ?_
  exact retI (w := (fun z : MS × (Nat → MS) => wP o qp oa qa cy z.1 z.2)) (S := (Z, X)) (Qp := (fun r z => Q r z.1 z.2)) C hG h dX8_edge_17
def w8_edge (x1 : Int32) (x2 : Int32) (x3 : Int32) (Z : MS) (X : (Nat → MS)) (Q : Int32 → MS → (Nat → MS) → Prop) : Prop :=
  w8_isFigure x1 (fun r1 => ((r1 = 0 → w8_edge_b16 Z X Q) ∧ (¬ r1 = 0 → w8_within x3 (0 : Int32) (2 : Int32) (fun r3 => ((¬ r3 = 0 → vp_in x1 6 ∧ (0 ≤ (x1.toNatClampNeg) ∧ (x1.toNatClampNeg) < 6) ∧ w2_isThere (X (x1.toNatClampNeg)) (fun r6 => ((¬ r6 = 0 → w4_walk (fJ (X (x1.toNatClampNeg)) 1) (X 18) (fun r12 S13 => ∀ X14 : Nat → MS, X14 = (va_up X 18 S13) → ((¬ r12 = 0 → w4_hasEdge x2 (X14 18) (fun r16 => ((¬ r16 = 0 → w4_tellEdge x2 x3 (X14 18) (fun r19 => Q r19 Z X14)) ∧ (r16 = 0 → w8_refuse (2 : Int32) Z X14 (fun r21 S22 => Q r21 S22 X14))))) ∧ (r12 = 0 → Q (-4 : Int32) Z X14)))) ∧ (r6 = 0 → w8_refuse (1 : Int32) Z X (fun r24 S25 => Q r24 S25 X))))) ∧ (r3 = 0 → w8_edge_b16 Z X Q))))))
set_option maxHeartbeats 4000000 in
set_option maxRecDepth 100000 in
theorem c8_edge (l : Launch) (D : va_G) (cy : Nat → ClassId)  (o : Nat) (qp oa : Nat → Nat) (qa : Nat → Nat → Nat) (x1 : Int32) (x2 : Int32) (x3 : Int32) (Z : MS) (X : (Nat → MS)) (Q : Int32 → MS → (Nat → MS) → Prop) (h : w8_edge x1 x2 x3 Z X Q) : MetI l yX8_edge wsX8_edge ({ frames := 3, cells := 0, slots := 0, locals := 74 } : Room) D cy nestWs (fun z : MS × (Nat → MS) => wP o qp oa qa cy z.1 z.2) [.ref o, .int x1, .int x2, .int x3] (Z, X) (fun r z => Q r z.1 z.2) := by
  refine MetI.mk RX8 cX8_edge 4 .int (by decide) rfl nestWs_ok rfl (Nat.le_of_ble_eq_true rfl) ?_
  intro p e s m below meth c A ls C hG hl
  have hl : lv_has ls 4 [(0, .ref o), (1, .int x1), (2, .int x2), (3, .int x3)] := hl
  have hx := C.1
  have hb := C.2.1
  unfold w8_edge at h
  refine lv_iload_n hx hb dX8_edge_0 rfl (lv_at hl 1 rfl) ?_
  refine callSI (As := [.int x1]) (rest := []) C hG (c8_isFigure l D cy x1 _ h) 1 gX8_edge_X8_isFigure rfl (by decide +kernel) ⟨⟨Nat.le_of_ble_eq_true rfl, Nat.le_of_ble_eq_true rfl⟩, rfl, rfl⟩ (Foc.none C.2.2.2.2.2.2.2.2.1) rfl hl.1 rfl (Nat.le_of_ble_eq_true rfl) dX8_edge_1 ⟨Nat.zero_le _, Nat.zero_le _⟩ (fun r1 z H locs h hG => ?_)
  refine lv_if_eq (tgt := 16) hx hb dX8_edge_4 (by decide) (fun c2 => ?_) (fun c2 => ?_)
  · replace h := h.1 c2
    exact b8_edge_b16 Z X C h hG (lv_sub hl [0] rfl)
  · replace h := h.2 c2
    refine lv_iload_n hx hb dX8_edge_7 rfl (lv_at hl 3 rfl) ?_
    refine lv_iconst (v := 0) hx hb dX8_edge_8 (by decide) ?_
    refine lv_iconst (v := 2) hx hb dX8_edge_9 (by decide) ?_
    refine callSI (As := [.int x3, .int (0 : Int32), .int (2 : Int32)]) (rest := []) C hG (c8_within l D cy x3 (0 : Int32) (2 : Int32) _ h) 3 gX8_edge_X8_within rfl (by decide +kernel) ⟨⟨Nat.le_of_ble_eq_true rfl, Nat.le_of_ble_eq_true rfl⟩, rfl, rfl⟩ (Foc.none C.2.2.2.2.2.2.2.2.1) rfl hl.1 rfl (Nat.le_of_ble_eq_true rfl) dX8_edge_10 ⟨Nat.zero_le _, Nat.zero_le _⟩ (fun r3 z H locs h hG => ?_)
    refine lv_if_ne (tgt := 18) hx hb dX8_edge_13 (by decide) (fun c4 => ?_) (fun c4 => ?_)
    · replace h := h.1 c4
      refine lv_aload_n hx hb dX8_edge_18 rfl (lv_at hl 0 rfl) ?_
      refine gx_get C i8_edge_X8 hG 0 rfl rfl 0 (by decide) k8_edge_11 rfl dX8_edge_19 ?_
      refine lv_iload_n hx hb dX8_edge_22 rfl (lv_at hl 1 rfl) ?_
      obtain ⟨hv5, h⟩ := h
      refine gx_aald (C' := "PaperBodies$Figure") C hG 1 3 rfl rfl hv5 dX8_edge_23 ?_
      obtain ⟨hr7, h⟩ := h
      refine callVI (As := []) (rest := []) C hG (c2_isThere l D cy (oa (x1.toNatClampNeg)) (qa (x1.toNatClampNeg)) (X (x1.toNatClampNeg)) _ h) 0 gX8_edge_X2_isThere rfl (by decide +kernel) ⟨⟨Nat.le_of_ble_eq_true rfl, Nat.le_of_ble_eq_true rfl⟩, rfl, rfl⟩ rfl rfl (fo_2 C.2.2.2.2.2.2.2.2.1 (k0 := (x1.toNatClampNeg)) hr7) rfl hl.1 rfl (Nat.le_of_ble_eq_true rfl) dX8_edge_24 ⟨Nat.zero_le _, Nat.zero_le _⟩ (fun r6 u8 H locs h hG => ?_)
      obtain ⟨eu8, h⟩ := h
      have eu8 : u8 = (X (x1.toNatClampNeg)) := eu8
      subst u8
      have hG : GW D A s (wP o qp oa qa cy Z X) H locs := by
        have e9 : (va_up X (x1.toNatClampNeg) (X (x1.toNatClampNeg))) = X := by simp only [up_same]
        have hG : GW D A s (wP o qp oa qa cy Z (va_up X (x1.toNatClampNeg) (X (x1.toNatClampNeg)))) H locs := hG
        rw [e9] at hG
        exact hG
      refine lv_if_ne (tgt := 36) hx hb dX8_edge_27 (by decide) (fun c9 => ?_) (fun c9 => ?_)
      · replace h := h.1 c9
        refine lv_aload_n hx hb dX8_edge_36 rfl (lv_at hl 0 rfl) ?_
        refine gx_get C i8_edge_X8 hG 0 rfl rfl 7 (by decide) k8_edge_52 rfl dX8_edge_37 ?_
        refine lv_aload_n hx hb dX8_edge_40 rfl (lv_at hl 0 rfl) ?_
        refine gx_get C i8_edge_X8 hG 0 rfl rfl 0 (by decide) k8_edge_11 rfl dX8_edge_41 ?_
        refine lv_iload_n hx hb dX8_edge_44 rfl (lv_at hl 1 rfl) ?_
        refine gx_aald (C' := "PaperBodies$Figure") C hG 1 3 rfl rfl hv5 dX8_edge_45 ?_
        obtain ⟨qq10, he11⟩ := at2 (o := o) (qp := qp) (oa := oa) (qa := qa) (cy := cy) (Z := Z) (X := X) (k := (x1.toNatClampNeg)) hr7
        refine gx_getN (host := "PaperBodies") C i8_edge_X2 hG qq10 he11 rfl 1 (by decide) (by decide +kernel) rfl dX8_edge_46 ?_
        refine callVI (As := [.long (fJ (X (x1.toNatClampNeg)) 1)]) (rest := []) C hG (c4_walk l D cy (oa 18) (qa 18) (fJ (X (x1.toNatClampNeg)) 1) (X 18) _ h) 1 gX8_edge_X4_walk rfl (by decide +kernel) ⟨⟨Nat.le_of_ble_eq_true rfl, Nat.le_of_ble_eq_true rfl⟩, rfl, rfl⟩ rfl rfl (fo_4 C.2.2.2.2.2.2.2.2.1 (k0 := 18) ⟨by decide, by decide⟩) rfl hl.1 rfl (Nat.le_of_ble_eq_true rfl) dX8_edge_49 ⟨Nat.zero_le _, Nat.zero_le _⟩ (fun r12 S13 H locs h hG => ?_)
        obtain ⟨X14, eX14⟩ : ∃ z : Nat → MS, z = (va_up X 18 S13) := ⟨_, rfl⟩
        have hG : GW D A s (wP o qp oa qa cy Z X14) H locs := by rw [eX14]; exact hG
        replace h := h X14 eX14
        refine lv_if_ne (tgt := 58) hx hb dX8_edge_52 (by decide) (fun c15 => ?_) (fun c15 => ?_)
        · replace h := h.1 c15
          refine lv_aload_n hx hb dX8_edge_58 rfl (lv_at hl 0 rfl) ?_
          refine gx_get C i8_edge_X8 hG 0 rfl rfl 7 (by decide) k8_edge_52 rfl dX8_edge_59 ?_
          refine lv_iload_n hx hb dX8_edge_62 rfl (lv_at hl 2 rfl) ?_
          refine callVI (As := [.int x2]) (rest := []) C hG (c4_hasEdge l D cy (oa 18) (qa 18) x2 (X14 18) _ h) 1 gX8_edge_X4_hasEdge rfl (by decide +kernel) ⟨⟨Nat.le_of_ble_eq_true rfl, Nat.le_of_ble_eq_true rfl⟩, rfl, rfl⟩ rfl rfl (fo_4 C.2.2.2.2.2.2.2.2.1 (k0 := 18) ⟨by decide, by decide⟩) rfl hl.1 rfl (Nat.le_of_ble_eq_true rfl) dX8_edge_63 ⟨Nat.zero_le _, Nat.zero_le _⟩ (fun r16 u17 H locs h hG => ?_)
          obtain ⟨eu17, h⟩ := h
          have eu17 : u17 = (X14 18) := eu17
          subst u17
          have hG : GW D A s (wP o qp oa qa cy Z X14) H locs := by
            have e9 : (va_up X14 18 (X14 18)) = X14 := by simp only [up_same]
            have hG : GW D A s (wP o qp oa qa cy Z (va_up X14 18 (X14 18))) H locs := hG
            rw [e9] at hG
            exact hG
          refine lv_if_ne (tgt := 75) hx hb dX8_edge_66 (by decide) (fun c18 => ?_) (fun c18 => ?_)
          · replace h := h.1 c18
            refine lv_aload_n hx hb dX8_edge_75 rfl (lv_at hl 0 rfl) ?_
            refine gx_get C i8_edge_X8 hG 0 rfl rfl 7 (by decide) k8_edge_52 rfl dX8_edge_76 ?_
            refine lv_iload_n hx hb dX8_edge_79 rfl (lv_at hl 2 rfl) ?_
            refine lv_iload_n hx hb dX8_edge_80 rfl (lv_at hl 3 rfl) ?_
            refine callVI (As := [.int x2, .int x3]) (rest := []) C hG (c4_tellEdge l D cy (oa 18) (qa 18) x2 x3 (X14 18) _ h) 2 gX8_edge_X4_tellEdge rfl (by decide +kernel) ⟨⟨Nat.le_of_ble_eq_true rfl, Nat.le_of_ble_eq_true rfl⟩, rfl, rfl⟩ rfl rfl (fo_4 C.2.2.2.2.2.2.2.2.1 (k0 := 18) ⟨by decide, by decide⟩) rfl hl.1 rfl (Nat.le_of_ble_eq_true rfl) dX8_edge_81 ⟨Nat.zero_le _, Nat.zero_le _⟩ (fun r19 u20 H locs h hG => ?_)
            obtain ⟨eu20, h⟩ := h
            have eu20 : u20 = (X14 18) := eu20
            subst u20
            have hG : GW D A s (wP o qp oa qa cy Z X14) H locs := by
              have e9 : (va_up X14 18 (X14 18)) = X14 := by simp only [up_same]
              have hG : GW D A s (wP o qp oa qa cy Z (va_up X14 18 (X14 18))) H locs := hG
              rw [e9] at hG
              exact hG
            exact retI (w := (fun z : MS × (Nat → MS) => wP o qp oa qa cy z.1 z.2)) (S := (Z, X14)) (Qp := (fun r z => Q r z.1 z.2)) C hG h dX8_edge_84
          · replace h := h.2 c18
            refine lv_aload_n hx hb dX8_edge_69 rfl (lv_at hl 0 rfl) ?_
            refine lv_iconst (v := 2) hx hb dX8_edge_70 (by decide) ?_
            refine callVI (As := [.int (2 : Int32)]) (rest := []) C hG (c8_refuse l D cy o qp oa qa (2 : Int32) Z X14 _ h) 1 gX8_edge_X8_refuse rfl (by decide +kernel) ⟨⟨Nat.le_of_ble_eq_true rfl, Nat.le_of_ble_eq_true rfl⟩, rfl, rfl⟩ rfl rfl (Foc.all (w' := (fun z : MS × (Nat → MS) => wP o qp oa qa cy z.1 z.2)) (S' := (Z, X14)) C.2.2.2.2.2.2.2.2.1) rfl hl.1 rfl (Nat.le_of_ble_eq_true rfl) dX8_edge_71 ⟨Nat.zero_le _, Nat.zero_le _⟩ (fun r21 z H locs h hG => ?_)
            obtain ⟨S22, u23⟩ := z
            obtain ⟨eu23, h⟩ := h
            have eu23 : u23 = X14 := eu23
            replace h := h
            subst u23
            have hG : GW D A s (wP o qp oa qa cy S22 X14) H locs := hG
            exact retI (w := (fun z : MS × (Nat → MS) => wP o qp oa qa cy z.1 z.2)) (S := (S22, X14)) (Qp := (fun r z => Q r z.1 z.2)) C hG h dX8_edge_74
        · replace h := h.2 c15
          refine lv_bipush (v := -4) hx hb dX8_edge_55 (by decide) ?_
          exact retI (w := (fun z : MS × (Nat → MS) => wP o qp oa qa cy z.1 z.2)) (S := (Z, X14)) (Qp := (fun r z => Q r z.1 z.2)) C hG h dX8_edge_57
      · replace h := h.2 c9
        refine lv_aload_n hx hb dX8_edge_30 rfl (lv_at hl 0 rfl) ?_
        refine lv_iconst (v := 1) hx hb dX8_edge_31 (by decide) ?_
        refine callVI (As := [.int (1 : Int32)]) (rest := []) C hG (c8_refuse l D cy o qp oa qa (1 : Int32) Z X _ h) 1 gX8_edge_X8_refuse rfl (by decide +kernel) ⟨⟨Nat.le_of_ble_eq_true rfl, Nat.le_of_ble_eq_true rfl⟩, rfl, rfl⟩ rfl rfl (Foc.all (w' := (fun z : MS × (Nat → MS) => wP o qp oa qa cy z.1 z.2)) (S' := (Z, X)) C.2.2.2.2.2.2.2.2.1) rfl hl.1 rfl (Nat.le_of_ble_eq_true rfl) dX8_edge_32 ⟨Nat.zero_le _, Nat.zero_le _⟩ (fun r24 z H locs h hG => ?_)
        obtain ⟨S25, u26⟩ := z
        obtain ⟨eu26, h⟩ := h
        have eu26 : u26 = X := eu26
        replace h := h
        subst u26
        have hG : GW D A s (wP o qp oa qa cy S25 X) H locs := hG
        exact retI (w := (fun z : MS × (Nat → MS) => wP o qp oa qa cy z.1 z.2)) (S := (S25, X)) (Qp := (fun r z => Q r z.1 z.2)) C hG h dX8_edge_35
    · replace h := h.2 c4
      exact b8_edge_b16 Z X C h hG (lv_sub hl [0] rfl)
-- X8_gluings
theorem i8_gluings_X8 : ∀ w ∈ wsX80, w ∈ wsX8_gluings := fun w h => List.mem_cons_of_mem _ (inG_X8 w h)
theorem i8_gluings_X3 : ∀ w ∈ wsX30, w ∈ wsX8_gluings := fun w h => List.mem_cons_of_mem _ (inG_X3 w h)
theorem i8_gluings_X2 : ∀ w ∈ wsX20, w ∈ wsX8_gluings := fun w h => List.mem_cons_of_mem _ (inG_X2 w h)
theorem k8_gluings_11 : Cond.fieldLink RX8 11 "PaperBodies" "figures" "[LPaperBodies$Figure;" ∈ wsX8_gluings := (List.mem_cons_of_mem _ mw_317)
theorem k8_gluings_52 : Cond.fieldLink RX8 52 "PaperBodies" "walked" "LPaperBodies$Rim;" ∈ wsX8_gluings := (List.mem_cons_of_mem _ mw_333)
theorem k8_gluings_59 : Cond.fieldLink RX8 59 "PaperBodies" "gluer" "LPaperBodies$Gluer;" ∈ wsX8_gluings := (List.mem_cons_of_mem _ mw_336)
def w8_gluings_b87 (t0 : Int32) (Z : MS) (X : (Nat → MS)) (Q : Int32 → MS → (Nat → MS) → Prop) : Prop :=
  Q t0 Z X
set_option maxHeartbeats 4000000 in
set_option maxRecDepth 100000 in
theorem b8_gluings_b87 {p : Program} {l : Launch} {e : Env} {s : State} {m : MethodId} {args : Array Value} {below : List Frame} {meth : Method} {c : Code} {D : va_G} {cy : Nat → ClassId} {A : Nat → Prop} {o : Nat} {qp oa : Nat → Nat} {qa : Nat → Nat → Nat} (t0 : Int32) (Z : MS) (X : (Nat → MS)) {Q : Int32 → MS → (Nat → MS) → Prop} (C : Cx p s m args meth c cX8_gluings 3 (some .int) wsX8_gluings RX8 D cy nestWs A) (h : w8_gluings_b87 t0 Z X Q) {H : Heap} {locs : List Loc} (hG : GW D A s (wP o qp oa qa cy Z X) H locs) {ls : Array Slot} (hl : lv_has ls 3 [(0, .ref o)]) : W p l e ({ frames := 33, cells := 0, slots := 0, locals := 837 } : Room) s m args below meth c H locs 0 0 (MQ below (va_Qi (fun r z => Q r z.1 z.2) (B1 D (fun z : MS × (Nat → MS) => wP o qp oa qa cy z.1 z.2) A) A) args s 0 0 A) (F0 m 87 ls [.int t0]) := by
  have hx := C.1
  have hb := C.2.1
  unfold w8_gluings_b87 at h
  exact retI (w := (fun z : MS × (Nat → MS) => wP o qp oa qa cy z.1 z.2)) (S := (Z, X)) (Qp := (fun r z => Q r z.1 z.2)) C hG h dX8_gluings_87
def w8_gluings_b18 (Z : MS) (X : (Nat → MS)) (Q : Int32 → MS → (Nat → MS) → Prop) : Prop :=
  Q (-1 : Int32) Z X
set_option maxHeartbeats 4000000 in
set_option maxRecDepth 100000 in
theorem b8_gluings_b18 {p : Program} {l : Launch} {e : Env} {s : State} {m : MethodId} {args : Array Value} {below : List Frame} {meth : Method} {c : Code} {D : va_G} {cy : Nat → ClassId} {A : Nat → Prop} {o : Nat} {qp oa : Nat → Nat} {qa : Nat → Nat → Nat} (Z : MS) (X : (Nat → MS)) {Q : Int32 → MS → (Nat → MS) → Prop} (C : Cx p s m args meth c cX8_gluings 3 (some .int) wsX8_gluings RX8 D cy nestWs A) (h : w8_gluings_b18 Z X Q) {H : Heap} {locs : List Loc} (hG : GW D A s (wP o qp oa qa cy Z X) H locs) {ls : Array Slot} (hl : lv_has ls 3 [(0, .ref o)]) : W p l e ({ frames := 33, cells := 0, slots := 0, locals := 837 } : Room) s m args below meth c H locs 0 0 (MQ below (va_Qi (fun r z => Q r z.1 z.2) (B1 D (fun z : MS × (Nat → MS) => wP o qp oa qa cy z.1 z.2) A) A) args s 0 0 A) (F0 m 18 ls []) := by
  have hx := C.1
  have hb := C.2.1
  unfold w8_gluings_b18 at h
  refine lv_iconst (v := -1) hx hb dX8_gluings_18 (by decide) ?_
  exact retI (w := (fun z : MS × (Nat → MS) => wP o qp oa qa cy z.1 z.2)) (S := (Z, X)) (Qp := (fun r z => Q r z.1 z.2)) C hG h dX8_gluings_19
def w8_gluings (x1 : Int32) (x2 : Int32) (Z : MS) (X : (Nat → MS)) (Q : Int32 → MS → (Nat → MS) → Prop) : Prop :=
  w8_isFigure x1 (fun r1 => ((r1 = 0 → w8_gluings_b18 Z X Q) ∧ (¬ r1 = 0 → w8_within x2 (1 : Int32) (20000 : Int32) (fun r3 => ((¬ r3 = 0 → vp_in x1 6 ∧ (0 ≤ (x1.toNatClampNeg) ∧ (x1.toNatClampNeg) < 6) ∧ w2_isThere (X (x1.toNatClampNeg)) (fun r6 => ((¬ r6 = 0 → w4_walk (fJ (X (x1.toNatClampNeg)) 1) (X 18) (fun r12 S13 => ∀ X14 : Nat → MS, X14 = (va_up X 18 S13) → ((¬ r12 = 0 → w3_seek x2 (X14 19) (X14 18) (fun r16 S17 => ∀ X19 : Nat → MS, X19 = (va_up X14 19 S17) → ((r16 = 0 → w8_gluings_b87 (-6 : Int32) Z X19 Q) ∧ (¬ r16 = 0 → w8_gluings_b87 (fI (X19 19) 9) Z X19 Q)))) ∧ (r12 = 0 → Q (-4 : Int32) Z X14)))) ∧ (r6 = 0 → w8_refuse (1 : Int32) Z X (fun r23 S24 => Q r23 S24 X))))) ∧ (r3 = 0 → w8_gluings_b18 Z X Q))))))
set_option maxHeartbeats 4000000 in
set_option maxRecDepth 100000 in
theorem c8_gluings (l : Launch) (D : va_G) (cy : Nat → ClassId)  (o : Nat) (qp oa : Nat → Nat) (qa : Nat → Nat → Nat) (x1 : Int32) (x2 : Int32) (Z : MS) (X : (Nat → MS)) (Q : Int32 → MS → (Nat → MS) → Prop) (h : w8_gluings x1 x2 Z X Q) : MetI l yX8_gluings wsX8_gluings ({ frames := 33, cells := 0, slots := 0, locals := 837 } : Room) D cy nestWs (fun z : MS × (Nat → MS) => wP o qp oa qa cy z.1 z.2) [.ref o, .int x1, .int x2] (Z, X) (fun r z => Q r z.1 z.2) := by
  refine MetI.mk RX8 cX8_gluings 3 .int (by decide) rfl nestWs_ok rfl (Nat.le_of_ble_eq_true rfl) ?_
  intro p e s m below meth c A ls C hG hl
  have hl : lv_has ls 3 [(0, .ref o), (1, .int x1), (2, .int x2)] := hl
  have hx := C.1
  have hb := C.2.1
  unfold w8_gluings at h
  refine lv_iload_n hx hb dX8_gluings_0 rfl (lv_at hl 1 rfl) ?_
  refine callSI (As := [.int x1]) (rest := []) C hG (c8_isFigure l D cy x1 _ h) 1 gX8_gluings_X8_isFigure rfl (by decide +kernel) ⟨⟨Nat.le_of_ble_eq_true rfl, Nat.le_of_ble_eq_true rfl⟩, rfl, rfl⟩ (Foc.none C.2.2.2.2.2.2.2.2.1) rfl hl.1 rfl (Nat.le_of_ble_eq_true rfl) dX8_gluings_1 ⟨Nat.zero_le _, Nat.zero_le _⟩ (fun r1 z H locs h hG => ?_)
  refine lv_if_eq (tgt := 18) hx hb dX8_gluings_4 (by decide) (fun c2 => ?_) (fun c2 => ?_)
  · replace h := h.1 c2
    exact b8_gluings_b18 Z X C h hG (lv_sub hl [0] rfl)
  · replace h := h.2 c2
    refine lv_iload_n hx hb dX8_gluings_7 rfl (lv_at hl 2 rfl) ?_
    refine lv_iconst (v := 1) hx hb dX8_gluings_8 (by decide) ?_
    refine lv_sipush (v := 20000) hx hb dX8_gluings_9 (by decide) ?_
    refine callSI (As := [.int x2, .int (1 : Int32), .int (20000 : Int32)]) (rest := []) C hG (c8_within l D cy x2 (1 : Int32) (20000 : Int32) _ h) 3 gX8_gluings_X8_within rfl (by decide +kernel) ⟨⟨Nat.le_of_ble_eq_true rfl, Nat.le_of_ble_eq_true rfl⟩, rfl, rfl⟩ (Foc.none C.2.2.2.2.2.2.2.2.1) rfl hl.1 rfl (Nat.le_of_ble_eq_true rfl) dX8_gluings_12 ⟨Nat.zero_le _, Nat.zero_le _⟩ (fun r3 z H locs h hG => ?_)
    refine lv_if_ne (tgt := 20) hx hb dX8_gluings_15 (by decide) (fun c4 => ?_) (fun c4 => ?_)
    · replace h := h.1 c4
      refine lv_aload_n hx hb dX8_gluings_20 rfl (lv_at hl 0 rfl) ?_
      refine gx_get C i8_gluings_X8 hG 0 rfl rfl 0 (by decide) k8_gluings_11 rfl dX8_gluings_21 ?_
      refine lv_iload_n hx hb dX8_gluings_24 rfl (lv_at hl 1 rfl) ?_
      obtain ⟨hv5, h⟩ := h
      refine gx_aald (C' := "PaperBodies$Figure") C hG 1 3 rfl rfl hv5 dX8_gluings_25 ?_
      obtain ⟨hr7, h⟩ := h
      refine callVI (As := []) (rest := []) C hG (c2_isThere l D cy (oa (x1.toNatClampNeg)) (qa (x1.toNatClampNeg)) (X (x1.toNatClampNeg)) _ h) 0 gX8_gluings_X2_isThere rfl (by decide +kernel) ⟨⟨Nat.le_of_ble_eq_true rfl, Nat.le_of_ble_eq_true rfl⟩, rfl, rfl⟩ rfl rfl (fo_2 C.2.2.2.2.2.2.2.2.1 (k0 := (x1.toNatClampNeg)) hr7) rfl hl.1 rfl (Nat.le_of_ble_eq_true rfl) dX8_gluings_26 ⟨Nat.zero_le _, Nat.zero_le _⟩ (fun r6 u8 H locs h hG => ?_)
      obtain ⟨eu8, h⟩ := h
      have eu8 : u8 = (X (x1.toNatClampNeg)) := eu8
      subst u8
      have hG : GW D A s (wP o qp oa qa cy Z X) H locs := by
        have e9 : (va_up X (x1.toNatClampNeg) (X (x1.toNatClampNeg))) = X := by simp only [up_same]
        have hG : GW D A s (wP o qp oa qa cy Z (va_up X (x1.toNatClampNeg) (X (x1.toNatClampNeg)))) H locs := hG
        rw [e9] at hG
        exact hG
      refine lv_if_ne (tgt := 38) hx hb dX8_gluings_29 (by decide) (fun c9 => ?_) (fun c9 => ?_)
      · replace h := h.1 c9
        refine lv_aload_n hx hb dX8_gluings_38 rfl (lv_at hl 0 rfl) ?_
        refine gx_get C i8_gluings_X8 hG 0 rfl rfl 7 (by decide) k8_gluings_52 rfl dX8_gluings_39 ?_
        refine lv_aload_n hx hb dX8_gluings_42 rfl (lv_at hl 0 rfl) ?_
        refine gx_get C i8_gluings_X8 hG 0 rfl rfl 0 (by decide) k8_gluings_11 rfl dX8_gluings_43 ?_
        refine lv_iload_n hx hb dX8_gluings_46 rfl (lv_at hl 1 rfl) ?_
        refine gx_aald (C' := "PaperBodies$Figure") C hG 1 3 rfl rfl hv5 dX8_gluings_47 ?_
        obtain ⟨qq10, he11⟩ := at2 (o := o) (qp := qp) (oa := oa) (qa := qa) (cy := cy) (Z := Z) (X := X) (k := (x1.toNatClampNeg)) hr7
        refine gx_getN (host := "PaperBodies") C i8_gluings_X2 hG qq10 he11 rfl 1 (by decide) (by decide +kernel) rfl dX8_gluings_48 ?_
        refine callVI (As := [.long (fJ (X (x1.toNatClampNeg)) 1)]) (rest := []) C hG (c4_walk l D cy (oa 18) (qa 18) (fJ (X (x1.toNatClampNeg)) 1) (X 18) _ h) 1 gX8_gluings_X4_walk rfl (by decide +kernel) ⟨⟨Nat.le_of_ble_eq_true rfl, Nat.le_of_ble_eq_true rfl⟩, rfl, rfl⟩ rfl rfl (fo_4 C.2.2.2.2.2.2.2.2.1 (k0 := 18) ⟨by decide, by decide⟩) rfl hl.1 rfl (Nat.le_of_ble_eq_true rfl) dX8_gluings_51 ⟨Nat.zero_le _, Nat.zero_le _⟩ (fun r12 S13 H locs h hG => ?_)
        obtain ⟨X14, eX14⟩ : ∃ z : Nat → MS, z = (va_up X 18 S13) := ⟨_, rfl⟩
        have hG : GW D A s (wP o qp oa qa cy Z X14) H locs := by rw [eX14]; exact hG
        replace h := h X14 eX14
        refine lv_if_ne (tgt := 60) hx hb dX8_gluings_54 (by decide) (fun c15 => ?_) (fun c15 => ?_)
        · replace h := h.1 c15
          refine lv_aload_n hx hb dX8_gluings_60 rfl (lv_at hl 0 rfl) ?_
          refine gx_get C i8_gluings_X8 hG 0 rfl rfl 8 (by decide) k8_gluings_59 rfl dX8_gluings_61 ?_
          refine lv_aload_n hx hb dX8_gluings_64 rfl (lv_at hl 0 rfl) ?_
          refine gx_get C i8_gluings_X8 hG 0 rfl rfl 7 (by decide) k8_gluings_52 rfl dX8_gluings_65 ?_
          refine lv_iload_n hx hb dX8_gluings_68 rfl (lv_at hl 2 rfl) ?_
          refine callVI (As := [.ref (oa 18), .int x2]) (rest := []) C hG (c3_seek l D cy (oa 19) (qa 19) (oa 18) (qa 18) x2 (X14 19) (X14 18) _ h) 2 gX8_gluings_X3_seek rfl (by decide +kernel) ⟨⟨Nat.le_of_ble_eq_true rfl, Nat.le_of_ble_eq_true rfl⟩, rfl, rfl⟩ rfl rfl (fo_3_4 C.2.2.2.2.2.2.2.2.1 (k0 := 19) (k1 := 18) ⟨by decide, by decide⟩ ⟨by decide, by decide⟩) rfl hl.1 rfl (Nat.le_of_ble_eq_true rfl) dX8_gluings_69 ⟨Nat.zero_le _, Nat.zero_le _⟩ (fun r16 z H locs h hG => ?_)
          obtain ⟨S17, u18⟩ := z
          obtain ⟨eu18, h⟩ := h
          have eu18 : u18 = (X14 18) := eu18
          replace h := h
          subst u18
          obtain ⟨X19, eX19⟩ : ∃ z : Nat → MS, z = (va_up X14 19 S17) := ⟨_, rfl⟩
          have hG : GW D A s (wP o qp oa qa cy Z X19) H locs := by
            rw [eX19]
            have e9 : (va_up (va_up X14 19 S17) 18 (X14 18)) = (va_up X14 19 S17) := by rw [up_back (show 18 ≠ 19 by omega)]
            rw [← e9]
            exact hG
          replace h := h X19 eX19
          refine lv_if_eq (tgt := 85) hx hb dX8_gluings_72 (by decide) (fun c20 => ?_) (fun c20 => ?_)
          · replace h := h.1 c20
            refine lv_bipush (v := -6) hx hb dX8_gluings_85 (by decide) ?_
            exact b8_gluings_b87 (-6 : Int32) Z X19 C h hG (lv_sub hl [0] rfl)
          · replace h := h.2 c20
            refine lv_aload_n hx hb dX8_gluings_75 rfl (lv_at hl 0 rfl) ?_
            refine gx_get C i8_gluings_X8 hG 0 rfl rfl 8 (by decide) k8_gluings_59 rfl dX8_gluings_76 ?_
            obtain ⟨qq21, he22⟩ := at3 (o := o) (qp := qp) (oa := oa) (qa := qa) (cy := cy) (Z := Z) (X := X19) (k := 19) ⟨by decide, by decide⟩
            refine gx_getN (host := "PaperBodies") C i8_gluings_X3 hG qq21 he22 rfl 9 (by decide) (by decide +kernel) rfl dX8_gluings_79 ?_
            refine lv_goto (tgt := 87) hx hb dX8_gluings_82 (by decide) ?_
            exact b8_gluings_b87 (fI (X19 19) 9) Z X19 C h hG (lv_sub hl [0] rfl)
        · replace h := h.2 c15
          refine lv_bipush (v := -4) hx hb dX8_gluings_57 (by decide) ?_
          exact retI (w := (fun z : MS × (Nat → MS) => wP o qp oa qa cy z.1 z.2)) (S := (Z, X14)) (Qp := (fun r z => Q r z.1 z.2)) C hG h dX8_gluings_59
      · replace h := h.2 c9
        refine lv_aload_n hx hb dX8_gluings_32 rfl (lv_at hl 0 rfl) ?_
        refine lv_iconst (v := 1) hx hb dX8_gluings_33 (by decide) ?_
        refine callVI (As := [.int (1 : Int32)]) (rest := []) C hG (c8_refuse l D cy o qp oa qa (1 : Int32) Z X _ h) 1 gX8_gluings_X8_refuse rfl (by decide +kernel) ⟨⟨Nat.le_of_ble_eq_true rfl, Nat.le_of_ble_eq_true rfl⟩, rfl, rfl⟩ rfl rfl (Foc.all (w' := (fun z : MS × (Nat → MS) => wP o qp oa qa cy z.1 z.2)) (S' := (Z, X)) C.2.2.2.2.2.2.2.2.1) rfl hl.1 rfl (Nat.le_of_ble_eq_true rfl) dX8_gluings_34 ⟨Nat.zero_le _, Nat.zero_le _⟩ (fun r23 z H locs h hG => ?_)
        obtain ⟨S24, u25⟩ := z
        obtain ⟨eu25, h⟩ := h
        have eu25 : u25 = X := eu25
        replace h := h
        subst u25
        have hG : GW D A s (wP o qp oa qa cy S24 X) H locs := hG
        exact retI (w := (fun z : MS × (Nat → MS) => wP o qp oa qa cy z.1 z.2)) (S := (S24, X)) (Qp := (fun r z => Q r z.1 z.2)) C hG h dX8_gluings_37
    · replace h := h.2 c4
      exact b8_gluings_b18 Z X C h hG (lv_sub hl [0] rfl)
-- X8_glued
theorem i8_glued_X8 : ∀ w ∈ wsX80, w ∈ wsX8_glued := fun w h => List.mem_cons_of_mem _ (inG_X8 w h)
theorem k8_glued_59 : Cond.fieldLink RX8 59 "PaperBodies" "gluer" "LPaperBodies$Gluer;" ∈ wsX8_glued := (List.mem_cons_of_mem _ mw_336)
def w8_glued (x1 : Int32) (Z : MS) (X : (Nat → MS)) (Q : Int32 → Prop) : Prop :=
  w3_toldPartner x1 (X 19) (fun r1 => Q r1)
set_option maxHeartbeats 4000000 in
set_option maxRecDepth 100000 in
theorem c8_glued (l : Launch) (D : va_G) (cy : Nat → ClassId)  (o : Nat) (qp oa : Nat → Nat) (qa : Nat → Nat → Nat) (x1 : Int32) (Z : MS) (X : (Nat → MS)) (Q : Int32 → Prop) (h : w8_glued x1 Z X Q) : MetI l yX8_glued wsX8_glued ({ frames := 1, cells := 0, slots := 0, locals := 21 } : Room) D cy nestWs (fun z : MS × (Nat → MS) => wP o qp oa qa cy z.1 z.2) [.ref o, .int x1] (Z, X) (fun r z => z.1 = Z ∧ z.2 = X ∧ Q r ) := by
  refine MetI.mk RX8 cX8_glued 2 .int (by decide) rfl nestWs_ok rfl (Nat.le_of_ble_eq_true rfl) ?_
  intro p e s m below meth c A ls C hG hl
  have hl : lv_has ls 2 [(0, .ref o), (1, .int x1)] := hl
  have hx := C.1
  have hb := C.2.1
  unfold w8_glued at h
  refine lv_aload_n hx hb dX8_glued_0 rfl (lv_at hl 0 rfl) ?_
  refine gx_get C i8_glued_X8 hG 0 rfl rfl 8 (by decide) k8_glued_59 rfl dX8_glued_1 ?_
  refine lv_iload_n hx hb dX8_glued_4 rfl (lv_at hl 1 rfl) ?_
  refine callVI (As := [.int x1]) (rest := []) C hG (c3_toldPartner l D cy (oa 19) (qa 19) x1 (X 19) _ h) 1 gX8_glued_X3_toldPartner rfl (by decide +kernel) ⟨⟨Nat.le_of_ble_eq_true rfl, Nat.le_of_ble_eq_true rfl⟩, rfl, rfl⟩ rfl rfl (fo_3 C.2.2.2.2.2.2.2.2.1 (k0 := 19) ⟨by decide, by decide⟩) rfl hl.1 rfl (Nat.le_of_ble_eq_true rfl) dX8_glued_5 ⟨Nat.zero_le _, Nat.zero_le _⟩ (fun r1 u2 H locs h hG => ?_)
  obtain ⟨eu2, h⟩ := h
  have eu2 : u2 = (X 19) := eu2
  subst u2
  have hG : GW D A s (wP o qp oa qa cy Z X) H locs := by
    have e9 : (va_up X 19 (X 19)) = X := by simp only [up_same]
    have hG : GW D A s (wP o qp oa qa cy Z (va_up X 19 (X 19))) H locs := hG
    rw [e9] at hG
    exact hG
  exact retI (w := (fun z : MS × (Nat → MS) => wP o qp oa qa cy z.1 z.2)) (S := (Z, X)) (Qp := (fun r z => z.1 = Z ∧ z.2 = X ∧ Q r )) C hG ⟨rfl, rfl, h⟩ dX8_glued_8
-- X8_corners
theorem i8_corners_X8 : ∀ w ∈ wsX80, w ∈ wsX8_corners := fun w h => List.mem_cons_of_mem _ (inG_X8 w h)
theorem k8_corners_59 : Cond.fieldLink RX8 59 "PaperBodies" "gluer" "LPaperBodies$Gluer;" ∈ wsX8_corners := (List.mem_cons_of_mem _ mw_336)
def w8_corners (x1 : Int32) (Z : MS) (X : (Nat → MS)) (Q : Int32 → Prop) : Prop :=
  w8_within x1 (1 : Int32) (4 : Int32) (fun r1 => ((¬ r1 = 0 → w3_toldCorners x1 (X 19) (fun r3 => Q r3)) ∧ (r1 = 0 → Q (-1 : Int32))))
set_option maxHeartbeats 4000000 in
set_option maxRecDepth 100000 in
theorem c8_corners (l : Launch) (D : va_G) (cy : Nat → ClassId)  (o : Nat) (qp oa : Nat → Nat) (qa : Nat → Nat → Nat) (x1 : Int32) (Z : MS) (X : (Nat → MS)) (Q : Int32 → Prop) (h : w8_corners x1 Z X Q) : MetI l yX8_corners wsX8_corners ({ frames := 2, cells := 0, slots := 0, locals := 43 } : Room) D cy nestWs (fun z : MS × (Nat → MS) => wP o qp oa qa cy z.1 z.2) [.ref o, .int x1] (Z, X) (fun r z => z.1 = Z ∧ z.2 = X ∧ Q r ) := by
  refine MetI.mk RX8 cX8_corners 2 .int (by decide) rfl nestWs_ok rfl (Nat.le_of_ble_eq_true rfl) ?_
  intro p e s m below meth c A ls C hG hl
  have hl : lv_has ls 2 [(0, .ref o), (1, .int x1)] := hl
  have hx := C.1
  have hb := C.2.1
  unfold w8_corners at h
  refine lv_iload_n hx hb dX8_corners_0 rfl (lv_at hl 1 rfl) ?_
  refine lv_iconst (v := 1) hx hb dX8_corners_1 (by decide) ?_
  refine lv_iconst (v := 4) hx hb dX8_corners_2 (by decide) ?_
  refine callSI (As := [.int x1, .int (1 : Int32), .int (4 : Int32)]) (rest := []) C hG (c8_within l D cy x1 (1 : Int32) (4 : Int32) _ h) 3 gX8_corners_X8_within rfl (by decide +kernel) ⟨⟨Nat.le_of_ble_eq_true rfl, Nat.le_of_ble_eq_true rfl⟩, rfl, rfl⟩ (Foc.none C.2.2.2.2.2.2.2.2.1) rfl hl.1 rfl (Nat.le_of_ble_eq_true rfl) dX8_corners_3 ⟨Nat.zero_le _, Nat.zero_le _⟩ (fun r1 z H locs h hG => ?_)
  refine lv_if_ne (tgt := 11) hx hb dX8_corners_6 (by decide) (fun c2 => ?_) (fun c2 => ?_)
  · replace h := h.1 c2
    refine lv_aload_n hx hb dX8_corners_11 rfl (lv_at hl 0 rfl) ?_
    refine gx_get C i8_corners_X8 hG 0 rfl rfl 8 (by decide) k8_corners_59 rfl dX8_corners_12 ?_
    refine lv_iload_n hx hb dX8_corners_15 rfl (lv_at hl 1 rfl) ?_
    refine callVI (As := [.int x1]) (rest := []) C hG (c3_toldCorners l D cy (oa 19) (qa 19) x1 (X 19) _ h) 1 gX8_corners_X3_toldCorners rfl (by decide +kernel) ⟨⟨Nat.le_of_ble_eq_true rfl, Nat.le_of_ble_eq_true rfl⟩, rfl, rfl⟩ rfl rfl (fo_3 C.2.2.2.2.2.2.2.2.1 (k0 := 19) ⟨by decide, by decide⟩) rfl hl.1 rfl (Nat.le_of_ble_eq_true rfl) dX8_corners_16 ⟨Nat.zero_le _, Nat.zero_le _⟩ (fun r3 u4 H locs h hG => ?_)
    obtain ⟨eu4, h⟩ := h
    have eu4 : u4 = (X 19) := eu4
    subst u4
    have hG : GW D A s (wP o qp oa qa cy Z X) H locs := by
      have e9 : (va_up X 19 (X 19)) = X := by simp only [up_same]
      have hG : GW D A s (wP o qp oa qa cy Z (va_up X 19 (X 19))) H locs := hG
      rw [e9] at hG
      exact hG
    exact retI (w := (fun z : MS × (Nat → MS) => wP o qp oa qa cy z.1 z.2)) (S := (Z, X)) (Qp := (fun r z => z.1 = Z ∧ z.2 = X ∧ Q r )) C hG ⟨rfl, rfl, h⟩ dX8_corners_19
  · replace h := h.2 c2
    refine lv_iconst (v := -1) hx hb dX8_corners_9 (by decide) ?_
    exact retI (w := (fun z : MS × (Nat → MS) => wP o qp oa qa cy z.1 z.2)) (S := (Z, X)) (Qp := (fun r z => z.1 = Z ∧ z.2 = X ∧ Q r )) C hG ⟨rfl, rfl, h⟩ dX8_corners_10
-- X8_glue
theorem i8_glue_X8 : ∀ w ∈ wsX80, w ∈ wsX8_glue := fun w h => List.mem_cons_of_mem _ (inG_X8 w h)
theorem i8_glue_X4 : ∀ w ∈ wsX40, w ∈ wsX8_glue := fun w h => List.mem_cons_of_mem _ (inG_X4 w h)
theorem i8_glue_X2 : ∀ w ∈ wsX20, w ∈ wsX8_glue := fun w h => List.mem_cons_of_mem _ (inG_X2 w h)
theorem k8_glue_11 : Cond.fieldLink RX8 11 "PaperBodies" "figures" "[LPaperBodies$Figure;" ∈ wsX8_glue := (List.mem_cons_of_mem _ mw_317)
theorem k8_glue_23 : Cond.fieldLink RX8 23 "PaperBodies" "rows" "[LPaperBodies$Row;" ∈ wsX8_glue := (List.mem_cons_of_mem _ mw_321)
theorem k8_glue_52 : Cond.fieldLink RX8 52 "PaperBodies" "walked" "LPaperBodies$Rim;" ∈ wsX8_glue := (List.mem_cons_of_mem _ mw_333)
theorem k8_glue_59 : Cond.fieldLink RX8 59 "PaperBodies" "gluer" "LPaperBodies$Gluer;" ∈ wsX8_glue := (List.mem_cons_of_mem _ mw_336)
theorem k8_glue_147 : Cond.fieldLink RX8 147 "PaperBodies" "latestTold" "J" ∈ wsX8_glue := (List.mem_cons_of_mem _ mw_390)
def w8_glue_b118 (t1 : Int64) (Z : MS) (X : (Nat → MS)) (Q : Int32 → MS → (Nat → MS) → Prop) : Prop :=
  ∀ S1 : MS, S1 = sJ Z 11 t1 → w3_cornersInAll (X 19) (fun r2 => Q r2 S1 X)
set_option maxHeartbeats 4000000 in
set_option maxRecDepth 100000 in
theorem b8_glue_b118 {p : Program} {l : Launch} {e : Env} {s : State} {m : MethodId} {args : Array Value} {below : List Frame} {meth : Method} {c : Code} {D : va_G} {cy : Nat → ClassId} {A : Nat → Prop} {o : Nat} {qp oa : Nat → Nat} {qa : Nat → Nat → Nat} (t1 : Int64) (Z : MS) (X : (Nat → MS)) {Q : Int32 → MS → (Nat → MS) → Prop} (C : Cx p s m args meth c cX8_glue 3 (some .int) wsX8_glue RX8 D cy nestWs A) (h : w8_glue_b118 t1 Z X Q) {H : Heap} {locs : List Loc} (hG : GW D A s (wP o qp oa qa cy Z X) H locs) {ls : Array Slot} (hl : lv_has ls 3 [(0, .ref o)]) : W p l e ({ frames := 3, cells := 0, slots := 0, locals := 83 } : Room) s m args below meth c H locs 0 0 (MQ below (va_Qi (fun r z => Q r z.1 z.2) (B1 D (fun z : MS × (Nat → MS) => wP o qp oa qa cy z.1 z.2) A) A) args s 0 0 A) (F0 m 118 ls [.long t1, .ref o]) := by
  have hx := C.1
  have hb := C.2.1
  unfold w8_glue_b118 at h
  refine gx_put (ty := .long) (ws' := wP o qp oa qa cy (sJ Z 11 t1) X) C i8_glue_X8 tyX8 tyX8_ok nmX8 hG 0 rfl rfl 11 (by decide) k8_glue_147 rfl (by decide +kernel) rfl rfl (Nat.le_of_ble_eq_true rfl) dX8_glue_118 rfl (fun H locs hG => ?_)
  obtain ⟨S1, eS1⟩ : ∃ z : MS, z = sJ Z 11 t1 := ⟨_, rfl⟩
  rw [← eS1] at hG
  replace h := h S1 eS1
  refine lv_aload_n hx hb dX8_glue_121 rfl (lv_at hl 0 rfl) ?_
  refine gx_get C i8_glue_X8 hG 0 rfl rfl 8 (by decide) k8_glue_59 rfl dX8_glue_122 ?_
  refine callVI (As := []) (rest := []) C hG (c3_cornersInAll l D cy (oa 19) (qa 19) (X 19) _ h) 0 gX8_glue_X3_cornersInAll rfl (by decide +kernel) ⟨⟨Nat.le_of_ble_eq_true rfl, Nat.le_of_ble_eq_true rfl⟩, rfl, rfl⟩ rfl rfl (fo_3 C.2.2.2.2.2.2.2.2.1 (k0 := 19) ⟨by decide, by decide⟩) rfl hl.1 rfl (Nat.le_of_ble_eq_true rfl) dX8_glue_125 ⟨Nat.zero_le _, Nat.zero_le _⟩ (fun r2 u3 H locs h hG => ?_)
  obtain ⟨eu3, h⟩ := h
  have eu3 : u3 = (X 19) := eu3
  subst u3
  have hG : GW D A s (wP o qp oa qa cy S1 X) H locs := by
    have e9 : (va_up X 19 (X 19)) = X := by simp only [up_same]
    have hG : GW D A s (wP o qp oa qa cy S1 (va_up X 19 (X 19))) H locs := hG
    rw [e9] at hG
    exact hG
  exact retI (w := (fun z : MS × (Nat → MS) => wP o qp oa qa cy z.1 z.2)) (S := (S1, X)) (Qp := (fun r z => Q r z.1 z.2)) C hG h dX8_glue_128
def w8_glue_b88 (Z : MS) (X : (Nat → MS)) (Q : Int32 → MS → (Nat → MS) → Prop) : Prop :=
  Q (-4 : Int32) Z X
set_option maxHeartbeats 4000000 in
set_option maxRecDepth 100000 in
theorem b8_glue_b88 {p : Program} {l : Launch} {e : Env} {s : State} {m : MethodId} {args : Array Value} {below : List Frame} {meth : Method} {c : Code} {D : va_G} {cy : Nat → ClassId} {A : Nat → Prop} {o : Nat} {qp oa : Nat → Nat} {qa : Nat → Nat → Nat} (Z : MS) (X : (Nat → MS)) {Q : Int32 → MS → (Nat → MS) → Prop} (C : Cx p s m args meth c cX8_glue 3 (some .int) wsX8_glue RX8 D cy nestWs A) (h : w8_glue_b88 Z X Q) {H : Heap} {locs : List Loc} (hG : GW D A s (wP o qp oa qa cy Z X) H locs) {ls : Array Slot} (hl : lv_has ls 3 [(0, .ref o)]) : W p l e ({ frames := 3, cells := 0, slots := 0, locals := 83 } : Room) s m args below meth c H locs 0 0 (MQ below (va_Qi (fun r z => Q r z.1 z.2) (B1 D (fun z : MS × (Nat → MS) => wP o qp oa qa cy z.1 z.2) A) A) args s 0 0 A) (F0 m 88 ls []) := by
  have hx := C.1
  have hb := C.2.1
  unfold w8_glue_b88 at h
  refine lv_bipush (v := -4) hx hb dX8_glue_88 (by decide) ?_
  exact retI (w := (fun z : MS × (Nat → MS) => wP o qp oa qa cy z.1 z.2)) (S := (Z, X)) (Qp := (fun r z => Q r z.1 z.2)) C hG h dX8_glue_90
def w8_glue_b40 (Z : MS) (X : (Nat → MS)) (Q : Int32 → MS → (Nat → MS) → Prop) : Prop :=
  w8_refuse (1 : Int32) Z X (fun r1 S2 => Q r1 S2 X)
set_option maxHeartbeats 4000000 in
set_option maxRecDepth 100000 in
theorem b8_glue_b40 {p : Program} {l : Launch} {e : Env} {s : State} {m : MethodId} {args : Array Value} {below : List Frame} {meth : Method} {c : Code} {D : va_G} {cy : Nat → ClassId} {A : Nat → Prop} {o : Nat} {qp oa : Nat → Nat} {qa : Nat → Nat → Nat} (Z : MS) (X : (Nat → MS)) {Q : Int32 → MS → (Nat → MS) → Prop} (C : Cx p s m args meth c cX8_glue 3 (some .int) wsX8_glue RX8 D cy nestWs A) (h : w8_glue_b40 Z X Q) {H : Heap} {locs : List Loc} (hG : GW D A s (wP o qp oa qa cy Z X) H locs) {ls : Array Slot} (hl : lv_has ls 3 [(0, .ref o)]) : W p l e ({ frames := 3, cells := 0, slots := 0, locals := 83 } : Room) s m args below meth c H locs 0 0 (MQ below (va_Qi (fun r z => Q r z.1 z.2) (B1 D (fun z : MS × (Nat → MS) => wP o qp oa qa cy z.1 z.2) A) A) args s 0 0 A) (F0 m 40 ls []) := by
  have hx := C.1
  have hb := C.2.1
  unfold w8_glue_b40 at h
  refine lv_aload_n hx hb dX8_glue_40 rfl (lv_at hl 0 rfl) ?_
  refine lv_iconst (v := 1) hx hb dX8_glue_41 (by decide) ?_
  refine callVI (As := [.int (1 : Int32)]) (rest := []) C hG (c8_refuse l D cy o qp oa qa (1 : Int32) Z X _ h) 1 gX8_glue_X8_refuse rfl (by decide +kernel) ⟨⟨Nat.le_of_ble_eq_true rfl, Nat.le_of_ble_eq_true rfl⟩, rfl, rfl⟩ rfl rfl (Foc.all (w' := (fun z : MS × (Nat → MS) => wP o qp oa qa cy z.1 z.2)) (S' := (Z, X)) C.2.2.2.2.2.2.2.2.1) rfl hl.1 rfl (Nat.le_of_ble_eq_true rfl) dX8_glue_42 ⟨Nat.zero_le _, Nat.zero_le _⟩ (fun r1 z H locs h hG => ?_)
  obtain ⟨S2, u3⟩ := z
  obtain ⟨eu3, h⟩ := h
  have eu3 : u3 = X := eu3
  replace h := h
  subst u3
  have hG : GW D A s (wP o qp oa qa cy S2 X) H locs := hG
  exact retI (w := (fun z : MS × (Nat → MS) => wP o qp oa qa cy z.1 z.2)) (S := (S2, X)) (Qp := (fun r z => Q r z.1 z.2)) C hG h dX8_glue_45
def w8_glue_b14 (Z : MS) (X : (Nat → MS)) (Q : Int32 → MS → (Nat → MS) → Prop) : Prop :=
  Q (-1 : Int32) Z X
set_option maxHeartbeats 4000000 in
set_option maxRecDepth 100000 in
theorem b8_glue_b14 {p : Program} {l : Launch} {e : Env} {s : State} {m : MethodId} {args : Array Value} {below : List Frame} {meth : Method} {c : Code} {D : va_G} {cy : Nat → ClassId} {A : Nat → Prop} {o : Nat} {qp oa : Nat → Nat} {qa : Nat → Nat → Nat} (Z : MS) (X : (Nat → MS)) {Q : Int32 → MS → (Nat → MS) → Prop} (C : Cx p s m args meth c cX8_glue 3 (some .int) wsX8_glue RX8 D cy nestWs A) (h : w8_glue_b14 Z X Q) {H : Heap} {locs : List Loc} (hG : GW D A s (wP o qp oa qa cy Z X) H locs) {ls : Array Slot} (hl : lv_has ls 3 [(0, .ref o)]) : W p l e ({ frames := 3, cells := 0, slots := 0, locals := 83 } : Room) s m args below meth c H locs 0 0 (MQ below (va_Qi (fun r z => Q r z.1 z.2) (B1 D (fun z : MS × (Nat → MS) => wP o qp oa qa cy z.1 z.2) A) A) args s 0 0 A) (F0 m 14 ls []) := by
  have hx := C.1
  have hb := C.2.1
  unfold w8_glue_b14 at h
  refine lv_iconst (v := -1) hx hb dX8_glue_14 (by decide) ?_
  exact retI (w := (fun z : MS × (Nat → MS) => wP o qp oa qa cy z.1 z.2)) (S := (Z, X)) (Qp := (fun r z => Q r z.1 z.2)) C hG h dX8_glue_15
def w8_glue (x1 : Int32) (x2 : Int32) (Z : MS) (X : (Nat → MS)) (Q : Int32 → MS → (Nat → MS) → Prop) : Prop :=
  w8_isFigure x1 (fun r1 => ((r1 = 0 → w8_glue_b14 Z X Q) ∧ (¬ r1 = 0 → w8_isRow x2 (fun r3 => ((¬ r3 = 0 → vp_in x1 6 ∧ (0 ≤ (x1.toNatClampNeg) ∧ (x1.toNatClampNeg) < 6) ∧ w2_isThere (X (x1.toNatClampNeg)) (fun r6 => ((r6 = 0 → w8_glue_b40 Z X Q) ∧ (¬ r6 = 0 → vp_in x2 4 ∧ (10 ≤ (10 + x2.toNatClampNeg) ∧ (10 + x2.toNatClampNeg) < 15) ∧ w5_isThere (X (10 + x2.toNatClampNeg)) (fun r11 => ((¬ r11 = 0 → w4_walk (fJ (X (x1.toNatClampNeg)) 1) (X 18) (fun r17 S18 => ∀ X19 : Nat → MS, X19 = (va_up X 18 S18) → ((r17 = 0 → w8_glue_b88 Z X19 Q) ∧ (¬ r17 = 0 → w3_take (fI (X19 18) 3) (X19 19) (X19 (10 + x2.toNatClampNeg)) (fun r23 S24 => ∀ X26 : Nat → MS, X26 = (va_up X19 19 S24) → ((¬ r23 = 0 → w3_gatherCorners (X26 19) (X26 18) (fun S28 => ∀ X30 : Nat → MS, X30 = (va_up X26 19 S28) → w3_isLegal (X30 19) (fun r31 => ((r31 = 0 → w8_glue_b118 (0 : Int64) Z X30 Q) ∧ (¬ r31 = 0 → w8_glue_b118 (1 : Int64) Z X30 Q))))) ∧ (r23 = 0 → w8_glue_b88 Z X26 Q))))))) ∧ (r11 = 0 → w8_glue_b40 Z X Q))))))) ∧ (r3 = 0 → w8_glue_b14 Z X Q))))))
set_option maxHeartbeats 4000000 in
set_option maxRecDepth 100000 in
theorem c8_glue (l : Launch) (D : va_G) (cy : Nat → ClassId)  (o : Nat) (qp oa : Nat → Nat) (qa : Nat → Nat → Nat) (x1 : Int32) (x2 : Int32) (Z : MS) (X : (Nat → MS)) (Q : Int32 → MS → (Nat → MS) → Prop) (h : w8_glue x1 x2 Z X Q) : MetI l yX8_glue wsX8_glue ({ frames := 3, cells := 0, slots := 0, locals := 83 } : Room) D cy nestWs (fun z : MS × (Nat → MS) => wP o qp oa qa cy z.1 z.2) [.ref o, .int x1, .int x2] (Z, X) (fun r z => Q r z.1 z.2) := by
  refine MetI.mk RX8 cX8_glue 3 .int (by decide) rfl nestWs_ok rfl (Nat.le_of_ble_eq_true rfl) ?_
  intro p e s m below meth c A ls C hG hl
  have hl : lv_has ls 3 [(0, .ref o), (1, .int x1), (2, .int x2)] := hl
  have hx := C.1
  have hb := C.2.1
  unfold w8_glue at h
  refine lv_iload_n hx hb dX8_glue_0 rfl (lv_at hl 1 rfl) ?_
  refine callSI (As := [.int x1]) (rest := []) C hG (c8_isFigure l D cy x1 _ h) 1 gX8_glue_X8_isFigure rfl (by decide +kernel) ⟨⟨Nat.le_of_ble_eq_true rfl, Nat.le_of_ble_eq_true rfl⟩, rfl, rfl⟩ (Foc.none C.2.2.2.2.2.2.2.2.1) rfl hl.1 rfl (Nat.le_of_ble_eq_true rfl) dX8_glue_1 ⟨Nat.zero_le _, Nat.zero_le _⟩ (fun r1 z H locs h hG => ?_)
  refine lv_if_eq (tgt := 14) hx hb dX8_glue_4 (by decide) (fun c2 => ?_) (fun c2 => ?_)
  · replace h := h.1 c2
    exact b8_glue_b14 Z X C h hG (lv_sub hl [0] rfl)
  · replace h := h.2 c2
    refine lv_iload_n hx hb dX8_glue_7 rfl (lv_at hl 2 rfl) ?_
    refine callSI (As := [.int x2]) (rest := []) C hG (c8_isRow l D cy x2 _ h) 1 gX8_glue_X8_isRow rfl (by decide +kernel) ⟨⟨Nat.le_of_ble_eq_true rfl, Nat.le_of_ble_eq_true rfl⟩, rfl, rfl⟩ (Foc.none C.2.2.2.2.2.2.2.2.1) rfl hl.1 rfl (Nat.le_of_ble_eq_true rfl) dX8_glue_8 ⟨Nat.zero_le _, Nat.zero_le _⟩ (fun r3 z H locs h hG => ?_)
    refine lv_if_ne (tgt := 16) hx hb dX8_glue_11 (by decide) (fun c4 => ?_) (fun c4 => ?_)
    · replace h := h.1 c4
      refine lv_aload_n hx hb dX8_glue_16 rfl (lv_at hl 0 rfl) ?_
      refine gx_get C i8_glue_X8 hG 0 rfl rfl 0 (by decide) k8_glue_11 rfl dX8_glue_17 ?_
      refine lv_iload_n hx hb dX8_glue_20 rfl (lv_at hl 1 rfl) ?_
      obtain ⟨hv5, h⟩ := h
      refine gx_aald (C' := "PaperBodies$Figure") C hG 1 3 rfl rfl hv5 dX8_glue_21 ?_
      obtain ⟨hr7, h⟩ := h
      refine callVI (As := []) (rest := []) C hG (c2_isThere l D cy (oa (x1.toNatClampNeg)) (qa (x1.toNatClampNeg)) (X (x1.toNatClampNeg)) _ h) 0 gX8_glue_X2_isThere rfl (by decide +kernel) ⟨⟨Nat.le_of_ble_eq_true rfl, Nat.le_of_ble_eq_true rfl⟩, rfl, rfl⟩ rfl rfl (fo_2 C.2.2.2.2.2.2.2.2.1 (k0 := (x1.toNatClampNeg)) hr7) rfl hl.1 rfl (Nat.le_of_ble_eq_true rfl) dX8_glue_22 ⟨Nat.zero_le _, Nat.zero_le _⟩ (fun r6 u8 H locs h hG => ?_)
      obtain ⟨eu8, h⟩ := h
      have eu8 : u8 = (X (x1.toNatClampNeg)) := eu8
      subst u8
      have hG : GW D A s (wP o qp oa qa cy Z X) H locs := by
        have e9 : (va_up X (x1.toNatClampNeg) (X (x1.toNatClampNeg))) = X := by simp only [up_same]
        have hG : GW D A s (wP o qp oa qa cy Z (va_up X (x1.toNatClampNeg) (X (x1.toNatClampNeg)))) H locs := hG
        rw [e9] at hG
        exact hG
      refine lv_if_eq (tgt := 40) hx hb dX8_glue_25 (by decide) (fun c9 => ?_) (fun c9 => ?_)
      · replace h := h.1 c9
        exact b8_glue_b40 Z X C h hG (lv_sub hl [0] rfl)
      · replace h := h.2 c9
        refine lv_aload_n hx hb dX8_glue_28 rfl (lv_at hl 0 rfl) ?_
        refine gx_get C i8_glue_X8 hG 0 rfl rfl 2 (by decide) k8_glue_23 rfl dX8_glue_29 ?_
        refine lv_iload_n hx hb dX8_glue_32 rfl (lv_at hl 2 rfl) ?_
        obtain ⟨hv10, h⟩ := h
        refine gx_aald (C' := "PaperBodies$Row") C hG 3 4 rfl rfl hv10 dX8_glue_33 ?_
        obtain ⟨hr12, h⟩ := h
        refine callVI (As := []) (rest := []) C hG (c5_isThere l D cy (oa (10 + x2.toNatClampNeg)) (qa (10 + x2.toNatClampNeg)) (X (10 + x2.toNatClampNeg)) _ h) 0 gX8_glue_X5_isThere rfl (by decide +kernel) ⟨⟨Nat.le_of_ble_eq_true rfl, Nat.le_of_ble_eq_true rfl⟩, rfl, rfl⟩ rfl rfl (fo_5 C.2.2.2.2.2.2.2.2.1 (k0 := (10 + x2.toNatClampNeg)) hr12) rfl hl.1 rfl (Nat.le_of_ble_eq_true rfl) dX8_glue_34 ⟨Nat.zero_le _, Nat.zero_le _⟩ (fun r11 u13 H locs h hG => ?_)
        obtain ⟨eu13, h⟩ := h
        have eu13 : u13 = (X (10 + x2.toNatClampNeg)) := eu13
        subst u13
        have hG : GW D A s (wP o qp oa qa cy Z X) H locs := by
          have e9 : (va_up X (10 + x2.toNatClampNeg) (X (10 + x2.toNatClampNeg))) = X := by simp only [up_same]
          have hG : GW D A s (wP o qp oa qa cy Z (va_up X (10 + x2.toNatClampNeg) (X (10 + x2.toNatClampNeg)))) H locs := hG
          rw [e9] at hG
          exact hG
        refine lv_if_ne (tgt := 46) hx hb dX8_glue_37 (by decide) (fun c14 => ?_) (fun c14 => ?_)
        · replace h := h.1 c14
          refine lv_aload_n hx hb dX8_glue_46 rfl (lv_at hl 0 rfl) ?_
          refine gx_get C i8_glue_X8 hG 0 rfl rfl 7 (by decide) k8_glue_52 rfl dX8_glue_47 ?_
          refine lv_aload_n hx hb dX8_glue_50 rfl (lv_at hl 0 rfl) ?_
          refine gx_get C i8_glue_X8 hG 0 rfl rfl 0 (by decide) k8_glue_11 rfl dX8_glue_51 ?_
          refine lv_iload_n hx hb dX8_glue_54 rfl (lv_at hl 1 rfl) ?_
          refine gx_aald (C' := "PaperBodies$Figure") C hG 1 3 rfl rfl hv5 dX8_glue_55 ?_
          obtain ⟨qq15, he16⟩ := at2 (o := o) (qp := qp) (oa := oa) (qa := qa) (cy := cy) (Z := Z) (X := X) (k := (x1.toNatClampNeg)) hr7
          refine gx_getN (host := "PaperBodies") C i8_glue_X2 hG qq15 he16 rfl 1 (by decide) (by decide +kernel) rfl dX8_glue_56 ?_
          refine callVI (As := [.long (fJ (X (x1.toNatClampNeg)) 1)]) (rest := []) C hG (c4_walk l D cy (oa 18) (qa 18) (fJ (X (x1.toNatClampNeg)) 1) (X 18) _ h) 1 gX8_glue_X4_walk rfl (by decide +kernel) ⟨⟨Nat.le_of_ble_eq_true rfl, Nat.le_of_ble_eq_true rfl⟩, rfl, rfl⟩ rfl rfl (fo_4 C.2.2.2.2.2.2.2.2.1 (k0 := 18) ⟨by decide, by decide⟩) rfl hl.1 rfl (Nat.le_of_ble_eq_true rfl) dX8_glue_59 ⟨Nat.zero_le _, Nat.zero_le _⟩ (fun r17 S18 H locs h hG => ?_)
          obtain ⟨X19, eX19⟩ : ∃ z : Nat → MS, z = (va_up X 18 S18) := ⟨_, rfl⟩
          have hG : GW D A s (wP o qp oa qa cy Z X19) H locs := by rw [eX19]; exact hG
          replace h := h X19 eX19
          refine lv_if_eq (tgt := 88) hx hb dX8_glue_62 (by decide) (fun c20 => ?_) (fun c20 => ?_)
          · replace h := h.1 c20
            exact b8_glue_b88 Z X19 C h hG (lv_sub hl [0] rfl)
          · replace h := h.2 c20
            refine lv_aload_n hx hb dX8_glue_65 rfl (lv_at hl 0 rfl) ?_
            refine gx_get C i8_glue_X8 hG 0 rfl rfl 8 (by decide) k8_glue_59 rfl dX8_glue_66 ?_
            refine lv_aload_n hx hb dX8_glue_69 rfl (lv_at hl 0 rfl) ?_
            refine gx_get C i8_glue_X8 hG 0 rfl rfl 2 (by decide) k8_glue_23 rfl dX8_glue_70 ?_
            refine lv_iload_n hx hb dX8_glue_73 rfl (lv_at hl 2 rfl) ?_
            refine gx_aald (C' := "PaperBodies$Row") C hG 3 4 rfl rfl hv10 dX8_glue_74 ?_
            refine lv_aload_n hx hb dX8_glue_75 rfl (lv_at hl 0 rfl) ?_
            refine gx_get C i8_glue_X8 hG 0 rfl rfl 7 (by decide) k8_glue_52 rfl dX8_glue_76 ?_
            obtain ⟨qq21, he22⟩ := at4 (o := o) (qp := qp) (oa := oa) (qa := qa) (cy := cy) (Z := Z) (X := X19) (k := 18) ⟨by decide, by decide⟩
            refine gx_getN (host := "PaperBodies") C i8_glue_X4 hG qq21 he22 rfl 3 (by decide) (by decide +kernel) rfl dX8_glue_79 ?_
            refine callVI (As := [.ref (oa (10 + x2.toNatClampNeg)), .int (fI (X19 18) 3)]) (rest := []) C hG (c3_take l D cy (oa 19) (qa 19) (oa (10 + x2.toNatClampNeg)) (qa (10 + x2.toNatClampNeg)) (fI (X19 18) 3) (X19 19) (X19 (10 + x2.toNatClampNeg)) _ h) 2 gX8_glue_X3_take rfl (by decide +kernel) ⟨⟨Nat.le_of_ble_eq_true rfl, Nat.le_of_ble_eq_true rfl⟩, rfl, rfl⟩ rfl rfl (fo_3_5 C.2.2.2.2.2.2.2.2.1 (k0 := 19) (k1 := (10 + x2.toNatClampNeg)) ⟨by decide, by decide⟩ hr12) rfl hl.1 rfl (Nat.le_of_ble_eq_true rfl) dX8_glue_82 ⟨Nat.zero_le _, Nat.zero_le _⟩ (fun r23 z H locs h hG => ?_)
            obtain ⟨S24, u25⟩ := z
            obtain ⟨eu25, h⟩ := h
            have eu25 : u25 = (X19 (10 + x2.toNatClampNeg)) := eu25
            replace h := h
            subst u25
            obtain ⟨X26, eX26⟩ : ∃ z : Nat → MS, z = (va_up X19 19 S24) := ⟨_, rfl⟩
            have hG : GW D A s (wP o qp oa qa cy Z X26) H locs := by
              rw [eX26]
              have e9 : (va_up (va_up X19 19 S24) (10 + x2.toNatClampNeg) (X19 (10 + x2.toNatClampNeg))) = (va_up X19 19 S24) := by rw [up_back (show (10 + x2.toNatClampNeg) ≠ 19 by omega)]
              rw [← e9]
              exact hG
            replace h := h X26 eX26
            refine lv_if_ne (tgt := 91) hx hb dX8_glue_85 (by decide) (fun c27 => ?_) (fun c27 => ?_)
            · replace h := h.1 c27
              refine lv_aload_n hx hb dX8_glue_91 rfl (lv_at hl 0 rfl) ?_
              refine gx_get C i8_glue_X8 hG 0 rfl rfl 8 (by decide) k8_glue_59 rfl dX8_glue_92 ?_
              refine lv_aload_n hx hb dX8_glue_95 rfl (lv_at hl 0 rfl) ?_
              refine gx_get C i8_glue_X8 hG 0 rfl rfl 7 (by decide) k8_glue_52 rfl dX8_glue_96 ?_
              refine callVV (As := [.ref (oa 18)]) (rest := []) C hG (c3_gatherCorners l D cy (oa 19) (qa 19) (oa 18) (qa 18) (X26 19) (X26 18) _ h) 1 gX8_glue_X3_gatherCorners rfl (by decide +kernel) ⟨⟨Nat.le_of_ble_eq_true rfl, Nat.le_of_ble_eq_true rfl⟩, rfl, rfl⟩ rfl rfl (fo_3_4 C.2.2.2.2.2.2.2.2.1 (k0 := 19) (k1 := 18) ⟨by decide, by decide⟩ ⟨by decide, by decide⟩) rfl hl.1 rfl (Nat.le_of_ble_eq_true rfl) dX8_glue_99 ⟨Nat.zero_le _, Nat.zero_le _⟩ (fun  z H locs h hG => ?_)
              obtain ⟨S28, u29⟩ := z
              obtain ⟨eu29, h⟩ := h
              have eu29 : u29 = (X26 18) := eu29
              replace h := h
              subst u29
              obtain ⟨X30, eX30⟩ : ∃ z : Nat → MS, z = (va_up X26 19 S28) := ⟨_, rfl⟩
              have hG : GW D A s (wP o qp oa qa cy Z X30) H locs := by
                rw [eX30]
                have e9 : (va_up (va_up X26 19 S28) 18 (X26 18)) = (va_up X26 19 S28) := by rw [up_back (show 18 ≠ 19 by omega)]
                rw [← e9]
                exact hG
              replace h := h X30 eX30
              refine lv_aload_n hx hb dX8_glue_102 rfl (lv_at hl 0 rfl) ?_
              refine lv_aload_n hx hb dX8_glue_103 rfl (lv_at hl 0 rfl) ?_
              refine gx_get C i8_glue_X8 hG 0 rfl rfl 8 (by decide) k8_glue_59 rfl dX8_glue_104 ?_
              refine callVI (As := []) (rest := [.ref o]) C hG (c3_isLegal l D cy (oa 19) (qa 19) (X30 19) _ h) 0 gX8_glue_X3_isLegal rfl (by decide +kernel) ⟨⟨Nat.le_of_ble_eq_true rfl, Nat.le_of_ble_eq_true rfl⟩, rfl, rfl⟩ rfl rfl (fo_3 C.2.2.2.2.2.2.2.2.1 (k0 := 19) ⟨by decide, by decide⟩) rfl hl.1 rfl (Nat.le_of_ble_eq_true rfl) dX8_glue_107 ⟨Nat.zero_le _, Nat.zero_le _⟩ (fun r31 u32 H locs h hG => ?_)
              obtain ⟨eu32, h⟩ := h
              have eu32 : u32 = (X30 19) := eu32
              subst u32
              have hG : GW D A s (wP o qp oa qa cy Z X30) H locs := by
                have e9 : (va_up X30 19 (X30 19)) = X30 := by simp only [up_same]
                have hG : GW D A s (wP o qp oa qa cy Z (va_up X30 19 (X30 19))) H locs := hG
                rw [e9] at hG
                exact hG
              refine lv_if_eq (tgt := 117) hx hb dX8_glue_110 (by decide) (fun c33 => ?_) (fun c33 => ?_)
              · replace h := h.1 c33
                refine lv_lconst (v := 0) hx hb dX8_glue_117 (by decide) ?_
                exact b8_glue_b118 (0 : Int64) Z X30 C h hG (lv_sub hl [0] rfl)
              · replace h := h.2 c33
                refine lv_lconst (v := 1) hx hb dX8_glue_113 (by decide) ?_
                refine lv_goto (tgt := 118) hx hb dX8_glue_114 (by decide) ?_
                exact b8_glue_b118 (1 : Int64) Z X30 C h hG (lv_sub hl [0] rfl)
            · replace h := h.2 c27
              exact b8_glue_b88 Z X26 C h hG (lv_sub hl [0] rfl)
        · replace h := h.2 c14
          exact b8_glue_b40 Z X C h hG (lv_sub hl [0] rfl)
    · replace h := h.2 c4
      exact b8_glue_b14 Z X C h hG (lv_sub hl [0] rfl)
-- X8_tries
theorem i8_tries_X8 : ∀ w ∈ wsX80, w ∈ wsX8_tries := fun w h => List.mem_cons_of_mem _ (inG_X8 w h)
theorem i8_tries_X3 : ∀ w ∈ wsX30, w ∈ wsX8_tries := fun w h => List.mem_cons_of_mem _ (inG_X3 w h)
theorem k8_tries_59 : Cond.fieldLink RX8 59 "PaperBodies" "gluer" "LPaperBodies$Gluer;" ∈ wsX8_tries := (List.mem_cons_of_mem _ mw_336)
def w8_tries (Z : MS) (X : (Nat → MS)) (Q : Int32 → Prop) : Prop :=
  Q (fI (X 19) 10)
set_option maxHeartbeats 4000000 in
set_option maxRecDepth 100000 in
theorem c8_tries (l : Launch) (D : va_G) (cy : Nat → ClassId)  (o : Nat) (qp oa : Nat → Nat) (qa : Nat → Nat → Nat) (Z : MS) (X : (Nat → MS)) (Q : Int32 → Prop) (h : w8_tries Z X Q) : MetI l yX8_tries wsX8_tries ({ frames := 0, cells := 0, slots := 0, locals := 0 } : Room) D cy nestWs (fun z : MS × (Nat → MS) => wP o qp oa qa cy z.1 z.2) [.ref o] (Z, X) (fun r z => z.1 = Z ∧ z.2 = X ∧ Q r ) := by
  refine MetI.mk RX8 cX8_tries 1 .int (by decide) rfl nestWs_ok rfl (Nat.le_of_ble_eq_true rfl) ?_
  intro p e s m below meth c A ls C hG hl
  have hl : lv_has ls 1 [(0, .ref o)] := hl
  have hx := C.1
  have hb := C.2.1
  unfold w8_tries at h
  refine lv_aload_n hx hb dX8_tries_0 rfl (lv_at hl 0 rfl) ?_
  refine gx_get C i8_tries_X8 hG 0 rfl rfl 8 (by decide) k8_tries_59 rfl dX8_tries_1 ?_
  obtain ⟨qq1, he2⟩ := at3 (o := o) (qp := qp) (oa := oa) (qa := qa) (cy := cy) (Z := Z) (X := X) (k := 19) ⟨by decide, by decide⟩
  refine gx_getN (host := "PaperBodies") C i8_tries_X3 hG qq1 he2 rfl 10 (by decide) (by decide +kernel) rfl dX8_tries_4 ?_
  exact retI (w := (fun z : MS × (Nat → MS) => wP o qp oa qa cy z.1 z.2)) (S := (Z, X)) (Qp := (fun r z => z.1 = Z ∧ z.2 = X ∧ Q r )) C hG ⟨rfl, rfl, h⟩ dX8_tries_7
-- X8_meanAngle
theorem i8_meanAngle_X8 : ∀ w ∈ wsX80, w ∈ wsX8_meanAngle := fun w h => List.mem_cons_of_mem _ (inG_X8 w h)
theorem i8_meanAngle_X4 : ∀ w ∈ wsX40, w ∈ wsX8_meanAngle := fun w h => List.mem_cons_of_mem _ (inG_X4 w h)
theorem i8_meanAngle_X2 : ∀ w ∈ wsX20, w ∈ wsX8_meanAngle := fun w h => List.mem_cons_of_mem _ (inG_X2 w h)
theorem k8_meanAngle_11 : Cond.fieldLink RX8 11 "PaperBodies" "figures" "[LPaperBodies$Figure;" ∈ wsX8_meanAngle := (List.mem_cons_of_mem _ mw_317)
theorem k8_meanAngle_52 : Cond.fieldLink RX8 52 "PaperBodies" "walked" "LPaperBodies$Rim;" ∈ wsX8_meanAngle := (List.mem_cons_of_mem _ mw_333)
def w8_meanAngle_b82 (t0 : Int32) (Z : MS) (X : (Nat → MS)) (Q : Int32 → MS → (Nat → MS) → Prop) : Prop :=
  Q t0 Z X
set_option maxHeartbeats 4000000 in
set_option maxRecDepth 100000 in
theorem b8_meanAngle_b82 {p : Program} {l : Launch} {e : Env} {s : State} {m : MethodId} {args : Array Value} {below : List Frame} {meth : Method} {c : Code} {D : va_G} {cy : Nat → ClassId} {A : Nat → Prop} {o : Nat} {qp oa : Nat → Nat} {qa : Nat → Nat → Nat} (t0 : Int32) (Z : MS) (X : (Nat → MS)) {Q : Int32 → MS → (Nat → MS) → Prop} (C : Cx p s m args meth c cX8_meanAngle 2 (some .int) wsX8_meanAngle RX8 D cy nestWs A) (h : w8_meanAngle_b82 t0 Z X Q) {H : Heap} {locs : List Loc} (hG : GW D A s (wP o qp oa qa cy Z X) H locs) {ls : Array Slot} (hl : lv_has ls 2 [(0, .ref o)]) : W p l e ({ frames := 3, cells := 0, slots := 0, locals := 74 } : Room) s m args below meth c H locs 0 0 (MQ below (va_Qi (fun r z => Q r z.1 z.2) (B1 D (fun z : MS × (Nat → MS) => wP o qp oa qa cy z.1 z.2) A) A) args s 0 0 A) (F0 m 82 ls [.int t0]) := by
  have hx := C.1
  have hb := C.2.1
  unfold w8_meanAngle_b82 at h
  exact retI (w := (fun z : MS × (Nat → MS) => wP o qp oa qa cy z.1 z.2)) (S := (Z, X)) (Qp := (fun r z => Q r z.1 z.2)) C hG h dX8_meanAngle_82
def w8_meanAngle (x1 : Int32) (Z : MS) (X : (Nat → MS)) (Q : Int32 → MS → (Nat → MS) → Prop) : Prop :=
  w8_isFigure x1 (fun r1 => ((¬ r1 = 0 → vp_in x1 6 ∧ (0 ≤ (x1.toNatClampNeg) ∧ (x1.toNatClampNeg) < 6) ∧ w2_isThere (X (x1.toNatClampNeg)) (fun r4 => ((¬ r4 = 0 → w4_walk (fJ (X (x1.toNatClampNeg)) 1) (X 18) (fun r10 S11 => ∀ X12 : Nat → MS, X12 = (va_up X 18 S11) → ((¬ r10 = 0 → (((fI (X12 18) 3) ≤ 0 → w8_meanAngle_b82 (-4 : Int32) Z X12 Q) ∧ (¬ (fI (X12 18) 3) ≤ 0 → w4_sumOfAngles (X12 18) (fun r17 => ¬ (fI (X12 18) 3) = 0 ∧ w8_meanAngle_b82 (((100 : Int32) * r17) / (fI (X12 18) 3)) Z X12 Q)))) ∧ (r10 = 0 → Q (-4 : Int32) Z X12)))) ∧ (r4 = 0 → w8_refuse (1 : Int32) Z X (fun r22 S23 => Q r22 S23 X))))) ∧ (r1 = 0 → Q (-1 : Int32) Z X)))
set_option maxHeartbeats 4000000 in
set_option maxRecDepth 100000 in
theorem c8_meanAngle (l : Launch) (D : va_G) (cy : Nat → ClassId)  (o : Nat) (qp oa : Nat → Nat) (qa : Nat → Nat → Nat) (x1 : Int32) (Z : MS) (X : (Nat → MS)) (Q : Int32 → MS → (Nat → MS) → Prop) (h : w8_meanAngle x1 Z X Q) : MetI l yX8_meanAngle wsX8_meanAngle ({ frames := 3, cells := 0, slots := 0, locals := 74 } : Room) D cy nestWs (fun z : MS × (Nat → MS) => wP o qp oa qa cy z.1 z.2) [.ref o, .int x1] (Z, X) (fun r z => Q r z.1 z.2) := by
  refine MetI.mk RX8 cX8_meanAngle 2 .int (by decide) rfl nestWs_ok rfl (Nat.le_of_ble_eq_true rfl) ?_
  intro p e s m below meth c A ls C hG hl
  have hl : lv_has ls 2 [(0, .ref o), (1, .int x1)] := hl
  have hx := C.1
  have hb := C.2.1
  unfold w8_meanAngle at h
  refine lv_iload_n hx hb dX8_meanAngle_0 rfl (lv_at hl 1 rfl) ?_
  refine callSI (As := [.int x1]) (rest := []) C hG (c8_isFigure l D cy x1 _ h) 1 gX8_meanAngle_X8_isFigure rfl (by decide +kernel) ⟨⟨Nat.le_of_ble_eq_true rfl, Nat.le_of_ble_eq_true rfl⟩, rfl, rfl⟩ (Foc.none C.2.2.2.2.2.2.2.2.1) rfl hl.1 rfl (Nat.le_of_ble_eq_true rfl) dX8_meanAngle_1 ⟨Nat.zero_le _, Nat.zero_le _⟩ (fun r1 z H locs h hG => ?_)
  refine lv_if_ne (tgt := 9) hx hb dX8_meanAngle_4 (by decide) (fun c2 => ?_) (fun c2 => ?_)
  · replace h := h.1 c2
    refine lv_aload_n hx hb dX8_meanAngle_9 rfl (lv_at hl 0 rfl) ?_
    refine gx_get C i8_meanAngle_X8 hG 0 rfl rfl 0 (by decide) k8_meanAngle_11 rfl dX8_meanAngle_10 ?_
    refine lv_iload_n hx hb dX8_meanAngle_13 rfl (lv_at hl 1 rfl) ?_
    obtain ⟨hv3, h⟩ := h
    refine gx_aald (C' := "PaperBodies$Figure") C hG 1 3 rfl rfl hv3 dX8_meanAngle_14 ?_
    obtain ⟨hr5, h⟩ := h
    refine callVI (As := []) (rest := []) C hG (c2_isThere l D cy (oa (x1.toNatClampNeg)) (qa (x1.toNatClampNeg)) (X (x1.toNatClampNeg)) _ h) 0 gX8_meanAngle_X2_isThere rfl (by decide +kernel) ⟨⟨Nat.le_of_ble_eq_true rfl, Nat.le_of_ble_eq_true rfl⟩, rfl, rfl⟩ rfl rfl (fo_2 C.2.2.2.2.2.2.2.2.1 (k0 := (x1.toNatClampNeg)) hr5) rfl hl.1 rfl (Nat.le_of_ble_eq_true rfl) dX8_meanAngle_15 ⟨Nat.zero_le _, Nat.zero_le _⟩ (fun r4 u6 H locs h hG => ?_)
    obtain ⟨eu6, h⟩ := h
    have eu6 : u6 = (X (x1.toNatClampNeg)) := eu6
    subst u6
    have hG : GW D A s (wP o qp oa qa cy Z X) H locs := by
      have e9 : (va_up X (x1.toNatClampNeg) (X (x1.toNatClampNeg))) = X := by simp only [up_same]
      have hG : GW D A s (wP o qp oa qa cy Z (va_up X (x1.toNatClampNeg) (X (x1.toNatClampNeg)))) H locs := hG
      rw [e9] at hG
      exact hG
    refine lv_if_ne (tgt := 27) hx hb dX8_meanAngle_18 (by decide) (fun c7 => ?_) (fun c7 => ?_)
    · replace h := h.1 c7
      refine lv_aload_n hx hb dX8_meanAngle_27 rfl (lv_at hl 0 rfl) ?_
      refine gx_get C i8_meanAngle_X8 hG 0 rfl rfl 7 (by decide) k8_meanAngle_52 rfl dX8_meanAngle_28 ?_
      refine lv_aload_n hx hb dX8_meanAngle_31 rfl (lv_at hl 0 rfl) ?_
      refine gx_get C i8_meanAngle_X8 hG 0 rfl rfl 0 (by decide) k8_meanAngle_11 rfl dX8_meanAngle_32 ?_
      refine lv_iload_n hx hb dX8_meanAngle_35 rfl (lv_at hl 1 rfl) ?_
      refine gx_aald (C' := "PaperBodies$Figure") C hG 1 3 rfl rfl hv3 dX8_meanAngle_36 ?_
      obtain ⟨qq8, he9⟩ := at2 (o := o) (qp := qp) (oa := oa) (qa := qa) (cy := cy) (Z := Z) (X := X) (k := (x1.toNatClampNeg)) hr5
      refine gx_getN (host := "PaperBodies") C i8_meanAngle_X2 hG qq8 he9 rfl 1 (by decide) (by decide +kernel) rfl dX8_meanAngle_37 ?_
      refine callVI (As := [.long (fJ (X (x1.toNatClampNeg)) 1)]) (rest := []) C hG (c4_walk l D cy (oa 18) (qa 18) (fJ (X (x1.toNatClampNeg)) 1) (X 18) _ h) 1 gX8_meanAngle_X4_walk rfl (by decide +kernel) ⟨⟨Nat.le_of_ble_eq_true rfl, Nat.le_of_ble_eq_true rfl⟩, rfl, rfl⟩ rfl rfl (fo_4 C.2.2.2.2.2.2.2.2.1 (k0 := 18) ⟨by decide, by decide⟩) rfl hl.1 rfl (Nat.le_of_ble_eq_true rfl) dX8_meanAngle_40 ⟨Nat.zero_le _, Nat.zero_le _⟩ (fun r10 S11 H locs h hG => ?_)
      obtain ⟨X12, eX12⟩ : ∃ z : Nat → MS, z = (va_up X 18 S11) := ⟨_, rfl⟩
      have hG : GW D A s (wP o qp oa qa cy Z X12) H locs := by rw [eX12]; exact hG
      replace h := h X12 eX12
      refine lv_if_ne (tgt := 49) hx hb dX8_meanAngle_43 (by decide) (fun c13 => ?_) (fun c13 => ?_)
      · replace h := h.1 c13
        refine lv_aload_n hx hb dX8_meanAngle_49 rfl (lv_at hl 0 rfl) ?_
        refine gx_get C i8_meanAngle_X8 hG 0 rfl rfl 7 (by decide) k8_meanAngle_52 rfl dX8_meanAngle_50 ?_
        obtain ⟨qq14, he15⟩ := at4 (o := o) (qp := qp) (oa := oa) (qa := qa) (cy := cy) (Z := Z) (X := X12) (k := 18) ⟨by decide, by decide⟩
        refine gx_getN (host := "PaperBodies") C i8_meanAngle_X4 hG qq14 he15 rfl 3 (by decide) (by decide +kernel) rfl dX8_meanAngle_53 ?_
        refine lv_if_le (tgt := 80) hx hb dX8_meanAngle_56 (by decide) (fun c16 => ?_) (fun c16 => ?_)
        · replace h := h.1 c16
          refine lv_bipush (v := -4) hx hb dX8_meanAngle_80 (by decide) ?_
          exact b8_meanAngle_b82 (-4 : Int32) Z X12 C h hG (lv_sub hl [0] rfl)
        · replace h := h.2 c16
          refine lv_bipush (v := 100) hx hb dX8_meanAngle_59 (by decide) ?_
          refine lv_aload_n hx hb dX8_meanAngle_61 rfl (lv_at hl 0 rfl) ?_
          refine gx_get C i8_meanAngle_X8 hG 0 rfl rfl 7 (by decide) k8_meanAngle_52 rfl dX8_meanAngle_62 ?_
          refine callVI (As := []) (rest := [.int (100 : Int32)]) C hG (c4_sumOfAngles l D cy (oa 18) (qa 18) (X12 18) _ h) 0 gX8_meanAngle_X4_sumOfAngles rfl (by decide +kernel) ⟨⟨Nat.le_of_ble_eq_true rfl, Nat.le_of_ble_eq_true rfl⟩, rfl, rfl⟩ rfl rfl (fo_4 C.2.2.2.2.2.2.2.2.1 (k0 := 18) ⟨by decide, by decide⟩) rfl hl.1 rfl (Nat.le_of_ble_eq_true rfl) dX8_meanAngle_65 ⟨Nat.zero_le _, Nat.zero_le _⟩ (fun r17 u18 H locs h hG => ?_)
          obtain ⟨eu18, h⟩ := h
          have eu18 : u18 = (X12 18) := eu18
          subst u18
          have hG : GW D A s (wP o qp oa qa cy Z X12) H locs := by
            have e9 : (va_up X12 18 (X12 18)) = X12 := by simp only [up_same]
            have hG : GW D A s (wP o qp oa qa cy Z (va_up X12 18 (X12 18))) H locs := hG
            rw [e9] at hG
            exact hG
          refine lv_imul hx hb dX8_meanAngle_68 ?_
          refine lv_aload_n hx hb dX8_meanAngle_69 rfl (lv_at hl 0 rfl) ?_
          refine gx_get C i8_meanAngle_X8 hG 0 rfl rfl 7 (by decide) k8_meanAngle_52 rfl dX8_meanAngle_70 ?_
          obtain ⟨qq19, he20⟩ := at4 (o := o) (qp := qp) (oa := oa) (qa := qa) (cy := cy) (Z := Z) (X := X12) (k := 18) ⟨by decide, by decide⟩
          refine gx_getN (host := "PaperBodies") C i8_meanAngle_X4 hG qq19 he20 rfl 3 (by decide) (by decide +kernel) rfl dX8_meanAngle_73 ?_
          obtain ⟨hz21, h⟩ := h
          refine lv_idiv hx hb dX8_meanAngle_76 hz21 ?_
          refine lv_goto (tgt := 82) hx hb dX8_meanAngle_77 (by decide) ?_
          exact b8_meanAngle_b82 (((100 : Int32) * r17) / (fI (X12 18) 3)) Z X12 C h hG (lv_sub hl [0] rfl)
      · replace h := h.2 c13
        refine lv_bipush (v := -4) hx hb dX8_meanAngle_46 (by decide) ?_
        exact retI (w := (fun z : MS × (Nat → MS) => wP o qp oa qa cy z.1 z.2)) (S := (Z, X12)) (Qp := (fun r z => Q r z.1 z.2)) C hG h dX8_meanAngle_48
    · replace h := h.2 c7
      refine lv_aload_n hx hb dX8_meanAngle_21 rfl (lv_at hl 0 rfl) ?_
      refine lv_iconst (v := 1) hx hb dX8_meanAngle_22 (by decide) ?_
      refine callVI (As := [.int (1 : Int32)]) (rest := []) C hG (c8_refuse l D cy o qp oa qa (1 : Int32) Z X _ h) 1 gX8_meanAngle_X8_refuse rfl (by decide +kernel) ⟨⟨Nat.le_of_ble_eq_true rfl, Nat.le_of_ble_eq_true rfl⟩, rfl, rfl⟩ rfl rfl (Foc.all (w' := (fun z : MS × (Nat → MS) => wP o qp oa qa cy z.1 z.2)) (S' := (Z, X)) C.2.2.2.2.2.2.2.2.1) rfl hl.1 rfl (Nat.le_of_ble_eq_true rfl) dX8_meanAngle_23 ⟨Nat.zero_le _, Nat.zero_le _⟩ (fun r22 z H locs h hG => ?_)
      obtain ⟨S23, u24⟩ := z
      obtain ⟨eu24, h⟩ := h
      have eu24 : u24 = X := eu24
      replace h := h
      subst u24
      have hG : GW D A s (wP o qp oa qa cy S23 X) H locs := hG
      exact retI (w := (fun z : MS × (Nat → MS) => wP o qp oa qa cy z.1 z.2)) (S := (S23, X)) (Qp := (fun r z => Q r z.1 z.2)) C hG h dX8_meanAngle_26
  · replace h := h.2 c2
    refine lv_iconst (v := -1) hx hb dX8_meanAngle_7 (by decide) ?_
    exact retI (w := (fun z : MS × (Nat → MS) => wP o qp oa qa cy z.1 z.2)) (S := (Z, X)) (Qp := (fun r z => Q r z.1 z.2)) C hG h dX8_meanAngle_8
-- X8_row
theorem i8_row_X8 : ∀ w ∈ wsX80, w ∈ wsX8_row := fun w h => List.mem_cons_of_mem _ (inG_X8 w h)
theorem k8_row_23 : Cond.fieldLink RX8 23 "PaperBodies" "rows" "[LPaperBodies$Row;" ∈ wsX8_row := (List.mem_cons_of_mem _ mw_321)
def w8_row_b13 (Z : MS) (X : (Nat → MS)) (Q : Int32 → MS → (Nat → MS) → Prop) : Prop :=
  Q (-1 : Int32) Z X
set_option maxHeartbeats 4000000 in
set_option maxRecDepth 100000 in
theorem b8_row_b13 {p : Program} {l : Launch} {e : Env} {s : State} {m : MethodId} {args : Array Value} {below : List Frame} {meth : Method} {c : Code} {D : va_G} {cy : Nat → ClassId} {A : Nat → Prop} {o : Nat} {qp oa : Nat → Nat} {qa : Nat → Nat → Nat} (Z : MS) (X : (Nat → MS)) {Q : Int32 → MS → (Nat → MS) → Prop} (C : Cx p s m args meth c cX8_row 3 (some .int) wsX8_row RX8 D cy nestWs A) (h : w8_row_b13 Z X Q) {H : Heap} {locs : List Loc} (hG : GW D A s (wP o qp oa qa cy Z X) H locs) {ls : Array Slot} (hl : lv_has ls 3 [(0, .ref o)]) : W p l e ({ frames := 2, cells := 0, slots := 0, locals := 81 } : Room) s m args below meth c H locs 0 0 (MQ below (va_Qi (fun r z => Q r z.1 z.2) (B1 D (fun z : MS × (Nat → MS) => wP o qp oa qa cy z.1 z.2) A) A) args s 0 0 A) (F0 m 13 ls []) := by
  have hx := C.1
  have hb := C.2.1
  unfold w8_row_b13 at h
  refine lv_iconst (v := -1) hx hb dX8_row_13 (by decide) ?_
  exact retI (w := (fun z : MS × (Nat → MS) => wP o qp oa qa cy z.1 z.2)) (S := (Z, X)) (Qp := (fun r z => Q r z.1 z.2)) C hG h dX8_row_14
def w8_row (x1 : Int32) (x2 : Int32) (Z : MS) (X : (Nat → MS)) (Q : Int32 → MS → (Nat → MS) → Prop) : Prop :=
  w8_isRow x1 (fun r1 => ((r1 = 0 → w8_row_b13 Z X Q) ∧ (¬ r1 = 0 → ((x2 ≤ (24 : Int32) → ((0 ≤ x2 → vp_in x1 4 ∧ (10 ≤ (10 + x1.toNatClampNeg) ∧ (10 + x1.toNatClampNeg) < 15) ∧ w5_begin x2 (X (10 + x1.toNatClampNeg)) (fun S7 => ∀ X8 : Nat → MS, X8 = (va_up X (10 + x1.toNatClampNeg) S7) → Q x2 Z X8)) ∧ (¬ 0 ≤ x2 → w8_refuse (5 : Int32) Z X (fun r9 S10 => Q r9 S10 X)))) ∧ (¬ x2 ≤ (24 : Int32) → w8_row_b13 Z X Q)))))
set_option maxHeartbeats 4000000 in
set_option maxRecDepth 100000 in
theorem c8_row (l : Launch) (D : va_G) (cy : Nat → ClassId)  (o : Nat) (qp oa : Nat → Nat) (qa : Nat → Nat → Nat) (x1 : Int32) (x2 : Int32) (Z : MS) (X : (Nat → MS)) (Q : Int32 → MS → (Nat → MS) → Prop) (h : w8_row x1 x2 Z X Q) : MetI l yX8_row wsX8_row ({ frames := 2, cells := 0, slots := 0, locals := 81 } : Room) D cy nestWs (fun z : MS × (Nat → MS) => wP o qp oa qa cy z.1 z.2) [.ref o, .int x1, .int x2] (Z, X) (fun r z => Q r z.1 z.2) := by
  refine MetI.mk RX8 cX8_row 3 .int (by decide) rfl nestWs_ok rfl (Nat.le_of_ble_eq_true rfl) ?_
  intro p e s m below meth c A ls C hG hl
  have hl : lv_has ls 3 [(0, .ref o), (1, .int x1), (2, .int x2)] := hl
  have hx := C.1
  have hb := C.2.1
  unfold w8_row at h
  refine lv_iload_n hx hb dX8_row_0 rfl (lv_at hl 1 rfl) ?_
  refine callSI (As := [.int x1]) (rest := []) C hG (c8_isRow l D cy x1 _ h) 1 gX8_row_X8_isRow rfl (by decide +kernel) ⟨⟨Nat.le_of_ble_eq_true rfl, Nat.le_of_ble_eq_true rfl⟩, rfl, rfl⟩ (Foc.none C.2.2.2.2.2.2.2.2.1) rfl hl.1 rfl (Nat.le_of_ble_eq_true rfl) dX8_row_1 ⟨Nat.zero_le _, Nat.zero_le _⟩ (fun r1 z H locs h hG => ?_)
  refine lv_if_eq (tgt := 13) hx hb dX8_row_4 (by decide) (fun c2 => ?_) (fun c2 => ?_)
  · replace h := h.1 c2
    exact b8_row_b13 Z X C h hG (lv_sub hl [0] rfl)
  · replace h := h.2 c2
    refine lv_iload_n hx hb dX8_row_7 rfl (lv_at hl 2 rfl) ?_
    refine lv_bipush (v := 24) hx hb dX8_row_8 (by decide) ?_
    refine lv_icmp_le (tgt := 15) hx hb dX8_row_10 (by decide) (fun c3 => ?_) (fun c3 => ?_)
    · replace h := h.1 c3
      refine lv_iload_n hx hb dX8_row_15 rfl (lv_at hl 2 rfl) ?_
      refine lv_if_ge (tgt := 25) hx hb dX8_row_16 (by decide) (fun c4 => ?_) (fun c4 => ?_)
      · replace h := h.1 c4
        refine lv_aload_n hx hb dX8_row_25 rfl (lv_at hl 0 rfl) ?_
        refine gx_get C i8_row_X8 hG 0 rfl rfl 2 (by decide) k8_row_23 rfl dX8_row_26 ?_
        refine lv_iload_n hx hb dX8_row_29 rfl (lv_at hl 1 rfl) ?_
        obtain ⟨hv5, h⟩ := h
        refine gx_aald (C' := "PaperBodies$Row") C hG 3 4 rfl rfl hv5 dX8_row_30 ?_
        refine lv_iload_n hx hb dX8_row_31 rfl (lv_at hl 2 rfl) ?_
        obtain ⟨hr6, h⟩ := h
        refine callVV (As := [.int x2]) (rest := []) C hG (c5_begin l D cy (oa (10 + x1.toNatClampNeg)) (qa (10 + x1.toNatClampNeg)) x2 (X (10 + x1.toNatClampNeg)) _ h) 1 gX8_row_X5_begin rfl (by decide +kernel) ⟨⟨Nat.le_of_ble_eq_true rfl, Nat.le_of_ble_eq_true rfl⟩, rfl, rfl⟩ rfl rfl (fo_5 C.2.2.2.2.2.2.2.2.1 (k0 := (10 + x1.toNatClampNeg)) hr6) rfl hl.1 rfl (Nat.le_of_ble_eq_true rfl) dX8_row_32 ⟨Nat.zero_le _, Nat.zero_le _⟩ (fun  S7 H locs h hG => ?_)
        obtain ⟨X8, eX8⟩ : ∃ z : Nat → MS, z = (va_up X (10 + x1.toNatClampNeg) S7) := ⟨_, rfl⟩
        have hG : GW D A s (wP o qp oa qa cy Z X8) H locs := by rw [eX8]; exact hG
        replace h := h X8 eX8
        refine lv_iload_n hx hb dX8_row_35 rfl (lv_at hl 2 rfl) ?_
        exact retI (w := (fun z : MS × (Nat → MS) => wP o qp oa qa cy z.1 z.2)) (S := (Z, X8)) (Qp := (fun r z => Q r z.1 z.2)) C hG h dX8_row_36
      · replace h := h.2 c4
        refine lv_aload_n hx hb dX8_row_19 rfl (lv_at hl 0 rfl) ?_
        refine lv_iconst (v := 5) hx hb dX8_row_20 (by decide) ?_
        refine callVI (As := [.int (5 : Int32)]) (rest := []) C hG (c8_refuse l D cy o qp oa qa (5 : Int32) Z X _ h) 1 gX8_row_X8_refuse rfl (by decide +kernel) ⟨⟨Nat.le_of_ble_eq_true rfl, Nat.le_of_ble_eq_true rfl⟩, rfl, rfl⟩ rfl rfl (Foc.all (w' := (fun z : MS × (Nat → MS) => wP o qp oa qa cy z.1 z.2)) (S' := (Z, X)) C.2.2.2.2.2.2.2.2.1) rfl hl.1 rfl (Nat.le_of_ble_eq_true rfl) dX8_row_21 ⟨Nat.zero_le _, Nat.zero_le _⟩ (fun r9 z H locs h hG => ?_)
        obtain ⟨S10, u11⟩ := z
        obtain ⟨eu11, h⟩ := h
        have eu11 : u11 = X := eu11
        replace h := h
        subst u11
        have hG : GW D A s (wP o qp oa qa cy S10 X) H locs := hG
        exact retI (w := (fun z : MS × (Nat → MS) => wP o qp oa qa cy z.1 z.2)) (S := (S10, X)) (Qp := (fun r z => Q r z.1 z.2)) C hG h dX8_row_24
    · replace h := h.2 c3
      exact b8_row_b13 Z X C h hG (lv_sub hl [0] rfl)
