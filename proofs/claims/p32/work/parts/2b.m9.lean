-- X9_told
theorem i9_told_X9 : ∀ w ∈ wsX90, w ∈ wsX9_told := fun w h => List.mem_cons_of_mem _ (inG_X9 w h)
theorem k9_told_13 : Cond.fieldLink RX9 13 "PaperBodiesModel" "figures" "[J" ∈ wsX9_told := (List.mem_cons_of_mem _ mw_538)
theorem k9_told_17 : Cond.fieldLink RX9 17 "PaperBodiesModel" "kinds" "[I" ∈ wsX9_told := (List.mem_cons_of_mem _ mw_539)
def w9_told_b79 (t0 : Int32) (S : MS) (Q : Int32 → MS → Prop) : Prop :=
  Q t0 S
set_option maxHeartbeats 4000000 in
set_option maxRecDepth 100000 in
theorem b9_told_b79 {p : Program} {l : Launch} {e : Env} {s : State} {m : MethodId} {args : Array Value} {below : List Frame} {meth : Method} {c : Code} {D : va_G} {cy : Nat → ClassId} {A : Nat → Prop} {o : Nat} {q : Nat → Nat} (t0 : Int32) (S : MS) {Q : Int32 → MS → Prop} (C : Cx p s m args meth c cX9_told 4 (some .int) wsX9_told RX9 D cy nestWs A) (h : w9_told_b79 t0 S Q) {H : Heap} {locs : List Loc} (hG : GW D A s (w9 o q cy S) H locs) {ls : Array Slot} (hl : lv_has ls 4 [(0, .ref o)]) : W p l e ({ frames := 3, cells := 0, slots := 0, locals := 69 } : Room) s m args below meth c H locs 0 0 (MQ below (va_Qi Q (B1 D (w9 o q cy) A) A) args s 0 0 A) (F0 m 79 ls [.int t0]) := by
  have hx := C.1
  have hb := C.2.1
  unfold w9_told_b79 at h
  exact retI (w := (w9 o q cy)) (S := S) C hG h dX9_told_79
def w9_told (x1 : Int32) (x2 : Int32) (S : MS) (Q : Int32 → MS → Prop) : Prop :=
  w9_in x2 (0 : Int32) (3 : Int32) (fun r1 => ((¬ r1 = 0 → w9_looked x1 S (fun r3 S4 => ((0 ≤ r3 → ((¬ x2 = 0 → ((¬ x2 = (1 : Int32) → ((¬ x2 = (2 : Int32) → vp_in x1 6 ∧ w9_leastOf (rL S4 3 x1) (fun r10 => w9_told_b79 r10 S4 Q)) ∧ (x2 = (2 : Int32) → vp_in x1 6 ∧ w9_rimOf (rL S4 3 x1) (fun r12 => w9_told_b79 r12 S4 Q)))) ∧ (x2 = (1 : Int32) → vp_in x1 6 ∧ w9_bits (rL S4 3 x1) (fun r14 => w9_told_b79 r14 S4 Q)))) ∧ (x2 = 0 → vp_in x1 6 ∧ w9_told_b79 (rA S4 4 x1) S4 Q))) ∧ (¬ 0 ≤ r3 → Q r3 S4)))) ∧ (r1 = 0 → Q (-1 : Int32) S)))
set_option maxHeartbeats 4000000 in
set_option maxRecDepth 100000 in
theorem c9_told (l : Launch) (D : va_G) (cy : Nat → ClassId)  (o : Nat) (q : Nat → Nat) (x1 : Int32) (x2 : Int32) (S : MS) (Q : Int32 → MS → Prop) (h : w9_told x1 x2 S Q) : MetI l yX9_told wsX9_told ({ frames := 3, cells := 0, slots := 0, locals := 69 } : Room) D cy nestWs (w9 o q cy) [.ref o, .int x1, .int x2] S Q := by
  refine MetI.mk RX9 cX9_told 4 .int (by decide) rfl nestWs_ok rfl (Nat.le_of_ble_eq_true rfl) ?_
  intro p e s m below meth c A ls C hG hl
  have hl : lv_has ls 4 [(0, .ref o), (1, .int x1), (2, .int x2)] := hl
  have hx := C.1
  have hb := C.2.1
  unfold w9_told at h
  refine lv_iload_n hx hb dX9_told_0 rfl (lv_at hl 2 rfl) ?_
  refine lv_iconst (v := 0) hx hb dX9_told_1 (by decide) ?_
  refine lv_iconst (v := 3) hx hb dX9_told_2 (by decide) ?_
  refine callSI (As := [.int x2, .int (0 : Int32), .int (3 : Int32)]) (rest := []) C hG (c9_in l D cy x2 (0 : Int32) (3 : Int32) _ h) 3 gX9_told_X9_in rfl (by decide +kernel) ⟨⟨Nat.le_of_ble_eq_true rfl, Nat.le_of_ble_eq_true rfl⟩, rfl, rfl⟩ (Foc.none C.2.2.2.2.2.2.2.2.1) rfl hl.1 rfl (Nat.le_of_ble_eq_true rfl) dX9_told_3 ⟨Nat.zero_le _, Nat.zero_le _⟩ (fun r1 z H locs h hG => ?_)
  refine lv_if_ne (tgt := 11) hx hb dX9_told_6 (by decide) (fun c2 => ?_) (fun c2 => ?_)
  · replace h := h.1 c2
    refine lv_aload_n hx hb dX9_told_11 rfl (lv_at hl 0 rfl) ?_
    refine lv_iload_n hx hb dX9_told_12 rfl (lv_at hl 1 rfl) ?_
    refine callVI (As := [.int x1]) (rest := []) C hG (c9_looked l D cy o q x1 S _ h) 1 gX9_told_X9_looked rfl (by decide +kernel) ⟨⟨Nat.le_of_ble_eq_true rfl, Nat.le_of_ble_eq_true rfl⟩, rfl, rfl⟩ rfl rfl (Foc.all C.2.2.2.2.2.2.2.2.1) rfl hl.1 rfl (Nat.le_of_ble_eq_true rfl) dX9_told_13 ⟨Nat.zero_le _, Nat.zero_le _⟩ (fun r3 S4 H locs h hG => ?_)
    have hG : GW D A s (w9 o q cy S4) H locs := hG
    refine lv_istore_n (lv' := [(3, .int r3), (0, .ref o), (1, .int x1), (2, .int x2)]) hx hb dX9_told_16 rfl hl (by decide) rfl (fun ls hl => ?_)
    refine lv_iload_n hx hb dX9_told_17 rfl (lv_at hl 0 rfl) ?_
    refine lv_if_ge (tgt := 23) hx hb dX9_told_18 (by decide) (fun c5 => ?_) (fun c5 => ?_)
    · replace h := h.1 c5
      refine lv_iload_n hx hb dX9_told_23 rfl (lv_at hl 3 rfl) ?_
      refine lv_if_ne (tgt := 36) hx hb dX9_told_24 (by decide) (fun c6 => ?_) (fun c6 => ?_)
      · replace h := h.1 c6
        refine lv_iload_n hx hb dX9_told_36 rfl (lv_at hl 3 rfl) ?_
        refine lv_iconst (v := 1) hx hb dX9_told_37 (by decide) ?_
        refine lv_icmp_ne (tgt := 53) hx hb dX9_told_38 (by decide) (fun c7 => ?_) (fun c7 => ?_)
        · replace h := h.1 c7
          refine lv_iload_n hx hb dX9_told_53 rfl (lv_at hl 3 rfl) ?_
          refine lv_iconst (v := 2) hx hb dX9_told_54 (by decide) ?_
          refine lv_icmp_ne (tgt := 70) hx hb dX9_told_55 (by decide) (fun c8 => ?_) (fun c8 => ?_)
          · replace h := h.1 c8
            refine lv_aload_n hx hb dX9_told_70 rfl (lv_at hl 1 rfl) ?_
            refine x9g_3 C i9_told_X9 k9_told_13 hG dX9_told_71 ?_
            refine lv_iload_n hx hb dX9_told_74 rfl (lv_at hl 2 rfl) ?_
            obtain ⟨hv9, h⟩ := h
            refine x9l_3 C hG hv9 dX9_told_75 ?_
            refine callSI (As := [.long (rL S4 3 x1)]) (rest := []) C hG (c9_leastOf l D cy (rL S4 3 x1) _ h) 1 gX9_told_X9_leastOf rfl (by decide +kernel) ⟨⟨Nat.le_of_ble_eq_true rfl, Nat.le_of_ble_eq_true rfl⟩, rfl, rfl⟩ (Foc.none C.2.2.2.2.2.2.2.2.1) rfl hl.1 rfl (Nat.le_of_ble_eq_true rfl) dX9_told_76 ⟨Nat.zero_le _, Nat.zero_le _⟩ (fun r10 z H locs h hG => ?_)
            exact b9_told_b79 r10 S4 C h hG (lv_sub hl [1] rfl)
          · replace h := h.2 c8
            refine lv_aload_n hx hb dX9_told_58 rfl (lv_at hl 1 rfl) ?_
            refine x9g_3 C i9_told_X9 k9_told_13 hG dX9_told_59 ?_
            refine lv_iload_n hx hb dX9_told_62 rfl (lv_at hl 2 rfl) ?_
            obtain ⟨hv11, h⟩ := h
            refine x9l_3 C hG hv11 dX9_told_63 ?_
            refine callSI (As := [.long (rL S4 3 x1)]) (rest := []) C hG (c9_rimOf l D cy (rL S4 3 x1) _ h) 1 gX9_told_X9_rimOf rfl (by decide +kernel) ⟨⟨Nat.le_of_ble_eq_true rfl, Nat.le_of_ble_eq_true rfl⟩, rfl, rfl⟩ (Foc.none C.2.2.2.2.2.2.2.2.1) rfl hl.1 rfl (Nat.le_of_ble_eq_true rfl) dX9_told_64 ⟨Nat.zero_le _, Nat.zero_le _⟩ (fun r12 z H locs h hG => ?_)
            refine lv_goto (tgt := 79) hx hb dX9_told_67 (by decide) ?_
            exact b9_told_b79 r12 S4 C h hG (lv_sub hl [1] rfl)
        · replace h := h.2 c7
          refine lv_aload_n hx hb dX9_told_41 rfl (lv_at hl 1 rfl) ?_
          refine x9g_3 C i9_told_X9 k9_told_13 hG dX9_told_42 ?_
          refine lv_iload_n hx hb dX9_told_45 rfl (lv_at hl 2 rfl) ?_
          obtain ⟨hv13, h⟩ := h
          refine x9l_3 C hG hv13 dX9_told_46 ?_
          refine callSI (As := [.long (rL S4 3 x1)]) (rest := []) C hG (c9_bits l D cy (rL S4 3 x1) _ h) 1 gX9_told_X9_bits rfl (by decide +kernel) ⟨⟨Nat.le_of_ble_eq_true rfl, Nat.le_of_ble_eq_true rfl⟩, rfl, rfl⟩ (Foc.none C.2.2.2.2.2.2.2.2.1) rfl hl.1 rfl (Nat.le_of_ble_eq_true rfl) dX9_told_47 ⟨Nat.zero_le _, Nat.zero_le _⟩ (fun r14 z H locs h hG => ?_)
          refine lv_goto (tgt := 79) hx hb dX9_told_50 (by decide) ?_
          exact b9_told_b79 r14 S4 C h hG (lv_sub hl [1] rfl)
      · replace h := h.2 c6
        refine lv_aload_n hx hb dX9_told_27 rfl (lv_at hl 1 rfl) ?_
        refine x9g_4 C i9_told_X9 k9_told_17 hG dX9_told_28 ?_
        refine lv_iload_n hx hb dX9_told_31 rfl (lv_at hl 2 rfl) ?_
        obtain ⟨hv15, h⟩ := h
        refine x9l_4 C hG hv15 dX9_told_32 ?_
        refine lv_goto (tgt := 79) hx hb dX9_told_33 (by decide) ?_
        exact b9_told_b79 (rA S4 4 x1) S4 C h hG (lv_sub hl [1] rfl)
    · replace h := h.2 c5
      refine lv_iload_n hx hb dX9_told_21 rfl (lv_at hl 0 rfl) ?_
      exact retI (w := (w9 o q cy)) (S := S4) C hG h dX9_told_22
  · replace h := h.2 c2
    refine lv_iconst (v := -1) hx hb dX9_told_9 (by decide) ?_
    exact retI (w := (w9 o q cy)) (S := S) C hG h dX9_told_10
-- X9_mark
theorem i9_mark_X9 : ∀ w ∈ wsX90, w ∈ wsX9_mark := fun w h => List.mem_cons_of_mem _ (inG_X9 w h)
theorem k9_mark_13 : Cond.fieldLink RX9 13 "PaperBodiesModel" "figures" "[J" ∈ wsX9_mark := (List.mem_cons_of_mem _ mw_538)
theorem k9_mark_17 : Cond.fieldLink RX9 17 "PaperBodiesModel" "kinds" "[I" ∈ wsX9_mark := (List.mem_cons_of_mem _ mw_539)
theorem k9_mark_20 : Cond.fieldLink RX9 20 "PaperBodiesModel" "marks" "[I" ∈ wsX9_mark := (List.mem_cons_of_mem _ mw_540)
theorem k9_mark_23 : Cond.fieldLink RX9 23 "PaperBodiesModel" "ends" "[I" ∈ wsX9_mark := (List.mem_cons_of_mem _ mw_541)
def w9_mark_b118 (t0 : Int32) (S : MS) (Q : Int32 → MS → Prop) : Prop :=
  Q t0 S
set_option maxHeartbeats 4000000 in
set_option maxRecDepth 100000 in
theorem b9_mark_b118 {p : Program} {l : Launch} {e : Env} {s : State} {m : MethodId} {args : Array Value} {below : List Frame} {meth : Method} {c : Code} {D : va_G} {cy : Nat → ClassId} {A : Nat → Prop} {o : Nat} {q : Nat → Nat} (t0 : Int32) (S : MS) {Q : Int32 → MS → Prop} (C : Cx p s m args meth c cX9_mark 4 (some .int) wsX9_mark RX9 D cy nestWs A) (h : w9_mark_b118 t0 S Q) {H : Heap} {locs : List Loc} (hG : GW D A s (w9 o q cy S) H locs) {ls : Array Slot} (hl : lv_has ls 4 [(0, .ref o)]) : W p l e ({ frames := 3, cells := 0, slots := 0, locals := 63 } : Room) s m args below meth c H locs 0 0 (MQ below (va_Qi Q (B1 D (w9 o q cy) A) A) args s 0 0 A) (F0 m 118 ls [.int t0]) := by
  have hx := C.1
  have hb := C.2.1
  unfold w9_mark_b118 at h
  exact retI (w := (w9 o q cy)) (S := S) C hG h dX9_mark_118
def w9_mark_b54 (x1 : Int32) (x2 : Int32) (S : MS) (Q : Int32 → MS → Prop) : Prop :=
  vp_in x1 6 ∧ w9_setEnds (rL S 3 x1) S (fun S2 => ((¬ x2 = (1 : Int32) → ((¬ x2 = (2 : Int32) → w9_mark_b118 ((rA S2 5 x1) / (100 : Int32)) S2 Q) ∧ (x2 = (2 : Int32) → w9_mark_b118 ((rA S2 5 x1) - (rA S2 5 x1) / (100 : Int32) * (100 : Int32)) S2 Q))) ∧ (x2 = (1 : Int32) → ((¬ (rA S2 6 (2 : Int32)) = (rA S2 6 (3 : Int32)) → w9_mark_b118 (0 : Int32) S2 Q) ∧ ((rA S2 6 (2 : Int32)) = (rA S2 6 (3 : Int32)) → w9_mark_b118 (1 : Int32) S2 Q)))))
set_option maxHeartbeats 4000000 in
set_option maxRecDepth 100000 in
theorem b9_mark_b54 {p : Program} {l : Launch} {e : Env} {s : State} {m : MethodId} {args : Array Value} {below : List Frame} {meth : Method} {c : Code} {D : va_G} {cy : Nat → ClassId} {A : Nat → Prop} {o : Nat} {q : Nat → Nat} (x1 : Int32) (x2 : Int32) (S : MS) {Q : Int32 → MS → Prop} (C : Cx p s m args meth c cX9_mark 4 (some .int) wsX9_mark RX9 D cy nestWs A) (h : w9_mark_b54 x1 x2 S Q) {H : Heap} {locs : List Loc} (hG : GW D A s (w9 o q cy S) H locs) {ls : Array Slot} (hl : lv_has ls 4 [(0, .ref o), (1, .int x1), (2, .int x2)]) : W p l e ({ frames := 3, cells := 0, slots := 0, locals := 63 } : Room) s m args below meth c H locs 0 0 (MQ below (va_Qi Q (B1 D (w9 o q cy) A) A) args s 0 0 A) (F0 m 54 ls []) := by
  have hx := C.1
  have hb := C.2.1
  unfold w9_mark_b54 at h
  refine lv_aload_n hx hb dX9_mark_54 rfl (lv_at hl 0 rfl) ?_
  refine lv_aload_n hx hb dX9_mark_55 rfl (lv_at hl 0 rfl) ?_
  refine x9g_3 C i9_mark_X9 k9_mark_13 hG dX9_mark_56 ?_
  refine lv_iload_n hx hb dX9_mark_59 rfl (lv_at hl 1 rfl) ?_
  obtain ⟨hv1, h⟩ := h
  refine x9l_3 C hG hv1 dX9_mark_60 ?_
  refine callVV (As := [.long (rL S 3 x1)]) (rest := []) C hG (c9_setEnds l D cy o q (rL S 3 x1) S _ h) 1 gX9_mark_X9_setEnds rfl (by decide +kernel) ⟨⟨Nat.le_of_ble_eq_true rfl, Nat.le_of_ble_eq_true rfl⟩, rfl, rfl⟩ rfl rfl (Foc.all C.2.2.2.2.2.2.2.2.1) rfl hl.1 rfl (Nat.le_of_ble_eq_true rfl) dX9_mark_61 ⟨Nat.zero_le _, Nat.zero_le _⟩ (fun  S2 H locs h hG => ?_)
  have hG : GW D A s (w9 o q cy S2) H locs := hG
  refine lv_iload_n hx hb dX9_mark_64 rfl (lv_at hl 2 rfl) ?_
  refine lv_iconst (v := 1) hx hb dX9_mark_65 (by decide) ?_
  refine lv_icmp_ne (tgt := 92) hx hb dX9_mark_66 (by decide) (fun c3 => ?_) (fun c3 => ?_)
  · replace h := h.1 c3
    refine lv_iload_n hx hb dX9_mark_92 rfl (lv_at hl 2 rfl) ?_
    refine lv_iconst (v := 2) hx hb dX9_mark_93 (by decide) ?_
    refine lv_icmp_ne (tgt := 109) hx hb dX9_mark_94 (by decide) (fun c4 => ?_) (fun c4 => ?_)
    · replace h := h.1 c4
      refine lv_aload_n hx hb dX9_mark_109 rfl (lv_at hl 0 rfl) ?_
      refine x9g_5 C i9_mark_X9 k9_mark_20 hG dX9_mark_110 ?_
      refine lv_iload_n hx hb dX9_mark_113 rfl (lv_at hl 1 rfl) ?_
      refine x9l_5 C hG hv1 dX9_mark_114 ?_
      refine lv_bipush (v := 100) hx hb dX9_mark_115 (by decide) ?_
      refine lv_idiv hx hb dX9_mark_117 (by decide) ?_
      exact b9_mark_b118 ((rA S2 5 x1) / (100 : Int32)) S2 C h hG (lv_sub hl [0] rfl)
    · replace h := h.2 c4
      refine lv_aload_n hx hb dX9_mark_97 rfl (lv_at hl 0 rfl) ?_
      refine x9g_5 C i9_mark_X9 k9_mark_20 hG dX9_mark_98 ?_
      refine lv_iload_n hx hb dX9_mark_101 rfl (lv_at hl 1 rfl) ?_
      refine x9l_5 C hG hv1 dX9_mark_102 ?_
      refine lv_bipush (v := 100) hx hb dX9_mark_103 (by decide) ?_
      refine lv_irem hx hb dX9_mark_105 (by decide) ?_
      refine lv_goto (tgt := 118) hx hb dX9_mark_106 (by decide) ?_
      exact b9_mark_b118 ((rA S2 5 x1) - (rA S2 5 x1) / (100 : Int32) * (100 : Int32)) S2 C h hG (lv_sub hl [0] rfl)
  · replace h := h.2 c3
    refine lv_aload_n hx hb dX9_mark_69 rfl (lv_at hl 0 rfl) ?_
    refine x9g_6 C i9_mark_X9 k9_mark_23 hG dX9_mark_70 ?_
    refine lv_iconst (v := 2) hx hb dX9_mark_73 (by decide) ?_
    refine x9l_6 C hG (by unfold vp_in; decide) dX9_mark_74 ?_
    refine lv_aload_n hx hb dX9_mark_75 rfl (lv_at hl 0 rfl) ?_
    refine x9g_6 C i9_mark_X9 k9_mark_23 hG dX9_mark_76 ?_
    refine lv_iconst (v := 3) hx hb dX9_mark_79 (by decide) ?_
    refine x9l_6 C hG (by unfold vp_in; decide) dX9_mark_80 ?_
    refine lv_icmp_ne (tgt := 88) hx hb dX9_mark_81 (by decide) (fun c5 => ?_) (fun c5 => ?_)
    · replace h := h.1 c5
      refine lv_iconst (v := 0) hx hb dX9_mark_88 (by decide) ?_
      refine lv_goto (tgt := 118) hx hb dX9_mark_89 (by decide) ?_
      exact b9_mark_b118 (0 : Int32) S2 C h hG (lv_sub hl [0] rfl)
    · replace h := h.2 c5
      refine lv_iconst (v := 1) hx hb dX9_mark_84 (by decide) ?_
      refine lv_goto (tgt := 118) hx hb dX9_mark_85 (by decide) ?_
      exact b9_mark_b118 (1 : Int32) S2 C h hG (lv_sub hl [0] rfl)
def w9_mark_b48 (S : MS) (Q : Int32 → MS → Prop) : Prop :=
  w9_meets (3 : Int32) S (fun r1 S2 => Q r1 S2)
set_option maxHeartbeats 4000000 in
set_option maxRecDepth 100000 in
theorem b9_mark_b48 {p : Program} {l : Launch} {e : Env} {s : State} {m : MethodId} {args : Array Value} {below : List Frame} {meth : Method} {c : Code} {D : va_G} {cy : Nat → ClassId} {A : Nat → Prop} {o : Nat} {q : Nat → Nat} (S : MS) {Q : Int32 → MS → Prop} (C : Cx p s m args meth c cX9_mark 4 (some .int) wsX9_mark RX9 D cy nestWs A) (h : w9_mark_b48 S Q) {H : Heap} {locs : List Loc} (hG : GW D A s (w9 o q cy S) H locs) {ls : Array Slot} (hl : lv_has ls 4 [(0, .ref o)]) : W p l e ({ frames := 3, cells := 0, slots := 0, locals := 63 } : Room) s m args below meth c H locs 0 0 (MQ below (va_Qi Q (B1 D (w9 o q cy) A) A) args s 0 0 A) (F0 m 48 ls []) := by
  have hx := C.1
  have hb := C.2.1
  unfold w9_mark_b48 at h
  refine lv_aload_n hx hb dX9_mark_48 rfl (lv_at hl 0 rfl) ?_
  refine lv_iconst (v := 3) hx hb dX9_mark_49 (by decide) ?_
  refine callVI (As := [.int (3 : Int32)]) (rest := []) C hG (c9_meets l D cy o q (3 : Int32) S _ h) 1 gX9_mark_X9_meets rfl (by decide +kernel) ⟨⟨Nat.le_of_ble_eq_true rfl, Nat.le_of_ble_eq_true rfl⟩, rfl, rfl⟩ rfl rfl (Foc.all C.2.2.2.2.2.2.2.2.1) rfl hl.1 rfl (Nat.le_of_ble_eq_true rfl) dX9_mark_50 ⟨Nat.zero_le _, Nat.zero_le _⟩ (fun r1 S2 H locs h hG => ?_)
  have hG : GW D A s (w9 o q cy S2) H locs := hG
  exact retI (w := (w9 o q cy)) (S := S2) C hG h dX9_mark_53
def w9_mark (x1 : Int32) (x2 : Int32) (S : MS) (Q : Int32 → MS → Prop) : Prop :=
  w9_in x2 (1 : Int32) (3 : Int32) (fun r1 => ((¬ r1 = 0 → w9_looked x1 S (fun r3 S4 => ((0 ≤ r3 → vp_in x1 6 ∧ (((rA S4 4 x1) = x2 → w9_mark_b54 x1 x2 S4 Q) ∧ (¬ (rA S4 4 x1) = x2 → ((¬ x2 = (2 : Int32) → w9_mark_b48 S4 Q) ∧ (x2 = (2 : Int32) → (((rA S4 4 x1) = (3 : Int32) → w9_mark_b54 x1 x2 S4 Q) ∧ (¬ (rA S4 4 x1) = (3 : Int32) → w9_mark_b48 S4 Q))))))) ∧ (¬ 0 ≤ r3 → Q r3 S4)))) ∧ (r1 = 0 → Q (-1 : Int32) S)))
set_option maxHeartbeats 4000000 in
set_option maxRecDepth 100000 in
theorem c9_mark (l : Launch) (D : va_G) (cy : Nat → ClassId)  (o : Nat) (q : Nat → Nat) (x1 : Int32) (x2 : Int32) (S : MS) (Q : Int32 → MS → Prop) (h : w9_mark x1 x2 S Q) : MetI l yX9_mark wsX9_mark ({ frames := 3, cells := 0, slots := 0, locals := 63 } : Room) D cy nestWs (w9 o q cy) [.ref o, .int x1, .int x2] S Q := by
  refine MetI.mk RX9 cX9_mark 4 .int (by decide) rfl nestWs_ok rfl (Nat.le_of_ble_eq_true rfl) ?_
  intro p e s m below meth c A ls C hG hl
  have hl : lv_has ls 4 [(0, .ref o), (1, .int x1), (2, .int x2)] := hl
  have hx := C.1
  have hb := C.2.1
  unfold w9_mark at h
  refine lv_iload_n hx hb dX9_mark_0 rfl (lv_at hl 2 rfl) ?_
  refine lv_iconst (v := 1) hx hb dX9_mark_1 (by decide) ?_
  refine lv_iconst (v := 3) hx hb dX9_mark_2 (by decide) ?_
  refine callSI (As := [.int x2, .int (1 : Int32), .int (3 : Int32)]) (rest := []) C hG (c9_in l D cy x2 (1 : Int32) (3 : Int32) _ h) 3 gX9_mark_X9_in rfl (by decide +kernel) ⟨⟨Nat.le_of_ble_eq_true rfl, Nat.le_of_ble_eq_true rfl⟩, rfl, rfl⟩ (Foc.none C.2.2.2.2.2.2.2.2.1) rfl hl.1 rfl (Nat.le_of_ble_eq_true rfl) dX9_mark_3 ⟨Nat.zero_le _, Nat.zero_le _⟩ (fun r1 z H locs h hG => ?_)
  refine lv_if_ne (tgt := 11) hx hb dX9_mark_6 (by decide) (fun c2 => ?_) (fun c2 => ?_)
  · replace h := h.1 c2
    refine lv_aload_n hx hb dX9_mark_11 rfl (lv_at hl 0 rfl) ?_
    refine lv_iload_n hx hb dX9_mark_12 rfl (lv_at hl 1 rfl) ?_
    refine callVI (As := [.int x1]) (rest := []) C hG (c9_looked l D cy o q x1 S _ h) 1 gX9_mark_X9_looked rfl (by decide +kernel) ⟨⟨Nat.le_of_ble_eq_true rfl, Nat.le_of_ble_eq_true rfl⟩, rfl, rfl⟩ rfl rfl (Foc.all C.2.2.2.2.2.2.2.2.1) rfl hl.1 rfl (Nat.le_of_ble_eq_true rfl) dX9_mark_13 ⟨Nat.zero_le _, Nat.zero_le _⟩ (fun r3 S4 H locs h hG => ?_)
    have hG : GW D A s (w9 o q cy S4) H locs := hG
    refine lv_istore_n (lv' := [(3, .int r3), (0, .ref o), (1, .int x1), (2, .int x2)]) hx hb dX9_mark_16 rfl hl (by decide) rfl (fun ls hl => ?_)
    refine lv_iload_n hx hb dX9_mark_17 rfl (lv_at hl 0 rfl) ?_
    refine lv_if_ge (tgt := 23) hx hb dX9_mark_18 (by decide) (fun c5 => ?_) (fun c5 => ?_)
    · replace h := h.1 c5
      refine lv_aload_n hx hb dX9_mark_23 rfl (lv_at hl 1 rfl) ?_
      refine x9g_4 C i9_mark_X9 k9_mark_17 hG dX9_mark_24 ?_
      refine lv_iload_n hx hb dX9_mark_27 rfl (lv_at hl 2 rfl) ?_
      obtain ⟨hv6, h⟩ := h
      refine x9l_4 C hG hv6 dX9_mark_28 ?_
      refine lv_iload_n hx hb dX9_mark_29 rfl (lv_at hl 3 rfl) ?_
      refine lv_icmp_eq (tgt := 54) hx hb dX9_mark_30 (by decide) (fun c7 => ?_) (fun c7 => ?_)
      · replace h := h.1 c7
        exact b9_mark_b54 x1 x2 S4 C h hG (lv_sub hl [1, 2, 3] rfl)
      · replace h := h.2 c7
        refine lv_iload_n hx hb dX9_mark_33 rfl (lv_at hl 3 rfl) ?_
        refine lv_iconst (v := 2) hx hb dX9_mark_34 (by decide) ?_
        refine lv_icmp_ne (tgt := 48) hx hb dX9_mark_35 (by decide) (fun c8 => ?_) (fun c8 => ?_)
        · replace h := h.1 c8
          exact b9_mark_b48 S4 C h hG (lv_sub hl [1] rfl)
        · replace h := h.2 c8
          refine lv_aload_n hx hb dX9_mark_38 rfl (lv_at hl 1 rfl) ?_
          refine x9g_4 C i9_mark_X9 k9_mark_17 hG dX9_mark_39 ?_
          refine lv_iload_n hx hb dX9_mark_42 rfl (lv_at hl 2 rfl) ?_
          refine x9l_4 C hG hv6 dX9_mark_43 ?_
          refine lv_iconst (v := 3) hx hb dX9_mark_44 (by decide) ?_
          refine lv_icmp_eq (tgt := 54) hx hb dX9_mark_45 (by decide) (fun c9 => ?_) (fun c9 => ?_)
          · replace h := h.1 c9
            exact b9_mark_b54 x1 x2 S4 C h hG (lv_sub hl [1, 2, 3] rfl)
          · replace h := h.2 c9
            exact b9_mark_b48 S4 C h hG (lv_sub hl [1] rfl)
    · replace h := h.2 c5
      refine lv_iload_n hx hb dX9_mark_21 rfl (lv_at hl 0 rfl) ?_
      exact retI (w := (w9 o q cy)) (S := S4) C hG h dX9_mark_22
  · replace h := h.2 c2
    refine lv_iconst (v := -1) hx hb dX9_mark_9 (by decide) ?_
    exact retI (w := (w9 o q cy)) (S := S) C hG h dX9_mark_10
-- X9_squares
theorem i9_squares_X9 : ∀ w ∈ wsX90, w ∈ wsX9_squares := fun w h => List.mem_cons_of_mem _ (inG_X9 w h)
theorem k9_squares_13 : Cond.fieldLink RX9 13 "PaperBodiesModel" "figures" "[J" ∈ wsX9_squares := (List.mem_cons_of_mem _ mw_538)
def w9_squares_b33 (t0 : Int32) (S : MS) (Q : Int32 → MS → Prop) : Prop :=
  Q t0 S
set_option maxHeartbeats 4000000 in
set_option maxRecDepth 100000 in
theorem b9_squares_b33 {p : Program} {l : Launch} {e : Env} {s : State} {m : MethodId} {args : Array Value} {below : List Frame} {meth : Method} {c : Code} {D : va_G} {cy : Nat → ClassId} {A : Nat → Prop} {o : Nat} {q : Nat → Nat} (t0 : Int32) (S : MS) {Q : Int32 → MS → Prop} (C : Cx p s m args meth c cX9_squares 3 (some .int) wsX9_squares RX9 D cy nestWs A) (h : w9_squares_b33 t0 S Q) {H : Heap} {locs : List Loc} (hG : GW D A s (w9 o q cy S) H locs) {ls : Array Slot} (hl : lv_has ls 3 [(0, .ref o)]) : W p l e ({ frames := 3, cells := 0, slots := 0, locals := 63 } : Room) s m args below meth c H locs 0 0 (MQ below (va_Qi Q (B1 D (w9 o q cy) A) A) args s 0 0 A) (F0 m 33 ls [.int t0]) := by
  have hx := C.1
  have hb := C.2.1
  unfold w9_squares_b33 at h
  exact retI (w := (w9 o q cy)) (S := S) C hG h dX9_squares_33
def w9_squares (x1 : Int32) (S : MS) (Q : Int32 → MS → Prop) : Prop :=
  w9_looked x1 S (fun r1 S2 => ((0 ≤ r1 → vp_in x1 6 ∧ w9_bits (rL S2 3 x1) (fun r5 => w9_ask (rL S2 3 x1) r5 S2 (fun r6 S7 => w9_squares_b33 r6 S7 Q))) ∧ (¬ 0 ≤ r1 → w9_squares_b33 r1 S2 Q)))
set_option maxHeartbeats 4000000 in
set_option maxRecDepth 100000 in
theorem c9_squares (l : Launch) (D : va_G) (cy : Nat → ClassId)  (o : Nat) (q : Nat → Nat) (x1 : Int32) (S : MS) (Q : Int32 → MS → Prop) (h : w9_squares x1 S Q) : MetI l yX9_squares wsX9_squares ({ frames := 3, cells := 0, slots := 0, locals := 63 } : Room) D cy nestWs (w9 o q cy) [.ref o, .int x1] S Q := by
  refine MetI.mk RX9 cX9_squares 3 .int (by decide) rfl nestWs_ok rfl (Nat.le_of_ble_eq_true rfl) ?_
  intro p e s m below meth c A ls C hG hl
  have hl : lv_has ls 3 [(0, .ref o), (1, .int x1)] := hl
  have hx := C.1
  have hb := C.2.1
  unfold w9_squares at h
  refine lv_aload_n hx hb dX9_squares_0 rfl (lv_at hl 0 rfl) ?_
  refine lv_iload_n hx hb dX9_squares_1 rfl (lv_at hl 1 rfl) ?_
  refine callVI (As := [.int x1]) (rest := []) C hG (c9_looked l D cy o q x1 S _ h) 1 gX9_squares_X9_looked rfl (by decide +kernel) ⟨⟨Nat.le_of_ble_eq_true rfl, Nat.le_of_ble_eq_true rfl⟩, rfl, rfl⟩ rfl rfl (Foc.all C.2.2.2.2.2.2.2.2.1) rfl hl.1 rfl (Nat.le_of_ble_eq_true rfl) dX9_squares_2 ⟨Nat.zero_le _, Nat.zero_le _⟩ (fun r1 S2 H locs h hG => ?_)
  have hG : GW D A s (w9 o q cy S2) H locs := hG
  refine lv_istore_n (lv' := [(2, .int r1), (0, .ref o), (1, .int x1)]) hx hb dX9_squares_5 rfl hl (by decide) rfl (fun ls hl => ?_)
  refine lv_iload_n hx hb dX9_squares_6 rfl (lv_at hl 0 rfl) ?_
  refine lv_if_ge (tgt := 14) hx hb dX9_squares_7 (by decide) (fun c3 => ?_) (fun c3 => ?_)
  · replace h := h.1 c3
    refine lv_aload_n hx hb dX9_squares_14 rfl (lv_at hl 1 rfl) ?_
    refine lv_aload_n hx hb dX9_squares_15 rfl (lv_at hl 1 rfl) ?_
    refine x9g_3 C i9_squares_X9 k9_squares_13 hG dX9_squares_16 ?_
    refine lv_iload_n hx hb dX9_squares_19 rfl (lv_at hl 2 rfl) ?_
    obtain ⟨hv4, h⟩ := h
    refine x9l_3 C hG hv4 dX9_squares_20 ?_
    refine lv_aload_n hx hb dX9_squares_21 rfl (lv_at hl 1 rfl) ?_
    refine x9g_3 C i9_squares_X9 k9_squares_13 hG dX9_squares_22 ?_
    refine lv_iload_n hx hb dX9_squares_25 rfl (lv_at hl 2 rfl) ?_
    refine x9l_3 C hG hv4 dX9_squares_26 ?_
    refine callSI (As := [.long (rL S2 3 x1)]) (rest := [.long (rL S2 3 x1), .ref o]) C hG (c9_bits l D cy (rL S2 3 x1) _ h) 1 gX9_squares_X9_bits rfl (by decide +kernel) ⟨⟨Nat.le_of_ble_eq_true rfl, Nat.le_of_ble_eq_true rfl⟩, rfl, rfl⟩ (Foc.none C.2.2.2.2.2.2.2.2.1) rfl hl.1 rfl (Nat.le_of_ble_eq_true rfl) dX9_squares_27 ⟨Nat.zero_le _, Nat.zero_le _⟩ (fun r5 z H locs h hG => ?_)
    refine callVI (As := [.long (rL S2 3 x1), .int r5]) (rest := []) C hG (c9_ask l D cy o q (rL S2 3 x1) r5 S2 _ h) 2 gX9_squares_X9_ask rfl (by decide +kernel) ⟨⟨Nat.le_of_ble_eq_true rfl, Nat.le_of_ble_eq_true rfl⟩, rfl, rfl⟩ rfl rfl (Foc.all C.2.2.2.2.2.2.2.2.1) rfl hl.1 rfl (Nat.le_of_ble_eq_true rfl) dX9_squares_30 ⟨Nat.zero_le _, Nat.zero_le _⟩ (fun r6 S7 H locs h hG => ?_)
    have hG : GW D A s (w9 o q cy S7) H locs := hG
    exact b9_squares_b33 r6 S7 C h hG (lv_sub hl [1] rfl)
  · replace h := h.2 c3
    refine lv_iload_n hx hb dX9_squares_10 rfl (lv_at hl 0 rfl) ?_
    refine lv_goto (tgt := 33) hx hb dX9_squares_11 (by decide) ?_
    exact b9_squares_b33 r1 S2 C h hG (lv_sub hl [1] rfl)
-- X9_putDown
theorem i9_putDown_X9 : ∀ w ∈ wsX90, w ∈ wsX9_putDown := fun w h => List.mem_cons_of_mem _ (inG_X9 w h)
theorem k9_putDown_23 : Cond.fieldLink RX9 23 "PaperBodiesModel" "ends" "[I" ∈ wsX9_putDown := (List.mem_cons_of_mem _ mw_541)
def w9_putDown_b134 (K33 : Int64 → Int32 → Prop) (x4 : Int32) (x5 : Int64) (x7 : Int32) (x10 : Int32) (t0 : Int64) (t1 : Int64) (S : MS) (Q : Int64 → MS → Prop) : Prop :=
  ∀ y1 : Int64, y1 = (t0 ||| t1) → ∀ y2 : Int32, y2 = x10 + 1 → K33 y1 y2
set_option maxHeartbeats 4000000 in
set_option maxRecDepth 100000 in
theorem b9_putDown_b134 {p : Program} {l : Launch} {e : Env} {s : State} {m : MethodId} {args : Array Value} {below : List Frame} {meth : Method} {c : Code} {D : va_G} {cy : Nat → ClassId} {A : Nat → Prop} {o : Nat} {q : Nat → Nat} {K33 : Int64 → Int32 → Prop} (x4 : Int32) (x5 : Int64) (x7 : Int32) (x10 : Int32) (t0 : Int64) (t1 : Int64) (S : MS) {Q : Int64 → MS → Prop} (C : Cx p s m args meth c cX9_putDown 13 (some .long) wsX9_putDown RX9 D cy nestWs A) (hK33 : ∀ (x8 : Int64) (x10 : Int32) (H : Heap) (locs : List Loc) (ls : Array Slot), K33 x8 x10 → GW D A s (w9 o q cy S) H locs → lv_has ls 13 [(0, .ref o), (4, .int x4), (5, .long x5), (7, .int x7), (8, .long x8), (10, .int x10)] → W p l e ({ frames := 2, cells := 0, slots := 0, locals := 45 } : Room) s m args below meth c H locs 0 0 (MQ below (va_Ql Q (B1 D (w9 o q cy) A) A) args s 0 0 A) (F0 m 33 ls [])) (h : w9_putDown_b134 K33 x4 x5 x7 x10 t0 t1 S Q) {H : Heap} {locs : List Loc} (hG : GW D A s (w9 o q cy S) H locs) {ls : Array Slot} (hl : lv_has ls 13 [(0, .ref o), (4, .int x4), (5, .long x5), (7, .int x7), (10, .int x10)]) : W p l e ({ frames := 2, cells := 0, slots := 0, locals := 45 } : Room) s m args below meth c H locs 0 0 (MQ below (va_Ql Q (B1 D (w9 o q cy) A) A) args s 0 0 A) (F0 m 134 ls [.long t1, .long t0]) := by
  have hx := C.1
  have hb := C.2.1
  unfold w9_putDown_b134 at h
  refine lv_lor hx hb dX9_putDown_134 ?_
  refine lv_topl (fun y1 ey1 => ?_)
  replace h := h y1 ey1
  refine lv_lstore (lv' := [(8, .long y1), (0, .ref o), (4, .int x4), (5, .long x5), (7, .int x7), (10, .int x10)]) hx hb dX9_putDown_135 hl (by decide) rfl (fun ls hl => ?_)
  obtain ⟨y2, ey2⟩ : ∃ y : Int32, y = x10 + 1 := ⟨_, rfl⟩
  replace h := h y2 ey2
  refine lv_iinc (v := y2) (lv' := [(10, .int y2), (8, .long y1), (0, .ref o), (4, .int x4), (5, .long x5), (7, .int x7)]) hx hb dX9_putDown_137 hl (k := 5) rfl (by rw [ey2]; rfl) (by decide) rfl (fun ls hl => ?_)
  refine lv_goto (tgt := 33) hx hb dX9_putDown_140 (by decide) ?_
  exact hK33 y1 y2 _ _ _ h hG (lv_sub hl [2, 3, 4, 5, 1, 0] rfl)
def w9_putDown_b106 (K33 : Int64 → Int32 → Prop) (x4 : Int32) (x5 : Int64) (x7 : Int32) (x8 : Int64) (x10 : Int32) (x11 : Int32) (t0 : Int32) (S : MS) (Q : Int64 → MS → Prop) : Prop :=
  w9_has x5 x10 (fun r1 => ((r1 = 0 → w9_putDown_b134 K33 x4 x5 x7 x10 x8 (0 : Int64) S Q) ∧ (¬ r1 = 0 → w9_putDown_b134 K33 x4 x5 x7 x10 x8 ((1 : Int64) <<< ((((8 : Int32) * t0) + x11).toInt64 &&& 63)) S Q)))
set_option maxHeartbeats 4000000 in
set_option maxRecDepth 100000 in
theorem b9_putDown_b106 {p : Program} {l : Launch} {e : Env} {s : State} {m : MethodId} {args : Array Value} {below : List Frame} {meth : Method} {c : Code} {D : va_G} {cy : Nat → ClassId} {A : Nat → Prop} {o : Nat} {q : Nat → Nat} {K33 : Int64 → Int32 → Prop} (x4 : Int32) (x5 : Int64) (x7 : Int32) (x8 : Int64) (x10 : Int32) (x11 : Int32) (t0 : Int32) (S : MS) {Q : Int64 → MS → Prop} (C : Cx p s m args meth c cX9_putDown 13 (some .long) wsX9_putDown RX9 D cy nestWs A) (hK33 : ∀ (x8 : Int64) (x10 : Int32) (H : Heap) (locs : List Loc) (ls : Array Slot), K33 x8 x10 → GW D A s (w9 o q cy S) H locs → lv_has ls 13 [(0, .ref o), (4, .int x4), (5, .long x5), (7, .int x7), (8, .long x8), (10, .int x10)] → W p l e ({ frames := 2, cells := 0, slots := 0, locals := 45 } : Room) s m args below meth c H locs 0 0 (MQ below (va_Ql Q (B1 D (w9 o q cy) A) A) args s 0 0 A) (F0 m 33 ls [])) (h : w9_putDown_b106 K33 x4 x5 x7 x8 x10 x11 t0 S Q) {H : Heap} {locs : List Loc} (hG : GW D A s (w9 o q cy S) H locs) {ls : Array Slot} (hl : lv_has ls 13 [(0, .ref o), (4, .int x4), (5, .long x5), (7, .int x7), (8, .long x8), (10, .int x10), (11, .int x11)]) : W p l e ({ frames := 2, cells := 0, slots := 0, locals := 45 } : Room) s m args below meth c H locs 0 0 (MQ below (va_Ql Q (B1 D (w9 o q cy) A) A) args s 0 0 A) (F0 m 106 ls [.int t0]) := by
  have hx := C.1
  have hb := C.2.1
  unfold w9_putDown_b106 at h
  refine lv_istore (lv' := [(12, .int t0), (0, .ref o), (4, .int x4), (5, .long x5), (7, .int x7), (8, .long x8), (10, .int x10), (11, .int x11)]) hx hb dX9_putDown_106 hl (by decide) rfl (fun ls hl => ?_)
  refine lv_lload hx hb dX9_putDown_108 (lv_at hl 5 rfl) ?_
  refine lv_lload hx hb dX9_putDown_110 (lv_at hl 3 rfl) ?_
  refine lv_iload hx hb dX9_putDown_112 (lv_at hl 6 rfl) ?_
  refine callSI (As := [.long x5, .int x10]) (rest := [.long x8]) C hG (c9_has l D cy x5 x10 _ h) 2 gX9_putDown_X9_has rfl (by decide +kernel) ⟨⟨Nat.le_of_ble_eq_true rfl, Nat.le_of_ble_eq_true rfl⟩, rfl, rfl⟩ (Foc.none C.2.2.2.2.2.2.2.2.1) rfl hl.1 rfl (Nat.le_of_ble_eq_true rfl) dX9_putDown_114 ⟨Nat.zero_le _, Nat.zero_le _⟩ (fun r1 z H locs h hG => ?_)
  refine lv_if_eq (tgt := 133) hx hb dX9_putDown_117 (by decide) (fun c2 => ?_) (fun c2 => ?_)
  · replace h := h.1 c2
    refine lv_lconst (v := 0) hx hb dX9_putDown_133 (by decide) ?_
    exact b9_putDown_b134 (K33 := K33) x4 x5 x7 x10 x8 (0 : Int64) S C hK33 h hG (lv_sub hl [1, 2, 3, 4, 6] rfl)
  · replace h := h.2 c2
    refine lv_lconst (v := 1) hx hb dX9_putDown_120 (by decide) ?_
    refine lv_bipush (v := 8) hx hb dX9_putDown_121 (by decide) ?_
    refine lv_iload hx hb dX9_putDown_123 (lv_at hl 0 rfl) ?_
    refine lv_imul hx hb dX9_putDown_125 ?_
    refine lv_iload hx hb dX9_putDown_126 (lv_at hl 7 rfl) ?_
    refine lv_iadd hx hb dX9_putDown_128 ?_
    refine lv_lshl hx hb dX9_putDown_129 rfl ?_
    refine lv_goto (tgt := 134) hx hb dX9_putDown_130 (by decide) ?_
    exact b9_putDown_b134 (K33 := K33) x4 x5 x7 x10 x8 ((1 : Int64) <<< ((((8 : Int32) * t0) + x11).toInt64 &&& 63)) S C hK33 h hG (lv_sub hl [1, 2, 3, 4, 6] rfl)
def w9_putDown_b72 (K33 : Int64 → Int32 → Prop) (x4 : Int32) (x5 : Int64) (x7 : Int32) (x8 : Int64) (x10 : Int32) (t0 : Int32) (S : MS) (Q : Int64 → MS → Prop) : Prop :=
  ((0 ≤ x7 → w9_putDown_b106 K33 x4 x5 x7 x8 x10 t0 ((x10 - x10 / (8 : Int32) * (8 : Int32)) - (rA S 6 (0 : Int32))) S Q) ∧ (¬ 0 ≤ x7 → w9_putDown_b106 K33 x4 x5 x7 x8 x10 t0 ((x10 / (8 : Int32)) - (rA S 6 (2 : Int32))) S Q))
set_option maxHeartbeats 4000000 in
set_option maxRecDepth 100000 in
theorem b9_putDown_b72 {p : Program} {l : Launch} {e : Env} {s : State} {m : MethodId} {args : Array Value} {below : List Frame} {meth : Method} {c : Code} {D : va_G} {cy : Nat → ClassId} {A : Nat → Prop} {o : Nat} {q : Nat → Nat} {K33 : Int64 → Int32 → Prop} (x4 : Int32) (x5 : Int64) (x7 : Int32) (x8 : Int64) (x10 : Int32) (t0 : Int32) (S : MS) {Q : Int64 → MS → Prop} (C : Cx p s m args meth c cX9_putDown 13 (some .long) wsX9_putDown RX9 D cy nestWs A) (hK33 : ∀ (x8 : Int64) (x10 : Int32) (H : Heap) (locs : List Loc) (ls : Array Slot), K33 x8 x10 → GW D A s (w9 o q cy S) H locs → lv_has ls 13 [(0, .ref o), (4, .int x4), (5, .long x5), (7, .int x7), (8, .long x8), (10, .int x10)] → W p l e ({ frames := 2, cells := 0, slots := 0, locals := 45 } : Room) s m args below meth c H locs 0 0 (MQ below (va_Ql Q (B1 D (w9 o q cy) A) A) args s 0 0 A) (F0 m 33 ls [])) (h : w9_putDown_b72 K33 x4 x5 x7 x8 x10 t0 S Q) {H : Heap} {locs : List Loc} (hG : GW D A s (w9 o q cy S) H locs) {ls : Array Slot} (hl : lv_has ls 13 [(0, .ref o), (4, .int x4), (5, .long x5), (7, .int x7), (8, .long x8), (10, .int x10)]) : W p l e ({ frames := 2, cells := 0, slots := 0, locals := 45 } : Room) s m args below meth c H locs 0 0 (MQ below (va_Ql Q (B1 D (w9 o q cy) A) A) args s 0 0 A) (F0 m 72 ls [.int t0]) := by
  have hx := C.1
  have hb := C.2.1
  unfold w9_putDown_b72 at h
  refine lv_istore (lv' := [(11, .int t0), (0, .ref o), (4, .int x4), (5, .long x5), (7, .int x7), (8, .long x8), (10, .int x10)]) hx hb dX9_putDown_72 hl (by decide) rfl (fun ls hl => ?_)
  refine lv_iload hx hb dX9_putDown_74 (lv_at hl 4 rfl) ?_
  refine lv_if_ge (tgt := 94) hx hb dX9_putDown_76 (by decide) (fun c1 => ?_) (fun c1 => ?_)
  · replace h := h.1 c1
    refine lv_iload hx hb dX9_putDown_94 (lv_at hl 6 rfl) ?_
    refine lv_bipush (v := 8) hx hb dX9_putDown_96 (by decide) ?_
    refine lv_irem hx hb dX9_putDown_98 (by decide) ?_
    refine lv_aload_n hx hb dX9_putDown_99 rfl (lv_at hl 1 rfl) ?_
    refine x9g_6 C i9_putDown_X9 k9_putDown_23 hG dX9_putDown_100 ?_
    refine lv_iconst (v := 0) hx hb dX9_putDown_103 (by decide) ?_
    refine x9l_6 C hG (by unfold vp_in; decide) dX9_putDown_104 ?_
    refine lv_isub hx hb dX9_putDown_105 ?_
    exact b9_putDown_b106 (K33 := K33) x4 x5 x7 x8 x10 t0 ((x10 - x10 / (8 : Int32) * (8 : Int32)) - (rA S 6 (0 : Int32))) S C hK33 h hG (lv_sub hl [1, 2, 3, 4, 5, 6, 0] rfl)
  · replace h := h.2 c1
    refine lv_iload hx hb dX9_putDown_79 (lv_at hl 6 rfl) ?_
    refine lv_bipush (v := 8) hx hb dX9_putDown_81 (by decide) ?_
    refine lv_idiv hx hb dX9_putDown_83 (by decide) ?_
    refine lv_aload_n hx hb dX9_putDown_84 rfl (lv_at hl 1 rfl) ?_
    refine x9g_6 C i9_putDown_X9 k9_putDown_23 hG dX9_putDown_85 ?_
    refine lv_iconst (v := 2) hx hb dX9_putDown_88 (by decide) ?_
    refine x9l_6 C hG (by unfold vp_in; decide) dX9_putDown_89 ?_
    refine lv_isub hx hb dX9_putDown_90 ?_
    refine lv_goto (tgt := 106) hx hb dX9_putDown_91 (by decide) ?_
    exact b9_putDown_b106 (K33 := K33) x4 x5 x7 x8 x10 t0 ((x10 / (8 : Int32)) - (rA S 6 (2 : Int32))) S C hK33 h hG (lv_sub hl [1, 2, 3, 4, 5, 6, 0] rfl)
def w9_putDown_d33 (K14 : Int64 → Int32 → MS → Prop) (K33 : Int64 → Int32 → Prop) (x4 : Int32) (x5 : Int64) (x7 : Int32) (x8 : Int64) (x10 : Int32) (S : MS) (Q : Int64 → MS → Prop) : Prop :=
  (((64 : Int32) ≤ x10 → ∀ y2 : Int32, y2 = x7 + 1 → K14 x8 y2 S) ∧ (¬ (64 : Int32) ≤ x10 → ((0 ≤ x7 → w9_putDown_b72 K33 x4 x5 x7 x8 x10 ((rA S 6 (3 : Int32)) - (x10 / (8 : Int32))) S Q) ∧ (¬ 0 ≤ x7 → w9_putDown_b72 K33 x4 x5 x7 x8 x10 ((rA S 6 (1 : Int32)) - (x10 - x10 / (8 : Int32) * (8 : Int32))) S Q))))
set_option maxHeartbeats 4000000 in
set_option maxRecDepth 100000 in
theorem b9_putDown_d33 {p : Program} {l : Launch} {e : Env} {s : State} {m : MethodId} {args : Array Value} {below : List Frame} {meth : Method} {c : Code} {D : va_G} {cy : Nat → ClassId} {A : Nat → Prop} {o : Nat} {q : Nat → Nat} {K14 : Int64 → Int32 → MS → Prop} {K33 : Int64 → Int32 → Prop} (x4 : Int32) (x5 : Int64) (x7 : Int32) (x8 : Int64) (x10 : Int32) (S : MS) {Q : Int64 → MS → Prop} (C : Cx p s m args meth c cX9_putDown 13 (some .long) wsX9_putDown RX9 D cy nestWs A) (hK14 : ∀ (x5 : Int64) (x7 : Int32) (S : MS) (H : Heap) (locs : List Loc) (ls : Array Slot), K14 x5 x7 S → GW D A s (w9 o q cy S) H locs → lv_has ls 13 [(0, .ref o), (4, .int x4), (5, .long x5), (7, .int x7)] → W p l e ({ frames := 2, cells := 0, slots := 0, locals := 45 } : Room) s m args below meth c H locs 0 0 (MQ below (va_Ql Q (B1 D (w9 o q cy) A) A) args s 0 0 A) (F0 m 14 ls [])) (hK33 : ∀ (x8 : Int64) (x10 : Int32) (H : Heap) (locs : List Loc) (ls : Array Slot), K33 x8 x10 → GW D A s (w9 o q cy S) H locs → lv_has ls 13 [(0, .ref o), (4, .int x4), (5, .long x5), (7, .int x7), (8, .long x8), (10, .int x10)] → W p l e ({ frames := 2, cells := 0, slots := 0, locals := 45 } : Room) s m args below meth c H locs 0 0 (MQ below (va_Ql Q (B1 D (w9 o q cy) A) A) args s 0 0 A) (F0 m 33 ls [])) (h : w9_putDown_d33 K14 K33 x4 x5 x7 x8 x10 S Q) {H : Heap} {locs : List Loc} (hG : GW D A s (w9 o q cy S) H locs) {ls : Array Slot} (hl : lv_has ls 13 [(0, .ref o), (4, .int x4), (5, .long x5), (7, .int x7), (8, .long x8), (10, .int x10)]) : W p l e ({ frames := 2, cells := 0, slots := 0, locals := 45 } : Room) s m args below meth c H locs 0 0 (MQ below (va_Ql Q (B1 D (w9 o q cy) A) A) args s 0 0 A) (F0 m 33 ls []) := by
  have hx := C.1
  have hb := C.2.1
  unfold w9_putDown_d33 at h
  refine lv_iload hx hb dX9_putDown_33 (lv_at hl 5 rfl) ?_
  refine lv_bipush (v := 64) hx hb dX9_putDown_35 (by decide) ?_
  refine lv_icmp_ge (tgt := 143) hx hb dX9_putDown_37 (by decide) (fun c1 => ?_) (fun c1 => ?_)
  · replace h := h.1 c1
    refine lv_lload hx hb dX9_putDown_143 (lv_at hl 4 rfl) ?_
    refine lv_lstore (lv' := [(5, .long x8), (0, .ref o), (4, .int x4), (7, .int x7), (8, .long x8), (10, .int x10)]) hx hb dX9_putDown_145 hl (by decide) rfl (fun ls hl => ?_)
    obtain ⟨y2, ey2⟩ : ∃ y : Int32, y = x7 + 1 := ⟨_, rfl⟩
    replace h := h y2 ey2
    refine lv_iinc (v := y2) (lv' := [(7, .int y2), (5, .long x8), (0, .ref o), (4, .int x4), (8, .long x8), (10, .int x10)]) hx hb dX9_putDown_147 hl (k := 3) rfl (by rw [ey2]; rfl) (by decide) rfl (fun ls hl => ?_)
    refine lv_goto (tgt := 14) hx hb dX9_putDown_150 (by decide) ?_
    exact hK14 x8 y2 S _ _ _ h hG (lv_sub hl [2, 3, 1, 0] rfl)
  · replace h := h.2 c1
    refine lv_iload hx hb dX9_putDown_40 (lv_at hl 3 rfl) ?_
    refine lv_if_ge (tgt := 60) hx hb dX9_putDown_42 (by decide) (fun c3 => ?_) (fun c3 => ?_)
    · replace h := h.1 c3
      refine lv_aload_n hx hb dX9_putDown_60 rfl (lv_at hl 0 rfl) ?_
      refine x9g_6 C i9_putDown_X9 k9_putDown_23 hG dX9_putDown_61 ?_
      refine lv_iconst (v := 3) hx hb dX9_putDown_64 (by decide) ?_
      refine x9l_6 C hG (by unfold vp_in; decide) dX9_putDown_65 ?_
      refine lv_iload hx hb dX9_putDown_66 (lv_at hl 5 rfl) ?_
      refine lv_bipush (v := 8) hx hb dX9_putDown_68 (by decide) ?_
      refine lv_idiv hx hb dX9_putDown_70 (by decide) ?_
      refine lv_isub hx hb dX9_putDown_71 ?_
      exact b9_putDown_b72 (K33 := K33) x4 x5 x7 x8 x10 ((rA S 6 (3 : Int32)) - (x10 / (8 : Int32))) S C hK33 h hG hl
    · replace h := h.2 c3
      refine lv_aload_n hx hb dX9_putDown_45 rfl (lv_at hl 0 rfl) ?_
      refine x9g_6 C i9_putDown_X9 k9_putDown_23 hG dX9_putDown_46 ?_
      refine lv_iconst (v := 1) hx hb dX9_putDown_49 (by decide) ?_
      refine x9l_6 C hG (by unfold vp_in; decide) dX9_putDown_50 ?_
      refine lv_iload hx hb dX9_putDown_51 (lv_at hl 5 rfl) ?_
      refine lv_bipush (v := 8) hx hb dX9_putDown_53 (by decide) ?_
      refine lv_irem hx hb dX9_putDown_55 (by decide) ?_
      refine lv_isub hx hb dX9_putDown_56 ?_
      refine lv_goto (tgt := 72) hx hb dX9_putDown_57 (by decide) ?_
      exact b9_putDown_b72 (K33 := K33) x4 x5 x7 x8 x10 ((rA S 6 (1 : Int32)) - (x10 - x10 / (8 : Int32) * (8 : Int32))) S C hK33 h hG hl
def w9_putDown_F33 (K14 : Int64 → Int32 → MS → Prop) (x4 : Int32) (x5 : Int64) (x7 : Int32) (S : MS) (Q : Int64 → MS → Prop) (K : Int64 × Int32 → Prop) (a : Int64 × Int32) : Prop := w9_putDown_d33 K14 (fun y0 y1 => K (y0, y1)) x4 x5 x7 a.1 a.2 S Q
def w9_putDown_b33 (K14 : Int64 → Int32 → MS → Prop) (x4 : Int32) (x5 : Int64) (x7 : Int32) (x8 : Int64) (x10 : Int32) (S : MS) (Q : Int64 → MS → Prop) : Prop := lp (w9_putDown_F33 K14 x4 x5 x7 S Q) (x8, x10)
set_option maxHeartbeats 4000000 in
set_option maxRecDepth 100000 in
theorem b9_putDown_b33 {p : Program} {l : Launch} {e : Env} {s : State} {m : MethodId} {args : Array Value} {below : List Frame} {meth : Method} {c : Code} {D : va_G} {cy : Nat → ClassId} {A : Nat → Prop} {o : Nat} {q : Nat → Nat} {K14 : Int64 → Int32 → MS → Prop} (x4 : Int32) (x5 : Int64) (x7 : Int32) (x8 : Int64) (x10 : Int32) (S : MS) {Q : Int64 → MS → Prop} (C : Cx p s m args meth c cX9_putDown 13 (some .long) wsX9_putDown RX9 D cy nestWs A) (hK14 : ∀ (x5 : Int64) (x7 : Int32) (S : MS) (H : Heap) (locs : List Loc) (ls : Array Slot), K14 x5 x7 S → GW D A s (w9 o q cy S) H locs → lv_has ls 13 [(0, .ref o), (4, .int x4), (5, .long x5), (7, .int x7)] → W p l e ({ frames := 2, cells := 0, slots := 0, locals := 45 } : Room) s m args below meth c H locs 0 0 (MQ below (va_Ql Q (B1 D (w9 o q cy) A) A) args s 0 0 A) (F0 m 14 ls [])) (h : w9_putDown_b33 K14 x4 x5 x7 x8 x10 S Q) {H : Heap} {locs : List Loc} (hG : GW D A s (w9 o q cy S) H locs) {ls : Array Slot} (hl : lv_has ls 13 [(0, .ref o), (4, .int x4), (5, .long x5), (7, .int x7), (8, .long x8), (10, .int x10)]) : W p l e ({ frames := 2, cells := 0, slots := 0, locals := 45 } : Room) s m args below meth c H locs 0 0 (MQ below (va_Ql Q (B1 D (w9 o q cy) A) A) args s 0 0 A) (F0 m 33 ls []) := by
  obtain ⟨k, hn⟩ := h
  induction k generalizing x8 x10 H locs ls with
  | zero => exact hn.elim
  | succ k ih => exact b9_putDown_d33 (K14 := K14) (K33 := fun y0 y1 => itr (w9_putDown_F33 K14 x4 x5 x7 S Q) k (y0, y1)) x4 x5 x7 x8 x10 S C hK14 (fun x8 x10 H locs ls hk hG hl => ih x8 x10 hG hl hk) hn hG hl
def w9_putDown_d14 (K14 : Int64 → Int32 → MS → Prop) (x4 : Int32) (x5 : Int64) (x7 : Int32) (S : MS) (Q : Int64 → MS → Prop) : Prop :=
  ((x4 ≤ x7 → w9_setEnds x5 S (fun S2 => Q (x5.toUInt64 >>> ((((8 : Int32) * (rA S2 6 (2 : Int32))) + (rA S2 6 (0 : Int32))).toInt64.toUInt64 &&& Int64.toUInt64 63)).toInt64 S2)) ∧ (¬ x4 ≤ x7 → w9_setEnds x5 S (fun S3 => w9_putDown_b33 K14 x4 x5 x7 (0 : Int64) (0 : Int32) S3 Q)))
set_option maxHeartbeats 4000000 in
set_option maxRecDepth 100000 in
theorem b9_putDown_d14 {p : Program} {l : Launch} {e : Env} {s : State} {m : MethodId} {args : Array Value} {below : List Frame} {meth : Method} {c : Code} {D : va_G} {cy : Nat → ClassId} {A : Nat → Prop} {o : Nat} {q : Nat → Nat} {K14 : Int64 → Int32 → MS → Prop} (x4 : Int32) (x5 : Int64) (x7 : Int32) (S : MS) {Q : Int64 → MS → Prop} (C : Cx p s m args meth c cX9_putDown 13 (some .long) wsX9_putDown RX9 D cy nestWs A) (hK14 : ∀ (x5 : Int64) (x7 : Int32) (S : MS) (H : Heap) (locs : List Loc) (ls : Array Slot), K14 x5 x7 S → GW D A s (w9 o q cy S) H locs → lv_has ls 13 [(0, .ref o), (4, .int x4), (5, .long x5), (7, .int x7)] → W p l e ({ frames := 2, cells := 0, slots := 0, locals := 45 } : Room) s m args below meth c H locs 0 0 (MQ below (va_Ql Q (B1 D (w9 o q cy) A) A) args s 0 0 A) (F0 m 14 ls [])) (h : w9_putDown_d14 K14 x4 x5 x7 S Q) {H : Heap} {locs : List Loc} (hG : GW D A s (w9 o q cy S) H locs) {ls : Array Slot} (hl : lv_has ls 13 [(0, .ref o), (4, .int x4), (5, .long x5), (7, .int x7)]) : W p l e ({ frames := 2, cells := 0, slots := 0, locals := 45 } : Room) s m args below meth c H locs 0 0 (MQ below (va_Ql Q (B1 D (w9 o q cy) A) A) args s 0 0 A) (F0 m 14 ls []) := by
  have hx := C.1
  have hb := C.2.1
  unfold w9_putDown_d14 at h
  refine lv_iload hx hb dX9_putDown_14 (lv_at hl 3 rfl) ?_
  refine lv_iload hx hb dX9_putDown_16 (lv_at hl 1 rfl) ?_
  refine lv_icmp_ge (tgt := 153) hx hb dX9_putDown_18 (by decide) (fun c1 => ?_) (fun c1 => ?_)
  · replace h := h.1 c1
    refine lv_aload_n hx hb dX9_putDown_153 rfl (lv_at hl 0 rfl) ?_
    refine lv_lload hx hb dX9_putDown_154 (lv_at hl 2 rfl) ?_
    refine callVV (As := [.long x5]) (rest := []) C hG (c9_setEnds l D cy o q x5 S _ h) 1 gX9_putDown_X9_setEnds rfl (by decide +kernel) ⟨⟨Nat.le_of_ble_eq_true rfl, Nat.le_of_ble_eq_true rfl⟩, rfl, rfl⟩ rfl rfl (Foc.all C.2.2.2.2.2.2.2.2.1) rfl hl.1 rfl (Nat.le_of_ble_eq_true rfl) dX9_putDown_156 ⟨Nat.zero_le _, Nat.zero_le _⟩ (fun  S2 H locs h hG => ?_)
    have hG : GW D A s (w9 o q cy S2) H locs := hG
    refine lv_lload hx hb dX9_putDown_159 (lv_at hl 2 rfl) ?_
    refine lv_bipush (v := 8) hx hb dX9_putDown_161 (by decide) ?_
    refine lv_aload_n hx hb dX9_putDown_163 rfl (lv_at hl 0 rfl) ?_
    refine x9g_6 C i9_putDown_X9 k9_putDown_23 hG dX9_putDown_164 ?_
    refine lv_iconst (v := 2) hx hb dX9_putDown_167 (by decide) ?_
    refine x9l_6 C hG (by unfold vp_in; decide) dX9_putDown_168 ?_
    refine lv_imul hx hb dX9_putDown_169 ?_
    refine lv_aload_n hx hb dX9_putDown_170 rfl (lv_at hl 0 rfl) ?_
    refine x9g_6 C i9_putDown_X9 k9_putDown_23 hG dX9_putDown_171 ?_
    refine lv_iconst (v := 0) hx hb dX9_putDown_174 (by decide) ?_
    refine x9l_6 C hG (by unfold vp_in; decide) dX9_putDown_175 ?_
    refine lv_iadd hx hb dX9_putDown_176 ?_
    refine lv_lushr hx hb dX9_putDown_177 rfl ?_
    exact retL (w := (w9 o q cy)) (S := S2) C hG h dX9_putDown_178
  · replace h := h.2 c1
    refine lv_aload_n hx hb dX9_putDown_21 rfl (lv_at hl 0 rfl) ?_
    refine lv_lload hx hb dX9_putDown_22 (lv_at hl 2 rfl) ?_
    refine callVV (As := [.long x5]) (rest := []) C hG (c9_setEnds l D cy o q x5 S _ h) 1 gX9_putDown_X9_setEnds rfl (by decide +kernel) ⟨⟨Nat.le_of_ble_eq_true rfl, Nat.le_of_ble_eq_true rfl⟩, rfl, rfl⟩ rfl rfl (Foc.all C.2.2.2.2.2.2.2.2.1) rfl hl.1 rfl (Nat.le_of_ble_eq_true rfl) dX9_putDown_24 ⟨Nat.zero_le _, Nat.zero_le _⟩ (fun  S3 H locs h hG => ?_)
    have hG : GW D A s (w9 o q cy S3) H locs := hG
    refine lv_lconst (v := 0) hx hb dX9_putDown_27 (by decide) ?_
    refine lv_lstore (lv' := [(8, .long (0 : Int64)), (0, .ref o), (4, .int x4), (5, .long x5), (7, .int x7)]) hx hb dX9_putDown_28 hl (by decide) rfl (fun ls hl => ?_)
    refine lv_iconst (v := 0) hx hb dX9_putDown_30 (by decide) ?_
    refine lv_istore (lv' := [(10, .int (0 : Int32)), (8, .long (0 : Int64)), (0, .ref o), (4, .int x4), (5, .long x5), (7, .int x7)]) hx hb dX9_putDown_31 hl (by decide) rfl (fun ls hl => ?_)
    exact b9_putDown_b33 (K14 := K14) x4 x5 x7 (0 : Int64) (0 : Int32) S3 C hK14 h hG (lv_sub hl [2, 3, 4, 5, 1, 0] rfl)
def w9_putDown_F14 (x4 : Int32) (Q : Int64 → MS → Prop) (K : Int64 × Int32 × MS → Prop) (a : Int64 × Int32 × MS) : Prop := w9_putDown_d14 (fun y0 y1 y2 => K (y0, y1, y2)) x4 a.1 a.2.1 a.2.2 Q
def w9_putDown_b14 (x4 : Int32) (x5 : Int64) (x7 : Int32) (S : MS) (Q : Int64 → MS → Prop) : Prop := lp (w9_putDown_F14 x4 Q) (x5, x7, S)
set_option maxHeartbeats 4000000 in
set_option maxRecDepth 100000 in
theorem b9_putDown_b14 {p : Program} {l : Launch} {e : Env} {s : State} {m : MethodId} {args : Array Value} {below : List Frame} {meth : Method} {c : Code} {D : va_G} {cy : Nat → ClassId} {A : Nat → Prop} {o : Nat} {q : Nat → Nat} (x4 : Int32) (x5 : Int64) (x7 : Int32) (S : MS) {Q : Int64 → MS → Prop} (C : Cx p s m args meth c cX9_putDown 13 (some .long) wsX9_putDown RX9 D cy nestWs A) (h : w9_putDown_b14 x4 x5 x7 S Q) {H : Heap} {locs : List Loc} (hG : GW D A s (w9 o q cy S) H locs) {ls : Array Slot} (hl : lv_has ls 13 [(0, .ref o), (4, .int x4), (5, .long x5), (7, .int x7)]) : W p l e ({ frames := 2, cells := 0, slots := 0, locals := 45 } : Room) s m args below meth c H locs 0 0 (MQ below (va_Ql Q (B1 D (w9 o q cy) A) A) args s 0 0 A) (F0 m 14 ls []) := by
  obtain ⟨k, hn⟩ := h
  induction k generalizing x5 x7 S H locs ls with
  | zero => exact hn.elim
  | succ k ih => exact b9_putDown_d14 (K14 := fun y0 y1 y2 => itr (w9_putDown_F14 x4 Q) k (y0, y1, y2)) x4 x5 x7 S C (fun x5 x7 S H locs ls hk hG hl => ih x5 x7 S hG hl hk) hn hG hl
def w9_putDown_b12 (x4 : Int32) (x5 : Int64) (t0 : Int32) (S : MS) (Q : Int64 → MS → Prop) : Prop :=
  w9_putDown_b14 x4 x5 t0 S Q
set_option maxHeartbeats 4000000 in
set_option maxRecDepth 100000 in
theorem b9_putDown_b12 {p : Program} {l : Launch} {e : Env} {s : State} {m : MethodId} {args : Array Value} {below : List Frame} {meth : Method} {c : Code} {D : va_G} {cy : Nat → ClassId} {A : Nat → Prop} {o : Nat} {q : Nat → Nat} (x4 : Int32) (x5 : Int64) (t0 : Int32) (S : MS) {Q : Int64 → MS → Prop} (C : Cx p s m args meth c cX9_putDown 13 (some .long) wsX9_putDown RX9 D cy nestWs A) (h : w9_putDown_b12 x4 x5 t0 S Q) {H : Heap} {locs : List Loc} (hG : GW D A s (w9 o q cy S) H locs) {ls : Array Slot} (hl : lv_has ls 13 [(0, .ref o), (4, .int x4), (5, .long x5)]) : W p l e ({ frames := 2, cells := 0, slots := 0, locals := 45 } : Room) s m args below meth c H locs 0 0 (MQ below (va_Ql Q (B1 D (w9 o q cy) A) A) args s 0 0 A) (F0 m 12 ls [.int t0]) := by
  have hx := C.1
  have hb := C.2.1
  unfold w9_putDown_b12 at h
  refine lv_istore (lv' := [(7, .int t0), (0, .ref o), (4, .int x4), (5, .long x5)]) hx hb dX9_putDown_12 hl (by decide) rfl (fun ls hl => ?_)
  exact b9_putDown_b14 x4 x5 t0 S C h hG (lv_sub hl [1, 2, 3, 0] rfl)
def w9_putDown (x1 : Int64) (x3 : Int32) (x4 : Int32) (S : MS) (Q : Int64 → MS → Prop) : Prop :=
  ((x3 = 0 → w9_putDown_b12 x4 x1 (0 : Int32) S Q) ∧ (¬ x3 = 0 → w9_putDown_b12 x4 x1 (-1 : Int32) S Q))
set_option maxHeartbeats 4000000 in
set_option maxRecDepth 100000 in
theorem c9_putDown (l : Launch) (D : va_G) (cy : Nat → ClassId)  (o : Nat) (q : Nat → Nat) (x1 : Int64) (x3 : Int32) (x4 : Int32) (S : MS) (Q : Int64 → MS → Prop) (h : w9_putDown x1 x3 x4 S Q) : MetL l yX9_putDown wsX9_putDown ({ frames := 2, cells := 0, slots := 0, locals := 45 } : Room) D cy nestWs (w9 o q cy) [.ref o, .long x1, .int x3, .int x4] S Q := by
  refine MetL.mk RX9 cX9_putDown 13 (by decide) rfl nestWs_ok rfl (Nat.le_of_ble_eq_true rfl) ?_
  intro p e s m below meth c A ls C hG hl
  have hl : lv_has ls 13 [(0, .ref o), (1, .long x1), (3, .int x3), (4, .int x4)] := hl
  have hx := C.1
  have hb := C.2.1
  unfold w9_putDown at h
  refine lv_lload_n hx hb dX9_putDown_0 rfl (lv_at hl 1 rfl) ?_
  refine lv_lstore (lv' := [(5, .long x1), (0, .ref o), (1, .long x1), (3, .int x3), (4, .int x4)]) hx hb dX9_putDown_1 hl (by decide) rfl (fun ls hl => ?_)
  refine lv_iload_n hx hb dX9_putDown_3 rfl (lv_at hl 3 rfl) ?_
  refine lv_if_eq (tgt := 11) hx hb dX9_putDown_4 (by decide) (fun c1 => ?_) (fun c1 => ?_)
  · replace h := h.1 c1
    refine lv_iconst (v := 0) hx hb dX9_putDown_11 (by decide) ?_
    exact b9_putDown_b12 x4 x1 (0 : Int32) S C h hG (lv_sub hl [1, 4, 0] rfl)
  · replace h := h.2 c1
    refine lv_iconst (v := -1) hx hb dX9_putDown_7 (by decide) ?_
    refine lv_goto (tgt := 12) hx hb dX9_putDown_8 (by decide) ?_
    exact b9_putDown_b12 x4 x1 (-1 : Int32) S C h hG (lv_sub hl [1, 4, 0] rfl)
-- X9_turn
theorem i9_turn_X9 : ∀ w ∈ wsX90, w ∈ wsX9_turn := fun w h => List.mem_cons_of_mem _ (inG_X9 w h)
theorem k9_turn_13 : Cond.fieldLink RX9 13 "PaperBodiesModel" "figures" "[J" ∈ wsX9_turn := (List.mem_cons_of_mem _ mw_538)
def w9_turn_b43 (t1 : Int32) (t3 : Int64) (t4 : Int32) (t5 : Int32) (S : MS) (Q : Int32 → MS → Prop) : Prop :=
  w9_putDown t3 t4 t5 S (fun r1 S2 => w9_keep t1 r1 S2 (fun S3 => Q (1 : Int32) S3))
set_option maxHeartbeats 4000000 in
set_option maxRecDepth 100000 in
theorem b9_turn_b43 {p : Program} {l : Launch} {e : Env} {s : State} {m : MethodId} {args : Array Value} {below : List Frame} {meth : Method} {c : Code} {D : va_G} {cy : Nat → ClassId} {A : Nat → Prop} {o : Nat} {q : Nat → Nat} (t1 : Int32) (t3 : Int64) (t4 : Int32) (t5 : Int32) (S : MS) {Q : Int32 → MS → Prop} (C : Cx p s m args meth c cX9_turn 5 (some .int) wsX9_turn RX9 D cy nestWs A) (h : w9_turn_b43 t1 t3 t4 t5 S Q) {H : Heap} {locs : List Loc} (hG : GW D A s (w9 o q cy S) H locs) {ls : Array Slot} (hl : lv_has ls 5 [(0, .ref o)]) : W p l e ({ frames := 3, cells := 0, slots := 0, locals := 77 } : Room) s m args below meth c H locs 0 0 (MQ below (va_Qi Q (B1 D (w9 o q cy) A) A) args s 0 0 A) (F0 m 43 ls [.int t5, .int t4, .long t3, .ref o, .int t1, .ref o]) := by
  have hx := C.1
  have hb := C.2.1
  unfold w9_turn_b43 at h
  refine callVL (As := [.long t3, .int t4, .int t5]) (rest := [.int t1, .ref o]) C hG (c9_putDown l D cy o q t3 t4 t5 S _ h) 3 gX9_turn_X9_putDown rfl (by decide +kernel) ⟨⟨Nat.le_of_ble_eq_true rfl, Nat.le_of_ble_eq_true rfl⟩, rfl, rfl⟩ rfl rfl (Foc.all C.2.2.2.2.2.2.2.2.1) rfl hl.1 rfl (Nat.le_of_ble_eq_true rfl) dX9_turn_43 ⟨Nat.zero_le _, Nat.zero_le _⟩ (fun r1 S2 H locs h hG => ?_)
  have hG : GW D A s (w9 o q cy S2) H locs := hG
  refine callVV (As := [.int t1, .long r1]) (rest := []) C hG (c9_keep l D cy o q t1 r1 S2 _ h) 2 gX9_turn_X9_keep rfl (by decide +kernel) ⟨⟨Nat.le_of_ble_eq_true rfl, Nat.le_of_ble_eq_true rfl⟩, rfl, rfl⟩ rfl rfl (Foc.all C.2.2.2.2.2.2.2.2.1) rfl hl.1 rfl (Nat.le_of_ble_eq_true rfl) dX9_turn_46 ⟨Nat.zero_le _, Nat.zero_le _⟩ (fun  S3 H locs h hG => ?_)
  have hG : GW D A s (w9 o q cy S3) H locs := hG
  refine lv_iconst (v := 1) hx hb dX9_turn_49 (by decide) ?_
  exact retI (w := (w9 o q cy)) (S := S3) C hG h dX9_turn_50
def w9_turn (x1 : Int32) (x2 : Int32) (x3 : Int32) (S : MS) (Q : Int32 → MS → Prop) : Prop :=
  w9_isFigure x3 (fun r1 => ((¬ r1 = 0 → w9_looked x1 S (fun r3 S4 => ((0 ≤ r3 → vp_in x1 6 ∧ ((x2 = 0 → w9_turn_b43 x3 (rL S4 3 x1) x2 (1 : Int32) S4 Q) ∧ (¬ x2 = 0 → w9_turn_b43 x3 (rL S4 3 x1) x2 (0 : Int32) S4 Q))) ∧ (¬ 0 ≤ r3 → Q r3 S4)))) ∧ (r1 = 0 → Q (-1 : Int32) S)))
set_option maxHeartbeats 4000000 in
set_option maxRecDepth 100000 in
theorem c9_turn (l : Launch) (D : va_G) (cy : Nat → ClassId)  (o : Nat) (q : Nat → Nat) (x1 : Int32) (x2 : Int32) (x3 : Int32) (S : MS) (Q : Int32 → MS → Prop) (h : w9_turn x1 x2 x3 S Q) : MetI l yX9_turn wsX9_turn ({ frames := 3, cells := 0, slots := 0, locals := 77 } : Room) D cy nestWs (w9 o q cy) [.ref o, .int x1, .int x2, .int x3] S Q := by
  refine MetI.mk RX9 cX9_turn 5 .int (by decide) rfl nestWs_ok rfl (Nat.le_of_ble_eq_true rfl) ?_
  intro p e s m below meth c A ls C hG hl
  have hl : lv_has ls 5 [(0, .ref o), (1, .int x1), (2, .int x2), (3, .int x3)] := hl
  have hx := C.1
  have hb := C.2.1
  unfold w9_turn at h
  refine lv_iload_n hx hb dX9_turn_0 rfl (lv_at hl 3 rfl) ?_
  refine callSI (As := [.int x3]) (rest := []) C hG (c9_isFigure l D cy x3 _ h) 1 gX9_turn_X9_isFigure rfl (by decide +kernel) ⟨⟨Nat.le_of_ble_eq_true rfl, Nat.le_of_ble_eq_true rfl⟩, rfl, rfl⟩ (Foc.none C.2.2.2.2.2.2.2.2.1) rfl hl.1 rfl (Nat.le_of_ble_eq_true rfl) dX9_turn_1 ⟨Nat.zero_le _, Nat.zero_le _⟩ (fun r1 z H locs h hG => ?_)
  refine lv_if_ne (tgt := 9) hx hb dX9_turn_4 (by decide) (fun c2 => ?_) (fun c2 => ?_)
  · replace h := h.1 c2
    refine lv_aload_n hx hb dX9_turn_9 rfl (lv_at hl 0 rfl) ?_
    refine lv_iload_n hx hb dX9_turn_10 rfl (lv_at hl 1 rfl) ?_
    refine callVI (As := [.int x1]) (rest := []) C hG (c9_looked l D cy o q x1 S _ h) 1 gX9_turn_X9_looked rfl (by decide +kernel) ⟨⟨Nat.le_of_ble_eq_true rfl, Nat.le_of_ble_eq_true rfl⟩, rfl, rfl⟩ rfl rfl (Foc.all C.2.2.2.2.2.2.2.2.1) rfl hl.1 rfl (Nat.le_of_ble_eq_true rfl) dX9_turn_11 ⟨Nat.zero_le _, Nat.zero_le _⟩ (fun r3 S4 H locs h hG => ?_)
    have hG : GW D A s (w9 o q cy S4) H locs := hG
    refine lv_istore (lv' := [(4, .int r3), (0, .ref o), (1, .int x1), (2, .int x2), (3, .int x3)]) hx hb dX9_turn_14 hl (by decide) rfl (fun ls hl => ?_)
    refine lv_iload hx hb dX9_turn_16 (lv_at hl 0 rfl) ?_
    refine lv_if_ge (tgt := 24) hx hb dX9_turn_18 (by decide) (fun c5 => ?_) (fun c5 => ?_)
    · replace h := h.1 c5
      refine lv_aload_n hx hb dX9_turn_24 rfl (lv_at hl 1 rfl) ?_
      refine lv_iload_n hx hb dX9_turn_25 rfl (lv_at hl 4 rfl) ?_
      refine lv_aload_n hx hb dX9_turn_26 rfl (lv_at hl 1 rfl) ?_
      refine lv_aload_n hx hb dX9_turn_27 rfl (lv_at hl 1 rfl) ?_
      refine x9g_3 C i9_turn_X9 k9_turn_13 hG dX9_turn_28 ?_
      refine lv_iload_n hx hb dX9_turn_31 rfl (lv_at hl 2 rfl) ?_
      obtain ⟨hv6, h⟩ := h
      refine x9l_3 C hG hv6 dX9_turn_32 ?_
      refine lv_iload_n hx hb dX9_turn_33 rfl (lv_at hl 3 rfl) ?_
      refine lv_iload_n hx hb dX9_turn_34 rfl (lv_at hl 3 rfl) ?_
      refine lv_if_eq (tgt := 42) hx hb dX9_turn_35 (by decide) (fun c7 => ?_) (fun c7 => ?_)
      · replace h := h.1 c7
        refine lv_iconst (v := 1) hx hb dX9_turn_42 (by decide) ?_
        exact b9_turn_b43 x3 (rL S4 3 x1) x2 (1 : Int32) S4 C h hG (lv_sub hl [1] rfl)
      · replace h := h.2 c7
        refine lv_iconst (v := 0) hx hb dX9_turn_38 (by decide) ?_
        refine lv_goto (tgt := 43) hx hb dX9_turn_39 (by decide) ?_
        exact b9_turn_b43 x3 (rL S4 3 x1) x2 (0 : Int32) S4 C h hG (lv_sub hl [1] rfl)
    · replace h := h.2 c5
      refine lv_iload hx hb dX9_turn_21 (lv_at hl 0 rfl) ?_
      exact retI (w := (w9 o q cy)) (S := S4) C hG h dX9_turn_23
  · replace h := h.2 c2
    refine lv_iconst (v := -1) hx hb dX9_turn_7 (by decide) ?_
    exact retI (w := (w9 o q cy)) (S := S) C hG h dX9_turn_8
-- X9_alike
theorem i9_alike_X9 : ∀ w ∈ wsX90, w ∈ wsX9_alike := fun w h => List.mem_cons_of_mem _ (inG_X9 w h)
theorem k9_alike_13 : Cond.fieldLink RX9 13 "PaperBodiesModel" "figures" "[J" ∈ wsX9_alike := (List.mem_cons_of_mem _ mw_538)
def w9_alike_b128 (t0 : Int32) (S : MS) (Q : Int32 → MS → Prop) : Prop :=
  Q t0 S
set_option maxHeartbeats 4000000 in
set_option maxRecDepth 100000 in
theorem b9_alike_b128 {p : Program} {l : Launch} {e : Env} {s : State} {m : MethodId} {args : Array Value} {below : List Frame} {meth : Method} {c : Code} {D : va_G} {cy : Nat → ClassId} {A : Nat → Prop} {o : Nat} {q : Nat → Nat} (t0 : Int32) (S : MS) {Q : Int32 → MS → Prop} (C : Cx p s m args meth c cX9_alike 7 (some .int) wsX9_alike RX9 D cy nestWs A) (h : w9_alike_b128 t0 S Q) {H : Heap} {locs : List Loc} (hG : GW D A s (w9 o q cy S) H locs) {ls : Array Slot} (hl : lv_has ls 7 [(0, .ref o)]) : W p l e ({ frames := 3, cells := 0, slots := 0, locals := 77 } : Room) s m args below meth c H locs 0 0 (MQ below (va_Qi Q (B1 D (w9 o q cy) A) A) args s 0 0 A) (F0 m 128 ls [.int t0]) := by
  have hx := C.1
  have hb := C.2.1
  unfold w9_alike_b128 at h
  exact retI (w := (w9 o q cy)) (S := S) C hG h dX9_alike_128
def w9_alike_b110 (K63 : Int32 → Int32 → MS → Prop) (x1 : Int32) (x3 : Int64) (x6 : Int32) (t0 : Int32) (S : MS) (Q : Int32 → MS → Prop) : Prop :=
  ∀ y1 : Int32, y1 = x6 + 1 → K63 t0 y1 S
set_option maxHeartbeats 4000000 in
set_option maxRecDepth 100000 in
theorem b9_alike_b110 {p : Program} {l : Launch} {e : Env} {s : State} {m : MethodId} {args : Array Value} {below : List Frame} {meth : Method} {c : Code} {D : va_G} {cy : Nat → ClassId} {A : Nat → Prop} {o : Nat} {q : Nat → Nat} {K63 : Int32 → Int32 → MS → Prop} (x1 : Int32) (x3 : Int64) (x6 : Int32) (t0 : Int32) (S : MS) {Q : Int32 → MS → Prop} (C : Cx p s m args meth c cX9_alike 7 (some .int) wsX9_alike RX9 D cy nestWs A) (hK63 : ∀ (x5 : Int32) (x6 : Int32) (S : MS) (H : Heap) (locs : List Loc) (ls : Array Slot), K63 x5 x6 S → GW D A s (w9 o q cy S) H locs → lv_has ls 7 [(0, .ref o), (1, .int x1), (3, .long x3), (5, .int x5), (6, .int x6)] → W p l e ({ frames := 3, cells := 0, slots := 0, locals := 77 } : Room) s m args below meth c H locs 0 0 (MQ below (va_Qi Q (B1 D (w9 o q cy) A) A) args s 0 0 A) (F0 m 63 ls [])) (h : w9_alike_b110 K63 x1 x3 x6 t0 S Q) {H : Heap} {locs : List Loc} (hG : GW D A s (w9 o q cy S) H locs) {ls : Array Slot} (hl : lv_has ls 7 [(0, .ref o), (1, .int x1), (3, .long x3), (6, .int x6)]) : W p l e ({ frames := 3, cells := 0, slots := 0, locals := 77 } : Room) s m args below meth c H locs 0 0 (MQ below (va_Qi Q (B1 D (w9 o q cy) A) A) args s 0 0 A) (F0 m 110 ls [.int t0]) := by
  have hx := C.1
  have hb := C.2.1
  unfold w9_alike_b110 at h
  refine lv_istore (lv' := [(5, .int t0), (0, .ref o), (1, .int x1), (3, .long x3), (6, .int x6)]) hx hb dX9_alike_110 hl (by decide) rfl (fun ls hl => ?_)
  obtain ⟨y1, ey1⟩ : ∃ y : Int32, y = x6 + 1 := ⟨_, rfl⟩
  replace h := h y1 ey1
  refine lv_iinc (v := y1) (lv' := [(6, .int y1), (5, .int t0), (0, .ref o), (1, .int x1), (3, .long x3)]) hx hb dX9_alike_112 hl (k := 4) rfl (by rw [ey1]; rfl) (by decide) rfl (fun ls hl => ?_)
  refine lv_goto (tgt := 63) hx hb dX9_alike_115 (by decide) ?_
  exact hK63 t0 y1 S _ _ _ h hG (lv_sub hl [2, 3, 4, 1, 0] rfl)
def w9_alike_b105 (K63 : Int32 → Int32 → MS → Prop) (x1 : Int32) (x3 : Int64) (x6 : Int32) (S : MS) (Q : Int32 → MS → Prop) : Prop :=
  w9_alike_b110 K63 x1 x3 x6 (1 : Int32) S Q
set_option maxHeartbeats 4000000 in
set_option maxRecDepth 100000 in
theorem b9_alike_b105 {p : Program} {l : Launch} {e : Env} {s : State} {m : MethodId} {args : Array Value} {below : List Frame} {meth : Method} {c : Code} {D : va_G} {cy : Nat → ClassId} {A : Nat → Prop} {o : Nat} {q : Nat → Nat} {K63 : Int32 → Int32 → MS → Prop} (x1 : Int32) (x3 : Int64) (x6 : Int32) (S : MS) {Q : Int32 → MS → Prop} (C : Cx p s m args meth c cX9_alike 7 (some .int) wsX9_alike RX9 D cy nestWs A) (hK63 : ∀ (x5 : Int32) (x6 : Int32) (S : MS) (H : Heap) (locs : List Loc) (ls : Array Slot), K63 x5 x6 S → GW D A s (w9 o q cy S) H locs → lv_has ls 7 [(0, .ref o), (1, .int x1), (3, .long x3), (5, .int x5), (6, .int x6)] → W p l e ({ frames := 3, cells := 0, slots := 0, locals := 77 } : Room) s m args below meth c H locs 0 0 (MQ below (va_Qi Q (B1 D (w9 o q cy) A) A) args s 0 0 A) (F0 m 63 ls [])) (h : w9_alike_b105 K63 x1 x3 x6 S Q) {H : Heap} {locs : List Loc} (hG : GW D A s (w9 o q cy S) H locs) {ls : Array Slot} (hl : lv_has ls 7 [(0, .ref o), (1, .int x1), (3, .long x3), (6, .int x6)]) : W p l e ({ frames := 3, cells := 0, slots := 0, locals := 77 } : Room) s m args below meth c H locs 0 0 (MQ below (va_Qi Q (B1 D (w9 o q cy) A) A) args s 0 0 A) (F0 m 105 ls []) := by
  have hx := C.1
  have hb := C.2.1
  unfold w9_alike_b105 at h
  refine lv_iconst (v := 1) hx hb dX9_alike_105 (by decide) ?_
  refine lv_goto (tgt := 110) hx hb dX9_alike_106 (by decide) ?_
  exact b9_alike_b110 (K63 := K63) x1 x3 x6 (1 : Int32) S C hK63 h hG hl
def w9_alike_b93 (K63 : Int32 → Int32 → MS → Prop) (x1 : Int32) (x3 : Int64) (x6 : Int32) (t1 : Int64) (t2 : Int32) (S : MS) (Q : Int32 → MS → Prop) : Prop :=
  w9_putDown t1 t2 (x6 - x6 / (4 : Int32) * (4 : Int32)) S (fun r1 S2 => ((¬ (lg_cmp r1 x3) = 0 → w9_alike_b110 K63 x1 x3 x6 (0 : Int32) S2 Q) ∧ ((lg_cmp r1 x3) = 0 → w9_alike_b105 K63 x1 x3 x6 S2 Q)))
set_option maxHeartbeats 4000000 in
set_option maxRecDepth 100000 in
theorem b9_alike_b93 {p : Program} {l : Launch} {e : Env} {s : State} {m : MethodId} {args : Array Value} {below : List Frame} {meth : Method} {c : Code} {D : va_G} {cy : Nat → ClassId} {A : Nat → Prop} {o : Nat} {q : Nat → Nat} {K63 : Int32 → Int32 → MS → Prop} (x1 : Int32) (x3 : Int64) (x6 : Int32) (t1 : Int64) (t2 : Int32) (S : MS) {Q : Int32 → MS → Prop} (C : Cx p s m args meth c cX9_alike 7 (some .int) wsX9_alike RX9 D cy nestWs A) (hK63 : ∀ (x5 : Int32) (x6 : Int32) (S : MS) (H : Heap) (locs : List Loc) (ls : Array Slot), K63 x5 x6 S → GW D A s (w9 o q cy S) H locs → lv_has ls 7 [(0, .ref o), (1, .int x1), (3, .long x3), (5, .int x5), (6, .int x6)] → W p l e ({ frames := 3, cells := 0, slots := 0, locals := 77 } : Room) s m args below meth c H locs 0 0 (MQ below (va_Qi Q (B1 D (w9 o q cy) A) A) args s 0 0 A) (F0 m 63 ls [])) (h : w9_alike_b93 K63 x1 x3 x6 t1 t2 S Q) {H : Heap} {locs : List Loc} (hG : GW D A s (w9 o q cy S) H locs) {ls : Array Slot} (hl : lv_has ls 7 [(0, .ref o), (1, .int x1), (3, .long x3), (6, .int x6)]) : W p l e ({ frames := 3, cells := 0, slots := 0, locals := 77 } : Room) s m args below meth c H locs 0 0 (MQ below (va_Qi Q (B1 D (w9 o q cy) A) A) args s 0 0 A) (F0 m 93 ls [.int t2, .long t1, .ref o]) := by
  have hx := C.1
  have hb := C.2.1
  unfold w9_alike_b93 at h
  refine lv_iload hx hb dX9_alike_93 (lv_at hl 3 rfl) ?_
  refine lv_iconst (v := 4) hx hb dX9_alike_95 (by decide) ?_
  refine lv_irem hx hb dX9_alike_96 (by decide) ?_
  refine callVL (As := [.long t1, .int t2, .int (x6 - x6 / (4 : Int32) * (4 : Int32))]) (rest := []) C hG (c9_putDown l D cy o q t1 t2 (x6 - x6 / (4 : Int32) * (4 : Int32)) S _ h) 3 gX9_alike_X9_putDown rfl (by decide +kernel) ⟨⟨Nat.le_of_ble_eq_true rfl, Nat.le_of_ble_eq_true rfl⟩, rfl, rfl⟩ rfl rfl (Foc.all C.2.2.2.2.2.2.2.2.1) rfl hl.1 rfl (Nat.le_of_ble_eq_true rfl) dX9_alike_97 ⟨Nat.zero_le _, Nat.zero_le _⟩ (fun r1 S2 H locs h hG => ?_)
  have hG : GW D A s (w9 o q cy S2) H locs := hG
  refine lv_lload_n hx hb dX9_alike_100 rfl (lv_at hl 2 rfl) ?_
  refine W.lcmp hx hb dX9_alike_101 ?_
  refine lv_if_ne (tgt := 109) hx hb dX9_alike_102 (by decide) (fun c3 => ?_) (fun c3 => ?_)
  · replace h := h.1 c3
    refine lv_iconst (v := 0) hx hb dX9_alike_109 (by decide) ?_
    exact b9_alike_b110 (K63 := K63) x1 x3 x6 (0 : Int32) S2 C hK63 h hG hl
  · replace h := h.2 c3
    exact b9_alike_b105 (K63 := K63) x1 x3 x6 S2 C hK63 h hG hl
def w9_alike_d63 (K63 : Int32 → Int32 → MS → Prop) (x1 : Int32) (x3 : Int64) (x5 : Int32) (x6 : Int32) (S : MS) (Q : Int32 → MS → Prop) : Prop :=
  (((8 : Int32) ≤ x6 → ((x5 = 0 → w9_alike_b128 (0 : Int32) S Q) ∧ (¬ x5 = 0 → w9_alike_b128 (1 : Int32) S Q))) ∧ (¬ (8 : Int32) ≤ x6 → ((¬ x5 = 0 → w9_alike_b105 K63 x1 x3 x6 S Q) ∧ (x5 = 0 → vp_in x1 6 ∧ ((x6 ≤ (3 : Int32) → w9_alike_b93 K63 x1 x3 x6 (rL S 3 x1) (0 : Int32) S Q) ∧ (¬ x6 ≤ (3 : Int32) → w9_alike_b93 K63 x1 x3 x6 (rL S 3 x1) (1 : Int32) S Q))))))
set_option maxHeartbeats 4000000 in
set_option maxRecDepth 100000 in
theorem b9_alike_d63 {p : Program} {l : Launch} {e : Env} {s : State} {m : MethodId} {args : Array Value} {below : List Frame} {meth : Method} {c : Code} {D : va_G} {cy : Nat → ClassId} {A : Nat → Prop} {o : Nat} {q : Nat → Nat} {K63 : Int32 → Int32 → MS → Prop} (x1 : Int32) (x3 : Int64) (x5 : Int32) (x6 : Int32) (S : MS) {Q : Int32 → MS → Prop} (C : Cx p s m args meth c cX9_alike 7 (some .int) wsX9_alike RX9 D cy nestWs A) (hK63 : ∀ (x5 : Int32) (x6 : Int32) (S : MS) (H : Heap) (locs : List Loc) (ls : Array Slot), K63 x5 x6 S → GW D A s (w9 o q cy S) H locs → lv_has ls 7 [(0, .ref o), (1, .int x1), (3, .long x3), (5, .int x5), (6, .int x6)] → W p l e ({ frames := 3, cells := 0, slots := 0, locals := 77 } : Room) s m args below meth c H locs 0 0 (MQ below (va_Qi Q (B1 D (w9 o q cy) A) A) args s 0 0 A) (F0 m 63 ls [])) (h : w9_alike_d63 K63 x1 x3 x5 x6 S Q) {H : Heap} {locs : List Loc} (hG : GW D A s (w9 o q cy S) H locs) {ls : Array Slot} (hl : lv_has ls 7 [(0, .ref o), (1, .int x1), (3, .long x3), (5, .int x5), (6, .int x6)]) : W p l e ({ frames := 3, cells := 0, slots := 0, locals := 77 } : Room) s m args below meth c H locs 0 0 (MQ below (va_Qi Q (B1 D (w9 o q cy) A) A) args s 0 0 A) (F0 m 63 ls []) := by
  have hx := C.1
  have hb := C.2.1
  unfold w9_alike_d63 at h
  refine lv_iload hx hb dX9_alike_63 (lv_at hl 4 rfl) ?_
  refine lv_bipush (v := 8) hx hb dX9_alike_65 (by decide) ?_
  refine lv_icmp_ge (tgt := 118) hx hb dX9_alike_67 (by decide) (fun c1 => ?_) (fun c1 => ?_)
  · replace h := h.1 c1
    refine lv_iload hx hb dX9_alike_118 (lv_at hl 3 rfl) ?_
    refine lv_if_eq (tgt := 127) hx hb dX9_alike_120 (by decide) (fun c2 => ?_) (fun c2 => ?_)
    · replace h := h.1 c2
      refine lv_iconst (v := 0) hx hb dX9_alike_127 (by decide) ?_
      exact b9_alike_b128 (0 : Int32) S C h hG (lv_sub hl [0] rfl)
    · replace h := h.2 c2
      refine lv_iconst (v := 1) hx hb dX9_alike_123 (by decide) ?_
      refine lv_goto (tgt := 128) hx hb dX9_alike_124 (by decide) ?_
      exact b9_alike_b128 (1 : Int32) S C h hG (lv_sub hl [0] rfl)
  · replace h := h.2 c1
    refine lv_iload hx hb dX9_alike_70 (lv_at hl 3 rfl) ?_
    refine lv_if_ne (tgt := 105) hx hb dX9_alike_72 (by decide) (fun c3 => ?_) (fun c3 => ?_)
    · replace h := h.1 c3
      exact b9_alike_b105 (K63 := K63) x1 x3 x6 S C hK63 h hG (lv_sub hl [0, 1, 2, 4] rfl)
    · replace h := h.2 c3
      refine lv_aload_n hx hb dX9_alike_75 rfl (lv_at hl 0 rfl) ?_
      refine lv_aload_n hx hb dX9_alike_76 rfl (lv_at hl 0 rfl) ?_
      refine x9g_3 C i9_alike_X9 k9_alike_13 hG dX9_alike_77 ?_
      refine lv_iload_n hx hb dX9_alike_80 rfl (lv_at hl 1 rfl) ?_
      obtain ⟨hv4, h⟩ := h
      refine x9l_3 C hG hv4 dX9_alike_81 ?_
      refine lv_iload hx hb dX9_alike_82 (lv_at hl 4 rfl) ?_
      refine lv_iconst (v := 3) hx hb dX9_alike_84 (by decide) ?_
      refine lv_icmp_le (tgt := 92) hx hb dX9_alike_85 (by decide) (fun c5 => ?_) (fun c5 => ?_)
      · replace h := h.1 c5
        refine lv_iconst (v := 0) hx hb dX9_alike_92 (by decide) ?_
        exact b9_alike_b93 (K63 := K63) x1 x3 x6 (rL S 3 x1) (0 : Int32) S C hK63 h hG (lv_sub hl [0, 1, 2, 4] rfl)
      · replace h := h.2 c5
        refine lv_iconst (v := 1) hx hb dX9_alike_88 (by decide) ?_
        refine lv_goto (tgt := 93) hx hb dX9_alike_89 (by decide) ?_
        exact b9_alike_b93 (K63 := K63) x1 x3 x6 (rL S 3 x1) (1 : Int32) S C hK63 h hG (lv_sub hl [0, 1, 2, 4] rfl)
def w9_alike_F63 (x1 : Int32) (x3 : Int64) (Q : Int32 → MS → Prop) (K : Int32 × Int32 × MS → Prop) (a : Int32 × Int32 × MS) : Prop := w9_alike_d63 (fun y0 y1 y2 => K (y0, y1, y2)) x1 x3 a.1 a.2.1 a.2.2 Q
def w9_alike_b63 (x1 : Int32) (x3 : Int64) (x5 : Int32) (x6 : Int32) (S : MS) (Q : Int32 → MS → Prop) : Prop := lp (w9_alike_F63 x1 x3 Q) (x5, x6, S)
set_option maxHeartbeats 4000000 in
set_option maxRecDepth 100000 in
theorem b9_alike_b63 {p : Program} {l : Launch} {e : Env} {s : State} {m : MethodId} {args : Array Value} {below : List Frame} {meth : Method} {c : Code} {D : va_G} {cy : Nat → ClassId} {A : Nat → Prop} {o : Nat} {q : Nat → Nat} (x1 : Int32) (x3 : Int64) (x5 : Int32) (x6 : Int32) (S : MS) {Q : Int32 → MS → Prop} (C : Cx p s m args meth c cX9_alike 7 (some .int) wsX9_alike RX9 D cy nestWs A) (h : w9_alike_b63 x1 x3 x5 x6 S Q) {H : Heap} {locs : List Loc} (hG : GW D A s (w9 o q cy S) H locs) {ls : Array Slot} (hl : lv_has ls 7 [(0, .ref o), (1, .int x1), (3, .long x3), (5, .int x5), (6, .int x6)]) : W p l e ({ frames := 3, cells := 0, slots := 0, locals := 77 } : Room) s m args below meth c H locs 0 0 (MQ below (va_Qi Q (B1 D (w9 o q cy) A) A) args s 0 0 A) (F0 m 63 ls []) := by
  obtain ⟨k, hn⟩ := h
  induction k generalizing x5 x6 S H locs ls with
  | zero => exact hn.elim
  | succ k ih => exact b9_alike_d63 (K63 := fun y0 y1 y2 => itr (w9_alike_F63 x1 x3 Q) k (y0, y1, y2)) x1 x3 x5 x6 S C (fun x5 x6 S H locs ls hk hG hl => ih x5 x6 S hG hl hk) hn hG hl
def w9_alike_b38 (S : MS) (Q : Int32 → MS → Prop) : Prop :=
  w9_meets (1 : Int32) S (fun r1 S2 => Q r1 S2)
set_option maxHeartbeats 4000000 in
set_option maxRecDepth 100000 in
theorem b9_alike_b38 {p : Program} {l : Launch} {e : Env} {s : State} {m : MethodId} {args : Array Value} {below : List Frame} {meth : Method} {c : Code} {D : va_G} {cy : Nat → ClassId} {A : Nat → Prop} {o : Nat} {q : Nat → Nat} (S : MS) {Q : Int32 → MS → Prop} (C : Cx p s m args meth c cX9_alike 7 (some .int) wsX9_alike RX9 D cy nestWs A) (h : w9_alike_b38 S Q) {H : Heap} {locs : List Loc} (hG : GW D A s (w9 o q cy S) H locs) {ls : Array Slot} (hl : lv_has ls 7 [(0, .ref o)]) : W p l e ({ frames := 3, cells := 0, slots := 0, locals := 77 } : Room) s m args below meth c H locs 0 0 (MQ below (va_Qi Q (B1 D (w9 o q cy) A) A) args s 0 0 A) (F0 m 38 ls []) := by
  have hx := C.1
  have hb := C.2.1
  unfold w9_alike_b38 at h
  refine lv_aload_n hx hb dX9_alike_38 rfl (lv_at hl 0 rfl) ?_
  refine lv_iconst (v := 1) hx hb dX9_alike_39 (by decide) ?_
  refine callVI (As := [.int (1 : Int32)]) (rest := []) C hG (c9_meets l D cy o q (1 : Int32) S _ h) 1 gX9_alike_X9_meets rfl (by decide +kernel) ⟨⟨Nat.le_of_ble_eq_true rfl, Nat.le_of_ble_eq_true rfl⟩, rfl, rfl⟩ rfl rfl (Foc.all C.2.2.2.2.2.2.2.2.1) rfl hl.1 rfl (Nat.le_of_ble_eq_true rfl) dX9_alike_40 ⟨Nat.zero_le _, Nat.zero_le _⟩ (fun r1 S2 H locs h hG => ?_)
  have hG : GW D A s (w9 o q cy S2) H locs := hG
  exact retI (w := (w9 o q cy)) (S := S2) C hG h dX9_alike_43
def w9_alike_b14 (S : MS) (Q : Int32 → MS → Prop) : Prop :=
  Q (-1 : Int32) S
set_option maxHeartbeats 4000000 in
set_option maxRecDepth 100000 in
theorem b9_alike_b14 {p : Program} {l : Launch} {e : Env} {s : State} {m : MethodId} {args : Array Value} {below : List Frame} {meth : Method} {c : Code} {D : va_G} {cy : Nat → ClassId} {A : Nat → Prop} {o : Nat} {q : Nat → Nat} (S : MS) {Q : Int32 → MS → Prop} (C : Cx p s m args meth c cX9_alike 7 (some .int) wsX9_alike RX9 D cy nestWs A) (h : w9_alike_b14 S Q) {H : Heap} {locs : List Loc} (hG : GW D A s (w9 o q cy S) H locs) {ls : Array Slot} (hl : lv_has ls 7 [(0, .ref o)]) : W p l e ({ frames := 3, cells := 0, slots := 0, locals := 77 } : Room) s m args below meth c H locs 0 0 (MQ below (va_Qi Q (B1 D (w9 o q cy) A) A) args s 0 0 A) (F0 m 14 ls []) := by
  have hx := C.1
  have hb := C.2.1
  unfold w9_alike_b14 at h
  refine lv_iconst (v := -1) hx hb dX9_alike_14 (by decide) ?_
  exact retI (w := (w9 o q cy)) (S := S) C hG h dX9_alike_15
def w9_alike (x1 : Int32) (x2 : Int32) (S : MS) (Q : Int32 → MS → Prop) : Prop :=
  w9_isFigure x1 (fun r1 => ((r1 = 0 → w9_alike_b14 S Q) ∧ (¬ r1 = 0 → w9_isFigure x2 (fun r3 => ((¬ r3 = 0 → vp_in x1 6 ∧ (((lg_cmp (rL S 3 x1) (0 : Int64)) = 0 → w9_alike_b38 S Q) ∧ (¬ (lg_cmp (rL S 3 x1) (0 : Int64)) = 0 → vp_in x2 6 ∧ ((¬ (lg_cmp (rL S 3 x2) (0 : Int64)) = 0 → w9_putDown (rL S 3 x2) (0 : Int32) (0 : Int32) S (fun r9 S10 => w9_alike_b63 x1 r9 (0 : Int32) (0 : Int32) S10 Q)) ∧ ((lg_cmp (rL S 3 x2) (0 : Int64)) = 0 → w9_alike_b38 S Q))))) ∧ (r3 = 0 → w9_alike_b14 S Q))))))
set_option maxHeartbeats 4000000 in
set_option maxRecDepth 100000 in
theorem c9_alike (l : Launch) (D : va_G) (cy : Nat → ClassId)  (o : Nat) (q : Nat → Nat) (x1 : Int32) (x2 : Int32) (S : MS) (Q : Int32 → MS → Prop) (h : w9_alike x1 x2 S Q) : MetI l yX9_alike wsX9_alike ({ frames := 3, cells := 0, slots := 0, locals := 77 } : Room) D cy nestWs (w9 o q cy) [.ref o, .int x1, .int x2] S Q := by
  refine MetI.mk RX9 cX9_alike 7 .int (by decide) rfl nestWs_ok rfl (Nat.le_of_ble_eq_true rfl) ?_
  intro p e s m below meth c A ls C hG hl
  have hl : lv_has ls 7 [(0, .ref o), (1, .int x1), (2, .int x2)] := hl
  have hx := C.1
  have hb := C.2.1
  unfold w9_alike at h
  refine lv_iload_n hx hb dX9_alike_0 rfl (lv_at hl 1 rfl) ?_
  refine callSI (As := [.int x1]) (rest := []) C hG (c9_isFigure l D cy x1 _ h) 1 gX9_alike_X9_isFigure rfl (by decide +kernel) ⟨⟨Nat.le_of_ble_eq_true rfl, Nat.le_of_ble_eq_true rfl⟩, rfl, rfl⟩ (Foc.none C.2.2.2.2.2.2.2.2.1) rfl hl.1 rfl (Nat.le_of_ble_eq_true rfl) dX9_alike_1 ⟨Nat.zero_le _, Nat.zero_le _⟩ (fun r1 z H locs h hG => ?_)
  refine lv_if_eq (tgt := 14) hx hb dX9_alike_4 (by decide) (fun c2 => ?_) (fun c2 => ?_)
  · replace h := h.1 c2
    exact b9_alike_b14 S C h hG (lv_sub hl [0] rfl)
  · replace h := h.2 c2
    refine lv_iload_n hx hb dX9_alike_7 rfl (lv_at hl 2 rfl) ?_
    refine callSI (As := [.int x2]) (rest := []) C hG (c9_isFigure l D cy x2 _ h) 1 gX9_alike_X9_isFigure rfl (by decide +kernel) ⟨⟨Nat.le_of_ble_eq_true rfl, Nat.le_of_ble_eq_true rfl⟩, rfl, rfl⟩ (Foc.none C.2.2.2.2.2.2.2.2.1) rfl hl.1 rfl (Nat.le_of_ble_eq_true rfl) dX9_alike_8 ⟨Nat.zero_le _, Nat.zero_le _⟩ (fun r3 z H locs h hG => ?_)
    refine lv_if_ne (tgt := 16) hx hb dX9_alike_11 (by decide) (fun c4 => ?_) (fun c4 => ?_)
    · replace h := h.1 c4
      refine lv_aload_n hx hb dX9_alike_16 rfl (lv_at hl 0 rfl) ?_
      refine x9g_3 C i9_alike_X9 k9_alike_13 hG dX9_alike_17 ?_
      refine lv_iload_n hx hb dX9_alike_20 rfl (lv_at hl 1 rfl) ?_
      obtain ⟨hv5, h⟩ := h
      refine x9l_3 C hG hv5 dX9_alike_21 ?_
      refine lv_lconst (v := 0) hx hb dX9_alike_22 (by decide) ?_
      refine W.lcmp hx hb dX9_alike_23 ?_
      refine lv_if_eq (tgt := 38) hx hb dX9_alike_24 (by decide) (fun c6 => ?_) (fun c6 => ?_)
      · replace h := h.1 c6
        exact b9_alike_b38 S C h hG (lv_sub hl [0] rfl)
      · replace h := h.2 c6
        refine lv_aload_n hx hb dX9_alike_27 rfl (lv_at hl 0 rfl) ?_
        refine x9g_3 C i9_alike_X9 k9_alike_13 hG dX9_alike_28 ?_
        refine lv_iload_n hx hb dX9_alike_31 rfl (lv_at hl 2 rfl) ?_
        obtain ⟨hv7, h⟩ := h
        refine x9l_3 C hG hv7 dX9_alike_32 ?_
        refine lv_lconst (v := 0) hx hb dX9_alike_33 (by decide) ?_
        refine W.lcmp hx hb dX9_alike_34 ?_
        refine lv_if_ne (tgt := 44) hx hb dX9_alike_35 (by decide) (fun c8 => ?_) (fun c8 => ?_)
        · replace h := h.1 c8
          refine lv_aload_n hx hb dX9_alike_44 rfl (lv_at hl 0 rfl) ?_
          refine lv_aload_n hx hb dX9_alike_45 rfl (lv_at hl 0 rfl) ?_
          refine x9g_3 C i9_alike_X9 k9_alike_13 hG dX9_alike_46 ?_
          refine lv_iload_n hx hb dX9_alike_49 rfl (lv_at hl 2 rfl) ?_
          refine x9l_3 C hG hv7 dX9_alike_50 ?_
          refine lv_iconst (v := 0) hx hb dX9_alike_51 (by decide) ?_
          refine lv_iconst (v := 0) hx hb dX9_alike_52 (by decide) ?_
          refine callVL (As := [.long (rL S 3 x2), .int (0 : Int32), .int (0 : Int32)]) (rest := []) C hG (c9_putDown l D cy o q (rL S 3 x2) (0 : Int32) (0 : Int32) S _ h) 3 gX9_alike_X9_putDown rfl (by decide +kernel) ⟨⟨Nat.le_of_ble_eq_true rfl, Nat.le_of_ble_eq_true rfl⟩, rfl, rfl⟩ rfl rfl (Foc.all C.2.2.2.2.2.2.2.2.1) rfl hl.1 rfl (Nat.le_of_ble_eq_true rfl) dX9_alike_53 ⟨Nat.zero_le _, Nat.zero_le _⟩ (fun r9 S10 H locs h hG => ?_)
          have hG : GW D A s (w9 o q cy S10) H locs := hG
          refine lv_lstore_n (lv' := [(3, .long r9), (0, .ref o), (1, .int x1), (2, .int x2)]) hx hb dX9_alike_56 rfl hl (by decide) rfl (fun ls hl => ?_)
          refine lv_iconst (v := 0) hx hb dX9_alike_57 (by decide) ?_
          refine lv_istore (lv' := [(5, .int (0 : Int32)), (3, .long r9), (0, .ref o), (1, .int x1), (2, .int x2)]) hx hb dX9_alike_58 hl (by decide) rfl (fun ls hl => ?_)
          refine lv_iconst (v := 0) hx hb dX9_alike_60 (by decide) ?_
          refine lv_istore (lv' := [(6, .int (0 : Int32)), (5, .int (0 : Int32)), (3, .long r9), (0, .ref o), (1, .int x1), (2, .int x2)]) hx hb dX9_alike_61 hl (by decide) rfl (fun ls hl => ?_)
          exact b9_alike_b63 x1 r9 (0 : Int32) (0 : Int32) S10 C h hG (lv_sub hl [3, 4, 2, 1, 0] rfl)
        · replace h := h.2 c8
          exact b9_alike_b38 S C h hG (lv_sub hl [0] rfl)
    · replace h := h.2 c4
      exact b9_alike_b14 S C h hG (lv_sub hl [0] rfl)
-- X9_lookedBox
theorem i9_lookedBox_X9 : ∀ w ∈ wsX90, w ∈ wsX9_lookedBox := fun w h => List.mem_cons_of_mem _ (inG_X9 w h)
theorem k9_lookedBox_26 : Cond.fieldLink RX9 26 "PaperBodiesModel" "dims" "[I" ∈ wsX9_lookedBox := (List.mem_cons_of_mem _ mw_542)
def w9_lookedBox_b31 (t0 : Int32) (S : MS) (Q : Int32 → MS → Prop) : Prop :=
  Q t0 S
set_option maxHeartbeats 4000000 in
set_option maxRecDepth 100000 in
theorem b9_lookedBox_b31 {p : Program} {l : Launch} {e : Env} {s : State} {m : MethodId} {args : Array Value} {below : List Frame} {meth : Method} {c : Code} {D : va_G} {cy : Nat → ClassId} {A : Nat → Prop} {o : Nat} {q : Nat → Nat} (t0 : Int32) (S : MS) {Q : Int32 → MS → Prop} (C : Cx p s m args meth c cX9_lookedBox 2 (some .int) wsX9_lookedBox RX9 D cy nestWs A) (h : w9_lookedBox_b31 t0 S Q) {H : Heap} {locs : List Loc} (hG : GW D A s (w9 o q cy S) H locs) {ls : Array Slot} (hl : lv_has ls 2 [(0, .ref o)]) : W p l e ({ frames := 2, cells := 0, slots := 0, locals := 42 } : Room) s m args below meth c H locs 0 0 (MQ below (va_Qi Q (B1 D (w9 o q cy) A) A) args s 0 0 A) (F0 m 31 ls [.int t0]) := by
  have hx := C.1
  have hb := C.2.1
  unfold w9_lookedBox_b31 at h
  exact retI (w := (w9 o q cy)) (S := S) C hG h dX9_lookedBox_31
def w9_lookedBox (x1 : Int32) (S : MS) (Q : Int32 → MS → Prop) : Prop :=
  w9_isBox x1 (fun r1 => ((¬ r1 = 0 → vp_in ((3 : Int32) * x1) 12 ∧ ((¬ (rA S 7 ((3 : Int32) * x1)) = 0 → w9_lookedBox_b31 (0 : Int32) S Q) ∧ ((rA S 7 ((3 : Int32) * x1)) = 0 → w9_meets (1 : Int32) S (fun r5 S6 => w9_lookedBox_b31 r5 S6 Q)))) ∧ (r1 = 0 → w9_lookedBox_b31 (-1 : Int32) S Q)))
set_option maxHeartbeats 4000000 in
set_option maxRecDepth 100000 in
theorem c9_lookedBox (l : Launch) (D : va_G) (cy : Nat → ClassId)  (o : Nat) (q : Nat → Nat) (x1 : Int32) (S : MS) (Q : Int32 → MS → Prop) (h : w9_lookedBox x1 S Q) : MetI l yX9_lookedBox wsX9_lookedBox ({ frames := 2, cells := 0, slots := 0, locals := 42 } : Room) D cy nestWs (w9 o q cy) [.ref o, .int x1] S Q := by
  refine MetI.mk RX9 cX9_lookedBox 2 .int (by decide) rfl nestWs_ok rfl (Nat.le_of_ble_eq_true rfl) ?_
  intro p e s m below meth c A ls C hG hl
  have hl : lv_has ls 2 [(0, .ref o), (1, .int x1)] := hl
  have hx := C.1
  have hb := C.2.1
  unfold w9_lookedBox at h
  refine lv_iload_n hx hb dX9_lookedBox_0 rfl (lv_at hl 1 rfl) ?_
  refine callSI (As := [.int x1]) (rest := []) C hG (c9_isBox l D cy x1 _ h) 1 gX9_lookedBox_X9_isBox rfl (by decide +kernel) ⟨⟨Nat.le_of_ble_eq_true rfl, Nat.le_of_ble_eq_true rfl⟩, rfl, rfl⟩ (Foc.none C.2.2.2.2.2.2.2.2.1) rfl hl.1 rfl (Nat.le_of_ble_eq_true rfl) dX9_lookedBox_1 ⟨Nat.zero_le _, Nat.zero_le _⟩ (fun r1 z H locs h hG => ?_)
  refine lv_if_ne (tgt := 11) hx hb dX9_lookedBox_4 (by decide) (fun c2 => ?_) (fun c2 => ?_)
  · replace h := h.1 c2
    refine lv_aload_n hx hb dX9_lookedBox_11 rfl (lv_at hl 0 rfl) ?_
    refine x9g_7 C i9_lookedBox_X9 k9_lookedBox_26 hG dX9_lookedBox_12 ?_
    refine lv_iconst (v := 3) hx hb dX9_lookedBox_15 (by decide) ?_
    refine lv_iload_n hx hb dX9_lookedBox_16 rfl (lv_at hl 1 rfl) ?_
    refine lv_imul hx hb dX9_lookedBox_17 ?_
    obtain ⟨hv3, h⟩ := h
    refine x9l_7 C hG hv3 dX9_lookedBox_18 ?_
    refine lv_if_ne (tgt := 30) hx hb dX9_lookedBox_19 (by decide) (fun c4 => ?_) (fun c4 => ?_)
    · replace h := h.1 c4
      refine lv_iconst (v := 0) hx hb dX9_lookedBox_30 (by decide) ?_
      exact b9_lookedBox_b31 (0 : Int32) S C h hG (lv_sub hl [0] rfl)
    · replace h := h.2 c4
      refine lv_aload_n hx hb dX9_lookedBox_22 rfl (lv_at hl 0 rfl) ?_
      refine lv_iconst (v := 1) hx hb dX9_lookedBox_23 (by decide) ?_
      refine callVI (As := [.int (1 : Int32)]) (rest := []) C hG (c9_meets l D cy o q (1 : Int32) S _ h) 1 gX9_lookedBox_X9_meets rfl (by decide +kernel) ⟨⟨Nat.le_of_ble_eq_true rfl, Nat.le_of_ble_eq_true rfl⟩, rfl, rfl⟩ rfl rfl (Foc.all C.2.2.2.2.2.2.2.2.1) rfl hl.1 rfl (Nat.le_of_ble_eq_true rfl) dX9_lookedBox_24 ⟨Nat.zero_le _, Nat.zero_le _⟩ (fun r5 S6 H locs h hG => ?_)
      have hG : GW D A s (w9 o q cy S6) H locs := hG
      refine lv_goto (tgt := 31) hx hb dX9_lookedBox_27 (by decide) ?_
      exact b9_lookedBox_b31 r5 S6 C h hG (lv_sub hl [0] rfl)
  · replace h := h.2 c2
    refine lv_iconst (v := -1) hx hb dX9_lookedBox_7 (by decide) ?_
    refine lv_goto (tgt := 31) hx hb dX9_lookedBox_8 (by decide) ?_
    exact b9_lookedBox_b31 (-1 : Int32) S C h hG (lv_sub hl [0] rfl)
-- X9_cellsOf
def w9_cellsOf (x0 : Int32) (x1 : Int32) (x2 : Int32) (Q : Int32 → Prop) : Prop :=
  Q ((2 : Int32) * (((x0 * x1) + (x1 * x2)) + (x2 * x0)))
set_option maxHeartbeats 4000000 in
set_option maxRecDepth 100000 in
theorem c9_cellsOf (l : Launch) (D : va_G) (cy : Nat → ClassId)  (x0 : Int32) (x1 : Int32) (x2 : Int32) (Q : Int32 → Prop) (h : w9_cellsOf x0 x1 x2 Q) : MetI l yX9_cellsOf wsX9_cellsOf ({ frames := 0, cells := 0, slots := 0, locals := 0 } : Room) D cy nestWs (fun _ : Unit => ([] : va_W)) [.int x0, .int x1, .int x2] () (fun r _ => Q r) := by
  refine MetI.mk RX9 cX9_cellsOf 3 .int (by decide) rfl nestWs_ok rfl (Nat.le_of_ble_eq_true rfl) ?_
  intro p e s m below meth c A ls C hG hl
  have hl : lv_has ls 3 [(0, .int x0), (1, .int x1), (2, .int x2)] := hl
  have hx := C.1
  have hb := C.2.1
  unfold w9_cellsOf at h
  refine lv_iconst (v := 2) hx hb dX9_cellsOf_0 (by decide) ?_
  refine lv_iload_n hx hb dX9_cellsOf_1 rfl (lv_at hl 0 rfl) ?_
  refine lv_iload_n hx hb dX9_cellsOf_2 rfl (lv_at hl 1 rfl) ?_
  refine lv_imul hx hb dX9_cellsOf_3 ?_
  refine lv_iload_n hx hb dX9_cellsOf_4 rfl (lv_at hl 1 rfl) ?_
  refine lv_iload_n hx hb dX9_cellsOf_5 rfl (lv_at hl 2 rfl) ?_
  refine lv_imul hx hb dX9_cellsOf_6 ?_
  refine lv_iadd hx hb dX9_cellsOf_7 ?_
  refine lv_iload_n hx hb dX9_cellsOf_8 rfl (lv_at hl 2 rfl) ?_
  refine lv_iload_n hx hb dX9_cellsOf_9 rfl (lv_at hl 0 rfl) ?_
  refine lv_imul hx hb dX9_cellsOf_10 ?_
  refine lv_iadd hx hb dX9_cellsOf_11 ?_
  refine lv_imul hx hb dX9_cellsOf_12 ?_
  exact retI (w := (fun _ : Unit => ([] : va_W))) (S := ()) C hG h dX9_cellsOf_13
-- X9_cells
theorem i9_cells_X9 : ∀ w ∈ wsX90, w ∈ wsX9_cells := fun w h => List.mem_cons_of_mem _ (inG_X9 w h)
theorem k9_cells_26 : Cond.fieldLink RX9 26 "PaperBodiesModel" "dims" "[I" ∈ wsX9_cells := (List.mem_cons_of_mem _ mw_542)
def w9_cells (x1 : Int32) (S : MS) (Q : Int32 → Prop) : Prop :=
  vp_in ((3 : Int32) * x1) 12 ∧ vp_in (((3 : Int32) * x1) + (1 : Int32)) 12 ∧ vp_in (((3 : Int32) * x1) + (2 : Int32)) 12 ∧ w9_cellsOf (rA S 7 ((3 : Int32) * x1)) (rA S 7 (((3 : Int32) * x1) + (1 : Int32))) (rA S 7 (((3 : Int32) * x1) + (2 : Int32))) (fun r4 => Q r4)
set_option maxHeartbeats 4000000 in
set_option maxRecDepth 100000 in
theorem c9_cells (l : Launch) (D : va_G) (cy : Nat → ClassId)  (o : Nat) (q : Nat → Nat) (x1 : Int32) (S : MS) (Q : Int32 → Prop) (h : w9_cells x1 S Q) : MetI l yX9_cells wsX9_cells ({ frames := 1, cells := 0, slots := 0, locals := 22 } : Room) D cy nestWs (w9 o q cy) [.ref o, .int x1] S (fun r z => z = S ∧ Q r ) := by
  refine MetI.mk RX9 cX9_cells 2 .int (by decide) rfl nestWs_ok rfl (Nat.le_of_ble_eq_true rfl) ?_
  intro p e s m below meth c A ls C hG hl
  have hl : lv_has ls 2 [(0, .ref o), (1, .int x1)] := hl
  have hx := C.1
  have hb := C.2.1
  unfold w9_cells at h
  refine lv_aload_n hx hb dX9_cells_0 rfl (lv_at hl 0 rfl) ?_
  refine x9g_7 C i9_cells_X9 k9_cells_26 hG dX9_cells_1 ?_
  refine lv_iconst (v := 3) hx hb dX9_cells_4 (by decide) ?_
  refine lv_iload_n hx hb dX9_cells_5 rfl (lv_at hl 1 rfl) ?_
  refine lv_imul hx hb dX9_cells_6 ?_
  obtain ⟨hv1, h⟩ := h
  refine x9l_7 C hG hv1 dX9_cells_7 ?_
  refine lv_aload_n hx hb dX9_cells_8 rfl (lv_at hl 0 rfl) ?_
  refine x9g_7 C i9_cells_X9 k9_cells_26 hG dX9_cells_9 ?_
  refine lv_iconst (v := 3) hx hb dX9_cells_12 (by decide) ?_
  refine lv_iload_n hx hb dX9_cells_13 rfl (lv_at hl 1 rfl) ?_
  refine lv_imul hx hb dX9_cells_14 ?_
  refine lv_iconst (v := 1) hx hb dX9_cells_15 (by decide) ?_
  refine lv_iadd hx hb dX9_cells_16 ?_
  obtain ⟨hv2, h⟩ := h
  refine x9l_7 C hG hv2 dX9_cells_17 ?_
  refine lv_aload_n hx hb dX9_cells_18 rfl (lv_at hl 0 rfl) ?_
  refine x9g_7 C i9_cells_X9 k9_cells_26 hG dX9_cells_19 ?_
  refine lv_iconst (v := 3) hx hb dX9_cells_22 (by decide) ?_
  refine lv_iload_n hx hb dX9_cells_23 rfl (lv_at hl 1 rfl) ?_
  refine lv_imul hx hb dX9_cells_24 ?_
  refine lv_iconst (v := 2) hx hb dX9_cells_25 (by decide) ?_
  refine lv_iadd hx hb dX9_cells_26 ?_
  obtain ⟨hv3, h⟩ := h
  refine x9l_7 C hG hv3 dX9_cells_27 ?_
  refine callSI (As := [.int (rA S 7 ((3 : Int32) * x1)), .int (rA S 7 (((3 : Int32) * x1) + (1 : Int32))), .int (rA S 7 (((3 : Int32) * x1) + (2 : Int32)))]) (rest := []) C hG (c9_cellsOf l D cy (rA S 7 ((3 : Int32) * x1)) (rA S 7 (((3 : Int32) * x1) + (1 : Int32))) (rA S 7 (((3 : Int32) * x1) + (2 : Int32))) _ h) 3 gX9_cells_X9_cellsOf rfl (by decide +kernel) ⟨⟨Nat.le_of_ble_eq_true rfl, Nat.le_of_ble_eq_true rfl⟩, rfl, rfl⟩ (Foc.none C.2.2.2.2.2.2.2.2.1) rfl hl.1 rfl (Nat.le_of_ble_eq_true rfl) dX9_cells_28 ⟨Nat.zero_le _, Nat.zero_le _⟩ (fun r4 z H locs h hG => ?_)
  exact retI (w := (w9 o q cy)) (S := S) C hG ⟨rfl, h⟩ dX9_cells_31
