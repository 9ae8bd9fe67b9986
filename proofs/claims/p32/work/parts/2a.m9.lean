-- X9_in
def w9_in_b15 (t0 : Int32) (Q : Int32 → Prop) : Prop :=
  narrow .boolean (.int t0) = .int t0 ∧ Q t0
set_option maxHeartbeats 4000000 in
set_option maxRecDepth 100000 in
theorem b9_in_b15 {p : Program} {l : Launch} {e : Env} {s : State} {m : MethodId} {args : Array Value} {below : List Frame} {meth : Method} {c : Code} {D : va_G} {cy : Nat → ClassId} {A : Nat → Prop} (t0 : Int32) {Q : Int32 → Prop} (C : Cx p s m args meth c cX9_in 3 (some .boolean) wsX9_in RX9 D cy nestWs A) (h : w9_in_b15 t0 Q) {H : Heap} {locs : List Loc} (hG : GW D A s (([] : va_W)) H locs) {ls : Array Slot} (hl : lv_has ls 3 []) : W p l e ({ frames := 0, cells := 0, slots := 0, locals := 0 } : Room) s m args below meth c H locs 0 0 (MQ below (va_Qi (fun r _ => Q r) (B1 D (fun _ : Unit => ([] : va_W)) A) A) args s 0 0 A) (F0 m 15 ls [.int t0]) := by
  have hx := C.1
  have hb := C.2.1
  unfold w9_in_b15 at h
  exact retZ (w := (fun _ : Unit => ([] : va_W))) (S := ()) C hG ⟨h.1, h.2⟩ dX9_in_15
def w9_in_b14 (Q : Int32 → Prop) : Prop :=
  w9_in_b15 (0 : Int32) Q
set_option maxHeartbeats 4000000 in
set_option maxRecDepth 100000 in
theorem b9_in_b14 {p : Program} {l : Launch} {e : Env} {s : State} {m : MethodId} {args : Array Value} {below : List Frame} {meth : Method} {c : Code} {D : va_G} {cy : Nat → ClassId} {A : Nat → Prop} {Q : Int32 → Prop} (C : Cx p s m args meth c cX9_in 3 (some .boolean) wsX9_in RX9 D cy nestWs A) (h : w9_in_b14 Q) {H : Heap} {locs : List Loc} (hG : GW D A s (([] : va_W)) H locs) {ls : Array Slot} (hl : lv_has ls 3 []) : W p l e ({ frames := 0, cells := 0, slots := 0, locals := 0 } : Room) s m args below meth c H locs 0 0 (MQ below (va_Qi (fun r _ => Q r) (B1 D (fun _ : Unit => ([] : va_W)) A) A) args s 0 0 A) (F0 m 14 ls []) := by
  have hx := C.1
  have hb := C.2.1
  unfold w9_in_b14 at h
  refine lv_iconst (v := 0) hx hb dX9_in_14 (by decide) ?_
  exact b9_in_b15 (0 : Int32) C h hG hl
def w9_in (x0 : Int32) (x1 : Int32) (x2 : Int32) (Q : Int32 → Prop) : Prop :=
  ((x0 < x1 → w9_in_b14 Q) ∧ (¬ x0 < x1 → ((x2 < x0 → w9_in_b14 Q) ∧ (¬ x2 < x0 → w9_in_b15 (1 : Int32) Q))))
set_option maxHeartbeats 4000000 in
set_option maxRecDepth 100000 in
theorem c9_in (l : Launch) (D : va_G) (cy : Nat → ClassId)  (x0 : Int32) (x1 : Int32) (x2 : Int32) (Q : Int32 → Prop) (h : w9_in x0 x1 x2 Q) : MetI l yX9_in wsX9_in ({ frames := 0, cells := 0, slots := 0, locals := 0 } : Room) D cy nestWs (fun _ : Unit => ([] : va_W)) [.int x0, .int x1, .int x2] () (fun r _ => Q r) := by
  refine MetI.mk RX9 cX9_in 3 .boolean (by decide) rfl nestWs_ok rfl (Nat.le_of_ble_eq_true rfl) ?_
  intro p e s m below meth c A ls C hG hl
  have hl : lv_has ls 3 [(0, .int x0), (1, .int x1), (2, .int x2)] := hl
  have hx := C.1
  have hb := C.2.1
  unfold w9_in at h
  refine lv_iload_n hx hb dX9_in_0 rfl (lv_at hl 0 rfl) ?_
  refine lv_iload_n hx hb dX9_in_1 rfl (lv_at hl 1 rfl) ?_
  refine lv_icmp_lt (tgt := 14) hx hb dX9_in_2 (by decide) (fun c1 => ?_) (fun c1 => ?_)
  · replace h := h.1 c1
    exact b9_in_b14 C h hG (lv_sub hl [] rfl)
  · replace h := h.2 c1
    refine lv_iload_n hx hb dX9_in_5 rfl (lv_at hl 0 rfl) ?_
    refine lv_iload_n hx hb dX9_in_6 rfl (lv_at hl 2 rfl) ?_
    refine lv_icmp_gt (tgt := 14) hx hb dX9_in_7 (by decide) (fun c2 => ?_) (fun c2 => ?_)
    · replace h := h.1 c2
      exact b9_in_b14 C h hG (lv_sub hl [] rfl)
    · replace h := h.2 c2
      refine lv_iconst (v := 1) hx hb dX9_in_10 (by decide) ?_
      refine lv_goto (tgt := 15) hx hb dX9_in_11 (by decide) ?_
      exact b9_in_b15 (1 : Int32) C h hG (lv_sub hl [] rfl)
-- X9_meets
theorem i9_meets_X9 : ∀ w ∈ wsX90, w ∈ wsX9_meets := fun w h => List.mem_cons_of_mem _ (inG_X9 w h)
theorem k9_meets_7 : Cond.fieldLink RX9 7 "PaperBodiesModel" "findings" "[I" ∈ wsX9_meets := (List.mem_cons_of_mem _ mw_536)
theorem k9_meets_113 : Cond.fieldLink RX9 113 "PaperBodiesModel" "finding" "I" ∈ wsX9_meets := (List.mem_cons_of_mem _ mw_574)
def w9_meets (x1 : Int32) (S : MS) (Q : Int32 → MS → Prop) : Prop :=
  ∀ S1 : MS, S1 = sI S 0 x1 → vp_in x1 6 ∧ ∀ S3 : MS, S3 = sA S1 1 x1 ((rA S1 1 x1) + (1 : Int32)) → Q (-3 : Int32) S3
set_option maxHeartbeats 4000000 in
set_option maxRecDepth 100000 in
theorem c9_meets (l : Launch) (D : va_G) (cy : Nat → ClassId)  (o : Nat) (q : Nat → Nat) (x1 : Int32) (S : MS) (Q : Int32 → MS → Prop) (h : w9_meets x1 S Q) : MetI l yX9_meets wsX9_meets ({ frames := 0, cells := 0, slots := 0, locals := 0 } : Room) D cy nestWs (w9 o q cy) [.ref o, .int x1] S Q := by
  refine MetI.mk RX9 cX9_meets 2 .int (by decide) rfl nestWs_ok rfl (Nat.le_of_ble_eq_true rfl) ?_
  intro p e s m below meth c A ls C hG hl
  have hl : lv_has ls 2 [(0, .ref o), (1, .int x1)] := hl
  have hx := C.1
  have hb := C.2.1
  unfold w9_meets at h
  refine lv_aload_n hx hb dX9_meets_0 rfl (lv_at hl 0 rfl) ?_
  refine lv_iload_n hx hb dX9_meets_1 rfl (lv_at hl 1 rfl) ?_
  refine x9p_0 C i9_meets_X9 k9_meets_113 hG dX9_meets_2 (fun S1 eS1 H locs hG => ?_)
  replace h := h S1 eS1
  refine lv_aload_n hx hb dX9_meets_5 rfl (lv_at hl 0 rfl) ?_
  refine x9g_1 C i9_meets_X9 k9_meets_7 hG dX9_meets_6 ?_
  refine lv_iload_n hx hb dX9_meets_9 rfl (lv_at hl 1 rfl) ?_
  refine lv_dup2_11 hx hb dX9_meets_10 rfl rfl ?_
  obtain ⟨hv2, h⟩ := h
  refine x9l_1 C hG hv2 dX9_meets_11 ?_
  refine lv_iconst (v := 1) hx hb dX9_meets_12 (by decide) ?_
  refine lv_iadd hx hb dX9_meets_13 ?_
  refine x9s_1 C hG hv2 dX9_meets_14 (fun S3 eS3 H locs hG => ?_)
  replace h := h S3 eS3
  refine lv_bipush (v := -3) hx hb dX9_meets_15 (by decide) ?_
  exact retI (w := (w9 o q cy)) (S := S3) C hG h dX9_meets_17
-- X9_ask
theorem i9_ask_X9 : ∀ w ∈ wsX90, w ∈ wsX9_ask := fun w h => List.mem_cons_of_mem _ (inG_X9 w h)
theorem k9_ask_117 : Cond.fieldLink RX9 117 "PaperBodiesModel" "asked" "J" ∈ wsX9_ask := (List.mem_cons_of_mem _ mw_576)
def w9_ask (x1 : Int64) (x3 : Int32) (S : MS) (Q : Int32 → MS → Prop) : Prop :=
  ∀ S1 : MS, S1 = sJ S 2 x1 → Q x3 S1
set_option maxHeartbeats 4000000 in
set_option maxRecDepth 100000 in
theorem c9_ask (l : Launch) (D : va_G) (cy : Nat → ClassId)  (o : Nat) (q : Nat → Nat) (x1 : Int64) (x3 : Int32) (S : MS) (Q : Int32 → MS → Prop) (h : w9_ask x1 x3 S Q) : MetI l yX9_ask wsX9_ask ({ frames := 0, cells := 0, slots := 0, locals := 0 } : Room) D cy nestWs (w9 o q cy) [.ref o, .long x1, .int x3] S Q := by
  refine MetI.mk RX9 cX9_ask 4 .int (by decide) rfl nestWs_ok rfl (Nat.le_of_ble_eq_true rfl) ?_
  intro p e s m below meth c A ls C hG hl
  have hl : lv_has ls 4 [(0, .ref o), (1, .long x1), (3, .int x3)] := hl
  have hx := C.1
  have hb := C.2.1
  unfold w9_ask at h
  refine lv_aload_n hx hb dX9_ask_0 rfl (lv_at hl 0 rfl) ?_
  refine lv_lload_n hx hb dX9_ask_1 rfl (lv_at hl 1 rfl) ?_
  refine x9p_2 C i9_ask_X9 k9_ask_117 hG dX9_ask_2 (fun S1 eS1 H locs hG => ?_)
  replace h := h S1 eS1
  refine lv_iload_n hx hb dX9_ask_5 rfl (lv_at hl 2 rfl) ?_
  exact retI (w := (w9 o q cy)) (S := S1) C hG h dX9_ask_6
-- X9_isFigure
def w9_isFigure (x0 : Int32) (Q : Int32 → Prop) : Prop :=
  w9_in x0 (0 : Int32) (5 : Int32) (fun r1 => narrow .boolean (.int r1) = .int r1 ∧ Q r1)
set_option maxHeartbeats 4000000 in
set_option maxRecDepth 100000 in
theorem c9_isFigure (l : Launch) (D : va_G) (cy : Nat → ClassId)  (x0 : Int32) (Q : Int32 → Prop) (h : w9_isFigure x0 Q) : MetI l yX9_isFigure wsX9_isFigure ({ frames := 1, cells := 0, slots := 0, locals := 22 } : Room) D cy nestWs (fun _ : Unit => ([] : va_W)) [.int x0] () (fun r _ => Q r) := by
  refine MetI.mk RX9 cX9_isFigure 1 .boolean (by decide) rfl nestWs_ok rfl (Nat.le_of_ble_eq_true rfl) ?_
  intro p e s m below meth c A ls C hG hl
  have hl : lv_has ls 1 [(0, .int x0)] := hl
  have hx := C.1
  have hb := C.2.1
  unfold w9_isFigure at h
  refine lv_iload_n hx hb dX9_isFigure_0 rfl (lv_at hl 0 rfl) ?_
  refine lv_iconst (v := 0) hx hb dX9_isFigure_1 (by decide) ?_
  refine lv_iconst (v := 5) hx hb dX9_isFigure_2 (by decide) ?_
  refine callSI (As := [.int x0, .int (0 : Int32), .int (5 : Int32)]) (rest := []) C hG (c9_in l D cy x0 (0 : Int32) (5 : Int32) _ h) 3 gX9_isFigure_X9_in rfl (by decide +kernel) ⟨⟨Nat.le_of_ble_eq_true rfl, Nat.le_of_ble_eq_true rfl⟩, rfl, rfl⟩ (Foc.none C.2.2.2.2.2.2.2.2.1) rfl hl.1 rfl (Nat.le_of_ble_eq_true rfl) dX9_isFigure_3 ⟨Nat.zero_le _, Nat.zero_le _⟩ (fun r1 z H locs h hG => ?_)
  exact retZ (w := (fun _ : Unit => ([] : va_W))) (S := ()) C hG ⟨h.1, h.2⟩ dX9_isFigure_6
-- X9_isBox
def w9_isBox (x0 : Int32) (Q : Int32 → Prop) : Prop :=
  w9_in x0 (0 : Int32) (3 : Int32) (fun r1 => narrow .boolean (.int r1) = .int r1 ∧ Q r1)
set_option maxHeartbeats 4000000 in
set_option maxRecDepth 100000 in
theorem c9_isBox (l : Launch) (D : va_G) (cy : Nat → ClassId)  (x0 : Int32) (Q : Int32 → Prop) (h : w9_isBox x0 Q) : MetI l yX9_isBox wsX9_isBox ({ frames := 1, cells := 0, slots := 0, locals := 22 } : Room) D cy nestWs (fun _ : Unit => ([] : va_W)) [.int x0] () (fun r _ => Q r) := by
  refine MetI.mk RX9 cX9_isBox 1 .boolean (by decide) rfl nestWs_ok rfl (Nat.le_of_ble_eq_true rfl) ?_
  intro p e s m below meth c A ls C hG hl
  have hl : lv_has ls 1 [(0, .int x0)] := hl
  have hx := C.1
  have hb := C.2.1
  unfold w9_isBox at h
  refine lv_iload_n hx hb dX9_isBox_0 rfl (lv_at hl 0 rfl) ?_
  refine lv_iconst (v := 0) hx hb dX9_isBox_1 (by decide) ?_
  refine lv_iconst (v := 3) hx hb dX9_isBox_2 (by decide) ?_
  refine callSI (As := [.int x0, .int (0 : Int32), .int (3 : Int32)]) (rest := []) C hG (c9_in l D cy x0 (0 : Int32) (3 : Int32) _ h) 3 gX9_isBox_X9_in rfl (by decide +kernel) ⟨⟨Nat.le_of_ble_eq_true rfl, Nat.le_of_ble_eq_true rfl⟩, rfl, rfl⟩ (Foc.none C.2.2.2.2.2.2.2.2.1) rfl hl.1 rfl (Nat.le_of_ble_eq_true rfl) dX9_isBox_3 ⟨Nat.zero_le _, Nat.zero_le _⟩ (fun r1 z H locs h hG => ?_)
  exact retZ (w := (fun _ : Unit => ([] : va_W))) (S := ()) C hG ⟨h.1, h.2⟩ dX9_isBox_6
-- X9_looked
theorem i9_looked_X9 : ∀ w ∈ wsX90, w ∈ wsX9_looked := fun w h => List.mem_cons_of_mem _ (inG_X9 w h)
theorem k9_looked_13 : Cond.fieldLink RX9 13 "PaperBodiesModel" "figures" "[J" ∈ wsX9_looked := (List.mem_cons_of_mem _ mw_538)
def w9_looked_b31 (t0 : Int32) (S : MS) (Q : Int32 → MS → Prop) : Prop :=
  Q t0 S
set_option maxHeartbeats 4000000 in
set_option maxRecDepth 100000 in
theorem b9_looked_b31 {p : Program} {l : Launch} {e : Env} {s : State} {m : MethodId} {args : Array Value} {below : List Frame} {meth : Method} {c : Code} {D : va_G} {cy : Nat → ClassId} {A : Nat → Prop} {o : Nat} {q : Nat → Nat} (t0 : Int32) (S : MS) {Q : Int32 → MS → Prop} (C : Cx p s m args meth c cX9_looked 2 (some .int) wsX9_looked RX9 D cy nestWs A) (h : w9_looked_b31 t0 S Q) {H : Heap} {locs : List Loc} (hG : GW D A s (w9 o q cy S) H locs) {ls : Array Slot} (hl : lv_has ls 2 [(0, .ref o)]) : W p l e ({ frames := 2, cells := 0, slots := 0, locals := 42 } : Room) s m args below meth c H locs 0 0 (MQ below (va_Qi Q (B1 D (w9 o q cy) A) A) args s 0 0 A) (F0 m 31 ls [.int t0]) := by
  have hx := C.1
  have hb := C.2.1
  unfold w9_looked_b31 at h
  exact retI (w := (w9 o q cy)) (S := S) C hG h dX9_looked_31
def w9_looked (x1 : Int32) (S : MS) (Q : Int32 → MS → Prop) : Prop :=
  w9_isFigure x1 (fun r1 => ((¬ r1 = 0 → vp_in x1 6 ∧ ((¬ (lg_cmp (rL S 3 x1) (0 : Int64)) = 0 → w9_looked_b31 (0 : Int32) S Q) ∧ ((lg_cmp (rL S 3 x1) (0 : Int64)) = 0 → w9_meets (1 : Int32) S (fun r5 S6 => w9_looked_b31 r5 S6 Q)))) ∧ (r1 = 0 → w9_looked_b31 (-1 : Int32) S Q)))
set_option maxHeartbeats 4000000 in
set_option maxRecDepth 100000 in
theorem c9_looked (l : Launch) (D : va_G) (cy : Nat → ClassId)  (o : Nat) (q : Nat → Nat) (x1 : Int32) (S : MS) (Q : Int32 → MS → Prop) (h : w9_looked x1 S Q) : MetI l yX9_looked wsX9_looked ({ frames := 2, cells := 0, slots := 0, locals := 42 } : Room) D cy nestWs (w9 o q cy) [.ref o, .int x1] S Q := by
  refine MetI.mk RX9 cX9_looked 2 .int (by decide) rfl nestWs_ok rfl (Nat.le_of_ble_eq_true rfl) ?_
  intro p e s m below meth c A ls C hG hl
  have hl : lv_has ls 2 [(0, .ref o), (1, .int x1)] := hl
  have hx := C.1
  have hb := C.2.1
  unfold w9_looked at h
  refine lv_iload_n hx hb dX9_looked_0 rfl (lv_at hl 1 rfl) ?_
  refine callSI (As := [.int x1]) (rest := []) C hG (c9_isFigure l D cy x1 _ h) 1 gX9_looked_X9_isFigure rfl (by decide +kernel) ⟨⟨Nat.le_of_ble_eq_true rfl, Nat.le_of_ble_eq_true rfl⟩, rfl, rfl⟩ (Foc.none C.2.2.2.2.2.2.2.2.1) rfl hl.1 rfl (Nat.le_of_ble_eq_true rfl) dX9_looked_1 ⟨Nat.zero_le _, Nat.zero_le _⟩ (fun r1 z H locs h hG => ?_)
  refine lv_if_ne (tgt := 11) hx hb dX9_looked_4 (by decide) (fun c2 => ?_) (fun c2 => ?_)
  · replace h := h.1 c2
    refine lv_aload_n hx hb dX9_looked_11 rfl (lv_at hl 0 rfl) ?_
    refine x9g_3 C i9_looked_X9 k9_looked_13 hG dX9_looked_12 ?_
    refine lv_iload_n hx hb dX9_looked_15 rfl (lv_at hl 1 rfl) ?_
    obtain ⟨hv3, h⟩ := h
    refine x9l_3 C hG hv3 dX9_looked_16 ?_
    refine lv_lconst (v := 0) hx hb dX9_looked_17 (by decide) ?_
    refine W.lcmp hx hb dX9_looked_18 ?_
    refine lv_if_ne (tgt := 30) hx hb dX9_looked_19 (by decide) (fun c4 => ?_) (fun c4 => ?_)
    · replace h := h.1 c4
      refine lv_iconst (v := 0) hx hb dX9_looked_30 (by decide) ?_
      exact b9_looked_b31 (0 : Int32) S C h hG (lv_sub hl [0] rfl)
    · replace h := h.2 c4
      refine lv_aload_n hx hb dX9_looked_22 rfl (lv_at hl 0 rfl) ?_
      refine lv_iconst (v := 1) hx hb dX9_looked_23 (by decide) ?_
      refine callVI (As := [.int (1 : Int32)]) (rest := []) C hG (c9_meets l D cy o q (1 : Int32) S _ h) 1 gX9_looked_X9_meets rfl (by decide +kernel) ⟨⟨Nat.le_of_ble_eq_true rfl, Nat.le_of_ble_eq_true rfl⟩, rfl, rfl⟩ rfl rfl (Foc.all C.2.2.2.2.2.2.2.2.1) rfl hl.1 rfl (Nat.le_of_ble_eq_true rfl) dX9_looked_24 ⟨Nat.zero_le _, Nat.zero_le _⟩ (fun r5 S6 H locs h hG => ?_)
      have hG : GW D A s (w9 o q cy S6) H locs := hG
      refine lv_goto (tgt := 31) hx hb dX9_looked_27 (by decide) ?_
      exact b9_looked_b31 r5 S6 C h hG (lv_sub hl [0] rfl)
  · replace h := h.2 c2
    refine lv_iconst (v := -1) hx hb dX9_looked_7 (by decide) ?_
    refine lv_goto (tgt := 31) hx hb dX9_looked_8 (by decide) ?_
    exact b9_looked_b31 (-1 : Int32) S C h hG (lv_sub hl [0] rfl)
-- X9_bits
def w9_bits_d4 (K4 : Int32 → Int32 → Prop) (x0 : Int64) (x2 : Int32) (x3 : Int32) (Q : Int32 → Prop) : Prop :=
  (((64 : Int32) ≤ x3 → Q x2) ∧ (¬ (64 : Int32) ≤ x3 → ∀ y2 : Int32, y2 = (x2 + ((x0.toUInt64 >>> (x3.toInt64.toUInt64 &&& Int64.toUInt64 63)).toInt64 &&& (1 : Int64)).toInt32) → ∀ y3 : Int32, y3 = x3 + 1 → K4 y2 y3))
set_option maxHeartbeats 4000000 in
set_option maxRecDepth 100000 in
theorem b9_bits_d4 {p : Program} {l : Launch} {e : Env} {s : State} {m : MethodId} {args : Array Value} {below : List Frame} {meth : Method} {c : Code} {D : va_G} {cy : Nat → ClassId} {A : Nat → Prop} {K4 : Int32 → Int32 → Prop} (x0 : Int64) (x2 : Int32) (x3 : Int32) {Q : Int32 → Prop} (C : Cx p s m args meth c cX9_bits 4 (some .int) wsX9_bits RX9 D cy nestWs A) (hK4 : ∀ (x2 : Int32) (x3 : Int32) (H : Heap) (locs : List Loc) (ls : Array Slot), K4 x2 x3 → GW D A s (([] : va_W)) H locs → lv_has ls 4 [(0, .long x0), (2, .int x2), (3, .int x3)] → W p l e ({ frames := 0, cells := 0, slots := 0, locals := 0 } : Room) s m args below meth c H locs 0 0 (MQ below (va_Qi (fun r _ => Q r) (B1 D (fun _ : Unit => ([] : va_W)) A) A) args s 0 0 A) (F0 m 4 ls [])) (h : w9_bits_d4 K4 x0 x2 x3 Q) {H : Heap} {locs : List Loc} (hG : GW D A s (([] : va_W)) H locs) {ls : Array Slot} (hl : lv_has ls 4 [(0, .long x0), (2, .int x2), (3, .int x3)]) : W p l e ({ frames := 0, cells := 0, slots := 0, locals := 0 } : Room) s m args below meth c H locs 0 0 (MQ below (va_Qi (fun r _ => Q r) (B1 D (fun _ : Unit => ([] : va_W)) A) A) args s 0 0 A) (F0 m 4 ls []) := by
  have hx := C.1
  have hb := C.2.1
  unfold w9_bits_d4 at h
  refine lv_iload_n hx hb dX9_bits_4 rfl (lv_at hl 2 rfl) ?_
  refine lv_bipush (v := 64) hx hb dX9_bits_5 (by decide) ?_
  refine lv_icmp_ge (tgt := 25) hx hb dX9_bits_7 (by decide) (fun c1 => ?_) (fun c1 => ?_)
  · replace h := h.1 c1
    refine lv_iload_n hx hb dX9_bits_25 rfl (lv_at hl 1 rfl) ?_
    exact retI (w := (fun _ : Unit => ([] : va_W))) (S := ()) C hG h dX9_bits_26
  · replace h := h.2 c1
    refine lv_iload_n hx hb dX9_bits_10 rfl (lv_at hl 1 rfl) ?_
    refine lv_lload_n hx hb dX9_bits_11 rfl (lv_at hl 0 rfl) ?_
    refine lv_iload_n hx hb dX9_bits_12 rfl (lv_at hl 2 rfl) ?_
    refine lv_lushr hx hb dX9_bits_13 rfl ?_
    refine lv_lconst (v := 1) hx hb dX9_bits_14 (by decide) ?_
    refine lv_land hx hb dX9_bits_15 ?_
    refine lv_l2i hx hb dX9_bits_16 rfl ?_
    refine lv_iadd hx hb dX9_bits_17 ?_
    refine lv_topi (fun y2 ey2 => ?_)
    replace h := h y2 ey2
    refine lv_istore_n (lv' := [(2, .int y2), (0, .long x0), (3, .int x3)]) hx hb dX9_bits_18 rfl hl (by decide) rfl (fun ls hl => ?_)
    obtain ⟨y3, ey3⟩ : ∃ y : Int32, y = x3 + 1 := ⟨_, rfl⟩
    replace h := h y3 ey3
    refine lv_iinc (v := y3) (lv' := [(3, .int y3), (2, .int y2), (0, .long x0)]) hx hb dX9_bits_19 hl (k := 2) rfl (by rw [ey3]; rfl) (by decide) rfl (fun ls hl => ?_)
    refine lv_goto (tgt := 4) hx hb dX9_bits_22 (by decide) ?_
    exact hK4 y2 y3 _ _ _ h hG (lv_sub hl [2, 1, 0] rfl)
def w9_bits_F4 (x0 : Int64) (Q : Int32 → Prop) (K : Int32 × Int32 → Prop) (a : Int32 × Int32) : Prop := w9_bits_d4 (fun y0 y1 => K (y0, y1)) x0 a.1 a.2 Q
def w9_bits_b4 (x0 : Int64) (x2 : Int32) (x3 : Int32) (Q : Int32 → Prop) : Prop := lp (w9_bits_F4 x0 Q) (x2, x3)
set_option maxHeartbeats 4000000 in
set_option maxRecDepth 100000 in
theorem b9_bits_b4 {p : Program} {l : Launch} {e : Env} {s : State} {m : MethodId} {args : Array Value} {below : List Frame} {meth : Method} {c : Code} {D : va_G} {cy : Nat → ClassId} {A : Nat → Prop} (x0 : Int64) (x2 : Int32) (x3 : Int32) {Q : Int32 → Prop} (C : Cx p s m args meth c cX9_bits 4 (some .int) wsX9_bits RX9 D cy nestWs A) (h : w9_bits_b4 x0 x2 x3 Q) {H : Heap} {locs : List Loc} (hG : GW D A s (([] : va_W)) H locs) {ls : Array Slot} (hl : lv_has ls 4 [(0, .long x0), (2, .int x2), (3, .int x3)]) : W p l e ({ frames := 0, cells := 0, slots := 0, locals := 0 } : Room) s m args below meth c H locs 0 0 (MQ below (va_Qi (fun r _ => Q r) (B1 D (fun _ : Unit => ([] : va_W)) A) A) args s 0 0 A) (F0 m 4 ls []) := by
  obtain ⟨k, hn⟩ := h
  induction k generalizing x2 x3 H locs ls with
  | zero => exact hn.elim
  | succ k ih => exact b9_bits_d4 (K4 := fun y0 y1 => itr (w9_bits_F4 x0 Q) k (y0, y1)) x0 x2 x3 C (fun x2 x3 H locs ls hk hG hl => ih x2 x3 hG hl hk) hn hG hl
def w9_bits (x0 : Int64) (Q : Int32 → Prop) : Prop :=
  w9_bits_b4 x0 (0 : Int32) (0 : Int32) Q
set_option maxHeartbeats 4000000 in
set_option maxRecDepth 100000 in
theorem c9_bits (l : Launch) (D : va_G) (cy : Nat → ClassId)  (x0 : Int64) (Q : Int32 → Prop) (h : w9_bits x0 Q) : MetI l yX9_bits wsX9_bits ({ frames := 0, cells := 0, slots := 0, locals := 0 } : Room) D cy nestWs (fun _ : Unit => ([] : va_W)) [.long x0] () (fun r _ => Q r) := by
  refine MetI.mk RX9 cX9_bits 4 .int (by decide) rfl nestWs_ok rfl (Nat.le_of_ble_eq_true rfl) ?_
  intro p e s m below meth c A ls C hG hl
  have hl : lv_has ls 4 [(0, .long x0)] := hl
  have hx := C.1
  have hb := C.2.1
  unfold w9_bits at h
  refine lv_iconst (v := 0) hx hb dX9_bits_0 (by decide) ?_
  refine lv_istore_n (lv' := [(2, .int (0 : Int32)), (0, .long x0)]) hx hb dX9_bits_1 rfl hl (by decide) rfl (fun ls hl => ?_)
  refine lv_iconst (v := 0) hx hb dX9_bits_2 (by decide) ?_
  refine lv_istore_n (lv' := [(3, .int (0 : Int32)), (2, .int (0 : Int32)), (0, .long x0)]) hx hb dX9_bits_3 rfl hl (by decide) rfl (fun ls hl => ?_)
  exact b9_bits_b4 x0 (0 : Int32) (0 : Int32) C h hG (lv_sub hl [2, 1, 0] rfl)
-- X9_has
def w9_has_b19 (t0 : Int32) (Q : Int32 → Prop) : Prop :=
  narrow .boolean (.int t0) = .int t0 ∧ Q t0
set_option maxHeartbeats 4000000 in
set_option maxRecDepth 100000 in
theorem b9_has_b19 {p : Program} {l : Launch} {e : Env} {s : State} {m : MethodId} {args : Array Value} {below : List Frame} {meth : Method} {c : Code} {D : va_G} {cy : Nat → ClassId} {A : Nat → Prop} (t0 : Int32) {Q : Int32 → Prop} (C : Cx p s m args meth c cX9_has 3 (some .boolean) wsX9_has RX9 D cy nestWs A) (h : w9_has_b19 t0 Q) {H : Heap} {locs : List Loc} (hG : GW D A s (([] : va_W)) H locs) {ls : Array Slot} (hl : lv_has ls 3 []) : W p l e ({ frames := 0, cells := 0, slots := 0, locals := 0 } : Room) s m args below meth c H locs 0 0 (MQ below (va_Qi (fun r _ => Q r) (B1 D (fun _ : Unit => ([] : va_W)) A) A) args s 0 0 A) (F0 m 19 ls [.int t0]) := by
  have hx := C.1
  have hb := C.2.1
  unfold w9_has_b19 at h
  exact retZ (w := (fun _ : Unit => ([] : va_W))) (S := ()) C hG ⟨h.1, h.2⟩ dX9_has_19
def w9_has_b18 (Q : Int32 → Prop) : Prop :=
  w9_has_b19 (0 : Int32) Q
set_option maxHeartbeats 4000000 in
set_option maxRecDepth 100000 in
theorem b9_has_b18 {p : Program} {l : Launch} {e : Env} {s : State} {m : MethodId} {args : Array Value} {below : List Frame} {meth : Method} {c : Code} {D : va_G} {cy : Nat → ClassId} {A : Nat → Prop} {Q : Int32 → Prop} (C : Cx p s m args meth c cX9_has 3 (some .boolean) wsX9_has RX9 D cy nestWs A) (h : w9_has_b18 Q) {H : Heap} {locs : List Loc} (hG : GW D A s (([] : va_W)) H locs) {ls : Array Slot} (hl : lv_has ls 3 []) : W p l e ({ frames := 0, cells := 0, slots := 0, locals := 0 } : Room) s m args below meth c H locs 0 0 (MQ below (va_Qi (fun r _ => Q r) (B1 D (fun _ : Unit => ([] : va_W)) A) A) args s 0 0 A) (F0 m 18 ls []) := by
  have hx := C.1
  have hb := C.2.1
  unfold w9_has_b18 at h
  refine lv_iconst (v := 0) hx hb dX9_has_18 (by decide) ?_
  exact b9_has_b19 (0 : Int32) C h hG hl
def w9_has (x0 : Int64) (x2 : Int32) (Q : Int32 → Prop) : Prop :=
  ((x2 < 0 → w9_has_b18 Q) ∧ (¬ x2 < 0 → ((¬ (lg_cmp ((x0.toUInt64 >>> (x2.toInt64.toUInt64 &&& Int64.toUInt64 63)).toInt64 &&& (1 : Int64)) (1 : Int64)) = 0 → w9_has_b18 Q) ∧ ((lg_cmp ((x0.toUInt64 >>> (x2.toInt64.toUInt64 &&& Int64.toUInt64 63)).toInt64 &&& (1 : Int64)) (1 : Int64)) = 0 → w9_has_b19 (1 : Int32) Q))))
set_option maxHeartbeats 4000000 in
set_option maxRecDepth 100000 in
theorem c9_has (l : Launch) (D : va_G) (cy : Nat → ClassId)  (x0 : Int64) (x2 : Int32) (Q : Int32 → Prop) (h : w9_has x0 x2 Q) : MetI l yX9_has wsX9_has ({ frames := 0, cells := 0, slots := 0, locals := 0 } : Room) D cy nestWs (fun _ : Unit => ([] : va_W)) [.long x0, .int x2] () (fun r _ => Q r) := by
  refine MetI.mk RX9 cX9_has 3 .boolean (by decide) rfl nestWs_ok rfl (Nat.le_of_ble_eq_true rfl) ?_
  intro p e s m below meth c A ls C hG hl
  have hl : lv_has ls 3 [(0, .long x0), (2, .int x2)] := hl
  have hx := C.1
  have hb := C.2.1
  unfold w9_has at h
  refine lv_iload_n hx hb dX9_has_0 rfl (lv_at hl 1 rfl) ?_
  refine lv_if_lt (tgt := 18) hx hb dX9_has_1 (by decide) (fun c1 => ?_) (fun c1 => ?_)
  · replace h := h.1 c1
    exact b9_has_b18 C h hG (lv_sub hl [] rfl)
  · replace h := h.2 c1
    refine lv_lload_n hx hb dX9_has_4 rfl (lv_at hl 0 rfl) ?_
    refine lv_iload_n hx hb dX9_has_5 rfl (lv_at hl 1 rfl) ?_
    refine lv_lushr hx hb dX9_has_6 rfl ?_
    refine lv_lconst (v := 1) hx hb dX9_has_7 (by decide) ?_
    refine lv_land hx hb dX9_has_8 ?_
    refine lv_lconst (v := 1) hx hb dX9_has_9 (by decide) ?_
    refine W.lcmp hx hb dX9_has_10 ?_
    refine lv_if_ne (tgt := 18) hx hb dX9_has_11 (by decide) (fun c2 => ?_) (fun c2 => ?_)
    · replace h := h.1 c2
      exact b9_has_b18 C h hG (lv_sub hl [] rfl)
    · replace h := h.2 c2
      refine lv_iconst (v := 1) hx hb dX9_has_14 (by decide) ?_
      refine lv_goto (tgt := 19) hx hb dX9_has_15 (by decide) ?_
      exact b9_has_b19 (1 : Int32) C h hG (lv_sub hl [] rfl)
-- X9_beside
def w9_beside_b84 (t0 : Int32) (Q : Int32 → Prop) : Prop :=
  Q t0
set_option maxHeartbeats 4000000 in
set_option maxRecDepth 100000 in
theorem b9_beside_b84 {p : Program} {l : Launch} {e : Env} {s : State} {m : MethodId} {args : Array Value} {below : List Frame} {meth : Method} {c : Code} {D : va_G} {cy : Nat → ClassId} {A : Nat → Prop} (t0 : Int32) {Q : Int32 → Prop} (C : Cx p s m args meth c cX9_beside 4 (some .int) wsX9_beside RX9 D cy nestWs A) (h : w9_beside_b84 t0 Q) {H : Heap} {locs : List Loc} (hG : GW D A s (([] : va_W)) H locs) {ls : Array Slot} (hl : lv_has ls 4 []) : W p l e ({ frames := 1, cells := 0, slots := 0, locals := 22 } : Room) s m args below meth c H locs 0 0 (MQ below (va_Qi (fun r _ => Q r) (B1 D (fun _ : Unit => ([] : va_W)) A) A) args s 0 0 A) (F0 m 84 ls [.int t0]) := by
  have hx := C.1
  have hb := C.2.1
  unfold w9_beside_b84 at h
  exact retI (w := (fun _ : Unit => ([] : va_W))) (S := ()) C hG h dX9_beside_84
def w9_beside_b73 (Q : Int32 → Prop) : Prop :=
  w9_beside_b84 (-9 : Int32) Q
set_option maxHeartbeats 4000000 in
set_option maxRecDepth 100000 in
theorem b9_beside_b73 {p : Program} {l : Launch} {e : Env} {s : State} {m : MethodId} {args : Array Value} {below : List Frame} {meth : Method} {c : Code} {D : va_G} {cy : Nat → ClassId} {A : Nat → Prop} {Q : Int32 → Prop} (C : Cx p s m args meth c cX9_beside 4 (some .int) wsX9_beside RX9 D cy nestWs A) (h : w9_beside_b73 Q) {H : Heap} {locs : List Loc} (hG : GW D A s (([] : va_W)) H locs) {ls : Array Slot} (hl : lv_has ls 4 []) : W p l e ({ frames := 1, cells := 0, slots := 0, locals := 22 } : Room) s m args below meth c H locs 0 0 (MQ below (va_Qi (fun r _ => Q r) (B1 D (fun _ : Unit => ([] : va_W)) A) A) args s 0 0 A) (F0 m 73 ls []) := by
  have hx := C.1
  have hb := C.2.1
  unfold w9_beside_b73 at h
  refine lv_bipush (v := -9) hx hb dX9_beside_73 (by decide) ?_
  refine lv_goto (tgt := 84) hx hb dX9_beside_75 (by decide) ?_
  exact b9_beside_b84 (-9 : Int32) C h hG hl
def w9_beside_b47 (x0 : Int32) (x2 : Int32) (t0 : Int32) (t1 : Int32) (Q : Int32 → Prop) : Prop :=
  ∀ y1 : Int32, y1 = (t0 + t1) → ((x0 < 0 → w9_beside_b73 Q) ∧ (¬ x0 < 0 → w9_in x2 (0 : Int32) (7 : Int32) (fun r3 => ((r3 = 0 → w9_beside_b73 Q) ∧ (¬ r3 = 0 → w9_in y1 (0 : Int32) (7 : Int32) (fun r5 => ((¬ r5 = 0 → w9_beside_b84 (((8 : Int32) * y1) + x2) Q) ∧ (r5 = 0 → w9_beside_b73 Q))))))))
set_option maxHeartbeats 4000000 in
set_option maxRecDepth 100000 in
theorem b9_beside_b47 {p : Program} {l : Launch} {e : Env} {s : State} {m : MethodId} {args : Array Value} {below : List Frame} {meth : Method} {c : Code} {D : va_G} {cy : Nat → ClassId} {A : Nat → Prop} (x0 : Int32) (x2 : Int32) (t0 : Int32) (t1 : Int32) {Q : Int32 → Prop} (C : Cx p s m args meth c cX9_beside 4 (some .int) wsX9_beside RX9 D cy nestWs A) (h : w9_beside_b47 x0 x2 t0 t1 Q) {H : Heap} {locs : List Loc} (hG : GW D A s (([] : va_W)) H locs) {ls : Array Slot} (hl : lv_has ls 4 [(0, .int x0), (2, .int x2)]) : W p l e ({ frames := 1, cells := 0, slots := 0, locals := 22 } : Room) s m args below meth c H locs 0 0 (MQ below (va_Qi (fun r _ => Q r) (B1 D (fun _ : Unit => ([] : va_W)) A) A) args s 0 0 A) (F0 m 47 ls [.int t1, .int t0]) := by
  have hx := C.1
  have hb := C.2.1
  unfold w9_beside_b47 at h
  refine lv_iadd hx hb dX9_beside_47 ?_
  refine lv_topi (fun y1 ey1 => ?_)
  replace h := h y1 ey1
  refine lv_istore_n (lv' := [(3, .int y1), (0, .int x0), (2, .int x2)]) hx hb dX9_beside_48 rfl hl (by decide) rfl (fun ls hl => ?_)
  refine lv_iload_n hx hb dX9_beside_49 rfl (lv_at hl 1 rfl) ?_
  refine lv_if_lt (tgt := 73) hx hb dX9_beside_50 (by decide) (fun c2 => ?_) (fun c2 => ?_)
  · replace h := h.1 c2
    exact b9_beside_b73 C h hG (lv_sub hl [] rfl)
  · replace h := h.2 c2
    refine lv_iload_n hx hb dX9_beside_53 rfl (lv_at hl 2 rfl) ?_
    refine lv_iconst (v := 0) hx hb dX9_beside_54 (by decide) ?_
    refine lv_bipush (v := 7) hx hb dX9_beside_55 (by decide) ?_
    refine callSI (As := [.int x2, .int (0 : Int32), .int (7 : Int32)]) (rest := []) C hG (c9_in l D cy x2 (0 : Int32) (7 : Int32) _ h) 3 gX9_beside_X9_in rfl (by decide +kernel) ⟨⟨Nat.le_of_ble_eq_true rfl, Nat.le_of_ble_eq_true rfl⟩, rfl, rfl⟩ (Foc.none C.2.2.2.2.2.2.2.2.1) rfl hl.1 rfl (Nat.le_of_ble_eq_true rfl) dX9_beside_57 ⟨Nat.zero_le _, Nat.zero_le _⟩ (fun r3 z H locs h hG => ?_)
    refine lv_if_eq (tgt := 73) hx hb dX9_beside_60 (by decide) (fun c4 => ?_) (fun c4 => ?_)
    · replace h := h.1 c4
      exact b9_beside_b73 C h hG (lv_sub hl [] rfl)
    · replace h := h.2 c4
      refine lv_iload_n hx hb dX9_beside_63 rfl (lv_at hl 0 rfl) ?_
      refine lv_iconst (v := 0) hx hb dX9_beside_64 (by decide) ?_
      refine lv_bipush (v := 7) hx hb dX9_beside_65 (by decide) ?_
      refine callSI (As := [.int y1, .int (0 : Int32), .int (7 : Int32)]) (rest := []) C hG (c9_in l D cy y1 (0 : Int32) (7 : Int32) _ h) 3 gX9_beside_X9_in rfl (by decide +kernel) ⟨⟨Nat.le_of_ble_eq_true rfl, Nat.le_of_ble_eq_true rfl⟩, rfl, rfl⟩ (Foc.none C.2.2.2.2.2.2.2.2.1) rfl hl.1 rfl (Nat.le_of_ble_eq_true rfl) dX9_beside_67 ⟨Nat.zero_le _, Nat.zero_le _⟩ (fun r5 z H locs h hG => ?_)
      refine lv_if_ne (tgt := 78) hx hb dX9_beside_70 (by decide) (fun c6 => ?_) (fun c6 => ?_)
      · replace h := h.1 c6
        refine lv_bipush (v := 8) hx hb dX9_beside_78 (by decide) ?_
        refine lv_iload_n hx hb dX9_beside_80 rfl (lv_at hl 0 rfl) ?_
        refine lv_imul hx hb dX9_beside_81 ?_
        refine lv_iload_n hx hb dX9_beside_82 rfl (lv_at hl 2 rfl) ?_
        refine lv_iadd hx hb dX9_beside_83 ?_
        exact b9_beside_b84 (((8 : Int32) * y1) + x2) C h hG (lv_sub hl [] rfl)
      · replace h := h.2 c6
        exact b9_beside_b73 C h hG (lv_sub hl [] rfl)
def w9_beside_b22 (x0 : Int32) (x1 : Int32) (t0 : Int32) (t1 : Int32) (Q : Int32 → Prop) : Prop :=
  ∀ y1 : Int32, y1 = (t0 + t1) → ((¬ x1 = (1 : Int32) → ((¬ x1 = (3 : Int32) → w9_beside_b47 x0 y1 (x0 / (8 : Int32)) (0 : Int32) Q) ∧ (x1 = (3 : Int32) → w9_beside_b47 x0 y1 (x0 / (8 : Int32)) (-1 : Int32) Q))) ∧ (x1 = (1 : Int32) → w9_beside_b47 x0 y1 (x0 / (8 : Int32)) (1 : Int32) Q))
set_option maxHeartbeats 4000000 in
set_option maxRecDepth 100000 in
theorem b9_beside_b22 {p : Program} {l : Launch} {e : Env} {s : State} {m : MethodId} {args : Array Value} {below : List Frame} {meth : Method} {c : Code} {D : va_G} {cy : Nat → ClassId} {A : Nat → Prop} (x0 : Int32) (x1 : Int32) (t0 : Int32) (t1 : Int32) {Q : Int32 → Prop} (C : Cx p s m args meth c cX9_beside 4 (some .int) wsX9_beside RX9 D cy nestWs A) (h : w9_beside_b22 x0 x1 t0 t1 Q) {H : Heap} {locs : List Loc} (hG : GW D A s (([] : va_W)) H locs) {ls : Array Slot} (hl : lv_has ls 4 [(0, .int x0), (1, .int x1)]) : W p l e ({ frames := 1, cells := 0, slots := 0, locals := 22 } : Room) s m args below meth c H locs 0 0 (MQ below (va_Qi (fun r _ => Q r) (B1 D (fun _ : Unit => ([] : va_W)) A) A) args s 0 0 A) (F0 m 22 ls [.int t1, .int t0]) := by
  have hx := C.1
  have hb := C.2.1
  unfold w9_beside_b22 at h
  refine lv_iadd hx hb dX9_beside_22 ?_
  refine lv_topi (fun y1 ey1 => ?_)
  replace h := h y1 ey1
  refine lv_istore_n (lv' := [(2, .int y1), (0, .int x0), (1, .int x1)]) hx hb dX9_beside_23 rfl hl (by decide) rfl (fun ls hl => ?_)
  refine lv_iload_n hx hb dX9_beside_24 rfl (lv_at hl 1 rfl) ?_
  refine lv_bipush (v := 8) hx hb dX9_beside_25 (by decide) ?_
  refine lv_idiv hx hb dX9_beside_27 (by decide) ?_
  refine lv_iload_n hx hb dX9_beside_28 rfl (lv_at hl 2 rfl) ?_
  refine lv_iconst (v := 1) hx hb dX9_beside_29 (by decide) ?_
  refine lv_icmp_ne (tgt := 37) hx hb dX9_beside_30 (by decide) (fun c2 => ?_) (fun c2 => ?_)
  · replace h := h.1 c2
    refine lv_iload_n hx hb dX9_beside_37 rfl (lv_at hl 2 rfl) ?_
    refine lv_iconst (v := 3) hx hb dX9_beside_38 (by decide) ?_
    refine lv_icmp_ne (tgt := 46) hx hb dX9_beside_39 (by decide) (fun c3 => ?_) (fun c3 => ?_)
    · replace h := h.1 c3
      refine lv_iconst (v := 0) hx hb dX9_beside_46 (by decide) ?_
      exact b9_beside_b47 x0 y1 (x0 / (8 : Int32)) (0 : Int32) C h hG (lv_sub hl [1, 0] rfl)
    · replace h := h.2 c3
      refine lv_iconst (v := -1) hx hb dX9_beside_42 (by decide) ?_
      refine lv_goto (tgt := 47) hx hb dX9_beside_43 (by decide) ?_
      exact b9_beside_b47 x0 y1 (x0 / (8 : Int32)) (-1 : Int32) C h hG (lv_sub hl [1, 0] rfl)
  · replace h := h.2 c2
    refine lv_iconst (v := 1) hx hb dX9_beside_33 (by decide) ?_
    refine lv_goto (tgt := 47) hx hb dX9_beside_34 (by decide) ?_
    exact b9_beside_b47 x0 y1 (x0 / (8 : Int32)) (1 : Int32) C h hG (lv_sub hl [1, 0] rfl)
def w9_beside (x0 : Int32) (x1 : Int32) (Q : Int32 → Prop) : Prop :=
  ((¬ x1 = 0 → ((¬ x1 = (2 : Int32) → w9_beside_b22 x0 x1 (x0 - x0 / (8 : Int32) * (8 : Int32)) (0 : Int32) Q) ∧ (x1 = (2 : Int32) → w9_beside_b22 x0 x1 (x0 - x0 / (8 : Int32) * (8 : Int32)) (-1 : Int32) Q))) ∧ (x1 = 0 → w9_beside_b22 x0 x1 (x0 - x0 / (8 : Int32) * (8 : Int32)) (1 : Int32) Q))
set_option maxHeartbeats 4000000 in
set_option maxRecDepth 100000 in
theorem c9_beside (l : Launch) (D : va_G) (cy : Nat → ClassId)  (x0 : Int32) (x1 : Int32) (Q : Int32 → Prop) (h : w9_beside x0 x1 Q) : MetI l yX9_beside wsX9_beside ({ frames := 1, cells := 0, slots := 0, locals := 22 } : Room) D cy nestWs (fun _ : Unit => ([] : va_W)) [.int x0, .int x1] () (fun r _ => Q r) := by
  refine MetI.mk RX9 cX9_beside 4 .int (by decide) rfl nestWs_ok rfl (Nat.le_of_ble_eq_true rfl) ?_
  intro p e s m below meth c A ls C hG hl
  have hl : lv_has ls 4 [(0, .int x0), (1, .int x1)] := hl
  have hx := C.1
  have hb := C.2.1
  unfold w9_beside at h
  refine lv_iload_n hx hb dX9_beside_0 rfl (lv_at hl 0 rfl) ?_
  refine lv_bipush (v := 8) hx hb dX9_beside_1 (by decide) ?_
  refine lv_irem hx hb dX9_beside_3 (by decide) ?_
  refine lv_iload_n hx hb dX9_beside_4 rfl (lv_at hl 1 rfl) ?_
  refine lv_if_ne (tgt := 12) hx hb dX9_beside_5 (by decide) (fun c1 => ?_) (fun c1 => ?_)
  · replace h := h.1 c1
    refine lv_iload_n hx hb dX9_beside_12 rfl (lv_at hl 1 rfl) ?_
    refine lv_iconst (v := 2) hx hb dX9_beside_13 (by decide) ?_
    refine lv_icmp_ne (tgt := 21) hx hb dX9_beside_14 (by decide) (fun c2 => ?_) (fun c2 => ?_)
    · replace h := h.1 c2
      refine lv_iconst (v := 0) hx hb dX9_beside_21 (by decide) ?_
      exact b9_beside_b22 x0 x1 (x0 - x0 / (8 : Int32) * (8 : Int32)) (0 : Int32) C h hG hl
    · replace h := h.2 c2
      refine lv_iconst (v := -1) hx hb dX9_beside_17 (by decide) ?_
      refine lv_goto (tgt := 22) hx hb dX9_beside_18 (by decide) ?_
      exact b9_beside_b22 x0 x1 (x0 - x0 / (8 : Int32) * (8 : Int32)) (-1 : Int32) C h hG hl
  · replace h := h.2 c1
    refine lv_iconst (v := 1) hx hb dX9_beside_8 (by decide) ?_
    refine lv_goto (tgt := 22) hx hb dX9_beside_9 (by decide) ?_
    exact b9_beside_b22 x0 x1 (x0 - x0 / (8 : Int32) * (8 : Int32)) (1 : Int32) C h hG hl
-- X9_leastOf
def w9_leastOf_d2 (K2 : Int32 → Prop) (x0 : Int64) (x2 : Int32) (Q : Int32 → Prop) : Prop :=
  w9_has x0 x2 (fun r1 => ((¬ r1 = 0 → Q x2) ∧ (r1 = 0 → ∀ y3 : Int32, y3 = x2 + 1 → K2 y3)))
set_option maxHeartbeats 4000000 in
set_option maxRecDepth 100000 in
theorem b9_leastOf_d2 {p : Program} {l : Launch} {e : Env} {s : State} {m : MethodId} {args : Array Value} {below : List Frame} {meth : Method} {c : Code} {D : va_G} {cy : Nat → ClassId} {A : Nat → Prop} {K2 : Int32 → Prop} (x0 : Int64) (x2 : Int32) {Q : Int32 → Prop} (C : Cx p s m args meth c cX9_leastOf 3 (some .int) wsX9_leastOf RX9 D cy nestWs A) (hK2 : ∀ (x2 : Int32) (H : Heap) (locs : List Loc) (ls : Array Slot), K2 x2 → GW D A s (([] : va_W)) H locs → lv_has ls 3 [(0, .long x0), (2, .int x2)] → W p l e ({ frames := 1, cells := 0, slots := 0, locals := 22 } : Room) s m args below meth c H locs 0 0 (MQ below (va_Qi (fun r _ => Q r) (B1 D (fun _ : Unit => ([] : va_W)) A) A) args s 0 0 A) (F0 m 2 ls [])) (h : w9_leastOf_d2 K2 x0 x2 Q) {H : Heap} {locs : List Loc} (hG : GW D A s (([] : va_W)) H locs) {ls : Array Slot} (hl : lv_has ls 3 [(0, .long x0), (2, .int x2)]) : W p l e ({ frames := 1, cells := 0, slots := 0, locals := 22 } : Room) s m args below meth c H locs 0 0 (MQ below (va_Qi (fun r _ => Q r) (B1 D (fun _ : Unit => ([] : va_W)) A) A) args s 0 0 A) (F0 m 2 ls []) := by
  have hx := C.1
  have hb := C.2.1
  unfold w9_leastOf_d2 at h
  refine lv_lload_n hx hb dX9_leastOf_2 rfl (lv_at hl 0 rfl) ?_
  refine lv_iload_n hx hb dX9_leastOf_3 rfl (lv_at hl 1 rfl) ?_
  refine callSI (As := [.long x0, .int x2]) (rest := []) C hG (c9_has l D cy x0 x2 _ h) 2 gX9_leastOf_X9_has rfl (by decide +kernel) ⟨⟨Nat.le_of_ble_eq_true rfl, Nat.le_of_ble_eq_true rfl⟩, rfl, rfl⟩ (Foc.none C.2.2.2.2.2.2.2.2.1) rfl hl.1 rfl (Nat.le_of_ble_eq_true rfl) dX9_leastOf_4 ⟨Nat.zero_le _, Nat.zero_le _⟩ (fun r1 z H locs h hG => ?_)
  refine lv_if_ne (tgt := 16) hx hb dX9_leastOf_7 (by decide) (fun c2 => ?_) (fun c2 => ?_)
  · replace h := h.1 c2
    refine lv_iload_n hx hb dX9_leastOf_16 rfl (lv_at hl 1 rfl) ?_
    exact retI (w := (fun _ : Unit => ([] : va_W))) (S := ()) C hG h dX9_leastOf_17
  · replace h := h.2 c2
    obtain ⟨y3, ey3⟩ : ∃ y : Int32, y = x2 + 1 := ⟨_, rfl⟩
    replace h := h y3 ey3
    refine lv_iinc (v := y3) (lv' := [(2, .int y3), (0, .long x0)]) hx hb dX9_leastOf_10 hl (k := 1) rfl (by rw [ey3]; rfl) (by decide) rfl (fun ls hl => ?_)
    refine lv_goto (tgt := 2) hx hb dX9_leastOf_13 (by decide) ?_
    exact hK2 y3 _ _ _ h hG (lv_sub hl [1, 0] rfl)
def w9_leastOf_F2 (x0 : Int64) (Q : Int32 → Prop) (K : Int32 → Prop) (a : Int32) : Prop := w9_leastOf_d2 (fun y0 => K (y0)) x0 a Q
def w9_leastOf_b2 (x0 : Int64) (x2 : Int32) (Q : Int32 → Prop) : Prop := lp (w9_leastOf_F2 x0 Q) (x2)
set_option maxHeartbeats 4000000 in
set_option maxRecDepth 100000 in
theorem b9_leastOf_b2 {p : Program} {l : Launch} {e : Env} {s : State} {m : MethodId} {args : Array Value} {below : List Frame} {meth : Method} {c : Code} {D : va_G} {cy : Nat → ClassId} {A : Nat → Prop} (x0 : Int64) (x2 : Int32) {Q : Int32 → Prop} (C : Cx p s m args meth c cX9_leastOf 3 (some .int) wsX9_leastOf RX9 D cy nestWs A) (h : w9_leastOf_b2 x0 x2 Q) {H : Heap} {locs : List Loc} (hG : GW D A s (([] : va_W)) H locs) {ls : Array Slot} (hl : lv_has ls 3 [(0, .long x0), (2, .int x2)]) : W p l e ({ frames := 1, cells := 0, slots := 0, locals := 22 } : Room) s m args below meth c H locs 0 0 (MQ below (va_Qi (fun r _ => Q r) (B1 D (fun _ : Unit => ([] : va_W)) A) A) args s 0 0 A) (F0 m 2 ls []) := by
  obtain ⟨k, hn⟩ := h
  induction k generalizing x2 H locs ls with
  | zero => exact hn.elim
  | succ k ih => exact b9_leastOf_d2 (K2 := fun y0 => itr (w9_leastOf_F2 x0 Q) k (y0)) x0 x2 C (fun x2 H locs ls hk hG hl => ih x2 hG hl hk) hn hG hl
def w9_leastOf (x0 : Int64) (Q : Int32 → Prop) : Prop :=
  w9_leastOf_b2 x0 (0 : Int32) Q
set_option maxHeartbeats 4000000 in
set_option maxRecDepth 100000 in
theorem c9_leastOf (l : Launch) (D : va_G) (cy : Nat → ClassId)  (x0 : Int64) (Q : Int32 → Prop) (h : w9_leastOf x0 Q) : MetI l yX9_leastOf wsX9_leastOf ({ frames := 1, cells := 0, slots := 0, locals := 22 } : Room) D cy nestWs (fun _ : Unit => ([] : va_W)) [.long x0] () (fun r _ => Q r) := by
  refine MetI.mk RX9 cX9_leastOf 3 .int (by decide) rfl nestWs_ok rfl (Nat.le_of_ble_eq_true rfl) ?_
  intro p e s m below meth c A ls C hG hl
  have hl : lv_has ls 3 [(0, .long x0)] := hl
  have hx := C.1
  have hb := C.2.1
  unfold w9_leastOf at h
  refine lv_iconst (v := 0) hx hb dX9_leastOf_0 (by decide) ?_
  refine lv_istore_n (lv' := [(2, .int (0 : Int32)), (0, .long x0)]) hx hb dX9_leastOf_1 rfl hl (by decide) rfl (fun ls hl => ?_)
  exact b9_leastOf_b2 x0 (0 : Int32) C h hG (lv_sub hl [1, 0] rfl)
-- X9_hangs
def w9_hangs_b120 (t0 : Int32) (Q : Int32 → Prop) : Prop :=
  narrow .boolean (.int t0) = .int t0 ∧ Q t0
set_option maxHeartbeats 4000000 in
set_option maxRecDepth 100000 in
theorem b9_hangs_b120 {p : Program} {l : Launch} {e : Env} {s : State} {m : MethodId} {args : Array Value} {below : List Frame} {meth : Method} {c : Code} {D : va_G} {cy : Nat → ClassId} {A : Nat → Prop} (t0 : Int32) {Q : Int32 → Prop} (C : Cx p s m args meth c cX9_hangs 10 (some .boolean) wsX9_hangs RX9 D cy nestWs A) (h : w9_hangs_b120 t0 Q) {H : Heap} {locs : List Loc} (hG : GW D A s (([] : va_W)) H locs) {ls : Array Slot} (hl : lv_has ls 10 []) : W p l e ({ frames := 2, cells := 0, slots := 0, locals := 45 } : Room) s m args below meth c H locs 0 0 (MQ below (va_Qi (fun r _ => Q r) (B1 D (fun _ : Unit => ([] : va_W)) A) A) args s 0 0 A) (F0 m 120 ls [.int t0]) := by
  have hx := C.1
  have hb := C.2.1
  unfold w9_hangs_b120 at h
  exact retZ (w := (fun _ : Unit => ([] : va_W))) (S := ()) C hG ⟨h.1, h.2⟩ dX9_hangs_120
def w9_hangs_b101 (K10 : Int64 → Int32 → Prop) (x0 : Int64) (x5 : Int64) (t0 : Int32) (Q : Int32 → Prop) : Prop :=
  K10 x5 t0
set_option maxHeartbeats 4000000 in
set_option maxRecDepth 100000 in
theorem b9_hangs_b101 {p : Program} {l : Launch} {e : Env} {s : State} {m : MethodId} {args : Array Value} {below : List Frame} {meth : Method} {c : Code} {D : va_G} {cy : Nat → ClassId} {A : Nat → Prop} {K10 : Int64 → Int32 → Prop} (x0 : Int64) (x5 : Int64) (t0 : Int32) {Q : Int32 → Prop} (C : Cx p s m args meth c cX9_hangs 10 (some .boolean) wsX9_hangs RX9 D cy nestWs A) (hK10 : ∀ (x2 : Int64) (x4 : Int32) (H : Heap) (locs : List Loc) (ls : Array Slot), K10 x2 x4 → GW D A s (([] : va_W)) H locs → lv_has ls 10 [(0, .long x0), (2, .long x2), (4, .int x4)] → W p l e ({ frames := 2, cells := 0, slots := 0, locals := 45 } : Room) s m args below meth c H locs 0 0 (MQ below (va_Qi (fun r _ => Q r) (B1 D (fun _ : Unit => ([] : va_W)) A) A) args s 0 0 A) (F0 m 10 ls [])) (h : w9_hangs_b101 K10 x0 x5 t0 Q) {H : Heap} {locs : List Loc} (hG : GW D A s (([] : va_W)) H locs) {ls : Array Slot} (hl : lv_has ls 10 [(0, .long x0), (5, .long x5)]) : W p l e ({ frames := 2, cells := 0, slots := 0, locals := 45 } : Room) s m args below meth c H locs 0 0 (MQ below (va_Qi (fun r _ => Q r) (B1 D (fun _ : Unit => ([] : va_W)) A) A) args s 0 0 A) (F0 m 101 ls [.int t0]) := by
  have hx := C.1
  have hb := C.2.1
  unfold w9_hangs_b101 at h
  refine lv_istore (lv' := [(4, .int t0), (0, .long x0), (5, .long x5)]) hx hb dX9_hangs_101 hl (by decide) rfl (fun ls hl => ?_)
  refine lv_lload hx hb dX9_hangs_103 (lv_at hl 2 rfl) ?_
  refine lv_lstore_n (lv' := [(2, .long x5), (4, .int t0), (0, .long x0), (5, .long x5)]) hx hb dX9_hangs_105 rfl hl (by decide) rfl (fun ls hl => ?_)
  refine lv_goto (tgt := 10) hx hb dX9_hangs_106 (by decide) ?_
  exact hK10 x5 t0 _ _ _ h hG (lv_sub hl [2, 0, 1] rfl)
def w9_hangs_b83 (K21 : Int64 → Int32 → Prop) (x0 : Int64) (x2 : Int64) (x5 : Int64) (x7 : Int32) (Q : Int32 → Prop) : Prop :=
  ∀ y1 : Int32, y1 = x7 + 1 → K21 x5 y1
set_option maxHeartbeats 4000000 in
set_option maxRecDepth 100000 in
theorem b9_hangs_b83 {p : Program} {l : Launch} {e : Env} {s : State} {m : MethodId} {args : Array Value} {below : List Frame} {meth : Method} {c : Code} {D : va_G} {cy : Nat → ClassId} {A : Nat → Prop} {K21 : Int64 → Int32 → Prop} (x0 : Int64) (x2 : Int64) (x5 : Int64) (x7 : Int32) {Q : Int32 → Prop} (C : Cx p s m args meth c cX9_hangs 10 (some .boolean) wsX9_hangs RX9 D cy nestWs A) (hK21 : ∀ (x5 : Int64) (x7 : Int32) (H : Heap) (locs : List Loc) (ls : Array Slot), K21 x5 x7 → GW D A s (([] : va_W)) H locs → lv_has ls 10 [(0, .long x0), (2, .long x2), (5, .long x5), (7, .int x7)] → W p l e ({ frames := 2, cells := 0, slots := 0, locals := 45 } : Room) s m args below meth c H locs 0 0 (MQ below (va_Qi (fun r _ => Q r) (B1 D (fun _ : Unit => ([] : va_W)) A) A) args s 0 0 A) (F0 m 21 ls [])) (h : w9_hangs_b83 K21 x0 x2 x5 x7 Q) {H : Heap} {locs : List Loc} (hG : GW D A s (([] : va_W)) H locs) {ls : Array Slot} (hl : lv_has ls 10 [(0, .long x0), (2, .long x2), (5, .long x5), (7, .int x7)]) : W p l e ({ frames := 2, cells := 0, slots := 0, locals := 45 } : Room) s m args below meth c H locs 0 0 (MQ below (va_Qi (fun r _ => Q r) (B1 D (fun _ : Unit => ([] : va_W)) A) A) args s 0 0 A) (F0 m 83 ls []) := by
  have hx := C.1
  have hb := C.2.1
  unfold w9_hangs_b83 at h
  obtain ⟨y1, ey1⟩ : ∃ y : Int32, y = x7 + 1 := ⟨_, rfl⟩
  replace h := h y1 ey1
  refine lv_iinc (v := y1) (lv' := [(7, .int y1), (0, .long x0), (2, .long x2), (5, .long x5)]) hx hb dX9_hangs_83 hl (k := 3) rfl (by rw [ey1]; rfl) (by decide) rfl (fun ls hl => ?_)
  refine lv_goto (tgt := 21) hx hb dX9_hangs_86 (by decide) ?_
  exact hK21 x5 y1 _ _ _ h hG (lv_sub hl [1, 2, 3, 0] rfl)
def w9_hangs_b74 (K31 : Int64 → Int32 → Prop) (x0 : Int64) (x2 : Int64) (x7 : Int32) (x8 : Int32) (t0 : Int64) (t1 : Int64) (Q : Int32 → Prop) : Prop :=
  ∀ y1 : Int64, y1 = (t0 ||| t1) → ∀ y2 : Int32, y2 = x8 + 1 → K31 y1 y2
set_option maxHeartbeats 4000000 in
set_option maxRecDepth 100000 in
theorem b9_hangs_b74 {p : Program} {l : Launch} {e : Env} {s : State} {m : MethodId} {args : Array Value} {below : List Frame} {meth : Method} {c : Code} {D : va_G} {cy : Nat → ClassId} {A : Nat → Prop} {K31 : Int64 → Int32 → Prop} (x0 : Int64) (x2 : Int64) (x7 : Int32) (x8 : Int32) (t0 : Int64) (t1 : Int64) {Q : Int32 → Prop} (C : Cx p s m args meth c cX9_hangs 10 (some .boolean) wsX9_hangs RX9 D cy nestWs A) (hK31 : ∀ (x5 : Int64) (x8 : Int32) (H : Heap) (locs : List Loc) (ls : Array Slot), K31 x5 x8 → GW D A s (([] : va_W)) H locs → lv_has ls 10 [(0, .long x0), (2, .long x2), (5, .long x5), (7, .int x7), (8, .int x8)] → W p l e ({ frames := 2, cells := 0, slots := 0, locals := 45 } : Room) s m args below meth c H locs 0 0 (MQ below (va_Qi (fun r _ => Q r) (B1 D (fun _ : Unit => ([] : va_W)) A) A) args s 0 0 A) (F0 m 31 ls [])) (h : w9_hangs_b74 K31 x0 x2 x7 x8 t0 t1 Q) {H : Heap} {locs : List Loc} (hG : GW D A s (([] : va_W)) H locs) {ls : Array Slot} (hl : lv_has ls 10 [(0, .long x0), (2, .long x2), (7, .int x7), (8, .int x8)]) : W p l e ({ frames := 2, cells := 0, slots := 0, locals := 45 } : Room) s m args below meth c H locs 0 0 (MQ below (va_Qi (fun r _ => Q r) (B1 D (fun _ : Unit => ([] : va_W)) A) A) args s 0 0 A) (F0 m 74 ls [.long t1, .long t0]) := by
  have hx := C.1
  have hb := C.2.1
  unfold w9_hangs_b74 at h
  refine lv_lor hx hb dX9_hangs_74 ?_
  refine lv_topl (fun y1 ey1 => ?_)
  replace h := h y1 ey1
  refine lv_lstore (lv' := [(5, .long y1), (0, .long x0), (2, .long x2), (7, .int x7), (8, .int x8)]) hx hb dX9_hangs_75 hl (by decide) rfl (fun ls hl => ?_)
  obtain ⟨y2, ey2⟩ : ∃ y : Int32, y = x8 + 1 := ⟨_, rfl⟩
  replace h := h y2 ey2
  refine lv_iinc (v := y2) (lv' := [(8, .int y2), (5, .long y1), (0, .long x0), (2, .long x2), (7, .int x7)]) hx hb dX9_hangs_77 hl (k := 4) rfl (by rw [ey2]; rfl) (by decide) rfl (fun ls hl => ?_)
  refine lv_goto (tgt := 31) hx hb dX9_hangs_80 (by decide) ?_
  exact hK31 y1 y2 _ _ _ h hG (lv_sub hl [2, 3, 1, 4, 0] rfl)
def w9_hangs_d31 (K21 : Int64 → Int32 → Prop) (K31 : Int64 → Int32 → Prop) (x0 : Int64) (x2 : Int64) (x5 : Int64) (x7 : Int32) (x8 : Int32) (Q : Int32 → Prop) : Prop :=
  (((4 : Int32) ≤ x8 → w9_hangs_b83 K21 x0 x2 x5 x7 Q) ∧ (¬ (4 : Int32) ≤ x8 → w9_has x2 x7 (fun r2 => ((r2 = 0 → w9_hangs_b83 K21 x0 x2 x5 x7 Q) ∧ (¬ r2 = 0 → w9_beside x7 x8 (fun r4 => w9_has x0 r4 (fun r5 => ((r5 = 0 → w9_hangs_b74 K31 x0 x2 x7 x8 x5 (0 : Int64) Q) ∧ (¬ r5 = 0 → w9_hangs_b74 K31 x0 x2 x7 x8 x5 ((1 : Int64) <<< (r4.toInt64 &&& 63)) Q)))))))))
set_option maxHeartbeats 4000000 in
set_option maxRecDepth 100000 in
theorem b9_hangs_d31 {p : Program} {l : Launch} {e : Env} {s : State} {m : MethodId} {args : Array Value} {below : List Frame} {meth : Method} {c : Code} {D : va_G} {cy : Nat → ClassId} {A : Nat → Prop} {K21 : Int64 → Int32 → Prop} {K31 : Int64 → Int32 → Prop} (x0 : Int64) (x2 : Int64) (x5 : Int64) (x7 : Int32) (x8 : Int32) {Q : Int32 → Prop} (C : Cx p s m args meth c cX9_hangs 10 (some .boolean) wsX9_hangs RX9 D cy nestWs A) (hK21 : ∀ (x5 : Int64) (x7 : Int32) (H : Heap) (locs : List Loc) (ls : Array Slot), K21 x5 x7 → GW D A s (([] : va_W)) H locs → lv_has ls 10 [(0, .long x0), (2, .long x2), (5, .long x5), (7, .int x7)] → W p l e ({ frames := 2, cells := 0, slots := 0, locals := 45 } : Room) s m args below meth c H locs 0 0 (MQ below (va_Qi (fun r _ => Q r) (B1 D (fun _ : Unit => ([] : va_W)) A) A) args s 0 0 A) (F0 m 21 ls [])) (hK31 : ∀ (x5 : Int64) (x8 : Int32) (H : Heap) (locs : List Loc) (ls : Array Slot), K31 x5 x8 → GW D A s (([] : va_W)) H locs → lv_has ls 10 [(0, .long x0), (2, .long x2), (5, .long x5), (7, .int x7), (8, .int x8)] → W p l e ({ frames := 2, cells := 0, slots := 0, locals := 45 } : Room) s m args below meth c H locs 0 0 (MQ below (va_Qi (fun r _ => Q r) (B1 D (fun _ : Unit => ([] : va_W)) A) A) args s 0 0 A) (F0 m 31 ls [])) (h : w9_hangs_d31 K21 K31 x0 x2 x5 x7 x8 Q) {H : Heap} {locs : List Loc} (hG : GW D A s (([] : va_W)) H locs) {ls : Array Slot} (hl : lv_has ls 10 [(0, .long x0), (2, .long x2), (5, .long x5), (7, .int x7), (8, .int x8)]) : W p l e ({ frames := 2, cells := 0, slots := 0, locals := 45 } : Room) s m args below meth c H locs 0 0 (MQ below (va_Qi (fun r _ => Q r) (B1 D (fun _ : Unit => ([] : va_W)) A) A) args s 0 0 A) (F0 m 31 ls []) := by
  have hx := C.1
  have hb := C.2.1
  unfold w9_hangs_d31 at h
  refine lv_iload hx hb dX9_hangs_31 (lv_at hl 4 rfl) ?_
  refine lv_iconst (v := 4) hx hb dX9_hangs_33 (by decide) ?_
  refine lv_icmp_ge (tgt := 83) hx hb dX9_hangs_34 (by decide) (fun c1 => ?_) (fun c1 => ?_)
  · replace h := h.1 c1
    exact b9_hangs_b83 (K21 := K21) x0 x2 x5 x7 C hK21 h hG (lv_sub hl [0, 1, 2, 3] rfl)
  · replace h := h.2 c1
    refine lv_lload_n hx hb dX9_hangs_37 rfl (lv_at hl 1 rfl) ?_
    refine lv_iload hx hb dX9_hangs_38 (lv_at hl 3 rfl) ?_
    refine callSI (As := [.long x2, .int x7]) (rest := []) C hG (c9_has l D cy x2 x7 _ h) 2 gX9_hangs_X9_has rfl (by decide +kernel) ⟨⟨Nat.le_of_ble_eq_true rfl, Nat.le_of_ble_eq_true rfl⟩, rfl, rfl⟩ (Foc.none C.2.2.2.2.2.2.2.2.1) rfl hl.1 rfl (Nat.le_of_ble_eq_true rfl) dX9_hangs_40 ⟨Nat.zero_le _, Nat.zero_le _⟩ (fun r2 z H locs h hG => ?_)
    refine lv_if_eq (tgt := 83) hx hb dX9_hangs_43 (by decide) (fun c3 => ?_) (fun c3 => ?_)
    · replace h := h.1 c3
      exact b9_hangs_b83 (K21 := K21) x0 x2 x5 x7 C hK21 h hG (lv_sub hl [0, 1, 2, 3] rfl)
    · replace h := h.2 c3
      refine lv_iload hx hb dX9_hangs_46 (lv_at hl 3 rfl) ?_
      refine lv_iload hx hb dX9_hangs_48 (lv_at hl 4 rfl) ?_
      refine callSI (As := [.int x7, .int x8]) (rest := []) C hG (c9_beside l D cy x7 x8 _ h) 2 gX9_hangs_X9_beside rfl (by decide +kernel) ⟨⟨Nat.le_of_ble_eq_true rfl, Nat.le_of_ble_eq_true rfl⟩, rfl, rfl⟩ (Foc.none C.2.2.2.2.2.2.2.2.1) rfl hl.1 rfl (Nat.le_of_ble_eq_true rfl) dX9_hangs_50 ⟨Nat.zero_le _, Nat.zero_le _⟩ (fun r4 z H locs h hG => ?_)
      refine lv_istore (lv' := [(9, .int r4), (0, .long x0), (2, .long x2), (5, .long x5), (7, .int x7), (8, .int x8)]) hx hb dX9_hangs_53 hl (by decide) rfl (fun ls hl => ?_)
      refine lv_lload hx hb dX9_hangs_55 (lv_at hl 3 rfl) ?_
      refine lv_lload_n hx hb dX9_hangs_57 rfl (lv_at hl 1 rfl) ?_
      refine lv_iload hx hb dX9_hangs_58 (lv_at hl 0 rfl) ?_
      refine callSI (As := [.long x0, .int r4]) (rest := [.long x5]) C hG (c9_has l D cy x0 r4 _ h) 2 gX9_hangs_X9_has rfl (by decide +kernel) ⟨⟨Nat.le_of_ble_eq_true rfl, Nat.le_of_ble_eq_true rfl⟩, rfl, rfl⟩ (Foc.none C.2.2.2.2.2.2.2.2.1) rfl hl.1 rfl (Nat.le_of_ble_eq_true rfl) dX9_hangs_60 ⟨Nat.zero_le _, Nat.zero_le _⟩ (fun r5 z H locs h hG => ?_)
      refine lv_if_eq (tgt := 73) hx hb dX9_hangs_63 (by decide) (fun c6 => ?_) (fun c6 => ?_)
      · replace h := h.1 c6
        refine lv_lconst (v := 0) hx hb dX9_hangs_73 (by decide) ?_
        exact b9_hangs_b74 (K31 := K31) x0 x2 x7 x8 x5 (0 : Int64) C hK31 h hG (lv_sub hl [1, 2, 4, 5] rfl)
      · replace h := h.2 c6
        refine lv_lconst (v := 1) hx hb dX9_hangs_66 (by decide) ?_
        refine lv_iload hx hb dX9_hangs_67 (lv_at hl 0 rfl) ?_
        refine lv_lshl hx hb dX9_hangs_69 rfl ?_
        refine lv_goto (tgt := 74) hx hb dX9_hangs_70 (by decide) ?_
        exact b9_hangs_b74 (K31 := K31) x0 x2 x7 x8 x5 ((1 : Int64) <<< (r4.toInt64 &&& 63)) C hK31 h hG (lv_sub hl [1, 2, 4, 5] rfl)
def w9_hangs_F31 (K21 : Int64 → Int32 → Prop) (x0 : Int64) (x2 : Int64) (x7 : Int32) (Q : Int32 → Prop) (K : Int64 × Int32 → Prop) (a : Int64 × Int32) : Prop := w9_hangs_d31 K21 (fun y0 y1 => K (y0, y1)) x0 x2 a.1 x7 a.2 Q
def w9_hangs_b31 (K21 : Int64 → Int32 → Prop) (x0 : Int64) (x2 : Int64) (x5 : Int64) (x7 : Int32) (x8 : Int32) (Q : Int32 → Prop) : Prop := lp (w9_hangs_F31 K21 x0 x2 x7 Q) (x5, x8)
set_option maxHeartbeats 4000000 in
set_option maxRecDepth 100000 in
theorem b9_hangs_b31 {p : Program} {l : Launch} {e : Env} {s : State} {m : MethodId} {args : Array Value} {below : List Frame} {meth : Method} {c : Code} {D : va_G} {cy : Nat → ClassId} {A : Nat → Prop} {K21 : Int64 → Int32 → Prop} (x0 : Int64) (x2 : Int64) (x5 : Int64) (x7 : Int32) (x8 : Int32) {Q : Int32 → Prop} (C : Cx p s m args meth c cX9_hangs 10 (some .boolean) wsX9_hangs RX9 D cy nestWs A) (hK21 : ∀ (x5 : Int64) (x7 : Int32) (H : Heap) (locs : List Loc) (ls : Array Slot), K21 x5 x7 → GW D A s (([] : va_W)) H locs → lv_has ls 10 [(0, .long x0), (2, .long x2), (5, .long x5), (7, .int x7)] → W p l e ({ frames := 2, cells := 0, slots := 0, locals := 45 } : Room) s m args below meth c H locs 0 0 (MQ below (va_Qi (fun r _ => Q r) (B1 D (fun _ : Unit => ([] : va_W)) A) A) args s 0 0 A) (F0 m 21 ls [])) (h : w9_hangs_b31 K21 x0 x2 x5 x7 x8 Q) {H : Heap} {locs : List Loc} (hG : GW D A s (([] : va_W)) H locs) {ls : Array Slot} (hl : lv_has ls 10 [(0, .long x0), (2, .long x2), (5, .long x5), (7, .int x7), (8, .int x8)]) : W p l e ({ frames := 2, cells := 0, slots := 0, locals := 45 } : Room) s m args below meth c H locs 0 0 (MQ below (va_Qi (fun r _ => Q r) (B1 D (fun _ : Unit => ([] : va_W)) A) A) args s 0 0 A) (F0 m 31 ls []) := by
  obtain ⟨k, hn⟩ := h
  induction k generalizing x5 x8 H locs ls with
  | zero => exact hn.elim
  | succ k ih => exact b9_hangs_d31 (K21 := K21) (K31 := fun y0 y1 => itr (w9_hangs_F31 K21 x0 x2 x7 Q) k (y0, y1)) x0 x2 x5 x7 x8 C hK21 (fun x5 x8 H locs ls hk hG hl => ih x5 x8 hG hl hk) hn hG hl
def w9_hangs_d21 (K10 : Int64 → Int32 → Prop) (K21 : Int64 → Int32 → Prop) (x0 : Int64) (x2 : Int64) (x5 : Int64) (x7 : Int32) (Q : Int32 → Prop) : Prop :=
  (((64 : Int32) ≤ x7 → (((lg_cmp x5 x2) = 0 → w9_hangs_b101 K10 x0 x5 (0 : Int32) Q) ∧ (¬ (lg_cmp x5 x2) = 0 → w9_hangs_b101 K10 x0 x5 (1 : Int32) Q))) ∧ (¬ (64 : Int32) ≤ x7 → w9_hangs_b31 K21 x0 x2 x5 x7 (0 : Int32) Q))
set_option maxHeartbeats 4000000 in
set_option maxRecDepth 100000 in
theorem b9_hangs_d21 {p : Program} {l : Launch} {e : Env} {s : State} {m : MethodId} {args : Array Value} {below : List Frame} {meth : Method} {c : Code} {D : va_G} {cy : Nat → ClassId} {A : Nat → Prop} {K10 : Int64 → Int32 → Prop} {K21 : Int64 → Int32 → Prop} (x0 : Int64) (x2 : Int64) (x5 : Int64) (x7 : Int32) {Q : Int32 → Prop} (C : Cx p s m args meth c cX9_hangs 10 (some .boolean) wsX9_hangs RX9 D cy nestWs A) (hK10 : ∀ (x2 : Int64) (x4 : Int32) (H : Heap) (locs : List Loc) (ls : Array Slot), K10 x2 x4 → GW D A s (([] : va_W)) H locs → lv_has ls 10 [(0, .long x0), (2, .long x2), (4, .int x4)] → W p l e ({ frames := 2, cells := 0, slots := 0, locals := 45 } : Room) s m args below meth c H locs 0 0 (MQ below (va_Qi (fun r _ => Q r) (B1 D (fun _ : Unit => ([] : va_W)) A) A) args s 0 0 A) (F0 m 10 ls [])) (hK21 : ∀ (x5 : Int64) (x7 : Int32) (H : Heap) (locs : List Loc) (ls : Array Slot), K21 x5 x7 → GW D A s (([] : va_W)) H locs → lv_has ls 10 [(0, .long x0), (2, .long x2), (5, .long x5), (7, .int x7)] → W p l e ({ frames := 2, cells := 0, slots := 0, locals := 45 } : Room) s m args below meth c H locs 0 0 (MQ below (va_Qi (fun r _ => Q r) (B1 D (fun _ : Unit => ([] : va_W)) A) A) args s 0 0 A) (F0 m 21 ls [])) (h : w9_hangs_d21 K10 K21 x0 x2 x5 x7 Q) {H : Heap} {locs : List Loc} (hG : GW D A s (([] : va_W)) H locs) {ls : Array Slot} (hl : lv_has ls 10 [(0, .long x0), (2, .long x2), (5, .long x5), (7, .int x7)]) : W p l e ({ frames := 2, cells := 0, slots := 0, locals := 45 } : Room) s m args below meth c H locs 0 0 (MQ below (va_Qi (fun r _ => Q r) (B1 D (fun _ : Unit => ([] : va_W)) A) A) args s 0 0 A) (F0 m 21 ls []) := by
  have hx := C.1
  have hb := C.2.1
  unfold w9_hangs_d21 at h
  refine lv_iload hx hb dX9_hangs_21 (lv_at hl 3 rfl) ?_
  refine lv_bipush (v := 64) hx hb dX9_hangs_23 (by decide) ?_
  refine lv_icmp_ge (tgt := 89) hx hb dX9_hangs_25 (by decide) (fun c1 => ?_) (fun c1 => ?_)
  · replace h := h.1 c1
    refine lv_lload hx hb dX9_hangs_89 (lv_at hl 2 rfl) ?_
    refine lv_lload_n hx hb dX9_hangs_91 rfl (lv_at hl 1 rfl) ?_
    refine W.lcmp hx hb dX9_hangs_92 ?_
    refine lv_if_eq (tgt := 100) hx hb dX9_hangs_93 (by decide) (fun c2 => ?_) (fun c2 => ?_)
    · replace h := h.1 c2
      refine lv_iconst (v := 0) hx hb dX9_hangs_100 (by decide) ?_
      exact b9_hangs_b101 (K10 := K10) x0 x5 (0 : Int32) C hK10 h hG (lv_sub hl [0, 2] rfl)
    · replace h := h.2 c2
      refine lv_iconst (v := 1) hx hb dX9_hangs_96 (by decide) ?_
      refine lv_goto (tgt := 101) hx hb dX9_hangs_97 (by decide) ?_
      exact b9_hangs_b101 (K10 := K10) x0 x5 (1 : Int32) C hK10 h hG (lv_sub hl [0, 2] rfl)
  · replace h := h.2 c1
    refine lv_iconst (v := 0) hx hb dX9_hangs_28 (by decide) ?_
    refine lv_istore (lv' := [(8, .int (0 : Int32)), (0, .long x0), (2, .long x2), (5, .long x5), (7, .int x7)]) hx hb dX9_hangs_29 hl (by decide) rfl (fun ls hl => ?_)
    exact b9_hangs_b31 (K21 := K21) x0 x2 x5 x7 (0 : Int32) C hK21 h hG (lv_sub hl [1, 2, 3, 4, 0] rfl)
def w9_hangs_F21 (K10 : Int64 → Int32 → Prop) (x0 : Int64) (x2 : Int64) (Q : Int32 → Prop) (K : Int64 × Int32 → Prop) (a : Int64 × Int32) : Prop := w9_hangs_d21 K10 (fun y0 y1 => K (y0, y1)) x0 x2 a.1 a.2 Q
def w9_hangs_b21 (K10 : Int64 → Int32 → Prop) (x0 : Int64) (x2 : Int64) (x5 : Int64) (x7 : Int32) (Q : Int32 → Prop) : Prop := lp (w9_hangs_F21 K10 x0 x2 Q) (x5, x7)
set_option maxHeartbeats 4000000 in
set_option maxRecDepth 100000 in
theorem b9_hangs_b21 {p : Program} {l : Launch} {e : Env} {s : State} {m : MethodId} {args : Array Value} {below : List Frame} {meth : Method} {c : Code} {D : va_G} {cy : Nat → ClassId} {A : Nat → Prop} {K10 : Int64 → Int32 → Prop} (x0 : Int64) (x2 : Int64) (x5 : Int64) (x7 : Int32) {Q : Int32 → Prop} (C : Cx p s m args meth c cX9_hangs 10 (some .boolean) wsX9_hangs RX9 D cy nestWs A) (hK10 : ∀ (x2 : Int64) (x4 : Int32) (H : Heap) (locs : List Loc) (ls : Array Slot), K10 x2 x4 → GW D A s (([] : va_W)) H locs → lv_has ls 10 [(0, .long x0), (2, .long x2), (4, .int x4)] → W p l e ({ frames := 2, cells := 0, slots := 0, locals := 45 } : Room) s m args below meth c H locs 0 0 (MQ below (va_Qi (fun r _ => Q r) (B1 D (fun _ : Unit => ([] : va_W)) A) A) args s 0 0 A) (F0 m 10 ls [])) (h : w9_hangs_b21 K10 x0 x2 x5 x7 Q) {H : Heap} {locs : List Loc} (hG : GW D A s (([] : va_W)) H locs) {ls : Array Slot} (hl : lv_has ls 10 [(0, .long x0), (2, .long x2), (5, .long x5), (7, .int x7)]) : W p l e ({ frames := 2, cells := 0, slots := 0, locals := 45 } : Room) s m args below meth c H locs 0 0 (MQ below (va_Qi (fun r _ => Q r) (B1 D (fun _ : Unit => ([] : va_W)) A) A) args s 0 0 A) (F0 m 21 ls []) := by
  obtain ⟨k, hn⟩ := h
  induction k generalizing x5 x7 H locs ls with
  | zero => exact hn.elim
  | succ k ih => exact b9_hangs_d21 (K10 := K10) (K21 := fun y0 y1 => itr (w9_hangs_F21 K10 x0 x2 Q) k (y0, y1)) x0 x2 x5 x7 C hK10 (fun x5 x7 H locs ls hk hG hl => ih x5 x7 hG hl hk) hn hG hl
def w9_hangs_d10 (K10 : Int64 → Int32 → Prop) (x0 : Int64) (x2 : Int64) (x4 : Int32) (Q : Int32 → Prop) : Prop :=
  ((x4 = 0 → ((¬ (lg_cmp x2 x0) = 0 → w9_hangs_b120 (0 : Int32) Q) ∧ ((lg_cmp x2 x0) = 0 → w9_hangs_b120 (1 : Int32) Q))) ∧ (¬ x4 = 0 → w9_hangs_b21 K10 x0 x2 x2 (0 : Int32) Q))
set_option maxHeartbeats 4000000 in
set_option maxRecDepth 100000 in
theorem b9_hangs_d10 {p : Program} {l : Launch} {e : Env} {s : State} {m : MethodId} {args : Array Value} {below : List Frame} {meth : Method} {c : Code} {D : va_G} {cy : Nat → ClassId} {A : Nat → Prop} {K10 : Int64 → Int32 → Prop} (x0 : Int64) (x2 : Int64) (x4 : Int32) {Q : Int32 → Prop} (C : Cx p s m args meth c cX9_hangs 10 (some .boolean) wsX9_hangs RX9 D cy nestWs A) (hK10 : ∀ (x2 : Int64) (x4 : Int32) (H : Heap) (locs : List Loc) (ls : Array Slot), K10 x2 x4 → GW D A s (([] : va_W)) H locs → lv_has ls 10 [(0, .long x0), (2, .long x2), (4, .int x4)] → W p l e ({ frames := 2, cells := 0, slots := 0, locals := 45 } : Room) s m args below meth c H locs 0 0 (MQ below (va_Qi (fun r _ => Q r) (B1 D (fun _ : Unit => ([] : va_W)) A) A) args s 0 0 A) (F0 m 10 ls [])) (h : w9_hangs_d10 K10 x0 x2 x4 Q) {H : Heap} {locs : List Loc} (hG : GW D A s (([] : va_W)) H locs) {ls : Array Slot} (hl : lv_has ls 10 [(0, .long x0), (2, .long x2), (4, .int x4)]) : W p l e ({ frames := 2, cells := 0, slots := 0, locals := 45 } : Room) s m args below meth c H locs 0 0 (MQ below (va_Qi (fun r _ => Q r) (B1 D (fun _ : Unit => ([] : va_W)) A) A) args s 0 0 A) (F0 m 10 ls []) := by
  have hx := C.1
  have hb := C.2.1
  unfold w9_hangs_d10 at h
  refine lv_iload hx hb dX9_hangs_10 (lv_at hl 2 rfl) ?_
  refine lv_if_eq (tgt := 109) hx hb dX9_hangs_12 (by decide) (fun c1 => ?_) (fun c1 => ?_)
  · replace h := h.1 c1
    refine lv_lload_n hx hb dX9_hangs_109 rfl (lv_at hl 1 rfl) ?_
    refine lv_lload_n hx hb dX9_hangs_110 rfl (lv_at hl 0 rfl) ?_
    refine W.lcmp hx hb dX9_hangs_111 ?_
    refine lv_if_ne (tgt := 119) hx hb dX9_hangs_112 (by decide) (fun c2 => ?_) (fun c2 => ?_)
    · replace h := h.1 c2
      refine lv_iconst (v := 0) hx hb dX9_hangs_119 (by decide) ?_
      exact b9_hangs_b120 (0 : Int32) C h hG (lv_sub hl [] rfl)
    · replace h := h.2 c2
      refine lv_iconst (v := 1) hx hb dX9_hangs_115 (by decide) ?_
      refine lv_goto (tgt := 120) hx hb dX9_hangs_116 (by decide) ?_
      exact b9_hangs_b120 (1 : Int32) C h hG (lv_sub hl [] rfl)
  · replace h := h.2 c1
    refine lv_lload_n hx hb dX9_hangs_15 rfl (lv_at hl 1 rfl) ?_
    refine lv_lstore (lv' := [(5, .long x2), (0, .long x0), (2, .long x2), (4, .int x4)]) hx hb dX9_hangs_16 hl (by decide) rfl (fun ls hl => ?_)
    refine lv_iconst (v := 0) hx hb dX9_hangs_18 (by decide) ?_
    refine lv_istore (lv' := [(7, .int (0 : Int32)), (5, .long x2), (0, .long x0), (2, .long x2), (4, .int x4)]) hx hb dX9_hangs_19 hl (by decide) rfl (fun ls hl => ?_)
    exact b9_hangs_b21 (K10 := K10) x0 x2 x2 (0 : Int32) C hK10 h hG (lv_sub hl [2, 3, 1, 0] rfl)
def w9_hangs_F10 (x0 : Int64) (Q : Int32 → Prop) (K : Int64 × Int32 → Prop) (a : Int64 × Int32) : Prop := w9_hangs_d10 (fun y0 y1 => K (y0, y1)) x0 a.1 a.2 Q
def w9_hangs_b10 (x0 : Int64) (x2 : Int64) (x4 : Int32) (Q : Int32 → Prop) : Prop := lp (w9_hangs_F10 x0 Q) (x2, x4)
set_option maxHeartbeats 4000000 in
set_option maxRecDepth 100000 in
theorem b9_hangs_b10 {p : Program} {l : Launch} {e : Env} {s : State} {m : MethodId} {args : Array Value} {below : List Frame} {meth : Method} {c : Code} {D : va_G} {cy : Nat → ClassId} {A : Nat → Prop} (x0 : Int64) (x2 : Int64) (x4 : Int32) {Q : Int32 → Prop} (C : Cx p s m args meth c cX9_hangs 10 (some .boolean) wsX9_hangs RX9 D cy nestWs A) (h : w9_hangs_b10 x0 x2 x4 Q) {H : Heap} {locs : List Loc} (hG : GW D A s (([] : va_W)) H locs) {ls : Array Slot} (hl : lv_has ls 10 [(0, .long x0), (2, .long x2), (4, .int x4)]) : W p l e ({ frames := 2, cells := 0, slots := 0, locals := 45 } : Room) s m args below meth c H locs 0 0 (MQ below (va_Qi (fun r _ => Q r) (B1 D (fun _ : Unit => ([] : va_W)) A) A) args s 0 0 A) (F0 m 10 ls []) := by
  obtain ⟨k, hn⟩ := h
  induction k generalizing x2 x4 H locs ls with
  | zero => exact hn.elim
  | succ k ih => exact b9_hangs_d10 (K10 := fun y0 y1 => itr (w9_hangs_F10 x0 Q) k (y0, y1)) x0 x2 x4 C (fun x2 x4 H locs ls hk hG hl => ih x2 x4 hG hl hk) hn hG hl
def w9_hangs (x0 : Int64) (Q : Int32 → Prop) : Prop :=
  w9_leastOf x0 (fun r1 => ∀ y2 : Int64, y2 = ((1 : Int64) <<< (r1.toInt64 &&& 63)) → w9_hangs_b10 x0 y2 (1 : Int32) Q)
set_option maxHeartbeats 4000000 in
set_option maxRecDepth 100000 in
theorem c9_hangs (l : Launch) (D : va_G) (cy : Nat → ClassId)  (x0 : Int64) (Q : Int32 → Prop) (h : w9_hangs x0 Q) : MetI l yX9_hangs wsX9_hangs ({ frames := 2, cells := 0, slots := 0, locals := 45 } : Room) D cy nestWs (fun _ : Unit => ([] : va_W)) [.long x0] () (fun r _ => Q r) := by
  refine MetI.mk RX9 cX9_hangs 10 .boolean (by decide) rfl nestWs_ok rfl (Nat.le_of_ble_eq_true rfl) ?_
  intro p e s m below meth c A ls C hG hl
  have hl : lv_has ls 10 [(0, .long x0)] := hl
  have hx := C.1
  have hb := C.2.1
  unfold w9_hangs at h
  refine lv_lconst (v := 1) hx hb dX9_hangs_0 (by decide) ?_
  refine lv_lload_n hx hb dX9_hangs_1 rfl (lv_at hl 0 rfl) ?_
  refine callSI (As := [.long x0]) (rest := [.long (1 : Int64)]) C hG (c9_leastOf l D cy x0 _ h) 1 gX9_hangs_X9_leastOf rfl (by decide +kernel) ⟨⟨Nat.le_of_ble_eq_true rfl, Nat.le_of_ble_eq_true rfl⟩, rfl, rfl⟩ (Foc.none C.2.2.2.2.2.2.2.2.1) rfl hl.1 rfl (Nat.le_of_ble_eq_true rfl) dX9_hangs_2 ⟨Nat.zero_le _, Nat.zero_le _⟩ (fun r1 z H locs h hG => ?_)
  refine lv_lshl hx hb dX9_hangs_5 rfl ?_
  refine lv_topl (fun y2 ey2 => ?_)
  replace h := h y2 ey2
  refine lv_lstore_n (lv' := [(2, .long y2), (0, .long x0)]) hx hb dX9_hangs_6 rfl hl (by decide) rfl (fun ls hl => ?_)
  refine lv_iconst (v := 1) hx hb dX9_hangs_7 (by decide) ?_
  refine lv_istore (lv' := [(4, .int (1 : Int32)), (2, .long y2), (0, .long x0)]) hx hb dX9_hangs_8 hl (by decide) rfl (fun ls hl => ?_)
  exact b9_hangs_b10 x0 y2 (1 : Int32) C h hG (lv_sub hl [2, 1, 0] rfl)
-- X9_setEnds
theorem i9_setEnds_X9 : ∀ w ∈ wsX90, w ∈ wsX9_setEnds := fun w h => List.mem_cons_of_mem _ (inG_X9 w h)
theorem k9_setEnds_23 : Cond.fieldLink RX9 23 "PaperBodiesModel" "ends" "[I" ∈ wsX9_setEnds := (List.mem_cons_of_mem _ mw_541)
def w9_setEnds_b174 (K32 : Int32 → MS → Prop) (x1 : Int64) (x3 : Int32) (S : MS) (Q : MS → Prop) : Prop :=
  ∀ y1 : Int32, y1 = x3 + 1 → K32 y1 S
set_option maxHeartbeats 4000000 in
set_option maxRecDepth 100000 in
theorem b9_setEnds_b174 {p : Program} {l : Launch} {e : Env} {s : State} {m : MethodId} {args : Array Value} {below : List Frame} {meth : Method} {c : Code} {D : va_G} {cy : Nat → ClassId} {A : Nat → Prop} {o : Nat} {q : Nat → Nat} {K32 : Int32 → MS → Prop} (x1 : Int64) (x3 : Int32) (S : MS) {Q : MS → Prop} (C : Cx p s m args meth c cX9_setEnds 4 (none) wsX9_setEnds RX9 D cy nestWs A) (hK32 : ∀ (x3 : Int32) (S : MS) (H : Heap) (locs : List Loc) (ls : Array Slot), K32 x3 S → GW D A s (w9 o q cy S) H locs → lv_has ls 4 [(0, .ref o), (1, .long x1), (3, .int x3)] → W p l e ({ frames := 1, cells := 0, slots := 0, locals := 22 } : Room) s m args below meth c H locs 0 0 (MQ below (va_Qv Q (B1 D (w9 o q cy) A) A) args s 0 0 A) (F0 m 32 ls [])) (h : w9_setEnds_b174 K32 x1 x3 S Q) {H : Heap} {locs : List Loc} (hG : GW D A s (w9 o q cy S) H locs) {ls : Array Slot} (hl : lv_has ls 4 [(0, .ref o), (1, .long x1), (3, .int x3)]) : W p l e ({ frames := 1, cells := 0, slots := 0, locals := 22 } : Room) s m args below meth c H locs 0 0 (MQ below (va_Qv Q (B1 D (w9 o q cy) A) A) args s 0 0 A) (F0 m 174 ls []) := by
  have hx := C.1
  have hb := C.2.1
  unfold w9_setEnds_b174 at h
  obtain ⟨y1, ey1⟩ : ∃ y : Int32, y = x3 + 1 := ⟨_, rfl⟩
  replace h := h y1 ey1
  refine lv_iinc (v := y1) (lv' := [(3, .int y1), (0, .ref o), (1, .long x1)]) hx hb dX9_setEnds_174 hl (k := 2) rfl (by rw [ey1]; rfl) (by decide) rfl (fun ls hl => ?_)
  refine lv_goto (tgt := 32) hx hb dX9_setEnds_177 (by decide) ?_
  exact hK32 y1 S _ _ _ h hG (lv_sub hl [1, 2, 0] rfl)
def w9_setEnds_b173 (K32 : Int32 → MS → Prop) (x1 : Int64) (x3 : Int32) (t1 : Int32) (t2 : Int32) (S : MS) (Q : MS → Prop) : Prop :=
  vp_in t1 4 ∧ ∀ S2 : MS, S2 = sA S 6 t1 t2 → w9_setEnds_b174 K32 x1 x3 S2 Q
set_option maxHeartbeats 4000000 in
set_option maxRecDepth 100000 in
theorem b9_setEnds_b173 {p : Program} {l : Launch} {e : Env} {s : State} {m : MethodId} {args : Array Value} {below : List Frame} {meth : Method} {c : Code} {D : va_G} {cy : Nat → ClassId} {A : Nat → Prop} {o : Nat} {q : Nat → Nat} {K32 : Int32 → MS → Prop} (x1 : Int64) (x3 : Int32) (t1 : Int32) (t2 : Int32) (S : MS) {Q : MS → Prop} (C : Cx p s m args meth c cX9_setEnds 4 (none) wsX9_setEnds RX9 D cy nestWs A) (hK32 : ∀ (x3 : Int32) (S : MS) (H : Heap) (locs : List Loc) (ls : Array Slot), K32 x3 S → GW D A s (w9 o q cy S) H locs → lv_has ls 4 [(0, .ref o), (1, .long x1), (3, .int x3)] → W p l e ({ frames := 1, cells := 0, slots := 0, locals := 22 } : Room) s m args below meth c H locs 0 0 (MQ below (va_Qv Q (B1 D (w9 o q cy) A) A) args s 0 0 A) (F0 m 32 ls [])) (h : w9_setEnds_b173 K32 x1 x3 t1 t2 S Q) {H : Heap} {locs : List Loc} (hG : GW D A s (w9 o q cy S) H locs) {ls : Array Slot} (hl : lv_has ls 4 [(0, .ref o), (1, .long x1), (3, .int x3)]) : W p l e ({ frames := 1, cells := 0, slots := 0, locals := 22 } : Room) s m args below meth c H locs 0 0 (MQ below (va_Qv Q (B1 D (w9 o q cy) A) A) args s 0 0 A) (F0 m 173 ls [.int t2, .int t1, .ref (q 6)]) := by
  have hx := C.1
  have hb := C.2.1
  unfold w9_setEnds_b173 at h
  obtain ⟨hv1, h⟩ := h
  refine x9s_6 C hG hv1 dX9_setEnds_173 (fun S2 eS2 H locs hG => ?_)
  replace h := h S2 eS2
  exact b9_setEnds_b174 (K32 := K32) x1 x3 S2 C hK32 h hG hl
def w9_setEnds_b141 (K32 : Int32 → MS → Prop) (x1 : Int64) (x3 : Int32) (t1 : Int32) (t2 : Int32) (S : MS) (Q : MS → Prop) : Prop :=
  vp_in t1 4 ∧ ∀ S2 : MS, S2 = sA S 6 t1 t2 → (((x3 / (8 : Int32)) ≤ (rA S2 6 (3 : Int32)) → w9_setEnds_b173 K32 x1 x3 (3 : Int32) (rA S2 6 (3 : Int32)) S2 Q) ∧ (¬ (x3 / (8 : Int32)) ≤ (rA S2 6 (3 : Int32)) → w9_setEnds_b173 K32 x1 x3 (3 : Int32) (x3 / (8 : Int32)) S2 Q))
set_option maxHeartbeats 4000000 in
set_option maxRecDepth 100000 in
theorem b9_setEnds_b141 {p : Program} {l : Launch} {e : Env} {s : State} {m : MethodId} {args : Array Value} {below : List Frame} {meth : Method} {c : Code} {D : va_G} {cy : Nat → ClassId} {A : Nat → Prop} {o : Nat} {q : Nat → Nat} {K32 : Int32 → MS → Prop} (x1 : Int64) (x3 : Int32) (t1 : Int32) (t2 : Int32) (S : MS) {Q : MS → Prop} (C : Cx p s m args meth c cX9_setEnds 4 (none) wsX9_setEnds RX9 D cy nestWs A) (hK32 : ∀ (x3 : Int32) (S : MS) (H : Heap) (locs : List Loc) (ls : Array Slot), K32 x3 S → GW D A s (w9 o q cy S) H locs → lv_has ls 4 [(0, .ref o), (1, .long x1), (3, .int x3)] → W p l e ({ frames := 1, cells := 0, slots := 0, locals := 22 } : Room) s m args below meth c H locs 0 0 (MQ below (va_Qv Q (B1 D (w9 o q cy) A) A) args s 0 0 A) (F0 m 32 ls [])) (h : w9_setEnds_b141 K32 x1 x3 t1 t2 S Q) {H : Heap} {locs : List Loc} (hG : GW D A s (w9 o q cy S) H locs) {ls : Array Slot} (hl : lv_has ls 4 [(0, .ref o), (1, .long x1), (3, .int x3)]) : W p l e ({ frames := 1, cells := 0, slots := 0, locals := 22 } : Room) s m args below meth c H locs 0 0 (MQ below (va_Qv Q (B1 D (w9 o q cy) A) A) args s 0 0 A) (F0 m 141 ls [.int t2, .int t1, .ref (q 6)]) := by
  have hx := C.1
  have hb := C.2.1
  unfold w9_setEnds_b141 at h
  obtain ⟨hv1, h⟩ := h
  refine x9s_6 C hG hv1 dX9_setEnds_141 (fun S2 eS2 H locs hG => ?_)
  replace h := h S2 eS2
  refine lv_aload_n hx hb dX9_setEnds_142 rfl (lv_at hl 0 rfl) ?_
  refine x9g_6 C i9_setEnds_X9 k9_setEnds_23 hG dX9_setEnds_143 ?_
  refine lv_iconst (v := 3) hx hb dX9_setEnds_146 (by decide) ?_
  refine lv_iload_n hx hb dX9_setEnds_147 rfl (lv_at hl 2 rfl) ?_
  refine lv_bipush (v := 8) hx hb dX9_setEnds_148 (by decide) ?_
  refine lv_idiv hx hb dX9_setEnds_150 (by decide) ?_
  refine lv_aload_n hx hb dX9_setEnds_151 rfl (lv_at hl 0 rfl) ?_
  refine x9g_6 C i9_setEnds_X9 k9_setEnds_23 hG dX9_setEnds_152 ?_
  refine lv_iconst (v := 3) hx hb dX9_setEnds_155 (by decide) ?_
  refine x9l_6 C hG (by unfold vp_in; decide) dX9_setEnds_156 ?_
  refine lv_icmp_le (tgt := 167) hx hb dX9_setEnds_157 (by decide) (fun c3 => ?_) (fun c3 => ?_)
  · replace h := h.1 c3
    refine lv_aload_n hx hb dX9_setEnds_167 rfl (lv_at hl 0 rfl) ?_
    refine x9g_6 C i9_setEnds_X9 k9_setEnds_23 hG dX9_setEnds_168 ?_
    refine lv_iconst (v := 3) hx hb dX9_setEnds_171 (by decide) ?_
    refine x9l_6 C hG (by unfold vp_in; decide) dX9_setEnds_172 ?_
    exact b9_setEnds_b173 (K32 := K32) x1 x3 (3 : Int32) (rA S2 6 (3 : Int32)) S2 C hK32 h hG hl
  · replace h := h.2 c3
    refine lv_iload_n hx hb dX9_setEnds_160 rfl (lv_at hl 2 rfl) ?_
    refine lv_bipush (v := 8) hx hb dX9_setEnds_161 (by decide) ?_
    refine lv_idiv hx hb dX9_setEnds_163 (by decide) ?_
    refine lv_goto (tgt := 173) hx hb dX9_setEnds_164 (by decide) ?_
    exact b9_setEnds_b173 (K32 := K32) x1 x3 (3 : Int32) (x3 / (8 : Int32)) S2 C hK32 h hG hl
def w9_setEnds_b109 (K32 : Int32 → MS → Prop) (x1 : Int64) (x3 : Int32) (t1 : Int32) (t2 : Int32) (S : MS) (Q : MS → Prop) : Prop :=
  vp_in t1 4 ∧ ∀ S2 : MS, S2 = sA S 6 t1 t2 → (((rA S2 6 (2 : Int32)) ≤ (x3 / (8 : Int32)) → w9_setEnds_b141 K32 x1 x3 (2 : Int32) (rA S2 6 (2 : Int32)) S2 Q) ∧ (¬ (rA S2 6 (2 : Int32)) ≤ (x3 / (8 : Int32)) → w9_setEnds_b141 K32 x1 x3 (2 : Int32) (x3 / (8 : Int32)) S2 Q))
set_option maxHeartbeats 4000000 in
set_option maxRecDepth 100000 in
theorem b9_setEnds_b109 {p : Program} {l : Launch} {e : Env} {s : State} {m : MethodId} {args : Array Value} {below : List Frame} {meth : Method} {c : Code} {D : va_G} {cy : Nat → ClassId} {A : Nat → Prop} {o : Nat} {q : Nat → Nat} {K32 : Int32 → MS → Prop} (x1 : Int64) (x3 : Int32) (t1 : Int32) (t2 : Int32) (S : MS) {Q : MS → Prop} (C : Cx p s m args meth c cX9_setEnds 4 (none) wsX9_setEnds RX9 D cy nestWs A) (hK32 : ∀ (x3 : Int32) (S : MS) (H : Heap) (locs : List Loc) (ls : Array Slot), K32 x3 S → GW D A s (w9 o q cy S) H locs → lv_has ls 4 [(0, .ref o), (1, .long x1), (3, .int x3)] → W p l e ({ frames := 1, cells := 0, slots := 0, locals := 22 } : Room) s m args below meth c H locs 0 0 (MQ below (va_Qv Q (B1 D (w9 o q cy) A) A) args s 0 0 A) (F0 m 32 ls [])) (h : w9_setEnds_b109 K32 x1 x3 t1 t2 S Q) {H : Heap} {locs : List Loc} (hG : GW D A s (w9 o q cy S) H locs) {ls : Array Slot} (hl : lv_has ls 4 [(0, .ref o), (1, .long x1), (3, .int x3)]) : W p l e ({ frames := 1, cells := 0, slots := 0, locals := 22 } : Room) s m args below meth c H locs 0 0 (MQ below (va_Qv Q (B1 D (w9 o q cy) A) A) args s 0 0 A) (F0 m 109 ls [.int t2, .int t1, .ref (q 6)]) := by
  have hx := C.1
  have hb := C.2.1
  unfold w9_setEnds_b109 at h
  obtain ⟨hv1, h⟩ := h
  refine x9s_6 C hG hv1 dX9_setEnds_109 (fun S2 eS2 H locs hG => ?_)
  replace h := h S2 eS2
  refine lv_aload_n hx hb dX9_setEnds_110 rfl (lv_at hl 0 rfl) ?_
  refine x9g_6 C i9_setEnds_X9 k9_setEnds_23 hG dX9_setEnds_111 ?_
  refine lv_iconst (v := 2) hx hb dX9_setEnds_114 (by decide) ?_
  refine lv_iload_n hx hb dX9_setEnds_115 rfl (lv_at hl 2 rfl) ?_
  refine lv_bipush (v := 8) hx hb dX9_setEnds_116 (by decide) ?_
  refine lv_idiv hx hb dX9_setEnds_118 (by decide) ?_
  refine lv_aload_n hx hb dX9_setEnds_119 rfl (lv_at hl 0 rfl) ?_
  refine x9g_6 C i9_setEnds_X9 k9_setEnds_23 hG dX9_setEnds_120 ?_
  refine lv_iconst (v := 2) hx hb dX9_setEnds_123 (by decide) ?_
  refine x9l_6 C hG (by unfold vp_in; decide) dX9_setEnds_124 ?_
  refine lv_icmp_ge (tgt := 135) hx hb dX9_setEnds_125 (by decide) (fun c3 => ?_) (fun c3 => ?_)
  · replace h := h.1 c3
    refine lv_aload_n hx hb dX9_setEnds_135 rfl (lv_at hl 0 rfl) ?_
    refine x9g_6 C i9_setEnds_X9 k9_setEnds_23 hG dX9_setEnds_136 ?_
    refine lv_iconst (v := 2) hx hb dX9_setEnds_139 (by decide) ?_
    refine x9l_6 C hG (by unfold vp_in; decide) dX9_setEnds_140 ?_
    exact b9_setEnds_b141 (K32 := K32) x1 x3 (2 : Int32) (rA S2 6 (2 : Int32)) S2 C hK32 h hG hl
  · replace h := h.2 c3
    refine lv_iload_n hx hb dX9_setEnds_128 rfl (lv_at hl 2 rfl) ?_
    refine lv_bipush (v := 8) hx hb dX9_setEnds_129 (by decide) ?_
    refine lv_idiv hx hb dX9_setEnds_131 (by decide) ?_
    refine lv_goto (tgt := 141) hx hb dX9_setEnds_132 (by decide) ?_
    exact b9_setEnds_b141 (K32 := K32) x1 x3 (2 : Int32) (x3 / (8 : Int32)) S2 C hK32 h hG hl
def w9_setEnds_b77 (K32 : Int32 → MS → Prop) (x1 : Int64) (x3 : Int32) (t1 : Int32) (t2 : Int32) (S : MS) (Q : MS → Prop) : Prop :=
  vp_in t1 4 ∧ ∀ S2 : MS, S2 = sA S 6 t1 t2 → (((x3 - x3 / (8 : Int32) * (8 : Int32)) ≤ (rA S2 6 (1 : Int32)) → w9_setEnds_b109 K32 x1 x3 (1 : Int32) (rA S2 6 (1 : Int32)) S2 Q) ∧ (¬ (x3 - x3 / (8 : Int32) * (8 : Int32)) ≤ (rA S2 6 (1 : Int32)) → w9_setEnds_b109 K32 x1 x3 (1 : Int32) (x3 - x3 / (8 : Int32) * (8 : Int32)) S2 Q))
set_option maxHeartbeats 4000000 in
set_option maxRecDepth 100000 in
theorem b9_setEnds_b77 {p : Program} {l : Launch} {e : Env} {s : State} {m : MethodId} {args : Array Value} {below : List Frame} {meth : Method} {c : Code} {D : va_G} {cy : Nat → ClassId} {A : Nat → Prop} {o : Nat} {q : Nat → Nat} {K32 : Int32 → MS → Prop} (x1 : Int64) (x3 : Int32) (t1 : Int32) (t2 : Int32) (S : MS) {Q : MS → Prop} (C : Cx p s m args meth c cX9_setEnds 4 (none) wsX9_setEnds RX9 D cy nestWs A) (hK32 : ∀ (x3 : Int32) (S : MS) (H : Heap) (locs : List Loc) (ls : Array Slot), K32 x3 S → GW D A s (w9 o q cy S) H locs → lv_has ls 4 [(0, .ref o), (1, .long x1), (3, .int x3)] → W p l e ({ frames := 1, cells := 0, slots := 0, locals := 22 } : Room) s m args below meth c H locs 0 0 (MQ below (va_Qv Q (B1 D (w9 o q cy) A) A) args s 0 0 A) (F0 m 32 ls [])) (h : w9_setEnds_b77 K32 x1 x3 t1 t2 S Q) {H : Heap} {locs : List Loc} (hG : GW D A s (w9 o q cy S) H locs) {ls : Array Slot} (hl : lv_has ls 4 [(0, .ref o), (1, .long x1), (3, .int x3)]) : W p l e ({ frames := 1, cells := 0, slots := 0, locals := 22 } : Room) s m args below meth c H locs 0 0 (MQ below (va_Qv Q (B1 D (w9 o q cy) A) A) args s 0 0 A) (F0 m 77 ls [.int t2, .int t1, .ref (q 6)]) := by
  have hx := C.1
  have hb := C.2.1
  unfold w9_setEnds_b77 at h
  obtain ⟨hv1, h⟩ := h
  refine x9s_6 C hG hv1 dX9_setEnds_77 (fun S2 eS2 H locs hG => ?_)
  replace h := h S2 eS2
  refine lv_aload_n hx hb dX9_setEnds_78 rfl (lv_at hl 0 rfl) ?_
  refine x9g_6 C i9_setEnds_X9 k9_setEnds_23 hG dX9_setEnds_79 ?_
  refine lv_iconst (v := 1) hx hb dX9_setEnds_82 (by decide) ?_
  refine lv_iload_n hx hb dX9_setEnds_83 rfl (lv_at hl 2 rfl) ?_
  refine lv_bipush (v := 8) hx hb dX9_setEnds_84 (by decide) ?_
  refine lv_irem hx hb dX9_setEnds_86 (by decide) ?_
  refine lv_aload_n hx hb dX9_setEnds_87 rfl (lv_at hl 0 rfl) ?_
  refine x9g_6 C i9_setEnds_X9 k9_setEnds_23 hG dX9_setEnds_88 ?_
  refine lv_iconst (v := 1) hx hb dX9_setEnds_91 (by decide) ?_
  refine x9l_6 C hG (by unfold vp_in; decide) dX9_setEnds_92 ?_
  refine lv_icmp_le (tgt := 103) hx hb dX9_setEnds_93 (by decide) (fun c3 => ?_) (fun c3 => ?_)
  · replace h := h.1 c3
    refine lv_aload_n hx hb dX9_setEnds_103 rfl (lv_at hl 0 rfl) ?_
    refine x9g_6 C i9_setEnds_X9 k9_setEnds_23 hG dX9_setEnds_104 ?_
    refine lv_iconst (v := 1) hx hb dX9_setEnds_107 (by decide) ?_
    refine x9l_6 C hG (by unfold vp_in; decide) dX9_setEnds_108 ?_
    exact b9_setEnds_b109 (K32 := K32) x1 x3 (1 : Int32) (rA S2 6 (1 : Int32)) S2 C hK32 h hG hl
  · replace h := h.2 c3
    refine lv_iload_n hx hb dX9_setEnds_96 rfl (lv_at hl 2 rfl) ?_
    refine lv_bipush (v := 8) hx hb dX9_setEnds_97 (by decide) ?_
    refine lv_irem hx hb dX9_setEnds_99 (by decide) ?_
    refine lv_goto (tgt := 109) hx hb dX9_setEnds_100 (by decide) ?_
    exact b9_setEnds_b109 (K32 := K32) x1 x3 (1 : Int32) (x3 - x3 / (8 : Int32) * (8 : Int32)) S2 C hK32 h hG hl
def w9_setEnds_d32 (K32 : Int32 → MS → Prop) (x1 : Int64) (x3 : Int32) (S : MS) (Q : MS → Prop) : Prop :=
  (((64 : Int32) ≤ x3 → Q S) ∧ (¬ (64 : Int32) ≤ x3 → w9_has x1 x3 (fun r2 => ((r2 = 0 → w9_setEnds_b174 K32 x1 x3 S Q) ∧ (¬ r2 = 0 → (((rA S 6 (0 : Int32)) ≤ (x3 - x3 / (8 : Int32) * (8 : Int32)) → w9_setEnds_b77 K32 x1 x3 (0 : Int32) (rA S 6 (0 : Int32)) S Q) ∧ (¬ (rA S 6 (0 : Int32)) ≤ (x3 - x3 / (8 : Int32) * (8 : Int32)) → w9_setEnds_b77 K32 x1 x3 (0 : Int32) (x3 - x3 / (8 : Int32) * (8 : Int32)) S Q)))))))
set_option maxHeartbeats 4000000 in
set_option maxRecDepth 100000 in
theorem b9_setEnds_d32 {p : Program} {l : Launch} {e : Env} {s : State} {m : MethodId} {args : Array Value} {below : List Frame} {meth : Method} {c : Code} {D : va_G} {cy : Nat → ClassId} {A : Nat → Prop} {o : Nat} {q : Nat → Nat} {K32 : Int32 → MS → Prop} (x1 : Int64) (x3 : Int32) (S : MS) {Q : MS → Prop} (C : Cx p s m args meth c cX9_setEnds 4 (none) wsX9_setEnds RX9 D cy nestWs A) (hK32 : ∀ (x3 : Int32) (S : MS) (H : Heap) (locs : List Loc) (ls : Array Slot), K32 x3 S → GW D A s (w9 o q cy S) H locs → lv_has ls 4 [(0, .ref o), (1, .long x1), (3, .int x3)] → W p l e ({ frames := 1, cells := 0, slots := 0, locals := 22 } : Room) s m args below meth c H locs 0 0 (MQ below (va_Qv Q (B1 D (w9 o q cy) A) A) args s 0 0 A) (F0 m 32 ls [])) (h : w9_setEnds_d32 K32 x1 x3 S Q) {H : Heap} {locs : List Loc} (hG : GW D A s (w9 o q cy S) H locs) {ls : Array Slot} (hl : lv_has ls 4 [(0, .ref o), (1, .long x1), (3, .int x3)]) : W p l e ({ frames := 1, cells := 0, slots := 0, locals := 22 } : Room) s m args below meth c H locs 0 0 (MQ below (va_Qv Q (B1 D (w9 o q cy) A) A) args s 0 0 A) (F0 m 32 ls []) := by
  have hx := C.1
  have hb := C.2.1
  unfold w9_setEnds_d32 at h
  refine lv_iload_n hx hb dX9_setEnds_32 rfl (lv_at hl 2 rfl) ?_
  refine lv_bipush (v := 64) hx hb dX9_setEnds_33 (by decide) ?_
  refine lv_icmp_ge (tgt := 180) hx hb dX9_setEnds_35 (by decide) (fun c1 => ?_) (fun c1 => ?_)
  · replace h := h.1 c1
    exact retV (w := (w9 o q cy)) (S := S) C hG h dX9_setEnds_180
  · replace h := h.2 c1
    refine lv_lload_n hx hb dX9_setEnds_38 rfl (lv_at hl 1 rfl) ?_
    refine lv_iload_n hx hb dX9_setEnds_39 rfl (lv_at hl 2 rfl) ?_
    refine callSI (As := [.long x1, .int x3]) (rest := []) C hG (c9_has l D cy x1 x3 _ h) 2 gX9_setEnds_X9_has rfl (by decide +kernel) ⟨⟨Nat.le_of_ble_eq_true rfl, Nat.le_of_ble_eq_true rfl⟩, rfl, rfl⟩ (Foc.none C.2.2.2.2.2.2.2.2.1) rfl hl.1 rfl (Nat.le_of_ble_eq_true rfl) dX9_setEnds_40 ⟨Nat.zero_le _, Nat.zero_le _⟩ (fun r2 z H locs h hG => ?_)
    refine lv_if_eq (tgt := 174) hx hb dX9_setEnds_43 (by decide) (fun c3 => ?_) (fun c3 => ?_)
    · replace h := h.1 c3
      exact b9_setEnds_b174 (K32 := K32) x1 x3 S C hK32 h hG hl
    · replace h := h.2 c3
      refine lv_aload_n hx hb dX9_setEnds_46 rfl (lv_at hl 0 rfl) ?_
      refine x9g_6 C i9_setEnds_X9 k9_setEnds_23 hG dX9_setEnds_47 ?_
      refine lv_iconst (v := 0) hx hb dX9_setEnds_50 (by decide) ?_
      refine lv_iload_n hx hb dX9_setEnds_51 rfl (lv_at hl 2 rfl) ?_
      refine lv_bipush (v := 8) hx hb dX9_setEnds_52 (by decide) ?_
      refine lv_irem hx hb dX9_setEnds_54 (by decide) ?_
      refine lv_aload_n hx hb dX9_setEnds_55 rfl (lv_at hl 0 rfl) ?_
      refine x9g_6 C i9_setEnds_X9 k9_setEnds_23 hG dX9_setEnds_56 ?_
      refine lv_iconst (v := 0) hx hb dX9_setEnds_59 (by decide) ?_
      refine x9l_6 C hG (by unfold vp_in; decide) dX9_setEnds_60 ?_
      refine lv_icmp_ge (tgt := 71) hx hb dX9_setEnds_61 (by decide) (fun c4 => ?_) (fun c4 => ?_)
      · replace h := h.1 c4
        refine lv_aload_n hx hb dX9_setEnds_71 rfl (lv_at hl 0 rfl) ?_
        refine x9g_6 C i9_setEnds_X9 k9_setEnds_23 hG dX9_setEnds_72 ?_
        refine lv_iconst (v := 0) hx hb dX9_setEnds_75 (by decide) ?_
        refine x9l_6 C hG (by unfold vp_in; decide) dX9_setEnds_76 ?_
        exact b9_setEnds_b77 (K32 := K32) x1 x3 (0 : Int32) (rA S 6 (0 : Int32)) S C hK32 h hG hl
      · replace h := h.2 c4
        refine lv_iload_n hx hb dX9_setEnds_64 rfl (lv_at hl 2 rfl) ?_
        refine lv_bipush (v := 8) hx hb dX9_setEnds_65 (by decide) ?_
        refine lv_irem hx hb dX9_setEnds_67 (by decide) ?_
        refine lv_goto (tgt := 77) hx hb dX9_setEnds_68 (by decide) ?_
        exact b9_setEnds_b77 (K32 := K32) x1 x3 (0 : Int32) (x3 - x3 / (8 : Int32) * (8 : Int32)) S C hK32 h hG hl
def w9_setEnds_F32 (x1 : Int64) (Q : MS → Prop) (K : Int32 × MS → Prop) (a : Int32 × MS) : Prop := w9_setEnds_d32 (fun y0 y1 => K (y0, y1)) x1 a.1 a.2 Q
def w9_setEnds_b32 (x1 : Int64) (x3 : Int32) (S : MS) (Q : MS → Prop) : Prop := lp (w9_setEnds_F32 x1 Q) (x3, S)
set_option maxHeartbeats 4000000 in
set_option maxRecDepth 100000 in
theorem b9_setEnds_b32 {p : Program} {l : Launch} {e : Env} {s : State} {m : MethodId} {args : Array Value} {below : List Frame} {meth : Method} {c : Code} {D : va_G} {cy : Nat → ClassId} {A : Nat → Prop} {o : Nat} {q : Nat → Nat} (x1 : Int64) (x3 : Int32) (S : MS) {Q : MS → Prop} (C : Cx p s m args meth c cX9_setEnds 4 (none) wsX9_setEnds RX9 D cy nestWs A) (h : w9_setEnds_b32 x1 x3 S Q) {H : Heap} {locs : List Loc} (hG : GW D A s (w9 o q cy S) H locs) {ls : Array Slot} (hl : lv_has ls 4 [(0, .ref o), (1, .long x1), (3, .int x3)]) : W p l e ({ frames := 1, cells := 0, slots := 0, locals := 22 } : Room) s m args below meth c H locs 0 0 (MQ below (va_Qv Q (B1 D (w9 o q cy) A) A) args s 0 0 A) (F0 m 32 ls []) := by
  obtain ⟨k, hn⟩ := h
  induction k generalizing x3 S H locs ls with
  | zero => exact hn.elim
  | succ k ih => exact b9_setEnds_d32 (K32 := fun y0 y1 => itr (w9_setEnds_F32 x1 Q) k (y0, y1)) x1 x3 S C (fun x3 S H locs ls hk hG hl => ih x3 S hG hl hk) hn hG hl
def w9_setEnds (x1 : Int64) (S : MS) (Q : MS → Prop) : Prop :=
  ∀ S1 : MS, S1 = sA S 6 (0 : Int32) (8 : Int32) → ∀ S2 : MS, S2 = sA S1 6 (1 : Int32) (-1 : Int32) → ∀ S3 : MS, S3 = sA S2 6 (2 : Int32) (8 : Int32) → ∀ S4 : MS, S4 = sA S3 6 (3 : Int32) (-1 : Int32) → w9_setEnds_b32 x1 (0 : Int32) S4 Q
set_option maxHeartbeats 4000000 in
set_option maxRecDepth 100000 in
theorem c9_setEnds (l : Launch) (D : va_G) (cy : Nat → ClassId)  (o : Nat) (q : Nat → Nat) (x1 : Int64) (S : MS) (Q : MS → Prop) (h : w9_setEnds x1 S Q) : MetV l yX9_setEnds wsX9_setEnds ({ frames := 1, cells := 0, slots := 0, locals := 22 } : Room) D cy nestWs (w9 o q cy) [.ref o, .long x1] S Q := by
  refine MetV.mk RX9 cX9_setEnds 4 (by decide) rfl nestWs_ok rfl (Nat.le_of_ble_eq_true rfl) ?_
  intro p e s m below meth c A ls C hG hl
  have hl : lv_has ls 4 [(0, .ref o), (1, .long x1)] := hl
  have hx := C.1
  have hb := C.2.1
  unfold w9_setEnds at h
  refine lv_aload_n hx hb dX9_setEnds_0 rfl (lv_at hl 0 rfl) ?_
  refine x9g_6 C i9_setEnds_X9 k9_setEnds_23 hG dX9_setEnds_1 ?_
  refine lv_iconst (v := 0) hx hb dX9_setEnds_4 (by decide) ?_
  refine lv_bipush (v := 8) hx hb dX9_setEnds_5 (by decide) ?_
  refine x9s_6 C hG (by unfold vp_in; decide) dX9_setEnds_7 (fun S1 eS1 H locs hG => ?_)
  replace h := h S1 eS1
  refine lv_aload_n hx hb dX9_setEnds_8 rfl (lv_at hl 0 rfl) ?_
  refine x9g_6 C i9_setEnds_X9 k9_setEnds_23 hG dX9_setEnds_9 ?_
  refine lv_iconst (v := 1) hx hb dX9_setEnds_12 (by decide) ?_
  refine lv_iconst (v := -1) hx hb dX9_setEnds_13 (by decide) ?_
  refine x9s_6 C hG (by unfold vp_in; decide) dX9_setEnds_14 (fun S2 eS2 H locs hG => ?_)
  replace h := h S2 eS2
  refine lv_aload_n hx hb dX9_setEnds_15 rfl (lv_at hl 0 rfl) ?_
  refine x9g_6 C i9_setEnds_X9 k9_setEnds_23 hG dX9_setEnds_16 ?_
  refine lv_iconst (v := 2) hx hb dX9_setEnds_19 (by decide) ?_
  refine lv_bipush (v := 8) hx hb dX9_setEnds_20 (by decide) ?_
  refine x9s_6 C hG (by unfold vp_in; decide) dX9_setEnds_22 (fun S3 eS3 H locs hG => ?_)
  replace h := h S3 eS3
  refine lv_aload_n hx hb dX9_setEnds_23 rfl (lv_at hl 0 rfl) ?_
  refine x9g_6 C i9_setEnds_X9 k9_setEnds_23 hG dX9_setEnds_24 ?_
  refine lv_iconst (v := 3) hx hb dX9_setEnds_27 (by decide) ?_
  refine lv_iconst (v := -1) hx hb dX9_setEnds_28 (by decide) ?_
  refine x9s_6 C hG (by unfold vp_in; decide) dX9_setEnds_29 (fun S4 eS4 H locs hG => ?_)
  replace h := h S4 eS4
  refine lv_iconst (v := 0) hx hb dX9_setEnds_30 (by decide) ?_
  refine lv_istore_n (lv' := [(3, .int (0 : Int32)), (0, .ref o), (1, .long x1)]) hx hb dX9_setEnds_31 rfl hl (by decide) rfl (fun ls hl => ?_)
  exact b9_setEnds_b32 x1 (0 : Int32) S4 C h hG (lv_sub hl [1, 2, 0] rfl)
-- X9_keep
theorem i9_keep_X9 : ∀ w ∈ wsX90, w ∈ wsX9_keep := fun w h => List.mem_cons_of_mem _ (inG_X9 w h)
theorem k9_keep_13 : Cond.fieldLink RX9 13 "PaperBodiesModel" "figures" "[J" ∈ wsX9_keep := (List.mem_cons_of_mem _ mw_538)
theorem k9_keep_17 : Cond.fieldLink RX9 17 "PaperBodiesModel" "kinds" "[I" ∈ wsX9_keep := (List.mem_cons_of_mem _ mw_539)
theorem k9_keep_20 : Cond.fieldLink RX9 20 "PaperBodiesModel" "marks" "[I" ∈ wsX9_keep := (List.mem_cons_of_mem _ mw_540)
theorem k9_keep_23 : Cond.fieldLink RX9 23 "PaperBodiesModel" "ends" "[I" ∈ wsX9_keep := (List.mem_cons_of_mem _ mw_541)
def w9_keep_b52 (x1 : Int32) (t1 : Int32) (t2 : Int32) (S : MS) (Q : MS → Prop) : Prop :=
  vp_in t1 6 ∧ ∀ S2 : MS, S2 = sA S 4 t1 t2 → vp_in x1 6 ∧ ∀ S4 : MS, S4 = sA S2 5 x1 (0 : Int32) → Q S4
set_option maxHeartbeats 4000000 in
set_option maxRecDepth 100000 in
theorem b9_keep_b52 {p : Program} {l : Launch} {e : Env} {s : State} {m : MethodId} {args : Array Value} {below : List Frame} {meth : Method} {c : Code} {D : va_G} {cy : Nat → ClassId} {A : Nat → Prop} {o : Nat} {q : Nat → Nat} (x1 : Int32) (t1 : Int32) (t2 : Int32) (S : MS) {Q : MS → Prop} (C : Cx p s m args meth c cX9_keep 4 (none) wsX9_keep RX9 D cy nestWs A) (h : w9_keep_b52 x1 t1 t2 S Q) {H : Heap} {locs : List Loc} (hG : GW D A s (w9 o q cy S) H locs) {ls : Array Slot} (hl : lv_has ls 4 [(0, .ref o), (1, .int x1)]) : W p l e ({ frames := 2, cells := 0, slots := 0, locals := 45 } : Room) s m args below meth c H locs 0 0 (MQ below (va_Qv Q (B1 D (w9 o q cy) A) A) args s 0 0 A) (F0 m 52 ls [.int t2, .int t1, .ref (q 4)]) := by
  have hx := C.1
  have hb := C.2.1
  unfold w9_keep_b52 at h
  obtain ⟨hv1, h⟩ := h
  refine x9s_4 C hG hv1 dX9_keep_52 (fun S2 eS2 H locs hG => ?_)
  replace h := h S2 eS2
  refine lv_aload_n hx hb dX9_keep_53 rfl (lv_at hl 0 rfl) ?_
  refine x9g_5 C i9_keep_X9 k9_keep_20 hG dX9_keep_54 ?_
  refine lv_iload_n hx hb dX9_keep_57 rfl (lv_at hl 1 rfl) ?_
  refine lv_iconst (v := 0) hx hb dX9_keep_58 (by decide) ?_
  obtain ⟨hv3, h⟩ := h
  refine x9s_5 C hG hv3 dX9_keep_59 (fun S4 eS4 H locs hG => ?_)
  replace h := h S4 eS4
  exact retV (w := (w9 o q cy)) (S := S4) C hG h dX9_keep_60
def w9_keep_b47 (x1 : Int32) (t1 : Int32) (S : MS) (Q : MS → Prop) : Prop :=
  w9_keep_b52 x1 t1 (1 : Int32) S Q
set_option maxHeartbeats 4000000 in
set_option maxRecDepth 100000 in
theorem b9_keep_b47 {p : Program} {l : Launch} {e : Env} {s : State} {m : MethodId} {args : Array Value} {below : List Frame} {meth : Method} {c : Code} {D : va_G} {cy : Nat → ClassId} {A : Nat → Prop} {o : Nat} {q : Nat → Nat} (x1 : Int32) (t1 : Int32) (S : MS) {Q : MS → Prop} (C : Cx p s m args meth c cX9_keep 4 (none) wsX9_keep RX9 D cy nestWs A) (h : w9_keep_b47 x1 t1 S Q) {H : Heap} {locs : List Loc} (hG : GW D A s (w9 o q cy S) H locs) {ls : Array Slot} (hl : lv_has ls 4 [(0, .ref o), (1, .int x1)]) : W p l e ({ frames := 2, cells := 0, slots := 0, locals := 45 } : Room) s m args below meth c H locs 0 0 (MQ below (va_Qv Q (B1 D (w9 o q cy) A) A) args s 0 0 A) (F0 m 47 ls [.int t1, .ref (q 4)]) := by
  have hx := C.1
  have hb := C.2.1
  unfold w9_keep_b47 at h
  refine lv_iconst (v := 1) hx hb dX9_keep_47 (by decide) ?_
  refine lv_goto (tgt := 52) hx hb dX9_keep_48 (by decide) ?_
  exact b9_keep_b52 x1 t1 (1 : Int32) S C h hG hl
def w9_keep (x1 : Int32) (x2 : Int64) (S : MS) (Q : MS → Prop) : Prop :=
  w9_setEnds x2 S (fun S1 => vp_in x1 6 ∧ ∀ S3 : MS, S3 = sL S1 3 x1 x2 → (((rA S3 6 (0 : Int32)) = (rA S3 6 (1 : Int32)) → w9_keep_b47 x1 x1 S3 Q) ∧ (¬ (rA S3 6 (0 : Int32)) = (rA S3 6 (1 : Int32)) → ((¬ (rA S3 6 (2 : Int32)) = (rA S3 6 (3 : Int32)) → w9_keep_b52 x1 x1 (0 : Int32) S3 Q) ∧ ((rA S3 6 (2 : Int32)) = (rA S3 6 (3 : Int32)) → w9_keep_b47 x1 x1 S3 Q)))))
set_option maxHeartbeats 4000000 in
set_option maxRecDepth 100000 in
theorem c9_keep (l : Launch) (D : va_G) (cy : Nat → ClassId)  (o : Nat) (q : Nat → Nat) (x1 : Int32) (x2 : Int64) (S : MS) (Q : MS → Prop) (h : w9_keep x1 x2 S Q) : MetV l yX9_keep wsX9_keep ({ frames := 2, cells := 0, slots := 0, locals := 45 } : Room) D cy nestWs (w9 o q cy) [.ref o, .int x1, .long x2] S Q := by
  refine MetV.mk RX9 cX9_keep 4 (by decide) rfl nestWs_ok rfl (Nat.le_of_ble_eq_true rfl) ?_
  intro p e s m below meth c A ls C hG hl
  have hl : lv_has ls 4 [(0, .ref o), (1, .int x1), (2, .long x2)] := hl
  have hx := C.1
  have hb := C.2.1
  unfold w9_keep at h
  refine lv_aload_n hx hb dX9_keep_0 rfl (lv_at hl 0 rfl) ?_
  refine lv_lload_n hx hb dX9_keep_1 rfl (lv_at hl 2 rfl) ?_
  refine callVV (As := [.long x2]) (rest := []) C hG (c9_setEnds l D cy o q x2 S _ h) 1 gX9_keep_X9_setEnds rfl (by decide +kernel) ⟨⟨Nat.le_of_ble_eq_true rfl, Nat.le_of_ble_eq_true rfl⟩, rfl, rfl⟩ rfl rfl (Foc.all C.2.2.2.2.2.2.2.2.1) rfl hl.1 rfl (Nat.le_of_ble_eq_true rfl) dX9_keep_2 ⟨Nat.zero_le _, Nat.zero_le _⟩ (fun  S1 H locs h hG => ?_)
  have hG : GW D A s (w9 o q cy S1) H locs := hG
  refine lv_aload_n hx hb dX9_keep_5 rfl (lv_at hl 0 rfl) ?_
  refine x9g_3 C i9_keep_X9 k9_keep_13 hG dX9_keep_6 ?_
  refine lv_iload_n hx hb dX9_keep_9 rfl (lv_at hl 1 rfl) ?_
  refine lv_lload_n hx hb dX9_keep_10 rfl (lv_at hl 2 rfl) ?_
  obtain ⟨hv2, h⟩ := h
  refine x9s_3 C hG hv2 dX9_keep_11 (fun S3 eS3 H locs hG => ?_)
  replace h := h S3 eS3
  refine lv_aload_n hx hb dX9_keep_12 rfl (lv_at hl 0 rfl) ?_
  refine x9g_4 C i9_keep_X9 k9_keep_17 hG dX9_keep_13 ?_
  refine lv_iload_n hx hb dX9_keep_16 rfl (lv_at hl 1 rfl) ?_
  refine lv_aload_n hx hb dX9_keep_17 rfl (lv_at hl 0 rfl) ?_
  refine x9g_6 C i9_keep_X9 k9_keep_23 hG dX9_keep_18 ?_
  refine lv_iconst (v := 0) hx hb dX9_keep_21 (by decide) ?_
  refine x9l_6 C hG (by unfold vp_in; decide) dX9_keep_22 ?_
  refine lv_aload_n hx hb dX9_keep_23 rfl (lv_at hl 0 rfl) ?_
  refine x9g_6 C i9_keep_X9 k9_keep_23 hG dX9_keep_24 ?_
  refine lv_iconst (v := 1) hx hb dX9_keep_27 (by decide) ?_
  refine x9l_6 C hG (by unfold vp_in; decide) dX9_keep_28 ?_
  refine lv_icmp_eq (tgt := 47) hx hb dX9_keep_29 (by decide) (fun c4 => ?_) (fun c4 => ?_)
  · replace h := h.1 c4
    exact b9_keep_b47 x1 x1 S3 C h hG (lv_sub hl [0, 1] rfl)
  · replace h := h.2 c4
    refine lv_aload_n hx hb dX9_keep_32 rfl (lv_at hl 0 rfl) ?_
    refine x9g_6 C i9_keep_X9 k9_keep_23 hG dX9_keep_33 ?_
    refine lv_iconst (v := 2) hx hb dX9_keep_36 (by decide) ?_
    refine x9l_6 C hG (by unfold vp_in; decide) dX9_keep_37 ?_
    refine lv_aload_n hx hb dX9_keep_38 rfl (lv_at hl 0 rfl) ?_
    refine x9g_6 C i9_keep_X9 k9_keep_23 hG dX9_keep_39 ?_
    refine lv_iconst (v := 3) hx hb dX9_keep_42 (by decide) ?_
    refine x9l_6 C hG (by unfold vp_in; decide) dX9_keep_43 ?_
    refine lv_icmp_ne (tgt := 51) hx hb dX9_keep_44 (by decide) (fun c5 => ?_) (fun c5 => ?_)
    · replace h := h.1 c5
      refine lv_iconst (v := 0) hx hb dX9_keep_51 (by decide) ?_
      exact b9_keep_b52 x1 x1 (0 : Int32) S3 C h hG (lv_sub hl [0, 1] rfl)
    · replace h := h.2 c5
      exact b9_keep_b47 x1 x1 S3 C h hG (lv_sub hl [0, 1] rfl)
-- X9_figure
def w9_figure_b24 (S : MS) (Q : Int32 → MS → Prop) : Prop :=
  Q (-1 : Int32) S
set_option maxHeartbeats 4000000 in
set_option maxRecDepth 100000 in
theorem b9_figure_b24 {p : Program} {l : Launch} {e : Env} {s : State} {m : MethodId} {args : Array Value} {below : List Frame} {meth : Method} {c : Code} {D : va_G} {cy : Nat → ClassId} {A : Nat → Prop} {o : Nat} {q : Nat → Nat} (S : MS) {Q : Int32 → MS → Prop} (C : Cx p s m args meth c cX9_figure 5 (some .int) wsX9_figure RX9 D cy nestWs A) (h : w9_figure_b24 S Q) {H : Heap} {locs : List Loc} (hG : GW D A s (w9 o q cy S) H locs) {ls : Array Slot} (hl : lv_has ls 5 [(0, .ref o)]) : W p l e ({ frames := 3, cells := 0, slots := 0, locals := 74 } : Room) s m args below meth c H locs 0 0 (MQ below (va_Qi Q (B1 D (w9 o q cy) A) A) args s 0 0 A) (F0 m 24 ls []) := by
  have hx := C.1
  have hb := C.2.1
  unfold w9_figure_b24 at h
  refine lv_iconst (v := -1) hx hb dX9_figure_24 (by decide) ?_
  exact retI (w := (w9 o q cy)) (S := S) C hG h dX9_figure_25
def w9_figure (x1 : Int32) (x2 : Int64) (S : MS) (Q : Int32 → MS → Prop) : Prop :=
  w9_bits x2 (fun r1 => w9_isFigure x1 (fun r2 => ((r2 = 0 → w9_figure_b24 S Q) ∧ (¬ r2 = 0 → w9_in r1 (1 : Int32) (24 : Int32) (fun r4 => ((¬ r4 = 0 → w9_hangs x2 (fun r6 => ((¬ r6 = 0 → w9_keep x1 x2 S (fun S8 => Q r1 S8)) ∧ (r6 = 0 → Q (-4 : Int32) S)))) ∧ (r4 = 0 → w9_figure_b24 S Q)))))))
set_option maxHeartbeats 4000000 in
set_option maxRecDepth 100000 in
theorem c9_figure (l : Launch) (D : va_G) (cy : Nat → ClassId)  (o : Nat) (q : Nat → Nat) (x1 : Int32) (x2 : Int64) (S : MS) (Q : Int32 → MS → Prop) (h : w9_figure x1 x2 S Q) : MetI l yX9_figure wsX9_figure ({ frames := 3, cells := 0, slots := 0, locals := 74 } : Room) D cy nestWs (w9 o q cy) [.ref o, .int x1, .long x2] S Q := by
  refine MetI.mk RX9 cX9_figure 5 .int (by decide) rfl nestWs_ok rfl (Nat.le_of_ble_eq_true rfl) ?_
  intro p e s m below meth c A ls C hG hl
  have hl : lv_has ls 5 [(0, .ref o), (1, .int x1), (2, .long x2)] := hl
  have hx := C.1
  have hb := C.2.1
  unfold w9_figure at h
  refine lv_lload_n hx hb dX9_figure_0 rfl (lv_at hl 2 rfl) ?_
  refine callSI (As := [.long x2]) (rest := []) C hG (c9_bits l D cy x2 _ h) 1 gX9_figure_X9_bits rfl (by decide +kernel) ⟨⟨Nat.le_of_ble_eq_true rfl, Nat.le_of_ble_eq_true rfl⟩, rfl, rfl⟩ (Foc.none C.2.2.2.2.2.2.2.2.1) rfl hl.1 rfl (Nat.le_of_ble_eq_true rfl) dX9_figure_1 ⟨Nat.zero_le _, Nat.zero_le _⟩ (fun r1 z H locs h hG => ?_)
  refine lv_istore (lv' := [(4, .int r1), (0, .ref o), (1, .int x1), (2, .long x2)]) hx hb dX9_figure_4 hl (by decide) rfl (fun ls hl => ?_)
  refine lv_iload_n hx hb dX9_figure_6 rfl (lv_at hl 2 rfl) ?_
  refine callSI (As := [.int x1]) (rest := []) C hG (c9_isFigure l D cy x1 _ h) 1 gX9_figure_X9_isFigure rfl (by decide +kernel) ⟨⟨Nat.le_of_ble_eq_true rfl, Nat.le_of_ble_eq_true rfl⟩, rfl, rfl⟩ (Foc.none C.2.2.2.2.2.2.2.2.1) rfl hl.1 rfl (Nat.le_of_ble_eq_true rfl) dX9_figure_7 ⟨Nat.zero_le _, Nat.zero_le _⟩ (fun r2 z H locs h hG => ?_)
  refine lv_if_eq (tgt := 24) hx hb dX9_figure_10 (by decide) (fun c3 => ?_) (fun c3 => ?_)
  · replace h := h.1 c3
    exact b9_figure_b24 S C h hG (lv_sub hl [1] rfl)
  · replace h := h.2 c3
    refine lv_iload hx hb dX9_figure_13 (lv_at hl 0 rfl) ?_
    refine lv_iconst (v := 1) hx hb dX9_figure_15 (by decide) ?_
    refine lv_bipush (v := 24) hx hb dX9_figure_16 (by decide) ?_
    refine callSI (As := [.int r1, .int (1 : Int32), .int (24 : Int32)]) (rest := []) C hG (c9_in l D cy r1 (1 : Int32) (24 : Int32) _ h) 3 gX9_figure_X9_in rfl (by decide +kernel) ⟨⟨Nat.le_of_ble_eq_true rfl, Nat.le_of_ble_eq_true rfl⟩, rfl, rfl⟩ (Foc.none C.2.2.2.2.2.2.2.2.1) rfl hl.1 rfl (Nat.le_of_ble_eq_true rfl) dX9_figure_18 ⟨Nat.zero_le _, Nat.zero_le _⟩ (fun r4 z H locs h hG => ?_)
    refine lv_if_ne (tgt := 26) hx hb dX9_figure_21 (by decide) (fun c5 => ?_) (fun c5 => ?_)
    · replace h := h.1 c5
      refine lv_lload_n hx hb dX9_figure_26 rfl (lv_at hl 3 rfl) ?_
      refine callSI (As := [.long x2]) (rest := []) C hG (c9_hangs l D cy x2 _ h) 1 gX9_figure_X9_hangs rfl (by decide +kernel) ⟨⟨Nat.le_of_ble_eq_true rfl, Nat.le_of_ble_eq_true rfl⟩, rfl, rfl⟩ (Foc.none C.2.2.2.2.2.2.2.2.1) rfl hl.1 rfl (Nat.le_of_ble_eq_true rfl) dX9_figure_27 ⟨Nat.zero_le _, Nat.zero_le _⟩ (fun r6 z H locs h hG => ?_)
      refine lv_if_ne (tgt := 36) hx hb dX9_figure_30 (by decide) (fun c7 => ?_) (fun c7 => ?_)
      · replace h := h.1 c7
        refine lv_aload_n hx hb dX9_figure_36 rfl (lv_at hl 1 rfl) ?_
        refine lv_iload_n hx hb dX9_figure_37 rfl (lv_at hl 2 rfl) ?_
        refine lv_lload_n hx hb dX9_figure_38 rfl (lv_at hl 3 rfl) ?_
        refine callVV (As := [.int x1, .long x2]) (rest := []) C hG (c9_keep l D cy o q x1 x2 S _ h) 2 gX9_figure_X9_keep rfl (by decide +kernel) ⟨⟨Nat.le_of_ble_eq_true rfl, Nat.le_of_ble_eq_true rfl⟩, rfl, rfl⟩ rfl rfl (Foc.all C.2.2.2.2.2.2.2.2.1) rfl hl.1 rfl (Nat.le_of_ble_eq_true rfl) dX9_figure_39 ⟨Nat.zero_le _, Nat.zero_le _⟩ (fun  S8 H locs h hG => ?_)
        have hG : GW D A s (w9 o q cy S8) H locs := hG
        refine lv_iload hx hb dX9_figure_42 (lv_at hl 0 rfl) ?_
        exact retI (w := (w9 o q cy)) (S := S8) C hG h dX9_figure_44
      · replace h := h.2 c7
        refine lv_bipush (v := -4) hx hb dX9_figure_33 (by decide) ?_
        exact retI (w := (w9 o q cy)) (S := S) C hG h dX9_figure_35
    · replace h := h.2 c5
      exact b9_figure_b24 S C h hG (lv_sub hl [1] rfl)
-- X9_drop
theorem i9_drop_X9 : ∀ w ∈ wsX90, w ∈ wsX9_drop := fun w h => List.mem_cons_of_mem _ (inG_X9 w h)
theorem k9_drop_13 : Cond.fieldLink RX9 13 "PaperBodiesModel" "figures" "[J" ∈ wsX9_drop := (List.mem_cons_of_mem _ mw_538)
def w9_drop (x1 : Int32) (S : MS) (Q : Int32 → MS → Prop) : Prop :=
  w9_looked x1 S (fun r1 S2 => ((0 ≤ r1 → vp_in x1 6 ∧ ∀ S5 : MS, S5 = sL S2 3 x1 (0 : Int64) → Q (1 : Int32) S5) ∧ (¬ 0 ≤ r1 → Q r1 S2)))
set_option maxHeartbeats 4000000 in
set_option maxRecDepth 100000 in
theorem c9_drop (l : Launch) (D : va_G) (cy : Nat → ClassId)  (o : Nat) (q : Nat → Nat) (x1 : Int32) (S : MS) (Q : Int32 → MS → Prop) (h : w9_drop x1 S Q) : MetI l yX9_drop wsX9_drop ({ frames := 3, cells := 0, slots := 0, locals := 63 } : Room) D cy nestWs (w9 o q cy) [.ref o, .int x1] S Q := by
  refine MetI.mk RX9 cX9_drop 3 .int (by decide) rfl nestWs_ok rfl (Nat.le_of_ble_eq_true rfl) ?_
  intro p e s m below meth c A ls C hG hl
  have hl : lv_has ls 3 [(0, .ref o), (1, .int x1)] := hl
  have hx := C.1
  have hb := C.2.1
  unfold w9_drop at h
  refine lv_aload_n hx hb dX9_drop_0 rfl (lv_at hl 0 rfl) ?_
  refine lv_iload_n hx hb dX9_drop_1 rfl (lv_at hl 1 rfl) ?_
  refine callVI (As := [.int x1]) (rest := []) C hG (c9_looked l D cy o q x1 S _ h) 1 gX9_drop_X9_looked rfl (by decide +kernel) ⟨⟨Nat.le_of_ble_eq_true rfl, Nat.le_of_ble_eq_true rfl⟩, rfl, rfl⟩ rfl rfl (Foc.all C.2.2.2.2.2.2.2.2.1) rfl hl.1 rfl (Nat.le_of_ble_eq_true rfl) dX9_drop_2 ⟨Nat.zero_le _, Nat.zero_le _⟩ (fun r1 S2 H locs h hG => ?_)
  have hG : GW D A s (w9 o q cy S2) H locs := hG
  refine lv_istore_n (lv' := [(2, .int r1), (0, .ref o), (1, .int x1)]) hx hb dX9_drop_5 rfl hl (by decide) rfl (fun ls hl => ?_)
  refine lv_iload_n hx hb dX9_drop_6 rfl (lv_at hl 0 rfl) ?_
  refine lv_if_ge (tgt := 12) hx hb dX9_drop_7 (by decide) (fun c3 => ?_) (fun c3 => ?_)
  · replace h := h.1 c3
    refine lv_aload_n hx hb dX9_drop_12 rfl (lv_at hl 1 rfl) ?_
    refine x9g_3 C i9_drop_X9 k9_drop_13 hG dX9_drop_13 ?_
    refine lv_iload_n hx hb dX9_drop_16 rfl (lv_at hl 2 rfl) ?_
    refine lv_lconst (v := 0) hx hb dX9_drop_17 (by decide) ?_
    obtain ⟨hv4, h⟩ := h
    refine x9s_3 C hG hv4 dX9_drop_18 (fun S5 eS5 H locs hG => ?_)
    replace h := h S5 eS5
    refine lv_iconst (v := 1) hx hb dX9_drop_19 (by decide) ?_
    exact retI (w := (w9 o q cy)) (S := S5) C hG h dX9_drop_20
  · replace h := h.2 c3
    refine lv_iload_n hx hb dX9_drop_10 rfl (lv_at hl 0 rfl) ?_
    exact retI (w := (w9 o q cy)) (S := S2) C hG h dX9_drop_11
-- X9_rimOf
def w9_rimOf_b54 (K4 : Int32 → Int32 → Prop) (x0 : Int64) (x2 : Int32) (x3 : Int32) (Q : Int32 → Prop) : Prop :=
  ∀ y1 : Int32, y1 = x3 + 1 → K4 x2 y1
set_option maxHeartbeats 4000000 in
set_option maxRecDepth 100000 in
theorem b9_rimOf_b54 {p : Program} {l : Launch} {e : Env} {s : State} {m : MethodId} {args : Array Value} {below : List Frame} {meth : Method} {c : Code} {D : va_G} {cy : Nat → ClassId} {A : Nat → Prop} {K4 : Int32 → Int32 → Prop} (x0 : Int64) (x2 : Int32) (x3 : Int32) {Q : Int32 → Prop} (C : Cx p s m args meth c cX9_rimOf 5 (some .int) wsX9_rimOf RX9 D cy nestWs A) (hK4 : ∀ (x2 : Int32) (x3 : Int32) (H : Heap) (locs : List Loc) (ls : Array Slot), K4 x2 x3 → GW D A s (([] : va_W)) H locs → lv_has ls 5 [(0, .long x0), (2, .int x2), (3, .int x3)] → W p l e ({ frames := 2, cells := 0, slots := 0, locals := 45 } : Room) s m args below meth c H locs 0 0 (MQ below (va_Qi (fun r _ => Q r) (B1 D (fun _ : Unit => ([] : va_W)) A) A) args s 0 0 A) (F0 m 4 ls [])) (h : w9_rimOf_b54 K4 x0 x2 x3 Q) {H : Heap} {locs : List Loc} (hG : GW D A s (([] : va_W)) H locs) {ls : Array Slot} (hl : lv_has ls 5 [(0, .long x0), (2, .int x2), (3, .int x3)]) : W p l e ({ frames := 2, cells := 0, slots := 0, locals := 45 } : Room) s m args below meth c H locs 0 0 (MQ below (va_Qi (fun r _ => Q r) (B1 D (fun _ : Unit => ([] : va_W)) A) A) args s 0 0 A) (F0 m 54 ls []) := by
  have hx := C.1
  have hb := C.2.1
  unfold w9_rimOf_b54 at h
  obtain ⟨y1, ey1⟩ : ∃ y : Int32, y = x3 + 1 := ⟨_, rfl⟩
  replace h := h y1 ey1
  refine lv_iinc (v := y1) (lv' := [(3, .int y1), (0, .long x0), (2, .int x2)]) hx hb dX9_rimOf_54 hl (k := 2) rfl (by rw [ey1]; rfl) (by decide) rfl (fun ls hl => ?_)
  refine lv_goto (tgt := 4) hx hb dX9_rimOf_57 (by decide) ?_
  exact hK4 x2 y1 _ _ _ h hG (lv_sub hl [1, 2, 0] rfl)
def w9_rimOf_b46 (K13 : Int32 → Int32 → Prop) (x0 : Int64) (x3 : Int32) (x4 : Int32) (t0 : Int32) (t1 : Int32) (Q : Int32 → Prop) : Prop :=
  ∀ y1 : Int32, y1 = (t0 + t1) → ∀ y2 : Int32, y2 = x4 + 1 → K13 y1 y2
set_option maxHeartbeats 4000000 in
set_option maxRecDepth 100000 in
theorem b9_rimOf_b46 {p : Program} {l : Launch} {e : Env} {s : State} {m : MethodId} {args : Array Value} {below : List Frame} {meth : Method} {c : Code} {D : va_G} {cy : Nat → ClassId} {A : Nat → Prop} {K13 : Int32 → Int32 → Prop} (x0 : Int64) (x3 : Int32) (x4 : Int32) (t0 : Int32) (t1 : Int32) {Q : Int32 → Prop} (C : Cx p s m args meth c cX9_rimOf 5 (some .int) wsX9_rimOf RX9 D cy nestWs A) (hK13 : ∀ (x2 : Int32) (x4 : Int32) (H : Heap) (locs : List Loc) (ls : Array Slot), K13 x2 x4 → GW D A s (([] : va_W)) H locs → lv_has ls 5 [(0, .long x0), (2, .int x2), (3, .int x3), (4, .int x4)] → W p l e ({ frames := 2, cells := 0, slots := 0, locals := 45 } : Room) s m args below meth c H locs 0 0 (MQ below (va_Qi (fun r _ => Q r) (B1 D (fun _ : Unit => ([] : va_W)) A) A) args s 0 0 A) (F0 m 13 ls [])) (h : w9_rimOf_b46 K13 x0 x3 x4 t0 t1 Q) {H : Heap} {locs : List Loc} (hG : GW D A s (([] : va_W)) H locs) {ls : Array Slot} (hl : lv_has ls 5 [(0, .long x0), (3, .int x3), (4, .int x4)]) : W p l e ({ frames := 2, cells := 0, slots := 0, locals := 45 } : Room) s m args below meth c H locs 0 0 (MQ below (va_Qi (fun r _ => Q r) (B1 D (fun _ : Unit => ([] : va_W)) A) A) args s 0 0 A) (F0 m 46 ls [.int t1, .int t0]) := by
  have hx := C.1
  have hb := C.2.1
  unfold w9_rimOf_b46 at h
  refine lv_iadd hx hb dX9_rimOf_46 ?_
  refine lv_topi (fun y1 ey1 => ?_)
  replace h := h y1 ey1
  refine lv_istore_n (lv' := [(2, .int y1), (0, .long x0), (3, .int x3), (4, .int x4)]) hx hb dX9_rimOf_47 rfl hl (by decide) rfl (fun ls hl => ?_)
  obtain ⟨y2, ey2⟩ : ∃ y : Int32, y = x4 + 1 := ⟨_, rfl⟩
  replace h := h y2 ey2
  refine lv_iinc (v := y2) (lv' := [(4, .int y2), (2, .int y1), (0, .long x0), (3, .int x3)]) hx hb dX9_rimOf_48 hl (k := 3) rfl (by rw [ey2]; rfl) (by decide) rfl (fun ls hl => ?_)
  refine lv_goto (tgt := 13) hx hb dX9_rimOf_51 (by decide) ?_
  exact hK13 y1 y2 _ _ _ h hG (lv_sub hl [2, 1, 3, 0] rfl)
def w9_rimOf_d13 (K4 : Int32 → Int32 → Prop) (K13 : Int32 → Int32 → Prop) (x0 : Int64) (x2 : Int32) (x3 : Int32) (x4 : Int32) (Q : Int32 → Prop) : Prop :=
  (((4 : Int32) ≤ x4 → w9_rimOf_b54 K4 x0 x2 x3 Q) ∧ (¬ (4 : Int32) ≤ x4 → w9_has x0 x3 (fun r2 => ((r2 = 0 → w9_rimOf_b54 K4 x0 x2 x3 Q) ∧ (¬ r2 = 0 → w9_beside x3 x4 (fun r4 => w9_has x0 r4 (fun r5 => ((r5 = 0 → w9_rimOf_b46 K13 x0 x3 x4 x2 (1 : Int32) Q) ∧ (¬ r5 = 0 → w9_rimOf_b46 K13 x0 x3 x4 x2 (0 : Int32) Q)))))))))
set_option maxHeartbeats 4000000 in
set_option maxRecDepth 100000 in
theorem b9_rimOf_d13 {p : Program} {l : Launch} {e : Env} {s : State} {m : MethodId} {args : Array Value} {below : List Frame} {meth : Method} {c : Code} {D : va_G} {cy : Nat → ClassId} {A : Nat → Prop} {K4 : Int32 → Int32 → Prop} {K13 : Int32 → Int32 → Prop} (x0 : Int64) (x2 : Int32) (x3 : Int32) (x4 : Int32) {Q : Int32 → Prop} (C : Cx p s m args meth c cX9_rimOf 5 (some .int) wsX9_rimOf RX9 D cy nestWs A) (hK4 : ∀ (x2 : Int32) (x3 : Int32) (H : Heap) (locs : List Loc) (ls : Array Slot), K4 x2 x3 → GW D A s (([] : va_W)) H locs → lv_has ls 5 [(0, .long x0), (2, .int x2), (3, .int x3)] → W p l e ({ frames := 2, cells := 0, slots := 0, locals := 45 } : Room) s m args below meth c H locs 0 0 (MQ below (va_Qi (fun r _ => Q r) (B1 D (fun _ : Unit => ([] : va_W)) A) A) args s 0 0 A) (F0 m 4 ls [])) (hK13 : ∀ (x2 : Int32) (x4 : Int32) (H : Heap) (locs : List Loc) (ls : Array Slot), K13 x2 x4 → GW D A s (([] : va_W)) H locs → lv_has ls 5 [(0, .long x0), (2, .int x2), (3, .int x3), (4, .int x4)] → W p l e ({ frames := 2, cells := 0, slots := 0, locals := 45 } : Room) s m args below meth c H locs 0 0 (MQ below (va_Qi (fun r _ => Q r) (B1 D (fun _ : Unit => ([] : va_W)) A) A) args s 0 0 A) (F0 m 13 ls [])) (h : w9_rimOf_d13 K4 K13 x0 x2 x3 x4 Q) {H : Heap} {locs : List Loc} (hG : GW D A s (([] : va_W)) H locs) {ls : Array Slot} (hl : lv_has ls 5 [(0, .long x0), (2, .int x2), (3, .int x3), (4, .int x4)]) : W p l e ({ frames := 2, cells := 0, slots := 0, locals := 45 } : Room) s m args below meth c H locs 0 0 (MQ below (va_Qi (fun r _ => Q r) (B1 D (fun _ : Unit => ([] : va_W)) A) A) args s 0 0 A) (F0 m 13 ls []) := by
  have hx := C.1
  have hb := C.2.1
  unfold w9_rimOf_d13 at h
  refine lv_iload hx hb dX9_rimOf_13 (lv_at hl 3 rfl) ?_
  refine lv_iconst (v := 4) hx hb dX9_rimOf_15 (by decide) ?_
  refine lv_icmp_ge (tgt := 54) hx hb dX9_rimOf_16 (by decide) (fun c1 => ?_) (fun c1 => ?_)
  · replace h := h.1 c1
    exact b9_rimOf_b54 (K4 := K4) x0 x2 x3 C hK4 h hG (lv_sub hl [0, 1, 2] rfl)
  · replace h := h.2 c1
    refine lv_lload_n hx hb dX9_rimOf_19 rfl (lv_at hl 0 rfl) ?_
    refine lv_iload_n hx hb dX9_rimOf_20 rfl (lv_at hl 2 rfl) ?_
    refine callSI (As := [.long x0, .int x3]) (rest := []) C hG (c9_has l D cy x0 x3 _ h) 2 gX9_rimOf_X9_has rfl (by decide +kernel) ⟨⟨Nat.le_of_ble_eq_true rfl, Nat.le_of_ble_eq_true rfl⟩, rfl, rfl⟩ (Foc.none C.2.2.2.2.2.2.2.2.1) rfl hl.1 rfl (Nat.le_of_ble_eq_true rfl) dX9_rimOf_21 ⟨Nat.zero_le _, Nat.zero_le _⟩ (fun r2 z H locs h hG => ?_)
    refine lv_if_eq (tgt := 54) hx hb dX9_rimOf_24 (by decide) (fun c3 => ?_) (fun c3 => ?_)
    · replace h := h.1 c3
      exact b9_rimOf_b54 (K4 := K4) x0 x2 x3 C hK4 h hG (lv_sub hl [0, 1, 2] rfl)
    · replace h := h.2 c3
      refine lv_iload_n hx hb dX9_rimOf_27 rfl (lv_at hl 1 rfl) ?_
      refine lv_lload_n hx hb dX9_rimOf_28 rfl (lv_at hl 0 rfl) ?_
      refine lv_iload_n hx hb dX9_rimOf_29 rfl (lv_at hl 2 rfl) ?_
      refine lv_iload hx hb dX9_rimOf_30 (lv_at hl 3 rfl) ?_
      refine callSI (As := [.int x3, .int x4]) (rest := [.long x0, .int x2]) C hG (c9_beside l D cy x3 x4 _ h) 2 gX9_rimOf_X9_beside rfl (by decide +kernel) ⟨⟨Nat.le_of_ble_eq_true rfl, Nat.le_of_ble_eq_true rfl⟩, rfl, rfl⟩ (Foc.none C.2.2.2.2.2.2.2.2.1) rfl hl.1 rfl (Nat.le_of_ble_eq_true rfl) dX9_rimOf_32 ⟨Nat.zero_le _, Nat.zero_le _⟩ (fun r4 z H locs h hG => ?_)
      refine callSI (As := [.long x0, .int r4]) (rest := [.int x2]) C hG (c9_has l D cy x0 r4 _ h) 2 gX9_rimOf_X9_has rfl (by decide +kernel) ⟨⟨Nat.le_of_ble_eq_true rfl, Nat.le_of_ble_eq_true rfl⟩, rfl, rfl⟩ (Foc.none C.2.2.2.2.2.2.2.2.1) rfl hl.1 rfl (Nat.le_of_ble_eq_true rfl) dX9_rimOf_35 ⟨Nat.zero_le _, Nat.zero_le _⟩ (fun r5 z H locs h hG => ?_)
      refine lv_if_eq (tgt := 45) hx hb dX9_rimOf_38 (by decide) (fun c6 => ?_) (fun c6 => ?_)
      · replace h := h.1 c6
        refine lv_iconst (v := 1) hx hb dX9_rimOf_45 (by decide) ?_
        exact b9_rimOf_b46 (K13 := K13) x0 x3 x4 x2 (1 : Int32) C hK13 h hG (lv_sub hl [0, 2, 3] rfl)
      · replace h := h.2 c6
        refine lv_iconst (v := 0) hx hb dX9_rimOf_41 (by decide) ?_
        refine lv_goto (tgt := 46) hx hb dX9_rimOf_42 (by decide) ?_
        exact b9_rimOf_b46 (K13 := K13) x0 x3 x4 x2 (0 : Int32) C hK13 h hG (lv_sub hl [0, 2, 3] rfl)
def w9_rimOf_F13 (K4 : Int32 → Int32 → Prop) (x0 : Int64) (x3 : Int32) (Q : Int32 → Prop) (K : Int32 × Int32 → Prop) (a : Int32 × Int32) : Prop := w9_rimOf_d13 K4 (fun y0 y1 => K (y0, y1)) x0 a.1 x3 a.2 Q
def w9_rimOf_b13 (K4 : Int32 → Int32 → Prop) (x0 : Int64) (x2 : Int32) (x3 : Int32) (x4 : Int32) (Q : Int32 → Prop) : Prop := lp (w9_rimOf_F13 K4 x0 x3 Q) (x2, x4)
set_option maxHeartbeats 4000000 in
set_option maxRecDepth 100000 in
theorem b9_rimOf_b13 {p : Program} {l : Launch} {e : Env} {s : State} {m : MethodId} {args : Array Value} {below : List Frame} {meth : Method} {c : Code} {D : va_G} {cy : Nat → ClassId} {A : Nat → Prop} {K4 : Int32 → Int32 → Prop} (x0 : Int64) (x2 : Int32) (x3 : Int32) (x4 : Int32) {Q : Int32 → Prop} (C : Cx p s m args meth c cX9_rimOf 5 (some .int) wsX9_rimOf RX9 D cy nestWs A) (hK4 : ∀ (x2 : Int32) (x3 : Int32) (H : Heap) (locs : List Loc) (ls : Array Slot), K4 x2 x3 → GW D A s (([] : va_W)) H locs → lv_has ls 5 [(0, .long x0), (2, .int x2), (3, .int x3)] → W p l e ({ frames := 2, cells := 0, slots := 0, locals := 45 } : Room) s m args below meth c H locs 0 0 (MQ below (va_Qi (fun r _ => Q r) (B1 D (fun _ : Unit => ([] : va_W)) A) A) args s 0 0 A) (F0 m 4 ls [])) (h : w9_rimOf_b13 K4 x0 x2 x3 x4 Q) {H : Heap} {locs : List Loc} (hG : GW D A s (([] : va_W)) H locs) {ls : Array Slot} (hl : lv_has ls 5 [(0, .long x0), (2, .int x2), (3, .int x3), (4, .int x4)]) : W p l e ({ frames := 2, cells := 0, slots := 0, locals := 45 } : Room) s m args below meth c H locs 0 0 (MQ below (va_Qi (fun r _ => Q r) (B1 D (fun _ : Unit => ([] : va_W)) A) A) args s 0 0 A) (F0 m 13 ls []) := by
  obtain ⟨k, hn⟩ := h
  induction k generalizing x2 x4 H locs ls with
  | zero => exact hn.elim
  | succ k ih => exact b9_rimOf_d13 (K4 := K4) (K13 := fun y0 y1 => itr (w9_rimOf_F13 K4 x0 x3 Q) k (y0, y1)) x0 x2 x3 x4 C hK4 (fun x2 x4 H locs ls hk hG hl => ih x2 x4 hG hl hk) hn hG hl
def w9_rimOf_d4 (K4 : Int32 → Int32 → Prop) (x0 : Int64) (x2 : Int32) (x3 : Int32) (Q : Int32 → Prop) : Prop :=
  (((64 : Int32) ≤ x3 → Q x2) ∧ (¬ (64 : Int32) ≤ x3 → w9_rimOf_b13 K4 x0 x2 x3 (0 : Int32) Q))
set_option maxHeartbeats 4000000 in
set_option maxRecDepth 100000 in
theorem b9_rimOf_d4 {p : Program} {l : Launch} {e : Env} {s : State} {m : MethodId} {args : Array Value} {below : List Frame} {meth : Method} {c : Code} {D : va_G} {cy : Nat → ClassId} {A : Nat → Prop} {K4 : Int32 → Int32 → Prop} (x0 : Int64) (x2 : Int32) (x3 : Int32) {Q : Int32 → Prop} (C : Cx p s m args meth c cX9_rimOf 5 (some .int) wsX9_rimOf RX9 D cy nestWs A) (hK4 : ∀ (x2 : Int32) (x3 : Int32) (H : Heap) (locs : List Loc) (ls : Array Slot), K4 x2 x3 → GW D A s (([] : va_W)) H locs → lv_has ls 5 [(0, .long x0), (2, .int x2), (3, .int x3)] → W p l e ({ frames := 2, cells := 0, slots := 0, locals := 45 } : Room) s m args below meth c H locs 0 0 (MQ below (va_Qi (fun r _ => Q r) (B1 D (fun _ : Unit => ([] : va_W)) A) A) args s 0 0 A) (F0 m 4 ls [])) (h : w9_rimOf_d4 K4 x0 x2 x3 Q) {H : Heap} {locs : List Loc} (hG : GW D A s (([] : va_W)) H locs) {ls : Array Slot} (hl : lv_has ls 5 [(0, .long x0), (2, .int x2), (3, .int x3)]) : W p l e ({ frames := 2, cells := 0, slots := 0, locals := 45 } : Room) s m args below meth c H locs 0 0 (MQ below (va_Qi (fun r _ => Q r) (B1 D (fun _ : Unit => ([] : va_W)) A) A) args s 0 0 A) (F0 m 4 ls []) := by
  have hx := C.1
  have hb := C.2.1
  unfold w9_rimOf_d4 at h
  refine lv_iload_n hx hb dX9_rimOf_4 rfl (lv_at hl 2 rfl) ?_
  refine lv_bipush (v := 64) hx hb dX9_rimOf_5 (by decide) ?_
  refine lv_icmp_ge (tgt := 60) hx hb dX9_rimOf_7 (by decide) (fun c1 => ?_) (fun c1 => ?_)
  · replace h := h.1 c1
    refine lv_iload_n hx hb dX9_rimOf_60 rfl (lv_at hl 1 rfl) ?_
    exact retI (w := (fun _ : Unit => ([] : va_W))) (S := ()) C hG h dX9_rimOf_61
  · replace h := h.2 c1
    refine lv_iconst (v := 0) hx hb dX9_rimOf_10 (by decide) ?_
    refine lv_istore (lv' := [(4, .int (0 : Int32)), (0, .long x0), (2, .int x2), (3, .int x3)]) hx hb dX9_rimOf_11 hl (by decide) rfl (fun ls hl => ?_)
    exact b9_rimOf_b13 (K4 := K4) x0 x2 x3 (0 : Int32) C hK4 h hG (lv_sub hl [1, 2, 3, 0] rfl)
def w9_rimOf_F4 (x0 : Int64) (Q : Int32 → Prop) (K : Int32 × Int32 → Prop) (a : Int32 × Int32) : Prop := w9_rimOf_d4 (fun y0 y1 => K (y0, y1)) x0 a.1 a.2 Q
def w9_rimOf_b4 (x0 : Int64) (x2 : Int32) (x3 : Int32) (Q : Int32 → Prop) : Prop := lp (w9_rimOf_F4 x0 Q) (x2, x3)
set_option maxHeartbeats 4000000 in
set_option maxRecDepth 100000 in
theorem b9_rimOf_b4 {p : Program} {l : Launch} {e : Env} {s : State} {m : MethodId} {args : Array Value} {below : List Frame} {meth : Method} {c : Code} {D : va_G} {cy : Nat → ClassId} {A : Nat → Prop} (x0 : Int64) (x2 : Int32) (x3 : Int32) {Q : Int32 → Prop} (C : Cx p s m args meth c cX9_rimOf 5 (some .int) wsX9_rimOf RX9 D cy nestWs A) (h : w9_rimOf_b4 x0 x2 x3 Q) {H : Heap} {locs : List Loc} (hG : GW D A s (([] : va_W)) H locs) {ls : Array Slot} (hl : lv_has ls 5 [(0, .long x0), (2, .int x2), (3, .int x3)]) : W p l e ({ frames := 2, cells := 0, slots := 0, locals := 45 } : Room) s m args below meth c H locs 0 0 (MQ below (va_Qi (fun r _ => Q r) (B1 D (fun _ : Unit => ([] : va_W)) A) A) args s 0 0 A) (F0 m 4 ls []) := by
  obtain ⟨k, hn⟩ := h
  induction k generalizing x2 x3 H locs ls with
  | zero => exact hn.elim
  | succ k ih => exact b9_rimOf_d4 (K4 := fun y0 y1 => itr (w9_rimOf_F4 x0 Q) k (y0, y1)) x0 x2 x3 C (fun x2 x3 H locs ls hk hG hl => ih x2 x3 hG hl hk) hn hG hl
def w9_rimOf (x0 : Int64) (Q : Int32 → Prop) : Prop :=
  w9_rimOf_b4 x0 (0 : Int32) (0 : Int32) Q
set_option maxHeartbeats 4000000 in
set_option maxRecDepth 100000 in
theorem c9_rimOf (l : Launch) (D : va_G) (cy : Nat → ClassId)  (x0 : Int64) (Q : Int32 → Prop) (h : w9_rimOf x0 Q) : MetI l yX9_rimOf wsX9_rimOf ({ frames := 2, cells := 0, slots := 0, locals := 45 } : Room) D cy nestWs (fun _ : Unit => ([] : va_W)) [.long x0] () (fun r _ => Q r) := by
  refine MetI.mk RX9 cX9_rimOf 5 .int (by decide) rfl nestWs_ok rfl (Nat.le_of_ble_eq_true rfl) ?_
  intro p e s m below meth c A ls C hG hl
  have hl : lv_has ls 5 [(0, .long x0)] := hl
  have hx := C.1
  have hb := C.2.1
  unfold w9_rimOf at h
  refine lv_iconst (v := 0) hx hb dX9_rimOf_0 (by decide) ?_
  refine lv_istore_n (lv' := [(2, .int (0 : Int32)), (0, .long x0)]) hx hb dX9_rimOf_1 rfl hl (by decide) rfl (fun ls hl => ?_)
  refine lv_iconst (v := 0) hx hb dX9_rimOf_2 (by decide) ?_
  refine lv_istore_n (lv' := [(3, .int (0 : Int32)), (2, .int (0 : Int32)), (0, .long x0)]) hx hb dX9_rimOf_3 rfl hl (by decide) rfl (fun ls hl => ?_)
  exact b9_rimOf_b4 x0 (0 : Int32) (0 : Int32) C h hG (lv_sub hl [2, 1, 0] rfl)
