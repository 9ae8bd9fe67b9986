-- X5_hasPlaces
theorem i5_hasPlaces_X5 : ∀ w ∈ wsX50, w ∈ wsX5_hasPlaces := fun w h => List.mem_cons_of_mem _ (inG_X5 w h)
theorem k5_hasPlaces_15 : Cond.fieldLink RX5 15 "PaperBodies$Row" "size" "I" ∈ wsX5_hasPlaces := (List.mem_cons_of_mem _ mw_224)
def w5_hasPlaces_b31 (t0 : Int32) (S : MS) (Q : Int32 → Prop) : Prop :=
  narrow .boolean (.int t0) = .int t0 ∧ Q t0
set_option maxHeartbeats 4000000 in
set_option maxRecDepth 100000 in
theorem b5_hasPlaces_b31 {p : Program} {l : Launch} {e : Env} {s : State} {m : MethodId} {args : Array Value} {below : List Frame} {meth : Method} {c : Code} {D : va_G} {cy : Nat → ClassId} {A : Nat → Prop} {o : Nat} {q : Nat → Nat} (t0 : Int32) (S : MS) {Q : Int32 → Prop} (C : Cx p s m args meth c cX5_hasPlaces 3 (some .boolean) wsX5_hasPlaces RX5 D cy nestWs A) (h : w5_hasPlaces_b31 t0 S Q) {H : Heap} {locs : List Loc} (hG : GW D A s (w5 o q cy S) H locs) {ls : Array Slot} (hl : lv_has ls 3 [(0, .ref o)]) : W p l e ({ frames := 0, cells := 0, slots := 0, locals := 0 } : Room) s m args below meth c H locs 0 0 (MQ below (va_Qi (fun r z => z = S ∧ Q r ) (B1 D (w5 o q cy) A) A) args s 0 0 A) (F0 m 31 ls [.int t0]) := by
  have hx := C.1
  have hb := C.2.1
  unfold w5_hasPlaces_b31 at h
  exact retZ (w := (w5 o q cy)) (S := S) C hG ⟨h.1, ⟨rfl, h.2⟩⟩ dX5_hasPlaces_31
def w5_hasPlaces_b30 (S : MS) (Q : Int32 → Prop) : Prop :=
  w5_hasPlaces_b31 (0 : Int32) S Q
set_option maxHeartbeats 4000000 in
set_option maxRecDepth 100000 in
theorem b5_hasPlaces_b30 {p : Program} {l : Launch} {e : Env} {s : State} {m : MethodId} {args : Array Value} {below : List Frame} {meth : Method} {c : Code} {D : va_G} {cy : Nat → ClassId} {A : Nat → Prop} {o : Nat} {q : Nat → Nat} (S : MS) {Q : Int32 → Prop} (C : Cx p s m args meth c cX5_hasPlaces 3 (some .boolean) wsX5_hasPlaces RX5 D cy nestWs A) (h : w5_hasPlaces_b30 S Q) {H : Heap} {locs : List Loc} (hG : GW D A s (w5 o q cy S) H locs) {ls : Array Slot} (hl : lv_has ls 3 [(0, .ref o)]) : W p l e ({ frames := 0, cells := 0, slots := 0, locals := 0 } : Room) s m args below meth c H locs 0 0 (MQ below (va_Qi (fun r z => z = S ∧ Q r ) (B1 D (w5 o q cy) A) A) args s 0 0 A) (F0 m 30 ls []) := by
  have hx := C.1
  have hb := C.2.1
  unfold w5_hasPlaces_b30 at h
  refine lv_iconst (v := 0) hx hb dX5_hasPlaces_30 (by decide) ?_
  exact b5_hasPlaces_b31 (0 : Int32) S C h hG hl
def w5_hasPlaces (x1 : Int32) (x2 : Int32) (S : MS) (Q : Int32 → Prop) : Prop :=
  ((x1 < 0 → w5_hasPlaces_b30 S Q) ∧ (¬ x1 < 0 → ((x2 < 0 → w5_hasPlaces_b30 S Q) ∧ (¬ x2 < 0 → (((fI S 1) < x2 → w5_hasPlaces_b30 S Q) ∧ (¬ (fI S 1) < x2 → ((((fI S 1) - x2) < x1 → w5_hasPlaces_b30 S Q) ∧ (¬ ((fI S 1) - x2) < x1 → w5_hasPlaces_b31 (1 : Int32) S Q))))))))
set_option maxHeartbeats 4000000 in
set_option maxRecDepth 100000 in
theorem c5_hasPlaces (l : Launch) (D : va_G) (cy : Nat → ClassId)  (o : Nat) (q : Nat → Nat) (x1 : Int32) (x2 : Int32) (S : MS) (Q : Int32 → Prop) (h : w5_hasPlaces x1 x2 S Q) : MetI l yX5_hasPlaces wsX5_hasPlaces ({ frames := 0, cells := 0, slots := 0, locals := 0 } : Room) D cy nestWs (w5 o q cy) [.ref o, .int x1, .int x2] S (fun r z => z = S ∧ Q r ) := by
  refine MetI.mk RX5 cX5_hasPlaces 3 .boolean (by decide) rfl nestWs_ok rfl (Nat.le_of_ble_eq_true rfl) ?_
  intro p e s m below meth c A ls C hG hl
  have hl : lv_has ls 3 [(0, .ref o), (1, .int x1), (2, .int x2)] := hl
  have hx := C.1
  have hb := C.2.1
  unfold w5_hasPlaces at h
  refine lv_iload_n hx hb dX5_hasPlaces_0 rfl (lv_at hl 1 rfl) ?_
  refine lv_if_lt (tgt := 30) hx hb dX5_hasPlaces_1 (by decide) (fun c1 => ?_) (fun c1 => ?_)
  · replace h := h.1 c1
    exact b5_hasPlaces_b30 S C h hG (lv_sub hl [0] rfl)
  · replace h := h.2 c1
    refine lv_iload_n hx hb dX5_hasPlaces_4 rfl (lv_at hl 2 rfl) ?_
    refine lv_if_lt (tgt := 30) hx hb dX5_hasPlaces_5 (by decide) (fun c2 => ?_) (fun c2 => ?_)
    · replace h := h.1 c2
      exact b5_hasPlaces_b30 S C h hG (lv_sub hl [0] rfl)
    · replace h := h.2 c2
      refine lv_iload_n hx hb dX5_hasPlaces_8 rfl (lv_at hl 2 rfl) ?_
      refine lv_aload_n hx hb dX5_hasPlaces_9 rfl (lv_at hl 0 rfl) ?_
      refine gx_get C i5_hasPlaces_X5 hG 0 rfl rfl 1 (by decide) k5_hasPlaces_15 rfl dX5_hasPlaces_10 ?_
      refine lv_icmp_gt (tgt := 30) hx hb dX5_hasPlaces_13 (by decide) (fun c3 => ?_) (fun c3 => ?_)
      · replace h := h.1 c3
        exact b5_hasPlaces_b30 S C h hG (lv_sub hl [0] rfl)
      · replace h := h.2 c3
        refine lv_iload_n hx hb dX5_hasPlaces_16 rfl (lv_at hl 1 rfl) ?_
        refine lv_aload_n hx hb dX5_hasPlaces_17 rfl (lv_at hl 0 rfl) ?_
        refine gx_get C i5_hasPlaces_X5 hG 0 rfl rfl 1 (by decide) k5_hasPlaces_15 rfl dX5_hasPlaces_18 ?_
        refine lv_iload_n hx hb dX5_hasPlaces_21 rfl (lv_at hl 2 rfl) ?_
        refine lv_isub hx hb dX5_hasPlaces_22 ?_
        refine lv_icmp_gt (tgt := 30) hx hb dX5_hasPlaces_23 (by decide) (fun c4 => ?_) (fun c4 => ?_)
        · replace h := h.1 c4
          exact b5_hasPlaces_b30 S C h hG (lv_sub hl [0] rfl)
        · replace h := h.2 c4
          refine lv_iconst (v := 1) hx hb dX5_hasPlaces_26 (by decide) ?_
          refine lv_goto (tgt := 31) hx hb dX5_hasPlaces_27 (by decide) ?_
          exact b5_hasPlaces_b31 (1 : Int32) S C h hG (lv_sub hl [0] rfl)
-- X5_begin
theorem i5_begin_X5 : ∀ w ∈ wsX50, w ∈ wsX5_begin := fun w h => List.mem_cons_of_mem _ (inG_X5 w h)
theorem k5_begin_9 : Cond.fieldLink RX5 9 "PaperBodies$Row" "places" "[I" ∈ wsX5_begin := (List.mem_cons_of_mem _ mw_223)
theorem k5_begin_15 : Cond.fieldLink RX5 15 "PaperBodies$Row" "size" "I" ∈ wsX5_begin := (List.mem_cons_of_mem _ mw_224)
theorem k5_begin_25 : (Cond.methodLink RX5 25 Lib.Math.min.name ∈ wsX5_begin ∧ Cond.static Lib.Math.min.name ∈ wsX5_begin) ∧ (Cond.initialized "java/lang/Math" ∈ wsX5_begin ∧ Cond.code Lib.Math.min.name Lib.Math.min.code 2 (some .int) ∈ wsX5_begin) := ⟨⟨(List.mem_cons_of_mem _ mw_229), (List.mem_cons_of_mem _ mw_230)⟩, ⟨(List.mem_cons_of_mem _ mw_231), (List.mem_cons_of_mem _ mw_232)⟩⟩
theorem k5_begin_31 : (Cond.methodLink RX5 31 Lib.Math.max.name ∈ wsX5_begin ∧ Cond.static Lib.Math.max.name ∈ wsX5_begin) ∧ (Cond.initialized "java/lang/Math" ∈ wsX5_begin ∧ Cond.code Lib.Math.max.name Lib.Math.max.code 2 (some .int) ∈ wsX5_begin) := ⟨⟨(List.mem_cons_of_mem _ mw_233), (List.mem_cons_of_mem _ mw_234)⟩, ⟨(List.mem_cons_of_mem _ mw_231), (List.mem_cons_of_mem _ mw_235)⟩⟩
def w5_begin (x1 : Int32) (S : MS) (Q : MS → Prop) : Prop :=
  w7_fill_53178 24 (0 : Int32) (aI S 0) (fun S1 => ∀ S2 : MS, S2 = pA S 0 S1 → ∀ S3 : MS, S3 = sI S2 1 (if (0 : Int32) < (if (24 : Int32) < x1 then (24 : Int32) else x1) then (if (24 : Int32) < x1 then (24 : Int32) else x1) else (0 : Int32)) → Q S3)
set_option maxHeartbeats 4000000 in
set_option maxRecDepth 100000 in
theorem c5_begin (l : Launch) (D : va_G) (cy : Nat → ClassId)  (o : Nat) (q : Nat → Nat) (x1 : Int32) (S : MS) (Q : MS → Prop) (h : w5_begin x1 S Q) : MetV l yX5_begin wsX5_begin ({ frames := 1, cells := 0, slots := 0, locals := 60 } : Room) D cy nestWs (w5 o q cy) [.ref o, .int x1] S Q := by
  refine MetV.mk RX5 cX5_begin 2 (by decide) rfl nestWs_ok rfl (Nat.le_of_ble_eq_true rfl) ?_
  intro p e s m below meth c A ls C hG hl
  have hl : lv_has ls 2 [(0, .ref o), (1, .int x1)] := hl
  have hx := C.1
  have hb := C.2.1
  unfold w5_begin at h
  refine lv_aload_n hx hb dX5_begin_0 rfl (lv_at hl 0 rfl) ?_
  refine gx_get C i5_begin_X5 hG 0 rfl rfl 0 (by decide) k5_begin_9 rfl dX5_begin_1 ?_
  refine lv_iconst (v := 0) hx hb dX5_begin_4 (by decide) ?_
  refine callSV (As := [.ref (q 0), .int (0 : Int32)]) (rest := []) C hG (c7_fill_53178 l D cy (q 0) 24 (0 : Int32) (aI S 0) _ h) 2 gX5_begin_J7_fill_53178 rfl (by decide +kernel) ⟨⟨Nat.le_of_ble_eq_true rfl, Nat.le_of_ble_eq_true rfl⟩, rfl, rfl⟩ (Foc.pq (rv := fun z : (Nat → Int32) => (w5 o q cy (pA S 0 z) : va_W)) C.2.2.2.2.2.2.2.2.1 [1] [0] [0, 1] rfl rfl rfl rfl rfl (by decide) rfl (fun _ => rfl) (fun _ => rfl)) rfl hl.1 rfl (Nat.le_of_ble_eq_true rfl) dX5_begin_5 ⟨Nat.zero_le _, Nat.zero_le _⟩ (fun  S1 H locs h hG => ?_)
  obtain ⟨S2, eS2⟩ : ∃ z : MS, z = pA S 0 S1 := ⟨_, rfl⟩
  have h := h S2 eS2
  have hG : GW D A s (w5 o q cy S2) H locs := by rw [eS2]; exact hG
  refine lv_aload_n hx hb dX5_begin_8 rfl (lv_at hl 0 rfl) ?_
  refine lv_iconst (v := 0) hx hb dX5_begin_9 (by decide) ?_
  refine lv_iload_n hx hb dX5_begin_10 rfl (lv_at hl 1 rfl) ?_
  refine lv_bipush (v := 24) hx hb dX5_begin_11 (by decide) ?_
  refine va_mmin hx hb (C.2.2.1.trans hl.1.symm) C.2.2.2.1 (C.2.2.2.2.1 _ k5_begin_25.1.1) (C.2.2.2.2.1 _ k5_begin_25.1.2) (C.2.2.2.2.1 _ k5_begin_25.2.1) (C.2.2.2.2.1 _ k5_begin_25.2.2) (Nat.le_of_ble_eq_true rfl) (Nat.le_of_ble_eq_true rfl) (Nat.zero_le _) (Nat.zero_le _) dX5_begin_13 ?_
  refine va_mmax hx hb (C.2.2.1.trans hl.1.symm) C.2.2.2.1 (C.2.2.2.2.1 _ k5_begin_31.1.1) (C.2.2.2.2.1 _ k5_begin_31.1.2) (C.2.2.2.2.1 _ k5_begin_31.2.1) (C.2.2.2.2.1 _ k5_begin_31.2.2) (Nat.le_of_ble_eq_true rfl) (Nat.le_of_ble_eq_true rfl) (Nat.zero_le _) (Nat.zero_le _) dX5_begin_16 ?_
  refine gx_put (ty := .int) (ws' := w5 o q cy (sI S2 1 (if (0 : Int32) < (if (24 : Int32) < x1 then (24 : Int32) else x1) then (if (24 : Int32) < x1 then (24 : Int32) else x1) else (0 : Int32)))) C i5_begin_X5 tyX5 tyX5_ok nmX5 hG 0 rfl rfl 1 (by decide) k5_begin_15 rfl (by decide +kernel) rfl rfl (Nat.le_of_ble_eq_true rfl) dX5_begin_19 rfl (fun H locs hG => ?_)
  obtain ⟨S3, eS3⟩ : ∃ z : MS, z = sI S2 1 (if (0 : Int32) < (if (24 : Int32) < x1 then (24 : Int32) else x1) then (if (24 : Int32) < x1 then (24 : Int32) else x1) else (0 : Int32)) := ⟨_, rfl⟩
  rw [← eS3] at hG
  replace h := h S3 eS3
  exact retV (w := (w5 o q cy)) (S := S3) C hG h dX5_begin_22
-- X5_takeAway
theorem i5_takeAway_X5 : ∀ w ∈ wsX50, w ∈ wsX5_takeAway := fun w h => List.mem_cons_of_mem _ (inG_X5 w h)
theorem k5_takeAway_15 : Cond.fieldLink RX5 15 "PaperBodies$Row" "size" "I" ∈ wsX5_takeAway := (List.mem_cons_of_mem _ mw_224)
def w5_takeAway (S : MS) (Q : MS → Prop) : Prop :=
  ∀ S1 : MS, S1 = sI S 1 (-1 : Int32) → Q S1
set_option maxHeartbeats 4000000 in
set_option maxRecDepth 100000 in
theorem c5_takeAway (l : Launch) (D : va_G) (cy : Nat → ClassId)  (o : Nat) (q : Nat → Nat) (S : MS) (Q : MS → Prop) (h : w5_takeAway S Q) : MetV l yX5_takeAway wsX5_takeAway ({ frames := 0, cells := 0, slots := 0, locals := 0 } : Room) D cy nestWs (w5 o q cy) [.ref o] S Q := by
  refine MetV.mk RX5 cX5_takeAway 1 (by decide) rfl nestWs_ok rfl (Nat.le_of_ble_eq_true rfl) ?_
  intro p e s m below meth c A ls C hG hl
  have hl : lv_has ls 1 [(0, .ref o)] := hl
  have hx := C.1
  have hb := C.2.1
  unfold w5_takeAway at h
  refine lv_aload_n hx hb dX5_takeAway_0 rfl (lv_at hl 0 rfl) ?_
  refine lv_iconst (v := -1) hx hb dX5_takeAway_1 (by decide) ?_
  refine gx_put (ty := .int) (ws' := w5 o q cy (sI S 1 (-1 : Int32))) C i5_takeAway_X5 tyX5 tyX5_ok nmX5 hG 0 rfl rfl 1 (by decide) k5_takeAway_15 rfl (by decide +kernel) rfl rfl (Nat.le_of_ble_eq_true rfl) dX5_takeAway_2 rfl (fun H locs hG => ?_)
  obtain ⟨S1, eS1⟩ : ∃ z : MS, z = sI S 1 (-1 : Int32) := ⟨_, rfl⟩
  rw [← eS1] at hG
  replace h := h S1 eS1
  exact retV (w := (w5 o q cy)) (S := S1) C hG h dX5_takeAway_5
-- X5_sum
theorem i5_sum_X5 : ∀ w ∈ wsX50, w ∈ wsX5_sum := fun w h => List.mem_cons_of_mem _ (inG_X5 w h)
theorem k5_sum_9 : Cond.fieldLink RX5 9 "PaperBodies$Row" "places" "[I" ∈ wsX5_sum := (List.mem_cons_of_mem _ mw_223)
theorem k5_sum_15 : Cond.fieldLink RX5 15 "PaperBodies$Row" "size" "I" ∈ wsX5_sum := (List.mem_cons_of_mem _ mw_224)
def w5_sum_d4 (K4 : Int64 → Int32 → Prop) (x1 : Int64) (x3 : Int32) (S : MS) (Q : Int64 → Prop) : Prop :=
  (((fI S 1) ≤ x3 → Q x1) ∧ (¬ (fI S 1) ≤ x3 → vp_in x3 24 ∧ ∀ y3 : Int64, y3 = (x1 + (rA S 0 x3).toInt64) → ∀ y4 : Int32, y4 = x3 + 1 → K4 y3 y4))
set_option maxHeartbeats 4000000 in
set_option maxRecDepth 100000 in
theorem b5_sum_d4 {p : Program} {l : Launch} {e : Env} {s : State} {m : MethodId} {args : Array Value} {below : List Frame} {meth : Method} {c : Code} {D : va_G} {cy : Nat → ClassId} {A : Nat → Prop} {o : Nat} {q : Nat → Nat} {K4 : Int64 → Int32 → Prop} (x1 : Int64) (x3 : Int32) (S : MS) {Q : Int64 → Prop} (C : Cx p s m args meth c cX5_sum 4 (some .long) wsX5_sum RX5 D cy nestWs A) (hK4 : ∀ (x1 : Int64) (x3 : Int32) (H : Heap) (locs : List Loc) (ls : Array Slot), K4 x1 x3 → GW D A s (w5 o q cy S) H locs → lv_has ls 4 [(0, .ref o), (1, .long x1), (3, .int x3)] → W p l e ({ frames := 0, cells := 0, slots := 0, locals := 0 } : Room) s m args below meth c H locs 0 0 (MQ below (va_Ql (fun r z => z = S ∧ Q r ) (B1 D (w5 o q cy) A) A) args s 0 0 A) (F0 m 4 ls [])) (h : w5_sum_d4 K4 x1 x3 S Q) {H : Heap} {locs : List Loc} (hG : GW D A s (w5 o q cy S) H locs) {ls : Array Slot} (hl : lv_has ls 4 [(0, .ref o), (1, .long x1), (3, .int x3)]) : W p l e ({ frames := 0, cells := 0, slots := 0, locals := 0 } : Room) s m args below meth c H locs 0 0 (MQ below (va_Ql (fun r z => z = S ∧ Q r ) (B1 D (w5 o q cy) A) A) args s 0 0 A) (F0 m 4 ls []) := by
  have hx := C.1
  have hb := C.2.1
  unfold w5_sum_d4 at h
  refine lv_iload_n hx hb dX5_sum_4 rfl (lv_at hl 2 rfl) ?_
  refine lv_aload_n hx hb dX5_sum_5 rfl (lv_at hl 0 rfl) ?_
  refine gx_get C i5_sum_X5 hG 0 rfl rfl 1 (by decide) k5_sum_15 rfl dX5_sum_6 ?_
  refine lv_icmp_ge (tgt := 28) hx hb dX5_sum_9 (by decide) (fun c1 => ?_) (fun c1 => ?_)
  · replace h := h.1 c1
    refine lv_lload_n hx hb dX5_sum_28 rfl (lv_at hl 1 rfl) ?_
    exact retL (w := (w5 o q cy)) (S := S) C hG ⟨rfl, h⟩ dX5_sum_29
  · replace h := h.2 c1
    refine lv_lload_n hx hb dX5_sum_12 rfl (lv_at hl 1 rfl) ?_
    refine lv_aload_n hx hb dX5_sum_13 rfl (lv_at hl 0 rfl) ?_
    refine gx_get C i5_sum_X5 hG 0 rfl rfl 0 (by decide) k5_sum_9 rfl dX5_sum_14 ?_
    refine lv_iload_n hx hb dX5_sum_17 rfl (lv_at hl 2 rfl) ?_
    obtain ⟨hv2, h⟩ := h
    refine gx_ald C hG 1 rfl hv2 dX5_sum_18 ?_
    refine lv_i2l hx hb dX5_sum_19 rfl ?_
    refine lv_ladd hx hb dX5_sum_20 ?_
    refine lv_topl (fun y3 ey3 => ?_)
    replace h := h y3 ey3
    refine lv_lstore_n (lv' := [(1, .long y3), (0, .ref o), (3, .int x3)]) hx hb dX5_sum_21 rfl hl (by decide) rfl (fun ls hl => ?_)
    obtain ⟨y4, ey4⟩ : ∃ y : Int32, y = x3 + 1 := ⟨_, rfl⟩
    replace h := h y4 ey4
    refine lv_iinc (v := y4) (lv' := [(3, .int y4), (1, .long y3), (0, .ref o)]) hx hb dX5_sum_22 hl (k := 2) rfl (by rw [ey4]; rfl) (by decide) rfl (fun ls hl => ?_)
    refine lv_goto (tgt := 4) hx hb dX5_sum_25 (by decide) ?_
    exact hK4 y3 y4 _ _ _ h hG (lv_sub hl [2, 1, 0] rfl)
def w5_sum_F4 (S : MS) (Q : Int64 → Prop) (K : Int64 × Int32 → Prop) (a : Int64 × Int32) : Prop := w5_sum_d4 (fun y0 y1 => K (y0, y1)) a.1 a.2 S Q
def w5_sum_b4 (x1 : Int64) (x3 : Int32) (S : MS) (Q : Int64 → Prop) : Prop := lp (w5_sum_F4 S Q) (x1, x3)
set_option maxHeartbeats 4000000 in
set_option maxRecDepth 100000 in
theorem b5_sum_b4 {p : Program} {l : Launch} {e : Env} {s : State} {m : MethodId} {args : Array Value} {below : List Frame} {meth : Method} {c : Code} {D : va_G} {cy : Nat → ClassId} {A : Nat → Prop} {o : Nat} {q : Nat → Nat} (x1 : Int64) (x3 : Int32) (S : MS) {Q : Int64 → Prop} (C : Cx p s m args meth c cX5_sum 4 (some .long) wsX5_sum RX5 D cy nestWs A) (h : w5_sum_b4 x1 x3 S Q) {H : Heap} {locs : List Loc} (hG : GW D A s (w5 o q cy S) H locs) {ls : Array Slot} (hl : lv_has ls 4 [(0, .ref o), (1, .long x1), (3, .int x3)]) : W p l e ({ frames := 0, cells := 0, slots := 0, locals := 0 } : Room) s m args below meth c H locs 0 0 (MQ below (va_Ql (fun r z => z = S ∧ Q r ) (B1 D (w5 o q cy) A) A) args s 0 0 A) (F0 m 4 ls []) := by
  obtain ⟨k, hn⟩ := h
  induction k generalizing x1 x3 H locs ls with
  | zero => exact hn.elim
  | succ k ih => exact b5_sum_d4 (K4 := fun y0 y1 => itr (w5_sum_F4 S Q) k (y0, y1)) x1 x3 S C (fun x1 x3 H locs ls hk hG hl => ih x1 x3 hG hl hk) hn hG hl
def w5_sum (S : MS) (Q : Int64 → Prop) : Prop :=
  w5_sum_b4 (0 : Int64) (0 : Int32) S Q
set_option maxHeartbeats 4000000 in
set_option maxRecDepth 100000 in
theorem c5_sum (l : Launch) (D : va_G) (cy : Nat → ClassId)  (o : Nat) (q : Nat → Nat) (S : MS) (Q : Int64 → Prop) (h : w5_sum S Q) : MetL l yX5_sum wsX5_sum ({ frames := 0, cells := 0, slots := 0, locals := 0 } : Room) D cy nestWs (w5 o q cy) [.ref o] S (fun r z => z = S ∧ Q r ) := by
  refine MetL.mk RX5 cX5_sum 4 (by decide) rfl nestWs_ok rfl (Nat.le_of_ble_eq_true rfl) ?_
  intro p e s m below meth c A ls C hG hl
  have hl : lv_has ls 4 [(0, .ref o)] := hl
  have hx := C.1
  have hb := C.2.1
  unfold w5_sum at h
  refine lv_lconst (v := 0) hx hb dX5_sum_0 (by decide) ?_
  refine lv_lstore_n (lv' := [(1, .long (0 : Int64)), (0, .ref o)]) hx hb dX5_sum_1 rfl hl (by decide) rfl (fun ls hl => ?_)
  refine lv_iconst (v := 0) hx hb dX5_sum_2 (by decide) ?_
  refine lv_istore_n (lv' := [(3, .int (0 : Int32)), (1, .long (0 : Int64)), (0, .ref o)]) hx hb dX5_sum_3 rfl hl (by decide) rfl (fun ls hl => ?_)
  exact b5_sum_b4 (0 : Int64) (0 : Int32) S C h hG (lv_sub hl [2, 1, 0] rfl)
-- X5_digestInto
theorem i5_digestInto_X5 : ∀ w ∈ wsX50, w ∈ wsX5_digestInto := fun w h => List.mem_cons_of_mem _ (inG_X5 w h)
theorem k5_digestInto_9 : Cond.fieldLink RX5 9 "PaperBodies$Row" "places" "[I" ∈ wsX5_digestInto := (List.mem_cons_of_mem _ mw_223)
theorem k5_digestInto_15 : Cond.fieldLink RX5 15 "PaperBodies$Row" "size" "I" ∈ wsX5_digestInto := (List.mem_cons_of_mem _ mw_224)
theorem k5_digestInto_34 : Cond.constantLong RX5 34 (31) ∈ wsX5_digestInto := (List.mem_cons_of_mem _ mw_240)
def w5_digestInto_d15 (K15 : Int64 → Int32 → Prop) (x3 : Int64) (x5 : Int32) (S : MS) (Q : Int64 → Prop) : Prop :=
  (((fI S 1) ≤ x5 → Q x3) ∧ (¬ (fI S 1) ≤ x5 → vp_in x5 24 ∧ ∀ y3 : Int64, y3 = (((31 : Int64) * x3) + (rA S 0 x5).toInt64) → ∀ y4 : Int32, y4 = x5 + 1 → K15 y3 y4))
set_option maxHeartbeats 4000000 in
set_option maxRecDepth 100000 in
theorem b5_digestInto_d15 {p : Program} {l : Launch} {e : Env} {s : State} {m : MethodId} {args : Array Value} {below : List Frame} {meth : Method} {c : Code} {D : va_G} {cy : Nat → ClassId} {A : Nat → Prop} {o : Nat} {q : Nat → Nat} {K15 : Int64 → Int32 → Prop} (x3 : Int64) (x5 : Int32) (S : MS) {Q : Int64 → Prop} (C : Cx p s m args meth c cX5_digestInto 6 (some .long) wsX5_digestInto RX5 D cy nestWs A) (hK15 : ∀ (x3 : Int64) (x5 : Int32) (H : Heap) (locs : List Loc) (ls : Array Slot), K15 x3 x5 → GW D A s (w5 o q cy S) H locs → lv_has ls 6 [(0, .ref o), (3, .long x3), (5, .int x5)] → W p l e ({ frames := 0, cells := 0, slots := 0, locals := 0 } : Room) s m args below meth c H locs 0 0 (MQ below (va_Ql (fun r z => z = S ∧ Q r ) (B1 D (w5 o q cy) A) A) args s 0 0 A) (F0 m 15 ls [])) (h : w5_digestInto_d15 K15 x3 x5 S Q) {H : Heap} {locs : List Loc} (hG : GW D A s (w5 o q cy S) H locs) {ls : Array Slot} (hl : lv_has ls 6 [(0, .ref o), (3, .long x3), (5, .int x5)]) : W p l e ({ frames := 0, cells := 0, slots := 0, locals := 0 } : Room) s m args below meth c H locs 0 0 (MQ below (va_Ql (fun r z => z = S ∧ Q r ) (B1 D (w5 o q cy) A) A) args s 0 0 A) (F0 m 15 ls []) := by
  have hx := C.1
  have hb := C.2.1
  unfold w5_digestInto_d15 at h
  refine lv_iload hx hb dX5_digestInto_15 (lv_at hl 2 rfl) ?_
  refine lv_aload_n hx hb dX5_digestInto_17 rfl (lv_at hl 0 rfl) ?_
  refine gx_get C i5_digestInto_X5 hG 0 rfl rfl 1 (by decide) k5_digestInto_15 rfl dX5_digestInto_18 ?_
  refine lv_icmp_ge (tgt := 45) hx hb dX5_digestInto_21 (by decide) (fun c1 => ?_) (fun c1 => ?_)
  · replace h := h.1 c1
    refine lv_lload_n hx hb dX5_digestInto_45 rfl (lv_at hl 1 rfl) ?_
    exact retL (w := (w5 o q cy)) (S := S) C hG ⟨rfl, h⟩ dX5_digestInto_46
  · replace h := h.2 c1
    refine lv_ldc2 (v := 31) hx hb C.2.2.2.1 (C.2.2.2.2.1 _ k5_digestInto_34) dX5_digestInto_24 ?_
    refine lv_lload_n hx hb dX5_digestInto_27 rfl (lv_at hl 1 rfl) ?_
    refine lv_lmul hx hb dX5_digestInto_28 ?_
    refine lv_aload_n hx hb dX5_digestInto_29 rfl (lv_at hl 0 rfl) ?_
    refine gx_get C i5_digestInto_X5 hG 0 rfl rfl 0 (by decide) k5_digestInto_9 rfl dX5_digestInto_30 ?_
    refine lv_iload hx hb dX5_digestInto_33 (lv_at hl 2 rfl) ?_
    obtain ⟨hv2, h⟩ := h
    refine gx_ald C hG 1 rfl hv2 dX5_digestInto_35 ?_
    refine lv_i2l hx hb dX5_digestInto_36 rfl ?_
    refine lv_ladd hx hb dX5_digestInto_37 ?_
    refine lv_topl (fun y3 ey3 => ?_)
    replace h := h y3 ey3
    refine lv_lstore_n (lv' := [(3, .long y3), (0, .ref o), (5, .int x5)]) hx hb dX5_digestInto_38 rfl hl (by decide) rfl (fun ls hl => ?_)
    obtain ⟨y4, ey4⟩ : ∃ y : Int32, y = x5 + 1 := ⟨_, rfl⟩
    replace h := h y4 ey4
    refine lv_iinc (v := y4) (lv' := [(5, .int y4), (3, .long y3), (0, .ref o)]) hx hb dX5_digestInto_39 hl (k := 2) rfl (by rw [ey4]; rfl) (by decide) rfl (fun ls hl => ?_)
    refine lv_goto (tgt := 15) hx hb dX5_digestInto_42 (by decide) ?_
    exact hK15 y3 y4 _ _ _ h hG (lv_sub hl [2, 1, 0] rfl)
def w5_digestInto_F15 (S : MS) (Q : Int64 → Prop) (K : Int64 × Int32 → Prop) (a : Int64 × Int32) : Prop := w5_digestInto_d15 (fun y0 y1 => K (y0, y1)) a.1 a.2 S Q
def w5_digestInto_b15 (x3 : Int64) (x5 : Int32) (S : MS) (Q : Int64 → Prop) : Prop := lp (w5_digestInto_F15 S Q) (x3, x5)
set_option maxHeartbeats 4000000 in
set_option maxRecDepth 100000 in
theorem b5_digestInto_b15 {p : Program} {l : Launch} {e : Env} {s : State} {m : MethodId} {args : Array Value} {below : List Frame} {meth : Method} {c : Code} {D : va_G} {cy : Nat → ClassId} {A : Nat → Prop} {o : Nat} {q : Nat → Nat} (x3 : Int64) (x5 : Int32) (S : MS) {Q : Int64 → Prop} (C : Cx p s m args meth c cX5_digestInto 6 (some .long) wsX5_digestInto RX5 D cy nestWs A) (h : w5_digestInto_b15 x3 x5 S Q) {H : Heap} {locs : List Loc} (hG : GW D A s (w5 o q cy S) H locs) {ls : Array Slot} (hl : lv_has ls 6 [(0, .ref o), (3, .long x3), (5, .int x5)]) : W p l e ({ frames := 0, cells := 0, slots := 0, locals := 0 } : Room) s m args below meth c H locs 0 0 (MQ below (va_Ql (fun r z => z = S ∧ Q r ) (B1 D (w5 o q cy) A) A) args s 0 0 A) (F0 m 15 ls []) := by
  obtain ⟨k, hn⟩ := h
  induction k generalizing x3 x5 H locs ls with
  | zero => exact hn.elim
  | succ k ih => exact b5_digestInto_d15 (K15 := fun y0 y1 => itr (w5_digestInto_F15 S Q) k (y0, y1)) x3 x5 S C (fun x3 x5 H locs ls hk hG hl => ih x3 x5 hG hl hk) hn hG hl
def w5_digestInto (x1 : Int64) (S : MS) (Q : Int64 → Prop) : Prop :=
  ∀ y1 : Int64, y1 = (((31 : Int64) * x1) + (fI S 1).toInt64) → w5_digestInto_b15 y1 (0 : Int32) S Q
set_option maxHeartbeats 4000000 in
set_option maxRecDepth 100000 in
theorem c5_digestInto (l : Launch) (D : va_G) (cy : Nat → ClassId)  (o : Nat) (q : Nat → Nat) (x1 : Int64) (S : MS) (Q : Int64 → Prop) (h : w5_digestInto x1 S Q) : MetL l yX5_digestInto wsX5_digestInto ({ frames := 0, cells := 0, slots := 0, locals := 0 } : Room) D cy nestWs (w5 o q cy) [.ref o, .long x1] S (fun r z => z = S ∧ Q r ) := by
  refine MetL.mk RX5 cX5_digestInto 6 (by decide) rfl nestWs_ok rfl (Nat.le_of_ble_eq_true rfl) ?_
  intro p e s m below meth c A ls C hG hl
  have hl : lv_has ls 6 [(0, .ref o), (1, .long x1)] := hl
  have hx := C.1
  have hb := C.2.1
  unfold w5_digestInto at h
  refine lv_ldc2 (v := 31) hx hb C.2.2.2.1 (C.2.2.2.2.1 _ k5_digestInto_34) dX5_digestInto_0 ?_
  refine lv_lload_n hx hb dX5_digestInto_3 rfl (lv_at hl 1 rfl) ?_
  refine lv_lmul hx hb dX5_digestInto_4 ?_
  refine lv_aload_n hx hb dX5_digestInto_5 rfl (lv_at hl 0 rfl) ?_
  refine gx_get C i5_digestInto_X5 hG 0 rfl rfl 1 (by decide) k5_digestInto_15 rfl dX5_digestInto_6 ?_
  refine lv_i2l hx hb dX5_digestInto_9 rfl ?_
  refine lv_ladd hx hb dX5_digestInto_10 ?_
  refine lv_topl (fun y1 ey1 => ?_)
  replace h := h y1 ey1
  refine lv_lstore_n (lv' := [(3, .long y1), (0, .ref o), (1, .long x1)]) hx hb dX5_digestInto_11 rfl hl (by decide) rfl (fun ls hl => ?_)
  refine lv_iconst (v := 0) hx hb dX5_digestInto_12 (by decide) ?_
  refine lv_istore (lv' := [(5, .int (0 : Int32)), (3, .long y1), (0, .ref o), (1, .long x1)]) hx hb dX5_digestInto_13 hl (by decide) rfl (fun ls hl => ?_)
  exact b5_digestInto_b15 y1 (0 : Int32) S C h hG (lv_sub hl [2, 1, 0] rfl)
-- X6_frameAt
theorem i6_frameAt_X6 : ∀ w ∈ wsX60, w ∈ wsX6_frameAt := fun w h => List.mem_cons_of_mem _ (inG_X6 w h)
theorem k6_frameAt_9 : Cond.fieldLink RX6 9 "PaperBodies$Sheet" "frames" "[I" ∈ wsX6_frameAt := (List.mem_cons_of_mem _ mw_243)
theorem k6_frameAt_18 : Cond.fieldLink RX6 18 "PaperBodies$Sheet" "set" "J" ∈ wsX6_frameAt := (List.mem_cons_of_mem _ mw_246)
def w6_frameAt_b22 (t0 : Int32) (S : MS) (Q : Int32 → Prop) : Prop :=
  Q t0
set_option maxHeartbeats 4000000 in
set_option maxRecDepth 100000 in
theorem b6_frameAt_b22 {p : Program} {l : Launch} {e : Env} {s : State} {m : MethodId} {args : Array Value} {below : List Frame} {meth : Method} {c : Code} {D : va_G} {cy : Nat → ClassId} {A : Nat → Prop} {o : Nat} {q : Nat → Nat} (t0 : Int32) (S : MS) {Q : Int32 → Prop} (C : Cx p s m args meth c cX6_frameAt 2 (some .int) wsX6_frameAt RX6 D cy nestWs A) (h : w6_frameAt_b22 t0 S Q) {H : Heap} {locs : List Loc} (hG : GW D A s (w6 o q cy S) H locs) {ls : Array Slot} (hl : lv_has ls 2 [(0, .ref o)]) : W p l e ({ frames := 1, cells := 0, slots := 0, locals := 22 } : Room) s m args below meth c H locs 0 0 (MQ below (va_Qi (fun r z => z = S ∧ Q r ) (B1 D (w6 o q cy) A) A) args s 0 0 A) (F0 m 22 ls [.int t0]) := by
  have hx := C.1
  have hb := C.2.1
  unfold w6_frameAt_b22 at h
  exact retI (w := (w6 o q cy)) (S := S) C hG ⟨rfl, h⟩ dX6_frameAt_22
def w6_frameAt (x1 : Int32) (S : MS) (Q : Int32 → Prop) : Prop :=
  w0_has (fJ S 4) x1 (fun r1 => ((r1 = 0 → w6_frameAt_b22 (-9 : Int32) S Q) ∧ (¬ r1 = 0 → vp_in x1 64 ∧ w6_frameAt_b22 (rA S 0 x1) S Q)))
set_option maxHeartbeats 4000000 in
set_option maxRecDepth 100000 in
theorem c6_frameAt (l : Launch) (D : va_G) (cy : Nat → ClassId)  (o : Nat) (q : Nat → Nat) (x1 : Int32) (S : MS) (Q : Int32 → Prop) (h : w6_frameAt x1 S Q) : MetI l yX6_frameAt wsX6_frameAt ({ frames := 1, cells := 0, slots := 0, locals := 22 } : Room) D cy nestWs (w6 o q cy) [.ref o, .int x1] S (fun r z => z = S ∧ Q r ) := by
  refine MetI.mk RX6 cX6_frameAt 2 .int (by decide) rfl nestWs_ok rfl (Nat.le_of_ble_eq_true rfl) ?_
  intro p e s m below meth c A ls C hG hl
  have hl : lv_has ls 2 [(0, .ref o), (1, .int x1)] := hl
  have hx := C.1
  have hb := C.2.1
  unfold w6_frameAt at h
  refine lv_aload_n hx hb dX6_frameAt_0 rfl (lv_at hl 0 rfl) ?_
  refine gx_get C i6_frameAt_X6 hG 0 rfl rfl 4 (by decide) k6_frameAt_18 rfl dX6_frameAt_1 ?_
  refine lv_iload_n hx hb dX6_frameAt_4 rfl (lv_at hl 1 rfl) ?_
  refine callSI (As := [.long (fJ S 4), .int x1]) (rest := []) C hG (c0_has l D cy (fJ S 4) x1 _ h) 2 gX6_frameAt_X0_has rfl (by decide +kernel) ⟨⟨Nat.le_of_ble_eq_true rfl, Nat.le_of_ble_eq_true rfl⟩, rfl, rfl⟩ (Foc.none C.2.2.2.2.2.2.2.2.1) rfl hl.1 rfl (Nat.le_of_ble_eq_true rfl) dX6_frameAt_5 ⟨Nat.zero_le _, Nat.zero_le _⟩ (fun r1 z H locs h hG => ?_)
  refine lv_if_eq (tgt := 20) hx hb dX6_frameAt_8 (by decide) (fun c2 => ?_) (fun c2 => ?_)
  · replace h := h.1 c2
    refine lv_bipush (v := -9) hx hb dX6_frameAt_20 (by decide) ?_
    exact b6_frameAt_b22 (-9 : Int32) S C h hG (lv_sub hl [0] rfl)
  · replace h := h.2 c2
    refine lv_aload_n hx hb dX6_frameAt_11 rfl (lv_at hl 0 rfl) ?_
    refine gx_get C i6_frameAt_X6 hG 0 rfl rfl 0 (by decide) k6_frameAt_9 rfl dX6_frameAt_12 ?_
    refine lv_iload_n hx hb dX6_frameAt_15 rfl (lv_at hl 1 rfl) ?_
    obtain ⟨hv3, h⟩ := h
    refine gx_ald C hG 1 rfl hv3 dX6_frameAt_16 ?_
    refine lv_goto (tgt := 22) hx hb dX6_frameAt_17 (by decide) ?_
    exact b6_frameAt_b22 (rA S 0 x1) S C h hG (lv_sub hl [0] rfl)
-- X6_clear
theorem i6_clear_X6 : ∀ w ∈ wsX60, w ∈ wsX6_clear := fun w h => List.mem_cons_of_mem _ (inG_X6 w h)
theorem k6_clear_18 : Cond.fieldLink RX6 18 "PaperBodies$Sheet" "set" "J" ∈ wsX6_clear := (List.mem_cons_of_mem _ mw_246)
theorem k6_clear_54 : Cond.fieldLink RX6 54 "PaperBodies$Sheet" "laid" "I" ∈ wsX6_clear := (List.mem_cons_of_mem _ mw_249)
theorem k6_clear_87 : Cond.fieldLink RX6 87 "PaperBodies$Sheet" "coveredCells" "I" ∈ wsX6_clear := (List.mem_cons_of_mem _ mw_250)
def w6_clear (S : MS) (Q : MS → Prop) : Prop :=
  ∀ S1 : MS, S1 = sI S 2 (0 : Int32) → ∀ S2 : MS, S2 = sI S1 3 (0 : Int32) → ∀ S3 : MS, S3 = sJ S2 4 (0 : Int64) → Q S3
set_option maxHeartbeats 4000000 in
set_option maxRecDepth 100000 in
theorem c6_clear (l : Launch) (D : va_G) (cy : Nat → ClassId)  (o : Nat) (q : Nat → Nat) (S : MS) (Q : MS → Prop) (h : w6_clear S Q) : MetV l yX6_clear wsX6_clear ({ frames := 0, cells := 0, slots := 0, locals := 0 } : Room) D cy nestWs (w6 o q cy) [.ref o] S Q := by
  refine MetV.mk RX6 cX6_clear 1 (by decide) rfl nestWs_ok rfl (Nat.le_of_ble_eq_true rfl) ?_
  intro p e s m below meth c A ls C hG hl
  have hl : lv_has ls 1 [(0, .ref o)] := hl
  have hx := C.1
  have hb := C.2.1
  unfold w6_clear at h
  refine lv_aload_n hx hb dX6_clear_0 rfl (lv_at hl 0 rfl) ?_
  refine lv_iconst (v := 0) hx hb dX6_clear_1 (by decide) ?_
  refine gx_put (ty := .int) (ws' := w6 o q cy (sI S 2 (0 : Int32))) C i6_clear_X6 tyX6 tyX6_ok nmX6 hG 0 rfl rfl 2 (by decide) k6_clear_54 rfl (by decide +kernel) rfl rfl (Nat.le_of_ble_eq_true rfl) dX6_clear_2 rfl (fun H locs hG => ?_)
  obtain ⟨S1, eS1⟩ : ∃ z : MS, z = sI S 2 (0 : Int32) := ⟨_, rfl⟩
  rw [← eS1] at hG
  replace h := h S1 eS1
  refine lv_aload_n hx hb dX6_clear_5 rfl (lv_at hl 0 rfl) ?_
  refine lv_iconst (v := 0) hx hb dX6_clear_6 (by decide) ?_
  refine gx_put (ty := .int) (ws' := w6 o q cy (sI S1 3 (0 : Int32))) C i6_clear_X6 tyX6 tyX6_ok nmX6 hG 0 rfl rfl 3 (by decide) k6_clear_87 rfl (by decide +kernel) rfl rfl (Nat.le_of_ble_eq_true rfl) dX6_clear_7 rfl (fun H locs hG => ?_)
  obtain ⟨S2, eS2⟩ : ∃ z : MS, z = sI S1 3 (0 : Int32) := ⟨_, rfl⟩
  rw [← eS2] at hG
  replace h := h S2 eS2
  refine lv_aload_n hx hb dX6_clear_10 rfl (lv_at hl 0 rfl) ?_
  refine lv_lconst (v := 0) hx hb dX6_clear_11 (by decide) ?_
  refine gx_put (ty := .long) (ws' := w6 o q cy (sJ S2 4 (0 : Int64))) C i6_clear_X6 tyX6 tyX6_ok nmX6 hG 0 rfl rfl 4 (by decide) k6_clear_18 rfl (by decide +kernel) rfl rfl (Nat.le_of_ble_eq_true rfl) dX6_clear_12 rfl (fun H locs hG => ?_)
  obtain ⟨S3, eS3⟩ : ∃ z : MS, z = sJ S2 4 (0 : Int64) := ⟨_, rfl⟩
  rw [← eS3] at hG
  replace h := h S3 eS3
  exact retV (w := (w6 o q cy)) (S := S3) C hG h dX6_clear_15
-- X6_covers
theorem i6_covers_X6 : ∀ w ∈ wsX60, w ∈ wsX6_covers := fun w h => List.mem_cons_of_mem _ (inG_X6 w h)
theorem k6_covers_87 : Cond.fieldLink RX6 87 "PaperBodies$Sheet" "coveredCells" "I" ∈ wsX6_covers := (List.mem_cons_of_mem _ mw_250)
def w6_covers_b16 (t0 : Int32) (S : MS) (Q : Int32 → Prop) : Prop :=
  narrow .boolean (.int t0) = .int t0 ∧ Q t0
set_option maxHeartbeats 4000000 in
set_option maxRecDepth 100000 in
theorem b6_covers_b16 {p : Program} {l : Launch} {e : Env} {s : State} {m : MethodId} {args : Array Value} {below : List Frame} {meth : Method} {c : Code} {D : va_G} {cy : Nat → ClassId} {A : Nat → Prop} {o : Nat} {q : Nat → Nat} (t0 : Int32) (S : MS) {Q : Int32 → Prop} (C : Cx p s m args meth c cX6_covers 2 (some .boolean) wsX6_covers RX6 D cy nestWs A) (h : w6_covers_b16 t0 S Q) {H : Heap} {locs : List Loc} (hG : GW D A s (w6 o q cy S) H locs) {ls : Array Slot} (hl : lv_has ls 2 [(0, .ref o)]) : W p l e ({ frames := 0, cells := 0, slots := 0, locals := 0 } : Room) s m args below meth c H locs 0 0 (MQ below (va_Qi (fun r z => z = S ∧ Q r ) (B1 D (w6 o q cy) A) A) args s 0 0 A) (F0 m 16 ls [.int t0]) := by
  have hx := C.1
  have hb := C.2.1
  unfold w6_covers_b16 at h
  exact retZ (w := (w6 o q cy)) (S := S) C hG ⟨h.1, ⟨rfl, h.2⟩⟩ dX6_covers_16
def w6_covers (x1 : Int32) (S : MS) (Q : Int32 → Prop) : Prop :=
  (((((fI S 3) >>> (x1 &&& 31)) &&& (1 : Int32)) = 0 → w6_covers_b16 (0 : Int32) S Q) ∧ (¬ (((fI S 3) >>> (x1 &&& 31)) &&& (1 : Int32)) = 0 → w6_covers_b16 (1 : Int32) S Q))
set_option maxHeartbeats 4000000 in
set_option maxRecDepth 100000 in
theorem c6_covers (l : Launch) (D : va_G) (cy : Nat → ClassId)  (o : Nat) (q : Nat → Nat) (x1 : Int32) (S : MS) (Q : Int32 → Prop) (h : w6_covers x1 S Q) : MetI l yX6_covers wsX6_covers ({ frames := 0, cells := 0, slots := 0, locals := 0 } : Room) D cy nestWs (w6 o q cy) [.ref o, .int x1] S (fun r z => z = S ∧ Q r ) := by
  refine MetI.mk RX6 cX6_covers 2 .boolean (by decide) rfl nestWs_ok rfl (Nat.le_of_ble_eq_true rfl) ?_
  intro p e s m below meth c A ls C hG hl
  have hl : lv_has ls 2 [(0, .ref o), (1, .int x1)] := hl
  have hx := C.1
  have hb := C.2.1
  unfold w6_covers at h
  refine lv_aload_n hx hb dX6_covers_0 rfl (lv_at hl 0 rfl) ?_
  refine gx_get C i6_covers_X6 hG 0 rfl rfl 3 (by decide) k6_covers_87 rfl dX6_covers_1 ?_
  refine lv_iload_n hx hb dX6_covers_4 rfl (lv_at hl 1 rfl) ?_
  refine lv_ishr hx hb dX6_covers_5 ?_
  refine lv_iconst (v := 1) hx hb dX6_covers_6 (by decide) ?_
  refine lv_iand hx hb dX6_covers_7 ?_
  refine lv_if_eq (tgt := 15) hx hb dX6_covers_8 (by decide) (fun c1 => ?_) (fun c1 => ?_)
  · replace h := h.1 c1
    refine lv_iconst (v := 0) hx hb dX6_covers_15 (by decide) ?_
    exact b6_covers_b16 (0 : Int32) S C h hG (lv_sub hl [0] rfl)
  · replace h := h.2 c1
    refine lv_iconst (v := 1) hx hb dX6_covers_11 (by decide) ?_
    refine lv_goto (tgt := 16) hx hb dX6_covers_12 (by decide) ?_
    exact b6_covers_b16 (1 : Int32) S C h hG (lv_sub hl [0] rfl)
-- X6_put
theorem i6_put_X6 : ∀ w ∈ wsX60, w ∈ wsX6_put := fun w h => List.mem_cons_of_mem _ (inG_X6 w h)
theorem k6_put_9 : Cond.fieldLink RX6 9 "PaperBodies$Sheet" "frames" "[I" ∈ wsX6_put := (List.mem_cons_of_mem _ mw_243)
theorem k6_put_15 : Cond.fieldLink RX6 15 "PaperBodies$Sheet" "order" "[I" ∈ wsX6_put := (List.mem_cons_of_mem _ mw_244)
theorem k6_put_18 : Cond.fieldLink RX6 18 "PaperBodies$Sheet" "set" "J" ∈ wsX6_put := (List.mem_cons_of_mem _ mw_246)
theorem k6_put_54 : Cond.fieldLink RX6 54 "PaperBodies$Sheet" "laid" "I" ∈ wsX6_put := (List.mem_cons_of_mem _ mw_249)
theorem k6_put_87 : Cond.fieldLink RX6 87 "PaperBodies$Sheet" "coveredCells" "I" ∈ wsX6_put := (List.mem_cons_of_mem _ mw_250)
theorem k6_put_90 : Cond.initialized yX8_isSquare.cls ∈ wsX6_put ∧ Cond.static yX8_isSquare ∈ wsX6_put := ⟨(List.mem_cons_of_mem _ mw_13), (List.mem_cons_of_mem _ mw_12)⟩
theorem k6_put_93 : Cond.initialized yX8_within.cls ∈ wsX6_put ∧ Cond.static yX8_within ∈ wsX6_put := ⟨(List.mem_cons_of_mem _ mw_13), (List.mem_cons_of_mem _ mw_14)⟩
def w6_put_b51 (S : MS) (Q : Int32 → MS → Prop) : Prop :=
  Q (0 : Int32) S
set_option maxHeartbeats 4000000 in
set_option maxRecDepth 100000 in
theorem b6_put_b51 {p : Program} {l : Launch} {e : Env} {s : State} {m : MethodId} {args : Array Value} {below : List Frame} {meth : Method} {c : Code} {D : va_G} {cy : Nat → ClassId} {A : Nat → Prop} {o : Nat} {q : Nat → Nat} (S : MS) {Q : Int32 → MS → Prop} (C : Cx p s m args meth c cX6_put 4 (some .boolean) wsX6_put RX6 D cy nestWs A) (h : w6_put_b51 S Q) {H : Heap} {locs : List Loc} (hG : GW D A s (w6 o q cy S) H locs) {ls : Array Slot} (hl : lv_has ls 4 [(0, .ref o)]) : W p l e ({ frames := 1, cells := 0, slots := 0, locals := 22 } : Room) s m args below meth c H locs 0 0 (MQ below (va_Qi Q (B1 D (w6 o q cy) A) A) args s 0 0 A) (F0 m 51 ls []) := by
  have hx := C.1
  have hb := C.2.1
  unfold w6_put_b51 at h
  refine lv_iconst (v := 0) hx hb dX6_put_51 (by decide) ?_
  exact retZ (w := (w6 o q cy)) (S := S) C hG ⟨rfl, h⟩ dX6_put_52
def w6_put_b22 (S : MS) (Q : Int32 → MS → Prop) : Prop :=
  Q (0 : Int32) S
set_option maxHeartbeats 4000000 in
set_option maxRecDepth 100000 in
theorem b6_put_b22 {p : Program} {l : Launch} {e : Env} {s : State} {m : MethodId} {args : Array Value} {below : List Frame} {meth : Method} {c : Code} {D : va_G} {cy : Nat → ClassId} {A : Nat → Prop} {o : Nat} {q : Nat → Nat} (S : MS) {Q : Int32 → MS → Prop} (C : Cx p s m args meth c cX6_put 4 (some .boolean) wsX6_put RX6 D cy nestWs A) (h : w6_put_b22 S Q) {H : Heap} {locs : List Loc} (hG : GW D A s (w6 o q cy S) H locs) {ls : Array Slot} (hl : lv_has ls 4 [(0, .ref o)]) : W p l e ({ frames := 1, cells := 0, slots := 0, locals := 22 } : Room) s m args below meth c H locs 0 0 (MQ below (va_Qi Q (B1 D (w6 o q cy) A) A) args s 0 0 A) (F0 m 22 ls []) := by
  have hx := C.1
  have hb := C.2.1
  unfold w6_put_b22 at h
  refine lv_iconst (v := 0) hx hb dX6_put_22 (by decide) ?_
  exact retZ (w := (w6 o q cy)) (S := S) C hG ⟨rfl, h⟩ dX6_put_23
def w6_put (x1 : Int32) (x2 : Int32) (S : MS) (Q : Int32 → MS → Prop) : Prop :=
  ∀ y1 : Int32, y1 = (x2 >>> ((2 : Int32) &&& 31)) → w8_isSquare x1 (fun r2 => ((r2 = 0 → w6_put_b22 S Q) ∧ (¬ r2 = 0 → w0_has (fJ S 4) x1 (fun r4 => ((r4 = 0 → w8_within y1 (0 : Int32) (23 : Int32) (fun r6 => ((r6 = 0 → w6_put_b51 S Q) ∧ (¬ r6 = 0 → w6_covers y1 S (fun r8 => ((¬ r8 = 0 → w6_put_b51 S Q) ∧ (r8 = 0 → (((fI S 2) < (24 : Int32) → vp_in x1 64 ∧ ∀ S13 : MS, S13 = sA S 0 x1 x2 → vp_in (fI S13 2) 24 ∧ ∀ S15 : MS, S15 = sA S13 1 (fI S13 2) x1 → ∀ S16 : MS, S16 = sI S15 2 ((fI S15 2) + (1 : Int32)) → ∀ S17 : MS, S17 = sI S16 3 ((fI S16 3) ||| ((1 : Int32) <<< (y1 &&& 31))) → ∀ S18 : MS, S18 = sJ S17 4 ((fJ S17 4) ||| ((1 : Int64) <<< (x1.toInt64 &&& 63))) → Q (1 : Int32) S18) ∧ (¬ (fI S 2) < (24 : Int32) → w6_put_b51 S Q))))))))) ∧ (¬ r4 = 0 → w6_put_b22 S Q))))))
set_option maxHeartbeats 4000000 in
set_option maxRecDepth 100000 in
theorem c6_put (l : Launch) (D : va_G) (cy : Nat → ClassId)  (o : Nat) (q : Nat → Nat) (x1 : Int32) (x2 : Int32) (S : MS) (Q : Int32 → MS → Prop) (h : w6_put x1 x2 S Q) : MetI l yX6_put wsX6_put ({ frames := 1, cells := 0, slots := 0, locals := 22 } : Room) D cy nestWs (w6 o q cy) [.ref o, .int x1, .int x2] S Q := by
  refine MetI.mk RX6 cX6_put 4 .boolean (by decide) rfl nestWs_ok rfl (Nat.le_of_ble_eq_true rfl) ?_
  intro p e s m below meth c A ls C hG hl
  have hl : lv_has ls 4 [(0, .ref o), (1, .int x1), (2, .int x2)] := hl
  have hx := C.1
  have hb := C.2.1
  unfold w6_put at h
  refine lv_iload_n hx hb dX6_put_0 rfl (lv_at hl 2 rfl) ?_
  refine lv_iconst (v := 2) hx hb dX6_put_1 (by decide) ?_
  refine lv_ishr hx hb dX6_put_2 ?_
  refine lv_topi (fun y1 ey1 => ?_)
  replace h := h y1 ey1
  refine lv_istore_n (lv' := [(3, .int y1), (0, .ref o), (1, .int x1), (2, .int x2)]) hx hb dX6_put_3 rfl hl (by decide) rfl (fun ls hl => ?_)
  refine lv_iload_n hx hb dX6_put_4 rfl (lv_at hl 2 rfl) ?_
  refine callSNI (As := [.int x1]) (rest := []) (host := "PaperBodies") C hG (c8_isSquare l D cy x1 _ h) 1 gX6_put_X8_isSquare_n90 rfl (by decide +kernel) k6_put_90.1 k6_put_90.2 (by decide +kernel) ⟨⟨Nat.le_of_ble_eq_true rfl, Nat.le_of_ble_eq_true rfl⟩, rfl, rfl⟩ (Foc.none C.2.2.2.2.2.2.2.2.1) rfl hl.1 rfl (Nat.le_of_ble_eq_true rfl) dX6_put_5 ⟨Nat.zero_le _, Nat.zero_le _⟩ (fun r2 z H locs h hG => ?_)
  refine lv_if_eq (tgt := 22) hx hb dX6_put_8 (by decide) (fun c3 => ?_) (fun c3 => ?_)
  · replace h := h.1 c3
    exact b6_put_b22 S C h hG (lv_sub hl [1] rfl)
  · replace h := h.2 c3
    refine lv_aload_n hx hb dX6_put_11 rfl (lv_at hl 1 rfl) ?_
    refine gx_get C i6_put_X6 hG 0 rfl rfl 4 (by decide) k6_put_18 rfl dX6_put_12 ?_
    refine lv_iload_n hx hb dX6_put_15 rfl (lv_at hl 2 rfl) ?_
    refine callSI (As := [.long (fJ S 4), .int x1]) (rest := []) C hG (c0_has l D cy (fJ S 4) x1 _ h) 2 gX6_put_X0_has rfl (by decide +kernel) ⟨⟨Nat.le_of_ble_eq_true rfl, Nat.le_of_ble_eq_true rfl⟩, rfl, rfl⟩ (Foc.none C.2.2.2.2.2.2.2.2.1) rfl hl.1 rfl (Nat.le_of_ble_eq_true rfl) dX6_put_16 ⟨Nat.zero_le _, Nat.zero_le _⟩ (fun r4 z H locs h hG => ?_)
    refine lv_if_eq (tgt := 24) hx hb dX6_put_19 (by decide) (fun c5 => ?_) (fun c5 => ?_)
    · replace h := h.1 c5
      refine lv_iload_n hx hb dX6_put_24 rfl (lv_at hl 0 rfl) ?_
      refine lv_iconst (v := 0) hx hb dX6_put_25 (by decide) ?_
      refine lv_bipush (v := 23) hx hb dX6_put_26 (by decide) ?_
      refine callSNI (As := [.int y1, .int (0 : Int32), .int (23 : Int32)]) (rest := []) (host := "PaperBodies") C hG (c8_within l D cy y1 (0 : Int32) (23 : Int32) _ h) 3 gX6_put_X8_within_n93 rfl (by decide +kernel) k6_put_93.1 k6_put_93.2 (by decide +kernel) ⟨⟨Nat.le_of_ble_eq_true rfl, Nat.le_of_ble_eq_true rfl⟩, rfl, rfl⟩ (Foc.none C.2.2.2.2.2.2.2.2.1) rfl hl.1 rfl (Nat.le_of_ble_eq_true rfl) dX6_put_28 ⟨Nat.zero_le _, Nat.zero_le _⟩ (fun r6 z H locs h hG => ?_)
      refine lv_if_eq (tgt := 51) hx hb dX6_put_31 (by decide) (fun c7 => ?_) (fun c7 => ?_)
      · replace h := h.1 c7
        exact b6_put_b51 S C h hG (lv_sub hl [1] rfl)
      · replace h := h.2 c7
        refine lv_aload_n hx hb dX6_put_34 rfl (lv_at hl 1 rfl) ?_
        refine lv_iload_n hx hb dX6_put_35 rfl (lv_at hl 0 rfl) ?_
        refine callVI (As := [.int y1]) (rest := []) C hG (c6_covers l D cy o q y1 S _ h) 1 gX6_put_X6_covers rfl (by decide +kernel) ⟨⟨Nat.le_of_ble_eq_true rfl, Nat.le_of_ble_eq_true rfl⟩, rfl, rfl⟩ rfl rfl (Foc.all C.2.2.2.2.2.2.2.2.1) rfl hl.1 rfl (Nat.le_of_ble_eq_true rfl) dX6_put_36 ⟨Nat.zero_le _, Nat.zero_le _⟩ (fun r8 u9 H locs h hG => ?_)
        obtain ⟨eu9, h⟩ := h
        have eu9 : u9 = S := eu9
        subst u9
        have hG : GW D A s (w6 o q cy S) H locs := hG
        refine lv_if_ne (tgt := 51) hx hb dX6_put_39 (by decide) (fun c10 => ?_) (fun c10 => ?_)
        · replace h := h.1 c10
          exact b6_put_b51 S C h hG (lv_sub hl [1] rfl)
        · replace h := h.2 c10
          refine lv_aload_n hx hb dX6_put_42 rfl (lv_at hl 1 rfl) ?_
          refine gx_get C i6_put_X6 hG 0 rfl rfl 2 (by decide) k6_put_54 rfl dX6_put_43 ?_
          refine lv_bipush (v := 24) hx hb dX6_put_46 (by decide) ?_
          refine lv_icmp_lt (tgt := 53) hx hb dX6_put_48 (by decide) (fun c11 => ?_) (fun c11 => ?_)
          · replace h := h.1 c11
            refine lv_aload_n hx hb dX6_put_53 rfl (lv_at hl 1 rfl) ?_
            refine gx_get C i6_put_X6 hG 0 rfl rfl 0 (by decide) k6_put_9 rfl dX6_put_54 ?_
            refine lv_iload_n hx hb dX6_put_57 rfl (lv_at hl 2 rfl) ?_
            refine lv_iload_n hx hb dX6_put_58 rfl (lv_at hl 3 rfl) ?_
            obtain ⟨hv12, h⟩ := h
            refine gx_ast (ws' := w6 o q cy (sA S 0 x1 x2)) C hG 1 rfl hv12 dX6_put_59 rfl (fun H locs hG => ?_)
            obtain ⟨S13, eS13⟩ : ∃ z : MS, z = sA S 0 x1 x2 := ⟨_, rfl⟩
            rw [← eS13] at hG
            replace h := h S13 eS13
            refine lv_aload_n hx hb dX6_put_60 rfl (lv_at hl 1 rfl) ?_
            refine gx_get C i6_put_X6 hG 0 rfl rfl 1 (by decide) k6_put_15 rfl dX6_put_61 ?_
            refine lv_aload_n hx hb dX6_put_64 rfl (lv_at hl 1 rfl) ?_
            refine gx_get C i6_put_X6 hG 0 rfl rfl 2 (by decide) k6_put_54 rfl dX6_put_65 ?_
            refine lv_iload_n hx hb dX6_put_68 rfl (lv_at hl 2 rfl) ?_
            obtain ⟨hv14, h⟩ := h
            refine gx_ast (ws' := w6 o q cy (sA S13 1 (fI S13 2) x1)) C hG 2 rfl hv14 dX6_put_69 rfl (fun H locs hG => ?_)
            obtain ⟨S15, eS15⟩ : ∃ z : MS, z = sA S13 1 (fI S13 2) x1 := ⟨_, rfl⟩
            rw [← eS15] at hG
            replace h := h S15 eS15
            refine lv_aload_n hx hb dX6_put_70 rfl (lv_at hl 1 rfl) ?_
            refine lv_dup hx hb dX6_put_71 rfl ?_
            refine gx_get C i6_put_X6 hG 0 rfl rfl 2 (by decide) k6_put_54 rfl dX6_put_72 ?_
            refine lv_iconst (v := 1) hx hb dX6_put_75 (by decide) ?_
            refine lv_iadd hx hb dX6_put_76 ?_
            refine gx_put (ty := .int) (ws' := w6 o q cy (sI S15 2 ((fI S15 2) + (1 : Int32)))) C i6_put_X6 tyX6 tyX6_ok nmX6 hG 0 rfl rfl 2 (by decide) k6_put_54 rfl (by decide +kernel) rfl rfl (Nat.le_of_ble_eq_true rfl) dX6_put_77 rfl (fun H locs hG => ?_)
            obtain ⟨S16, eS16⟩ : ∃ z : MS, z = sI S15 2 ((fI S15 2) + (1 : Int32)) := ⟨_, rfl⟩
            rw [← eS16] at hG
            replace h := h S16 eS16
            refine lv_aload_n hx hb dX6_put_80 rfl (lv_at hl 1 rfl) ?_
            refine lv_dup hx hb dX6_put_81 rfl ?_
            refine gx_get C i6_put_X6 hG 0 rfl rfl 3 (by decide) k6_put_87 rfl dX6_put_82 ?_
            refine lv_iconst (v := 1) hx hb dX6_put_85 (by decide) ?_
            refine lv_iload_n hx hb dX6_put_86 rfl (lv_at hl 0 rfl) ?_
            refine lv_ishl hx hb dX6_put_87 ?_
            refine lv_ior hx hb dX6_put_88 ?_
            refine gx_put (ty := .int) (ws' := w6 o q cy (sI S16 3 ((fI S16 3) ||| ((1 : Int32) <<< (y1 &&& 31))))) C i6_put_X6 tyX6 tyX6_ok nmX6 hG 0 rfl rfl 3 (by decide) k6_put_87 rfl (by decide +kernel) rfl rfl (Nat.le_of_ble_eq_true rfl) dX6_put_89 rfl (fun H locs hG => ?_)
            obtain ⟨S17, eS17⟩ : ∃ z : MS, z = sI S16 3 ((fI S16 3) ||| ((1 : Int32) <<< (y1 &&& 31))) := ⟨_, rfl⟩
            rw [← eS17] at hG
            replace h := h S17 eS17
            refine lv_aload_n hx hb dX6_put_92 rfl (lv_at hl 1 rfl) ?_
            refine lv_dup hx hb dX6_put_93 rfl ?_
            refine gx_get C i6_put_X6 hG 0 rfl rfl 4 (by decide) k6_put_18 rfl dX6_put_94 ?_
            refine lv_lconst (v := 1) hx hb dX6_put_97 (by decide) ?_
            refine lv_iload_n hx hb dX6_put_98 rfl (lv_at hl 2 rfl) ?_
            refine lv_lshl hx hb dX6_put_99 rfl ?_
            refine lv_lor hx hb dX6_put_100 ?_
            refine gx_put (ty := .long) (ws' := w6 o q cy (sJ S17 4 ((fJ S17 4) ||| ((1 : Int64) <<< (x1.toInt64 &&& 63))))) C i6_put_X6 tyX6 tyX6_ok nmX6 hG 0 rfl rfl 4 (by decide) k6_put_18 rfl (by decide +kernel) rfl rfl (Nat.le_of_ble_eq_true rfl) dX6_put_101 rfl (fun H locs hG => ?_)
            obtain ⟨S18, eS18⟩ : ∃ z : MS, z = sJ S17 4 ((fJ S17 4) ||| ((1 : Int64) <<< (x1.toInt64 &&& 63))) := ⟨_, rfl⟩
            rw [← eS18] at hG
            replace h := h S18 eS18
            refine lv_iconst (v := 1) hx hb dX6_put_104 (by decide) ?_
            exact retZ (w := (w6 o q cy)) (S := S18) C hG ⟨rfl, h⟩ dX6_put_105
          · replace h := h.2 c11
            exact b6_put_b51 S C h hG (lv_sub hl [1] rfl)
    · replace h := h.2 c5
      exact b6_put_b22 S C h hG (lv_sub hl [1] rfl)
-- X6_foldRound
theorem i6_foldRound_X6 : ∀ w ∈ wsX60, w ∈ wsX6_foldRound := fun w h => List.mem_cons_of_mem _ (inG_X6 w h)
theorem k6_foldRound_18 : Cond.fieldLink RX6 18 "PaperBodies$Sheet" "set" "J" ∈ wsX6_foldRound := (List.mem_cons_of_mem _ mw_246)
def w6_foldRound_b93 (K11 : Int32 → MS → Prop) (x2 : Int64) (x4 : Int32) (x5 : Int32) (x6 : Int32) (S : MS) (V1 : MS) (Q : Int32 → MS → Prop) : Prop :=
  ∀ y1 : Int32, y1 = x6 + 1 → K11 y1 S
set_option maxHeartbeats 4000000 in
set_option maxRecDepth 100000 in
theorem b6_foldRound_b93 {p : Program} {l : Launch} {e : Env} {s : State} {m : MethodId} {args : Array Value} {below : List Frame} {meth : Method} {c : Code} {D : va_G} {cy : Nat → ClassId} {A : Nat → Prop} {o : Nat} {q : Nat → Nat} {o1 : Nat} {q1 : Nat → Nat} {K11 : Int32 → MS → Prop} (x2 : Int64) (x4 : Int32) (x5 : Int32) (x6 : Int32) (S : MS) (V1 : MS) {Q : Int32 → MS → Prop} (C : Cx p s m args meth c cX6_foldRound 10 (some .boolean) wsX6_foldRound RX6 D cy nestWs A) (hK11 : ∀ (x6 : Int32) (S : MS) (H : Heap) (locs : List Loc) (ls : Array Slot), K11 x6 S → GW D A s (w6 o q cy S ++ w1 o1 q1 cy V1) H locs → lv_has ls 10 [(0, .ref o), (1, .ref o1), (2, .long x2), (4, .int x4), (5, .int x5), (6, .int x6)] → W p l e ({ frames := 2, cells := 0, slots := 0, locals := 46 } : Room) s m args below meth c H locs 0 0 (MQ below (va_Qi (fun r z => z.2 = V1 ∧ Q r z.1) (B1 D (fun z : MS × MS => (w6 o q cy z.1 ++ w1 o1 q1 cy z.2 : va_W)) A) A) args s 0 0 A) (F0 m 11 ls [])) (h : w6_foldRound_b93 K11 x2 x4 x5 x6 S V1 Q) {H : Heap} {locs : List Loc} (hG : GW D A s (w6 o q cy S ++ w1 o1 q1 cy V1) H locs) {ls : Array Slot} (hl : lv_has ls 10 [(0, .ref o), (1, .ref o1), (2, .long x2), (4, .int x4), (5, .int x5), (6, .int x6)]) : W p l e ({ frames := 2, cells := 0, slots := 0, locals := 46 } : Room) s m args below meth c H locs 0 0 (MQ below (va_Qi (fun r z => z.2 = V1 ∧ Q r z.1) (B1 D (fun z : MS × MS => (w6 o q cy z.1 ++ w1 o1 q1 cy z.2 : va_W)) A) A) args s 0 0 A) (F0 m 93 ls []) := by
  have hx := C.1
  have hb := C.2.1
  unfold w6_foldRound_b93 at h
  obtain ⟨y1, ey1⟩ : ∃ y : Int32, y = x6 + 1 := ⟨_, rfl⟩
  replace h := h y1 ey1
  refine lv_iinc (v := y1) (lv' := [(6, .int y1), (0, .ref o), (1, .ref o1), (2, .long x2), (4, .int x4), (5, .int x5)]) hx hb dX6_foldRound_93 hl (k := 5) rfl (by rw [ey1]; rfl) (by decide) rfl (fun ls hl => ?_)
  refine lv_goto (tgt := 11) hx hb dX6_foldRound_96 (by decide) ?_
  exact hK11 y1 S _ _ _ h hG (lv_sub hl [1, 2, 3, 4, 5, 0] rfl)
def w6_foldRound_b84 (K11 : Int32 → MS → Prop) (x2 : Int64) (x4 : Int32) (x5 : Int32) (x6 : Int32) (t0 : Int32) (S : MS) (V1 : MS) (Q : Int32 → MS → Prop) : Prop :=
  ((¬ t0 = 0 → w6_foldRound_b93 K11 x2 x4 x5 x6 S V1 Q) ∧ (t0 = 0 → Q (0 : Int32) S))
set_option maxHeartbeats 4000000 in
set_option maxRecDepth 100000 in
theorem b6_foldRound_b84 {p : Program} {l : Launch} {e : Env} {s : State} {m : MethodId} {args : Array Value} {below : List Frame} {meth : Method} {c : Code} {D : va_G} {cy : Nat → ClassId} {A : Nat → Prop} {o : Nat} {q : Nat → Nat} {o1 : Nat} {q1 : Nat → Nat} {K11 : Int32 → MS → Prop} (x2 : Int64) (x4 : Int32) (x5 : Int32) (x6 : Int32) (t0 : Int32) (S : MS) (V1 : MS) {Q : Int32 → MS → Prop} (C : Cx p s m args meth c cX6_foldRound 10 (some .boolean) wsX6_foldRound RX6 D cy nestWs A) (hK11 : ∀ (x6 : Int32) (S : MS) (H : Heap) (locs : List Loc) (ls : Array Slot), K11 x6 S → GW D A s (w6 o q cy S ++ w1 o1 q1 cy V1) H locs → lv_has ls 10 [(0, .ref o), (1, .ref o1), (2, .long x2), (4, .int x4), (5, .int x5), (6, .int x6)] → W p l e ({ frames := 2, cells := 0, slots := 0, locals := 46 } : Room) s m args below meth c H locs 0 0 (MQ below (va_Qi (fun r z => z.2 = V1 ∧ Q r z.1) (B1 D (fun z : MS × MS => (w6 o q cy z.1 ++ w1 o1 q1 cy z.2 : va_W)) A) A) args s 0 0 A) (F0 m 11 ls [])) (h : w6_foldRound_b84 K11 x2 x4 x5 x6 t0 S V1 Q) {H : Heap} {locs : List Loc} (hG : GW D A s (w6 o q cy S ++ w1 o1 q1 cy V1) H locs) {ls : Array Slot} (hl : lv_has ls 10 [(0, .ref o), (1, .ref o1), (2, .long x2), (4, .int x4), (5, .int x5), (6, .int x6)]) : W p l e ({ frames := 2, cells := 0, slots := 0, locals := 46 } : Room) s m args below meth c H locs 0 0 (MQ below (va_Qi (fun r z => z.2 = V1 ∧ Q r z.1) (B1 D (fun z : MS × MS => (w6 o q cy z.1 ++ w1 o1 q1 cy z.2 : va_W)) A) A) args s 0 0 A) (F0 m 84 ls [.int t0]) := by
  have hx := C.1
  have hb := C.2.1
  unfold w6_foldRound_b84 at h
  refine lv_istore (lv' := [(9, .int t0), (0, .ref o), (1, .ref o1), (2, .long x2), (4, .int x4), (5, .int x5), (6, .int x6)]) hx hb dX6_foldRound_84 hl (by decide) rfl (fun ls hl => ?_)
  refine lv_iload hx hb dX6_foldRound_86 (lv_at hl 0 rfl) ?_
  refine lv_if_ne (tgt := 93) hx hb dX6_foldRound_88 (by decide) (fun c1 => ?_) (fun c1 => ?_)
  · replace h := h.1 c1
    exact b6_foldRound_b93 (K11 := K11) x2 x4 x5 x6 S V1 C hK11 h hG (lv_sub hl [1, 2, 3, 4, 5, 6] rfl)
  · replace h := h.2 c1
    refine lv_iconst (v := 0) hx hb dX6_foldRound_91 (by decide) ?_
    exact retZ (w := (fun z : MS × MS => (w6 o q cy z.1 ++ w1 o1 q1 cy z.2 : va_W))) (S := (S, V1)) (Qp := (fun r z => z.2 = V1 ∧ Q r z.1)) C hG ⟨rfl, ⟨rfl, h⟩⟩ dX6_foldRound_92
def w6_foldRound_d11 (K11 : Int32 → MS → Prop) (x2 : Int64) (x4 : Int32) (x5 : Int32) (x6 : Int32) (S : MS) (V1 : MS) (Q : Int32 → MS → Prop) : Prop :=
  (((4 : Int32) ≤ x6 → Q (1 : Int32) S) ∧ (¬ (4 : Int32) ≤ x6 → w0_beside x4 x6 (fun r2 => w0_has x2 r2 (fun r3 => ((r3 = 0 → w6_foldRound_b93 K11 x2 x4 x5 x6 S V1 Q) ∧ (¬ r3 = 0 → w1_leadsTo x5 x6 V1 (fun r5 => w0_has (fJ S 4) r2 (fun r7 => ((r7 = 0 → w6_put r2 r5 S (fun r9 S10 => w6_foldRound_b84 K11 x2 x4 x5 x6 r9 S10 V1 Q)) ∧ (¬ r7 = 0 → w6_frameAt r2 S (fun r11 => ((¬ r11 = r5 → w6_foldRound_b84 K11 x2 x4 x5 x6 (0 : Int32) S V1 Q) ∧ (r11 = r5 → w6_foldRound_b84 K11 x2 x4 x5 x6 (1 : Int32) S V1 Q)))))))))))))
set_option maxHeartbeats 4000000 in
set_option maxRecDepth 100000 in
theorem b6_foldRound_d11 {p : Program} {l : Launch} {e : Env} {s : State} {m : MethodId} {args : Array Value} {below : List Frame} {meth : Method} {c : Code} {D : va_G} {cy : Nat → ClassId} {A : Nat → Prop} {o : Nat} {q : Nat → Nat} {o1 : Nat} {q1 : Nat → Nat} {K11 : Int32 → MS → Prop} (x2 : Int64) (x4 : Int32) (x5 : Int32) (x6 : Int32) (S : MS) (V1 : MS) {Q : Int32 → MS → Prop} (C : Cx p s m args meth c cX6_foldRound 10 (some .boolean) wsX6_foldRound RX6 D cy nestWs A) (hK11 : ∀ (x6 : Int32) (S : MS) (H : Heap) (locs : List Loc) (ls : Array Slot), K11 x6 S → GW D A s (w6 o q cy S ++ w1 o1 q1 cy V1) H locs → lv_has ls 10 [(0, .ref o), (1, .ref o1), (2, .long x2), (4, .int x4), (5, .int x5), (6, .int x6)] → W p l e ({ frames := 2, cells := 0, slots := 0, locals := 46 } : Room) s m args below meth c H locs 0 0 (MQ below (va_Qi (fun r z => z.2 = V1 ∧ Q r z.1) (B1 D (fun z : MS × MS => (w6 o q cy z.1 ++ w1 o1 q1 cy z.2 : va_W)) A) A) args s 0 0 A) (F0 m 11 ls [])) (h : w6_foldRound_d11 K11 x2 x4 x5 x6 S V1 Q) {H : Heap} {locs : List Loc} (hG : GW D A s (w6 o q cy S ++ w1 o1 q1 cy V1) H locs) {ls : Array Slot} (hl : lv_has ls 10 [(0, .ref o), (1, .ref o1), (2, .long x2), (4, .int x4), (5, .int x5), (6, .int x6)]) : W p l e ({ frames := 2, cells := 0, slots := 0, locals := 46 } : Room) s m args below meth c H locs 0 0 (MQ below (va_Qi (fun r z => z.2 = V1 ∧ Q r z.1) (B1 D (fun z : MS × MS => (w6 o q cy z.1 ++ w1 o1 q1 cy z.2 : va_W)) A) A) args s 0 0 A) (F0 m 11 ls []) := by
  have hx := C.1
  have hb := C.2.1
  unfold w6_foldRound_d11 at h
  refine lv_iload hx hb dX6_foldRound_11 (lv_at hl 5 rfl) ?_
  refine lv_iconst (v := 4) hx hb dX6_foldRound_13 (by decide) ?_
  refine lv_icmp_ge (tgt := 99) hx hb dX6_foldRound_14 (by decide) (fun c1 => ?_) (fun c1 => ?_)
  · replace h := h.1 c1
    refine lv_iconst (v := 1) hx hb dX6_foldRound_99 (by decide) ?_
    exact retZ (w := (fun z : MS × MS => (w6 o q cy z.1 ++ w1 o1 q1 cy z.2 : va_W))) (S := (S, V1)) (Qp := (fun r z => z.2 = V1 ∧ Q r z.1)) C hG ⟨rfl, ⟨rfl, h⟩⟩ dX6_foldRound_100
  · replace h := h.2 c1
    refine lv_iload hx hb dX6_foldRound_17 (lv_at hl 3 rfl) ?_
    refine lv_iload hx hb dX6_foldRound_19 (lv_at hl 5 rfl) ?_
    refine callSI (As := [.int x4, .int x6]) (rest := []) C hG (c0_beside l D cy x4 x6 _ h) 2 gX6_foldRound_X0_beside rfl (by decide +kernel) ⟨⟨Nat.le_of_ble_eq_true rfl, Nat.le_of_ble_eq_true rfl⟩, rfl, rfl⟩ (Foc.none C.2.2.2.2.2.2.2.2.1) rfl hl.1 rfl (Nat.le_of_ble_eq_true rfl) dX6_foldRound_21 ⟨Nat.zero_le _, Nat.zero_le _⟩ (fun r2 z H locs h hG => ?_)
    refine lv_istore (lv' := [(7, .int r2), (0, .ref o), (1, .ref o1), (2, .long x2), (4, .int x4), (5, .int x5), (6, .int x6)]) hx hb dX6_foldRound_24 hl (by decide) rfl (fun ls hl => ?_)
    refine lv_lload_n hx hb dX6_foldRound_26 rfl (lv_at hl 3 rfl) ?_
    refine lv_iload hx hb dX6_foldRound_27 (lv_at hl 0 rfl) ?_
    refine callSI (As := [.long x2, .int r2]) (rest := []) C hG (c0_has l D cy x2 r2 _ h) 2 gX6_foldRound_X0_has rfl (by decide +kernel) ⟨⟨Nat.le_of_ble_eq_true rfl, Nat.le_of_ble_eq_true rfl⟩, rfl, rfl⟩ (Foc.none C.2.2.2.2.2.2.2.2.1) rfl hl.1 rfl (Nat.le_of_ble_eq_true rfl) dX6_foldRound_29 ⟨Nat.zero_le _, Nat.zero_le _⟩ (fun r3 z H locs h hG => ?_)
    refine lv_if_eq (tgt := 93) hx hb dX6_foldRound_32 (by decide) (fun c4 => ?_) (fun c4 => ?_)
    · replace h := h.1 c4
      exact b6_foldRound_b93 (K11 := K11) x2 x4 x5 x6 S V1 C hK11 h hG (lv_sub hl [1, 2, 3, 4, 5, 6] rfl)
    · replace h := h.2 c4
      refine lv_aload_n hx hb dX6_foldRound_35 rfl (lv_at hl 2 rfl) ?_
      refine lv_iload hx hb dX6_foldRound_36 (lv_at hl 5 rfl) ?_
      refine lv_iload hx hb dX6_foldRound_38 (lv_at hl 6 rfl) ?_
      refine callVI (As := [.int x5, .int x6]) (rest := []) C hG (c1_leadsTo l D cy o1 q1 x5 x6 V1 _ h) 2 gX6_foldRound_X1_leadsTo rfl (by decide +kernel) ⟨⟨Nat.le_of_ble_eq_true rfl, Nat.le_of_ble_eq_true rfl⟩, rfl, rfl⟩ rfl rfl (Foc.pq (rv := fun z : MS => (w6 o q cy S ++ w1 o1 q1 cy z : va_W)) C.2.2.2.2.2.2.2.2.1 [3, 4, 5, 6, 7, 8, 9] [0, 1, 2] [0, 1, 2, 3, 4, 5, 6, 7, 8, 9] rfl rfl rfl rfl rfl (by decide) rfl (fun _ => rfl) (fun _ => rfl)) rfl hl.1 rfl (Nat.le_of_ble_eq_true rfl) dX6_foldRound_40 ⟨Nat.zero_le _, Nat.zero_le _⟩ (fun r5 u6 H locs h hG => ?_)
      obtain ⟨eu6, h⟩ := h
      have eu6 : u6 = V1 := eu6
      subst u6
      have hG : GW D A s (w6 o q cy S ++ w1 o1 q1 cy V1) H locs := hG
      refine lv_istore (lv' := [(8, .int r5), (7, .int r2), (0, .ref o), (1, .ref o1), (2, .long x2), (4, .int x4), (5, .int x5), (6, .int x6)]) hx hb dX6_foldRound_43 hl (by decide) rfl (fun ls hl => ?_)
      refine lv_aload_n hx hb dX6_foldRound_45 rfl (lv_at hl 2 rfl) ?_
      refine gx_get C i6_foldRound_X6 hG 0 rfl rfl 4 (by decide) k6_foldRound_18 rfl dX6_foldRound_46 ?_
      refine lv_iload hx hb dX6_foldRound_49 (lv_at hl 1 rfl) ?_
      refine callSI (As := [.long (fJ S 4), .int r2]) (rest := []) C hG (c0_has l D cy (fJ S 4) r2 _ h) 2 gX6_foldRound_X0_has rfl (by decide +kernel) ⟨⟨Nat.le_of_ble_eq_true rfl, Nat.le_of_ble_eq_true rfl⟩, rfl, rfl⟩ (Foc.none C.2.2.2.2.2.2.2.2.1) rfl hl.1 rfl (Nat.le_of_ble_eq_true rfl) dX6_foldRound_51 ⟨Nat.zero_le _, Nat.zero_le _⟩ (fun r7 z H locs h hG => ?_)
      refine lv_if_eq (tgt := 76) hx hb dX6_foldRound_54 (by decide) (fun c8 => ?_) (fun c8 => ?_)
      · replace h := h.1 c8
        refine lv_aload_n hx hb dX6_foldRound_76 rfl (lv_at hl 2 rfl) ?_
        refine lv_iload hx hb dX6_foldRound_77 (lv_at hl 1 rfl) ?_
        refine lv_iload hx hb dX6_foldRound_79 (lv_at hl 0 rfl) ?_
        refine callVI (As := [.int r2, .int r5]) (rest := []) C hG (c6_put l D cy o q r2 r5 S _ h) 2 gX6_foldRound_X6_put rfl (by decide +kernel) ⟨⟨Nat.le_of_ble_eq_true rfl, Nat.le_of_ble_eq_true rfl⟩, rfl, rfl⟩ rfl rfl (Foc.pq (rv := fun z : MS => (w6 o q cy z ++ w1 o1 q1 cy V1 : va_W)) C.2.2.2.2.2.2.2.2.1 [0, 1, 2] [3, 4, 5, 6, 7, 8, 9] [7, 8, 9, 0, 1, 2, 3, 4, 5, 6] rfl rfl rfl rfl rfl (by decide) rfl (fun _ => rfl) (fun _ => rfl)) rfl hl.1 rfl (Nat.le_of_ble_eq_true rfl) dX6_foldRound_81 ⟨Nat.zero_le _, Nat.zero_le _⟩ (fun r9 S10 H locs h hG => ?_)
        have hG : GW D A s (w6 o q cy S10 ++ w1 o1 q1 cy V1) H locs := hG
        exact b6_foldRound_b84 (K11 := K11) x2 x4 x5 x6 r9 S10 V1 C hK11 h hG (lv_sub hl [2, 3, 4, 5, 6, 7] rfl)
      · replace h := h.2 c8
        refine lv_aload_n hx hb dX6_foldRound_57 rfl (lv_at hl 2 rfl) ?_
        refine lv_iload hx hb dX6_foldRound_58 (lv_at hl 1 rfl) ?_
        refine callVI (As := [.int r2]) (rest := []) C hG (c6_frameAt l D cy o q r2 S _ h) 1 gX6_foldRound_X6_frameAt rfl (by decide +kernel) ⟨⟨Nat.le_of_ble_eq_true rfl, Nat.le_of_ble_eq_true rfl⟩, rfl, rfl⟩ rfl rfl (Foc.pq (rv := fun z : MS => (w6 o q cy z ++ w1 o1 q1 cy V1 : va_W)) C.2.2.2.2.2.2.2.2.1 [0, 1, 2] [3, 4, 5, 6, 7, 8, 9] [7, 8, 9, 0, 1, 2, 3, 4, 5, 6] rfl rfl rfl rfl rfl (by decide) rfl (fun _ => rfl) (fun _ => rfl)) rfl hl.1 rfl (Nat.le_of_ble_eq_true rfl) dX6_foldRound_60 ⟨Nat.zero_le _, Nat.zero_le _⟩ (fun r11 u12 H locs h hG => ?_)
        obtain ⟨eu12, h⟩ := h
        have eu12 : u12 = S := eu12
        subst u12
        have hG : GW D A s (w6 o q cy S ++ w1 o1 q1 cy V1) H locs := hG
        refine lv_iload hx hb dX6_foldRound_63 (lv_at hl 0 rfl) ?_
        refine lv_icmp_ne (tgt := 72) hx hb dX6_foldRound_65 (by decide) (fun c13 => ?_) (fun c13 => ?_)
        · replace h := h.1 c13
          refine lv_iconst (v := 0) hx hb dX6_foldRound_72 (by decide) ?_
          refine lv_goto (tgt := 84) hx hb dX6_foldRound_73 (by decide) ?_
          exact b6_foldRound_b84 (K11 := K11) x2 x4 x5 x6 (0 : Int32) S V1 C hK11 h hG (lv_sub hl [2, 3, 4, 5, 6, 7] rfl)
        · replace h := h.2 c13
          refine lv_iconst (v := 1) hx hb dX6_foldRound_68 (by decide) ?_
          refine lv_goto (tgt := 84) hx hb dX6_foldRound_69 (by decide) ?_
          exact b6_foldRound_b84 (K11 := K11) x2 x4 x5 x6 (1 : Int32) S V1 C hK11 h hG (lv_sub hl [2, 3, 4, 5, 6, 7] rfl)
def w6_foldRound_F11 (x2 : Int64) (x4 : Int32) (x5 : Int32) (V1 : MS) (Q : Int32 → MS → Prop) (K : Int32 × MS → Prop) (a : Int32 × MS) : Prop := w6_foldRound_d11 (fun y0 y1 => K (y0, y1)) x2 x4 x5 a.1 a.2 V1 Q
def w6_foldRound_b11 (x2 : Int64) (x4 : Int32) (x5 : Int32) (x6 : Int32) (S : MS) (V1 : MS) (Q : Int32 → MS → Prop) : Prop := lp (w6_foldRound_F11 x2 x4 x5 V1 Q) (x6, S)
set_option maxHeartbeats 4000000 in
set_option maxRecDepth 100000 in
theorem b6_foldRound_b11 {p : Program} {l : Launch} {e : Env} {s : State} {m : MethodId} {args : Array Value} {below : List Frame} {meth : Method} {c : Code} {D : va_G} {cy : Nat → ClassId} {A : Nat → Prop} {o : Nat} {q : Nat → Nat} {o1 : Nat} {q1 : Nat → Nat} (x2 : Int64) (x4 : Int32) (x5 : Int32) (x6 : Int32) (S : MS) (V1 : MS) {Q : Int32 → MS → Prop} (C : Cx p s m args meth c cX6_foldRound 10 (some .boolean) wsX6_foldRound RX6 D cy nestWs A) (h : w6_foldRound_b11 x2 x4 x5 x6 S V1 Q) {H : Heap} {locs : List Loc} (hG : GW D A s (w6 o q cy S ++ w1 o1 q1 cy V1) H locs) {ls : Array Slot} (hl : lv_has ls 10 [(0, .ref o), (1, .ref o1), (2, .long x2), (4, .int x4), (5, .int x5), (6, .int x6)]) : W p l e ({ frames := 2, cells := 0, slots := 0, locals := 46 } : Room) s m args below meth c H locs 0 0 (MQ below (va_Qi (fun r z => z.2 = V1 ∧ Q r z.1) (B1 D (fun z : MS × MS => (w6 o q cy z.1 ++ w1 o1 q1 cy z.2 : va_W)) A) A) args s 0 0 A) (F0 m 11 ls []) := by
  obtain ⟨k, hn⟩ := h
  induction k generalizing x6 S H locs ls with
  | zero => exact hn.elim
  | succ k ih => exact b6_foldRound_d11 (K11 := fun y0 y1 => itr (w6_foldRound_F11 x2 x4 x5 V1 Q) k (y0, y1)) x2 x4 x5 x6 S V1 C (fun x6 S H locs ls hk hG hl => ih x6 S hG hl hk) hn hG hl
def w6_foldRound (x2 : Int64) (x4 : Int32) (S : MS) (V1 : MS) (Q : Int32 → MS → Prop) : Prop :=
  w6_frameAt x4 S (fun r1 => w6_foldRound_b11 x2 x4 r1 (0 : Int32) S V1 Q)
set_option maxHeartbeats 4000000 in
set_option maxRecDepth 100000 in
theorem c6_foldRound (l : Launch) (D : va_G) (cy : Nat → ClassId)  (o : Nat) (q : Nat → Nat) (o1 : Nat) (q1 : Nat → Nat) (x2 : Int64) (x4 : Int32) (S : MS) (V1 : MS) (Q : Int32 → MS → Prop) (h : w6_foldRound x2 x4 S V1 Q) : MetI l yX6_foldRound wsX6_foldRound ({ frames := 2, cells := 0, slots := 0, locals := 46 } : Room) D cy nestWs (fun z : MS × MS => (w6 o q cy z.1 ++ w1 o1 q1 cy z.2 : va_W)) [.ref o, .ref o1, .long x2, .int x4] (S, V1) (fun r z => z.2 = V1 ∧ Q r z.1) := by
  refine MetI.mk RX6 cX6_foldRound 10 .boolean (by decide) rfl nestWs_ok rfl (Nat.le_of_ble_eq_true rfl) ?_
  intro p e s m below meth c A ls C hG hl
  have hl : lv_has ls 10 [(0, .ref o), (1, .ref o1), (2, .long x2), (4, .int x4)] := hl
  have hx := C.1
  have hb := C.2.1
  unfold w6_foldRound at h
  refine lv_aload_n hx hb dX6_foldRound_0 rfl (lv_at hl 0 rfl) ?_
  refine lv_iload hx hb dX6_foldRound_1 (lv_at hl 3 rfl) ?_
  refine callVI (As := [.int x4]) (rest := []) C hG (c6_frameAt l D cy o q x4 S _ h) 1 gX6_foldRound_X6_frameAt rfl (by decide +kernel) ⟨⟨Nat.le_of_ble_eq_true rfl, Nat.le_of_ble_eq_true rfl⟩, rfl, rfl⟩ rfl rfl (Foc.pq (rv := fun z : MS => (w6 o q cy z ++ w1 o1 q1 cy V1 : va_W)) C.2.2.2.2.2.2.2.2.1 [0, 1, 2] [3, 4, 5, 6, 7, 8, 9] [7, 8, 9, 0, 1, 2, 3, 4, 5, 6] rfl rfl rfl rfl rfl (by decide) rfl (fun _ => rfl) (fun _ => rfl)) rfl hl.1 rfl (Nat.le_of_ble_eq_true rfl) dX6_foldRound_3 ⟨Nat.zero_le _, Nat.zero_le _⟩ (fun r1 u2 H locs h hG => ?_)
  obtain ⟨eu2, h⟩ := h
  have eu2 : u2 = S := eu2
  subst u2
  have hG : GW D A s (w6 o q cy S ++ w1 o1 q1 cy V1) H locs := hG
  refine lv_istore (lv' := [(5, .int r1), (0, .ref o), (1, .ref o1), (2, .long x2), (4, .int x4)]) hx hb dX6_foldRound_6 hl (by decide) rfl (fun ls hl => ?_)
  refine lv_iconst (v := 0) hx hb dX6_foldRound_8 (by decide) ?_
  refine lv_istore (lv' := [(6, .int (0 : Int32)), (5, .int r1), (0, .ref o), (1, .ref o1), (2, .long x2), (4, .int x4)]) hx hb dX6_foldRound_9 hl (by decide) rfl (fun ls hl => ?_)
  exact b6_foldRound_b11 x2 x4 r1 (0 : Int32) S V1 C h hG (lv_sub hl [2, 3, 4, 5, 1, 0] rfl)
-- X6_fold
theorem i6_fold_X6 : ∀ w ∈ wsX60, w ∈ wsX6_fold := fun w h => List.mem_cons_of_mem _ (inG_X6 w h)
theorem k6_fold_15 : Cond.fieldLink RX6 15 "PaperBodies$Sheet" "order" "[I" ∈ wsX6_fold := (List.mem_cons_of_mem _ mw_244)
theorem k6_fold_54 : Cond.fieldLink RX6 54 "PaperBodies$Sheet" "laid" "I" ∈ wsX6_fold := (List.mem_cons_of_mem _ mw_249)
def w6_fold_b62 (S : MS) (V1 : MS) (Q : Int32 → MS → Prop) : Prop :=
  Q (1 : Int32) S
set_option maxHeartbeats 4000000 in
set_option maxRecDepth 100000 in
theorem b6_fold_b62 {p : Program} {l : Launch} {e : Env} {s : State} {m : MethodId} {args : Array Value} {below : List Frame} {meth : Method} {c : Code} {D : va_G} {cy : Nat → ClassId} {A : Nat → Prop} {o : Nat} {q : Nat → Nat} {o1 : Nat} {q1 : Nat → Nat} (S : MS) (V1 : MS) {Q : Int32 → MS → Prop} (C : Cx p s m args meth c cX6_fold 6 (some .boolean) wsX6_fold RX6 D cy nestWs A) (h : w6_fold_b62 S V1 Q) {H : Heap} {locs : List Loc} (hG : GW D A s (w6 o q cy S ++ w1 o1 q1 cy V1) H locs) {ls : Array Slot} (hl : lv_has ls 6 [(0, .ref o)]) : W p l e ({ frames := 3, cells := 0, slots := 0, locals := 75 } : Room) s m args below meth c H locs 0 0 (MQ below (va_Qi (fun r z => z.2 = V1 ∧ Q r z.1) (B1 D (fun z : MS × MS => (w6 o q cy z.1 ++ w1 o1 q1 cy z.2 : va_W)) A) A) args s 0 0 A) (F0 m 62 ls []) := by
  have hx := C.1
  have hb := C.2.1
  unfold w6_fold_b62 at h
  refine lv_iconst (v := 1) hx hb dX6_fold_62 (by decide) ?_
  exact retZ (w := (fun z : MS × MS => (w6 o q cy z.1 ++ w1 o1 q1 cy z.2 : va_W))) (S := (S, V1)) (Qp := (fun r z => z.2 = V1 ∧ Q r z.1)) C hG ⟨rfl, ⟨rfl, h⟩⟩ dX6_fold_63
def w6_fold_d22 (K22 : Int32 → MS → Prop) (x2 : Int64) (x5 : Int32) (S : MS) (V1 : MS) (Q : Int32 → MS → Prop) : Prop :=
  (((24 : Int32) ≤ x5 → w6_fold_b62 S V1 Q) ∧ (¬ (24 : Int32) ≤ x5 → (((fI S 2) ≤ x5 → w6_fold_b62 S V1 Q) ∧ (¬ (fI S 2) ≤ x5 → vp_in x5 24 ∧ w6_foldRound x2 (rA S 1 x5) S V1 (fun r4 S5 => ((¬ r4 = 0 → ∀ y8 : Int32, y8 = x5 + 1 → K22 y8 S5) ∧ (r4 = 0 → Q (0 : Int32) S5)))))))
set_option maxHeartbeats 4000000 in
set_option maxRecDepth 100000 in
theorem b6_fold_d22 {p : Program} {l : Launch} {e : Env} {s : State} {m : MethodId} {args : Array Value} {below : List Frame} {meth : Method} {c : Code} {D : va_G} {cy : Nat → ClassId} {A : Nat → Prop} {o : Nat} {q : Nat → Nat} {o1 : Nat} {q1 : Nat → Nat} {K22 : Int32 → MS → Prop} (x2 : Int64) (x5 : Int32) (S : MS) (V1 : MS) {Q : Int32 → MS → Prop} (C : Cx p s m args meth c cX6_fold 6 (some .boolean) wsX6_fold RX6 D cy nestWs A) (hK22 : ∀ (x5 : Int32) (S : MS) (H : Heap) (locs : List Loc) (ls : Array Slot), K22 x5 S → GW D A s (w6 o q cy S ++ w1 o1 q1 cy V1) H locs → lv_has ls 6 [(0, .ref o), (1, .ref o1), (2, .long x2), (5, .int x5)] → W p l e ({ frames := 3, cells := 0, slots := 0, locals := 75 } : Room) s m args below meth c H locs 0 0 (MQ below (va_Qi (fun r z => z.2 = V1 ∧ Q r z.1) (B1 D (fun z : MS × MS => (w6 o q cy z.1 ++ w1 o1 q1 cy z.2 : va_W)) A) A) args s 0 0 A) (F0 m 22 ls [])) (h : w6_fold_d22 K22 x2 x5 S V1 Q) {H : Heap} {locs : List Loc} (hG : GW D A s (w6 o q cy S ++ w1 o1 q1 cy V1) H locs) {ls : Array Slot} (hl : lv_has ls 6 [(0, .ref o), (1, .ref o1), (2, .long x2), (5, .int x5)]) : W p l e ({ frames := 3, cells := 0, slots := 0, locals := 75 } : Room) s m args below meth c H locs 0 0 (MQ below (va_Qi (fun r z => z.2 = V1 ∧ Q r z.1) (B1 D (fun z : MS × MS => (w6 o q cy z.1 ++ w1 o1 q1 cy z.2 : va_W)) A) A) args s 0 0 A) (F0 m 22 ls []) := by
  have hx := C.1
  have hb := C.2.1
  unfold w6_fold_d22 at h
  refine lv_iload hx hb dX6_fold_22 (lv_at hl 3 rfl) ?_
  refine lv_bipush (v := 24) hx hb dX6_fold_24 (by decide) ?_
  refine lv_icmp_ge (tgt := 62) hx hb dX6_fold_26 (by decide) (fun c1 => ?_) (fun c1 => ?_)
  · replace h := h.1 c1
    exact b6_fold_b62 S V1 C h hG (lv_sub hl [0] rfl)
  · replace h := h.2 c1
    refine lv_iload hx hb dX6_fold_29 (lv_at hl 3 rfl) ?_
    refine lv_aload_n hx hb dX6_fold_31 rfl (lv_at hl 0 rfl) ?_
    refine gx_get C i6_fold_X6 hG 0 rfl rfl 2 (by decide) k6_fold_54 rfl dX6_fold_32 ?_
    refine lv_icmp_ge (tgt := 62) hx hb dX6_fold_35 (by decide) (fun c2 => ?_) (fun c2 => ?_)
    · replace h := h.1 c2
      exact b6_fold_b62 S V1 C h hG (lv_sub hl [0] rfl)
    · replace h := h.2 c2
      refine lv_aload_n hx hb dX6_fold_38 rfl (lv_at hl 0 rfl) ?_
      refine lv_aload_n hx hb dX6_fold_39 rfl (lv_at hl 1 rfl) ?_
      refine lv_lload_n hx hb dX6_fold_40 rfl (lv_at hl 2 rfl) ?_
      refine lv_aload_n hx hb dX6_fold_41 rfl (lv_at hl 0 rfl) ?_
      refine gx_get C i6_fold_X6 hG 0 rfl rfl 1 (by decide) k6_fold_15 rfl dX6_fold_42 ?_
      refine lv_iload hx hb dX6_fold_45 (lv_at hl 3 rfl) ?_
      obtain ⟨hv3, h⟩ := h
      refine gx_ald C hG 2 rfl hv3 dX6_fold_47 ?_
      refine callVI (As := [.ref o1, .long x2, .int (rA S 1 x5)]) (rest := []) C hG (c6_foldRound l D cy o q o1 q1 x2 (rA S 1 x5) S V1 _ h) 3 gX6_fold_X6_foldRound rfl (by decide +kernel) ⟨⟨Nat.le_of_ble_eq_true rfl, Nat.le_of_ble_eq_true rfl⟩, rfl, rfl⟩ rfl rfl (Foc.all (w' := (fun z : MS × MS => (w6 o q cy z.1 ++ w1 o1 q1 cy z.2 : va_W))) (S' := (S, V1)) C.2.2.2.2.2.2.2.2.1) rfl hl.1 rfl (Nat.le_of_ble_eq_true rfl) dX6_fold_48 ⟨Nat.zero_le _, Nat.zero_le _⟩ (fun r4 z H locs h hG => ?_)
      obtain ⟨S5, u6⟩ := z
      obtain ⟨eu6, h⟩ := h
      have eu6 : u6 = V1 := eu6
      replace h := h
      subst u6
      have hG : GW D A s (w6 o q cy S5 ++ w1 o1 q1 cy V1) H locs := hG
      refine lv_if_ne (tgt := 56) hx hb dX6_fold_51 (by decide) (fun c7 => ?_) (fun c7 => ?_)
      · replace h := h.1 c7
        obtain ⟨y8, ey8⟩ : ∃ y : Int32, y = x5 + 1 := ⟨_, rfl⟩
        replace h := h y8 ey8
        refine lv_iinc (v := y8) (lv' := [(5, .int y8), (0, .ref o), (1, .ref o1), (2, .long x2)]) hx hb dX6_fold_56 hl (k := 3) rfl (by rw [ey8]; rfl) (by decide) rfl (fun ls hl => ?_)
        refine lv_goto (tgt := 22) hx hb dX6_fold_59 (by decide) ?_
        exact hK22 y8 S5 _ _ _ h hG (lv_sub hl [1, 2, 3, 0] rfl)
      · replace h := h.2 c7
        refine lv_iconst (v := 0) hx hb dX6_fold_54 (by decide) ?_
        exact retZ (w := (fun z : MS × MS => (w6 o q cy z.1 ++ w1 o1 q1 cy z.2 : va_W))) (S := (S5, V1)) (Qp := (fun r z => z.2 = V1 ∧ Q r z.1)) C hG ⟨rfl, ⟨rfl, h⟩⟩ dX6_fold_55
def w6_fold_F22 (x2 : Int64) (V1 : MS) (Q : Int32 → MS → Prop) (K : Int32 × MS → Prop) (a : Int32 × MS) : Prop := w6_fold_d22 (fun y0 y1 => K (y0, y1)) x2 a.1 a.2 V1 Q
def w6_fold_b22 (x2 : Int64) (x5 : Int32) (S : MS) (V1 : MS) (Q : Int32 → MS → Prop) : Prop := lp (w6_fold_F22 x2 V1 Q) (x5, S)
set_option maxHeartbeats 4000000 in
set_option maxRecDepth 100000 in
theorem b6_fold_b22 {p : Program} {l : Launch} {e : Env} {s : State} {m : MethodId} {args : Array Value} {below : List Frame} {meth : Method} {c : Code} {D : va_G} {cy : Nat → ClassId} {A : Nat → Prop} {o : Nat} {q : Nat → Nat} {o1 : Nat} {q1 : Nat → Nat} (x2 : Int64) (x5 : Int32) (S : MS) (V1 : MS) {Q : Int32 → MS → Prop} (C : Cx p s m args meth c cX6_fold 6 (some .boolean) wsX6_fold RX6 D cy nestWs A) (h : w6_fold_b22 x2 x5 S V1 Q) {H : Heap} {locs : List Loc} (hG : GW D A s (w6 o q cy S ++ w1 o1 q1 cy V1) H locs) {ls : Array Slot} (hl : lv_has ls 6 [(0, .ref o), (1, .ref o1), (2, .long x2), (5, .int x5)]) : W p l e ({ frames := 3, cells := 0, slots := 0, locals := 75 } : Room) s m args below meth c H locs 0 0 (MQ below (va_Qi (fun r z => z.2 = V1 ∧ Q r z.1) (B1 D (fun z : MS × MS => (w6 o q cy z.1 ++ w1 o1 q1 cy z.2 : va_W)) A) A) args s 0 0 A) (F0 m 22 ls []) := by
  obtain ⟨k, hn⟩ := h
  induction k generalizing x5 S H locs ls with
  | zero => exact hn.elim
  | succ k ih => exact b6_fold_d22 (K22 := fun y0 y1 => itr (w6_fold_F22 x2 V1 Q) k (y0, y1)) x2 x5 S V1 C (fun x5 S H locs ls hk hG hl => ih x5 S hG hl hk) hn hG hl
def w6_fold (x2 : Int64) (x4 : Int32) (S : MS) (V1 : MS) (Q : Int32 → MS → Prop) : Prop :=
  w6_clear S (fun S1 => w0_least x2 (fun r2 => w6_put r2 x4 S1 (fun r3 S4 => ((¬ r3 = 0 → w6_fold_b22 x2 (0 : Int32) S4 V1 Q) ∧ (r3 = 0 → Q (0 : Int32) S4)))))
set_option maxHeartbeats 4000000 in
set_option maxRecDepth 100000 in
theorem c6_fold (l : Launch) (D : va_G) (cy : Nat → ClassId)  (o : Nat) (q : Nat → Nat) (o1 : Nat) (q1 : Nat → Nat) (x2 : Int64) (x4 : Int32) (S : MS) (V1 : MS) (Q : Int32 → MS → Prop) (h : w6_fold x2 x4 S V1 Q) : MetI l yX6_fold wsX6_fold ({ frames := 3, cells := 0, slots := 0, locals := 75 } : Room) D cy nestWs (fun z : MS × MS => (w6 o q cy z.1 ++ w1 o1 q1 cy z.2 : va_W)) [.ref o, .ref o1, .long x2, .int x4] (S, V1) (fun r z => z.2 = V1 ∧ Q r z.1) := by
  refine MetI.mk RX6 cX6_fold 6 .boolean (by decide) rfl nestWs_ok rfl (Nat.le_of_ble_eq_true rfl) ?_
  intro p e s m below meth c A ls C hG hl
  have hl : lv_has ls 6 [(0, .ref o), (1, .ref o1), (2, .long x2), (4, .int x4)] := hl
  have hx := C.1
  have hb := C.2.1
  unfold w6_fold at h
  refine lv_aload_n hx hb dX6_fold_0 rfl (lv_at hl 0 rfl) ?_
  refine callVV (As := []) (rest := []) C hG (c6_clear l D cy o q S _ h) 0 gX6_fold_X6_clear rfl (by decide +kernel) ⟨⟨Nat.le_of_ble_eq_true rfl, Nat.le_of_ble_eq_true rfl⟩, rfl, rfl⟩ rfl rfl (Foc.pq (rv := fun z : MS => (w6 o q cy z ++ w1 o1 q1 cy V1 : va_W)) C.2.2.2.2.2.2.2.2.1 [0, 1, 2] [3, 4, 5, 6, 7, 8, 9] [7, 8, 9, 0, 1, 2, 3, 4, 5, 6] rfl rfl rfl rfl rfl (by decide) rfl (fun _ => rfl) (fun _ => rfl)) rfl hl.1 rfl (Nat.le_of_ble_eq_true rfl) dX6_fold_1 ⟨Nat.zero_le _, Nat.zero_le _⟩ (fun  S1 H locs h hG => ?_)
  have hG : GW D A s (w6 o q cy S1 ++ w1 o1 q1 cy V1) H locs := hG
  refine lv_aload_n hx hb dX6_fold_4 rfl (lv_at hl 0 rfl) ?_
  refine lv_lload_n hx hb dX6_fold_5 rfl (lv_at hl 2 rfl) ?_
  refine callSI (As := [.long x2]) (rest := [.ref o]) C hG (c0_least l D cy x2 _ h) 1 gX6_fold_X0_least rfl (by decide +kernel) ⟨⟨Nat.le_of_ble_eq_true rfl, Nat.le_of_ble_eq_true rfl⟩, rfl, rfl⟩ (Foc.none C.2.2.2.2.2.2.2.2.1) rfl hl.1 rfl (Nat.le_of_ble_eq_true rfl) dX6_fold_6 ⟨Nat.zero_le _, Nat.zero_le _⟩ (fun r2 z H locs h hG => ?_)
  refine lv_iload hx hb dX6_fold_9 (lv_at hl 3 rfl) ?_
  refine callVI (As := [.int r2, .int x4]) (rest := []) C hG (c6_put l D cy o q r2 x4 S1 _ h) 2 gX6_fold_X6_put rfl (by decide +kernel) ⟨⟨Nat.le_of_ble_eq_true rfl, Nat.le_of_ble_eq_true rfl⟩, rfl, rfl⟩ rfl rfl (Foc.pq (rv := fun z : MS => (w6 o q cy z ++ w1 o1 q1 cy V1 : va_W)) C.2.2.2.2.2.2.2.2.1 [0, 1, 2] [3, 4, 5, 6, 7, 8, 9] [7, 8, 9, 0, 1, 2, 3, 4, 5, 6] rfl rfl rfl rfl rfl (by decide) rfl (fun _ => rfl) (fun _ => rfl)) rfl hl.1 rfl (Nat.le_of_ble_eq_true rfl) dX6_fold_11 ⟨Nat.zero_le _, Nat.zero_le _⟩ (fun r3 S4 H locs h hG => ?_)
  have hG : GW D A s (w6 o q cy S4 ++ w1 o1 q1 cy V1) H locs := hG
  refine lv_if_ne (tgt := 19) hx hb dX6_fold_14 (by decide) (fun c5 => ?_) (fun c5 => ?_)
  · replace h := h.1 c5
    refine lv_iconst (v := 0) hx hb dX6_fold_19 (by decide) ?_
    refine lv_istore (lv' := [(5, .int (0 : Int32)), (0, .ref o), (1, .ref o1), (2, .long x2), (4, .int x4)]) hx hb dX6_fold_20 hl (by decide) rfl (fun ls hl => ?_)
    exact b6_fold_b22 x2 (0 : Int32) S4 V1 C h hG (lv_sub hl [1, 2, 3, 0] rfl)
  · replace h := h.2 c5
    refine lv_iconst (v := 0) hx hb dX6_fold_17 (by decide) ?_
    exact retZ (w := (fun z : MS × MS => (w6 o q cy z.1 ++ w1 o1 q1 cy z.2 : va_W))) (S := (S4, V1)) (Qp := (fun r z => z.2 = V1 ∧ Q r z.1)) C hG ⟨rfl, ⟨rfl, h⟩⟩ dX6_fold_18
-- X6_isWhole
theorem i6_isWhole_X1 : ∀ w ∈ wsX10, w ∈ wsX6_isWhole := fun w h => List.mem_cons_of_mem _ (inG_X1 w h)
def w6_isWhole_b27 (t0 : Int32) (S : MS) (V1 : MS) (Q : Int32 → MS → Prop) : Prop :=
  narrow .boolean (.int t0) = .int t0 ∧ Q t0 S
set_option maxHeartbeats 4000000 in
set_option maxRecDepth 100000 in
theorem b6_isWhole_b27 {p : Program} {l : Launch} {e : Env} {s : State} {m : MethodId} {args : Array Value} {below : List Frame} {meth : Method} {c : Code} {D : va_G} {cy : Nat → ClassId} {A : Nat → Prop} {o : Nat} {q : Nat → Nat} {o1 : Nat} {q1 : Nat → Nat} (t0 : Int32) (S : MS) (V1 : MS) {Q : Int32 → MS → Prop} (C : Cx p s m args meth c cX6_isWhole 5 (some .boolean) wsX6_isWhole RX6 D cy nestWs A) (h : w6_isWhole_b27 t0 S V1 Q) {H : Heap} {locs : List Loc} (hG : GW D A s (w6 o q cy S ++ w1 o1 q1 cy V1) H locs) {ls : Array Slot} (hl : lv_has ls 5 [(0, .ref o)]) : W p l e ({ frames := 4, cells := 0, slots := 0, locals := 100 } : Room) s m args below meth c H locs 0 0 (MQ below (va_Qi (fun r z => z.2 = V1 ∧ Q r z.1) (B1 D (fun z : MS × MS => (w6 o q cy z.1 ++ w1 o1 q1 cy z.2 : va_W)) A) A) args s 0 0 A) (F0 m 27 ls [.int t0]) := by
  have hx := C.1
  have hb := C.2.1
  unfold w6_isWhole_b27 at h
  exact retZ (w := (fun z : MS × MS => (w6 o q cy z.1 ++ w1 o1 q1 cy z.2 : va_W))) (S := (S, V1)) (Qp := (fun r z => z.2 = V1 ∧ Q r z.1)) C hG ⟨h.1, ⟨rfl, h.2⟩⟩ dX6_isWhole_27
def w6_isWhole_b26 (S : MS) (V1 : MS) (Q : Int32 → MS → Prop) : Prop :=
  w6_isWhole_b27 (0 : Int32) S V1 Q
set_option maxHeartbeats 4000000 in
set_option maxRecDepth 100000 in
theorem b6_isWhole_b26 {p : Program} {l : Launch} {e : Env} {s : State} {m : MethodId} {args : Array Value} {below : List Frame} {meth : Method} {c : Code} {D : va_G} {cy : Nat → ClassId} {A : Nat → Prop} {o : Nat} {q : Nat → Nat} {o1 : Nat} {q1 : Nat → Nat} (S : MS) (V1 : MS) {Q : Int32 → MS → Prop} (C : Cx p s m args meth c cX6_isWhole 5 (some .boolean) wsX6_isWhole RX6 D cy nestWs A) (h : w6_isWhole_b26 S V1 Q) {H : Heap} {locs : List Loc} (hG : GW D A s (w6 o q cy S ++ w1 o1 q1 cy V1) H locs) {ls : Array Slot} (hl : lv_has ls 5 [(0, .ref o)]) : W p l e ({ frames := 4, cells := 0, slots := 0, locals := 100 } : Room) s m args below meth c H locs 0 0 (MQ below (va_Qi (fun r z => z.2 = V1 ∧ Q r z.1) (B1 D (fun z : MS × MS => (w6 o q cy z.1 ++ w1 o1 q1 cy z.2 : va_W)) A) A) args s 0 0 A) (F0 m 26 ls []) := by
  have hx := C.1
  have hb := C.2.1
  unfold w6_isWhole_b26 at h
  refine lv_iconst (v := 0) hx hb dX6_isWhole_26 (by decide) ?_
  exact b6_isWhole_b27 (0 : Int32) S V1 C h hG hl
def w6_isWhole (x2 : Int64) (x4 : Int32) (S : MS) (V1 : MS) (Q : Int32 → MS → Prop) : Prop :=
  w13_bitCount_95d88 x2 (fun r1 => ((¬ r1 = (fI V1 6) → w6_isWhole_b26 S V1 Q) ∧ (r1 = (fI V1 6) → w6_fold x2 x4 S V1 (fun r3 S4 => ((r3 = 0 → w6_isWhole_b26 S4 V1 Q) ∧ (¬ r3 = 0 → w6_isWhole_b27 (1 : Int32) S4 V1 Q))))))
set_option maxHeartbeats 4000000 in
set_option maxRecDepth 100000 in
theorem c6_isWhole (l : Launch) (D : va_G) (cy : Nat → ClassId)  (o : Nat) (q : Nat → Nat) (o1 : Nat) (q1 : Nat → Nat) (x2 : Int64) (x4 : Int32) (S : MS) (V1 : MS) (Q : Int32 → MS → Prop) (h : w6_isWhole x2 x4 S V1 Q) : MetI l yX6_isWhole wsX6_isWhole ({ frames := 4, cells := 0, slots := 0, locals := 100 } : Room) D cy nestWs (fun z : MS × MS => (w6 o q cy z.1 ++ w1 o1 q1 cy z.2 : va_W)) [.ref o, .ref o1, .long x2, .int x4] (S, V1) (fun r z => z.2 = V1 ∧ Q r z.1) := by
  refine MetI.mk RX6 cX6_isWhole 5 .boolean (by decide) rfl nestWs_ok rfl (Nat.le_of_ble_eq_true rfl) ?_
  intro p e s m below meth c A ls C hG hl
  have hl : lv_has ls 5 [(0, .ref o), (1, .ref o1), (2, .long x2), (4, .int x4)] := hl
  have hx := C.1
  have hb := C.2.1
  unfold w6_isWhole at h
  refine lv_lload_n hx hb dX6_isWhole_0 rfl (lv_at hl 2 rfl) ?_
  refine callSI (As := [.long x2]) (rest := []) C hG (c13_bitCount_95d88 l D cy x2 _ h) 1 gX6_isWhole_J13_bitCount_95d88 rfl (by decide +kernel) ⟨⟨Nat.le_of_ble_eq_true rfl, Nat.le_of_ble_eq_true rfl⟩, rfl, rfl⟩ (Foc.none C.2.2.2.2.2.2.2.2.1) rfl hl.1 rfl (Nat.le_of_ble_eq_true rfl) dX6_isWhole_1 ⟨Nat.zero_le _, Nat.zero_le _⟩ (fun r1 z H locs h hG => ?_)
  refine lv_aload_n hx hb dX6_isWhole_4 rfl (lv_at hl 1 rfl) ?_
  refine gx_getN (host := "PaperBodies") C i6_isWhole_X1 hG 3 rfl rfl 6 (by decide) (by decide +kernel) rfl dX6_isWhole_5 ?_
  refine lv_icmp_ne (tgt := 26) hx hb dX6_isWhole_8 (by decide) (fun c2 => ?_) (fun c2 => ?_)
  · replace h := h.1 c2
    exact b6_isWhole_b26 S V1 C h hG (lv_sub hl [0] rfl)
  · replace h := h.2 c2
    refine lv_aload_n hx hb dX6_isWhole_11 rfl (lv_at hl 0 rfl) ?_
    refine lv_aload_n hx hb dX6_isWhole_12 rfl (lv_at hl 1 rfl) ?_
    refine lv_lload_n hx hb dX6_isWhole_13 rfl (lv_at hl 2 rfl) ?_
    refine lv_iload hx hb dX6_isWhole_14 (lv_at hl 3 rfl) ?_
    refine callVI (As := [.ref o1, .long x2, .int x4]) (rest := []) C hG (c6_fold l D cy o q o1 q1 x2 x4 S V1 _ h) 3 gX6_isWhole_X6_fold rfl (by decide +kernel) ⟨⟨Nat.le_of_ble_eq_true rfl, Nat.le_of_ble_eq_true rfl⟩, rfl, rfl⟩ rfl rfl (Foc.all (w' := (fun z : MS × MS => (w6 o q cy z.1 ++ w1 o1 q1 cy z.2 : va_W))) (S' := (S, V1)) C.2.2.2.2.2.2.2.2.1) rfl hl.1 rfl (Nat.le_of_ble_eq_true rfl) dX6_isWhole_16 ⟨Nat.zero_le _, Nat.zero_le _⟩ (fun r3 z H locs h hG => ?_)
    obtain ⟨S4, u5⟩ := z
    obtain ⟨eu5, h⟩ := h
    have eu5 : u5 = V1 := eu5
    replace h := h
    subst u5
    have hG : GW D A s (w6 o q cy S4 ++ w1 o1 q1 cy V1) H locs := hG
    refine lv_if_eq (tgt := 26) hx hb dX6_isWhole_19 (by decide) (fun c6 => ?_) (fun c6 => ?_)
    · replace h := h.1 c6
      exact b6_isWhole_b26 S4 V1 C h hG (lv_sub hl [0] rfl)
    · replace h := h.2 c6
      refine lv_iconst (v := 1) hx hb dX6_isWhole_22 (by decide) ?_
      refine lv_goto (tgt := 27) hx hb dX6_isWhole_23 (by decide) ?_
      exact b6_isWhole_b27 (1 : Int32) S4 V1 C h hG (lv_sub hl [0] rfl)
-- X6_layRound
theorem i6_layRound_X5 : ∀ w ∈ wsX50, w ∈ wsX6_layRound := fun w h => List.mem_cons_of_mem _ (inG_X5 w h)
def w6_layRound_b96 (K39 : Int32 → MS → Prop) (x2 : Int32) (x4 : Int32) (x6 : Int32) (x7 : Int32) (S : MS) (V1 : MS) (V2 : MS) (Q : Int32 → MS → Prop) : Prop :=
  ∀ y1 : Int32, y1 = x7 + 1 → K39 y1 S
set_option maxHeartbeats 4000000 in
set_option maxRecDepth 100000 in
theorem b6_layRound_b96 {p : Program} {l : Launch} {e : Env} {s : State} {m : MethodId} {args : Array Value} {below : List Frame} {meth : Method} {c : Code} {D : va_G} {cy : Nat → ClassId} {A : Nat → Prop} {o : Nat} {q : Nat → Nat} {o1 : Nat} {q1 : Nat → Nat} {o2 : Nat} {q2 : Nat → Nat} {K39 : Int32 → MS → Prop} (x2 : Int32) (x4 : Int32) (x6 : Int32) (x7 : Int32) (S : MS) (V1 : MS) (V2 : MS) {Q : Int32 → MS → Prop} (C : Cx p s m args meth c cX6_layRound 9 (some .boolean) wsX6_layRound RX6 D cy nestWs A) (hK39 : ∀ (x7 : Int32) (S : MS) (H : Heap) (locs : List Loc) (ls : Array Slot), K39 x7 S → GW D A s (w6 o q cy S ++ w1 o1 q1 cy V1 ++ w5 o2 q2 cy V2) H locs → lv_has ls 9 [(0, .ref o), (1, .ref o1), (2, .int x2), (4, .int x4), (6, .int x6), (7, .int x7)] → W p l e ({ frames := 2, cells := 0, slots := 0, locals := 46 } : Room) s m args below meth c H locs 0 0 (MQ below (va_Qi (fun r z => z.2.1 = V1 ∧ z.2.2 = V2 ∧ Q r z.1) (B1 D (fun z : MS × MS × MS => (w6 o q cy z.1 ++ w1 o1 q1 cy z.2.1 ++ w5 o2 q2 cy z.2.2 : va_W)) A) A) args s 0 0 A) (F0 m 39 ls [])) (h : w6_layRound_b96 K39 x2 x4 x6 x7 S V1 V2 Q) {H : Heap} {locs : List Loc} (hG : GW D A s (w6 o q cy S ++ w1 o1 q1 cy V1 ++ w5 o2 q2 cy V2) H locs) {ls : Array Slot} (hl : lv_has ls 9 [(0, .ref o), (1, .ref o1), (2, .int x2), (4, .int x4), (6, .int x6), (7, .int x7)]) : W p l e ({ frames := 2, cells := 0, slots := 0, locals := 46 } : Room) s m args below meth c H locs 0 0 (MQ below (va_Qi (fun r z => z.2.1 = V1 ∧ z.2.2 = V2 ∧ Q r z.1) (B1 D (fun z : MS × MS × MS => (w6 o q cy z.1 ++ w1 o1 q1 cy z.2.1 ++ w5 o2 q2 cy z.2.2 : va_W)) A) A) args s 0 0 A) (F0 m 96 ls []) := by
  have hx := C.1
  have hb := C.2.1
  unfold w6_layRound_b96 at h
  obtain ⟨y1, ey1⟩ : ∃ y : Int32, y = x7 + 1 := ⟨_, rfl⟩
  replace h := h y1 ey1
  refine lv_iinc (v := y1) (lv' := [(7, .int y1), (0, .ref o), (1, .ref o1), (2, .int x2), (4, .int x4), (6, .int x6)]) hx hb dX6_layRound_96 hl (k := 5) rfl (by rw [ey1]; rfl) (by decide) rfl (fun ls hl => ?_)
  refine lv_goto (tgt := 39) hx hb dX6_layRound_99 (by decide) ?_
  exact hK39 y1 S _ _ _ h hG (lv_sub hl [1, 2, 3, 4, 5, 0] rfl)
def w6_layRound_d39 (K39 : Int32 → MS → Prop) (x2 : Int32) (x4 : Int32) (x6 : Int32) (x7 : Int32) (S : MS) (V1 : MS) (V2 : MS) (Q : Int32 → MS → Prop) : Prop :=
  (((4 : Int32) ≤ x7 → Q (1 : Int32) S) ∧ (¬ (4 : Int32) ≤ x7 → w1_leadsTo x4 x7 V1 (fun r2 => ((((x6 >>> (x7 &&& 31)) &&& (1 : Int32)) = 0 → w6_layRound_b96 K39 x2 x4 x6 x7 S V1 V2 Q) ∧ (¬ ((x6 >>> (x7 &&& 31)) &&& (1 : Int32)) = 0 → w6_covers (r2 >>> ((2 : Int32) &&& 31)) S (fun r5 => ((r5 = 0 → w0_beside x2 x7 (fun r8 => w6_put r8 r2 S (fun r9 S10 => ((¬ r9 = 0 → w6_layRound_b96 K39 x2 x4 x6 x7 S10 V1 V2 Q) ∧ (r9 = 0 → Q (0 : Int32) S10))))) ∧ (¬ r5 = 0 → w6_layRound_b96 K39 x2 x4 x6 x7 S V1 V2 Q))))))))
set_option maxHeartbeats 4000000 in
set_option maxRecDepth 100000 in
theorem b6_layRound_d39 {p : Program} {l : Launch} {e : Env} {s : State} {m : MethodId} {args : Array Value} {below : List Frame} {meth : Method} {c : Code} {D : va_G} {cy : Nat → ClassId} {A : Nat → Prop} {o : Nat} {q : Nat → Nat} {o1 : Nat} {q1 : Nat → Nat} {o2 : Nat} {q2 : Nat → Nat} {K39 : Int32 → MS → Prop} (x2 : Int32) (x4 : Int32) (x6 : Int32) (x7 : Int32) (S : MS) (V1 : MS) (V2 : MS) {Q : Int32 → MS → Prop} (C : Cx p s m args meth c cX6_layRound 9 (some .boolean) wsX6_layRound RX6 D cy nestWs A) (hK39 : ∀ (x7 : Int32) (S : MS) (H : Heap) (locs : List Loc) (ls : Array Slot), K39 x7 S → GW D A s (w6 o q cy S ++ w1 o1 q1 cy V1 ++ w5 o2 q2 cy V2) H locs → lv_has ls 9 [(0, .ref o), (1, .ref o1), (2, .int x2), (4, .int x4), (6, .int x6), (7, .int x7)] → W p l e ({ frames := 2, cells := 0, slots := 0, locals := 46 } : Room) s m args below meth c H locs 0 0 (MQ below (va_Qi (fun r z => z.2.1 = V1 ∧ z.2.2 = V2 ∧ Q r z.1) (B1 D (fun z : MS × MS × MS => (w6 o q cy z.1 ++ w1 o1 q1 cy z.2.1 ++ w5 o2 q2 cy z.2.2 : va_W)) A) A) args s 0 0 A) (F0 m 39 ls [])) (h : w6_layRound_d39 K39 x2 x4 x6 x7 S V1 V2 Q) {H : Heap} {locs : List Loc} (hG : GW D A s (w6 o q cy S ++ w1 o1 q1 cy V1 ++ w5 o2 q2 cy V2) H locs) {ls : Array Slot} (hl : lv_has ls 9 [(0, .ref o), (1, .ref o1), (2, .int x2), (4, .int x4), (6, .int x6), (7, .int x7)]) : W p l e ({ frames := 2, cells := 0, slots := 0, locals := 46 } : Room) s m args below meth c H locs 0 0 (MQ below (va_Qi (fun r z => z.2.1 = V1 ∧ z.2.2 = V2 ∧ Q r z.1) (B1 D (fun z : MS × MS × MS => (w6 o q cy z.1 ++ w1 o1 q1 cy z.2.1 ++ w5 o2 q2 cy z.2.2 : va_W)) A) A) args s 0 0 A) (F0 m 39 ls []) := by
  have hx := C.1
  have hb := C.2.1
  unfold w6_layRound_d39 at h
  refine lv_iload hx hb dX6_layRound_39 (lv_at hl 5 rfl) ?_
  refine lv_iconst (v := 4) hx hb dX6_layRound_41 (by decide) ?_
  refine lv_icmp_ge (tgt := 102) hx hb dX6_layRound_42 (by decide) (fun c1 => ?_) (fun c1 => ?_)
  · replace h := h.1 c1
    refine lv_iconst (v := 1) hx hb dX6_layRound_102 (by decide) ?_
    exact retZ (w := (fun z : MS × MS × MS => (w6 o q cy z.1 ++ w1 o1 q1 cy z.2.1 ++ w5 o2 q2 cy z.2.2 : va_W))) (S := (S, V1, V2)) (Qp := (fun r z => z.2.1 = V1 ∧ z.2.2 = V2 ∧ Q r z.1)) C hG ⟨rfl, ⟨rfl, rfl, h⟩⟩ dX6_layRound_103
  · replace h := h.2 c1
    refine lv_aload_n hx hb dX6_layRound_45 rfl (lv_at hl 1 rfl) ?_
    refine lv_iload hx hb dX6_layRound_46 (lv_at hl 3 rfl) ?_
    refine lv_iload hx hb dX6_layRound_48 (lv_at hl 5 rfl) ?_
    refine callVI (As := [.int x4, .int x7]) (rest := []) C hG (c1_leadsTo l D cy o1 q1 x4 x7 V1 _ h) 2 gX6_layRound_X1_leadsTo rfl (by decide +kernel) ⟨⟨Nat.le_of_ble_eq_true rfl, Nat.le_of_ble_eq_true rfl⟩, rfl, rfl⟩ rfl rfl (Foc.pq (rv := fun z : MS => (w6 o q cy S ++ w1 o1 q1 cy z ++ w5 o2 q2 cy V2 : va_W)) C.2.2.2.2.2.2.2.2.1 [3, 4, 5, 6, 7, 8, 9] [0, 1, 2, 10, 11] [0, 1, 2, 5, 6, 7, 8, 9, 10, 11, 3, 4] rfl rfl rfl rfl rfl (by decide) rfl (fun _ => rfl) (fun _ => rfl)) rfl hl.1 rfl (Nat.le_of_ble_eq_true rfl) dX6_layRound_50 ⟨Nat.zero_le _, Nat.zero_le _⟩ (fun r2 u3 H locs h hG => ?_)
    obtain ⟨eu3, h⟩ := h
    have eu3 : u3 = V1 := eu3
    subst u3
    have hG : GW D A s (w6 o q cy S ++ w1 o1 q1 cy V1 ++ w5 o2 q2 cy V2) H locs := hG
    refine lv_istore (lv' := [(8, .int r2), (0, .ref o), (1, .ref o1), (2, .int x2), (4, .int x4), (6, .int x6), (7, .int x7)]) hx hb dX6_layRound_53 hl (by decide) rfl (fun ls hl => ?_)
    refine lv_iload hx hb dX6_layRound_55 (lv_at hl 5 rfl) ?_
    refine lv_iload hx hb dX6_layRound_57 (lv_at hl 6 rfl) ?_
    refine lv_ishr hx hb dX6_layRound_59 ?_
    refine lv_iconst (v := 1) hx hb dX6_layRound_60 (by decide) ?_
    refine lv_iand hx hb dX6_layRound_61 ?_
    refine lv_if_eq (tgt := 96) hx hb dX6_layRound_62 (by decide) (fun c4 => ?_) (fun c4 => ?_)
    · replace h := h.1 c4
      exact b6_layRound_b96 (K39 := K39) x2 x4 x6 x7 S V1 V2 C hK39 h hG (lv_sub hl [1, 2, 3, 4, 5, 6] rfl)
    · replace h := h.2 c4
      refine lv_aload_n hx hb dX6_layRound_65 rfl (lv_at hl 1 rfl) ?_
      refine lv_iload hx hb dX6_layRound_66 (lv_at hl 0 rfl) ?_
      refine lv_iconst (v := 2) hx hb dX6_layRound_68 (by decide) ?_
      refine lv_ishr hx hb dX6_layRound_69 ?_
      refine callVI (As := [.int (r2 >>> ((2 : Int32) &&& 31))]) (rest := []) C hG (c6_covers l D cy o q (r2 >>> ((2 : Int32) &&& 31)) S _ h) 1 gX6_layRound_X6_covers rfl (by decide +kernel) ⟨⟨Nat.le_of_ble_eq_true rfl, Nat.le_of_ble_eq_true rfl⟩, rfl, rfl⟩ rfl rfl (Foc.pq (rv := fun z : MS => (w6 o q cy z ++ w1 o1 q1 cy V1 ++ w5 o2 q2 cy V2 : va_W)) C.2.2.2.2.2.2.2.2.1 [0, 1, 2] [3, 4, 5, 6, 7, 8, 9, 10, 11] [9, 10, 11, 0, 1, 2, 3, 4, 5, 6, 7, 8] rfl rfl rfl rfl rfl (by decide) rfl (fun _ => rfl) (fun _ => rfl)) rfl hl.1 rfl (Nat.le_of_ble_eq_true rfl) dX6_layRound_70 ⟨Nat.zero_le _, Nat.zero_le _⟩ (fun r5 u6 H locs h hG => ?_)
      obtain ⟨eu6, h⟩ := h
      have eu6 : u6 = S := eu6
      subst u6
      have hG : GW D A s (w6 o q cy S ++ w1 o1 q1 cy V1 ++ w5 o2 q2 cy V2) H locs := hG
      refine lv_if_eq (tgt := 79) hx hb dX6_layRound_73 (by decide) (fun c7 => ?_) (fun c7 => ?_)
      · replace h := h.1 c7
        refine lv_aload_n hx hb dX6_layRound_79 rfl (lv_at hl 1 rfl) ?_
        refine lv_iload_n hx hb dX6_layRound_80 rfl (lv_at hl 3 rfl) ?_
        refine lv_iload hx hb dX6_layRound_81 (lv_at hl 6 rfl) ?_
        refine callSI (As := [.int x2, .int x7]) (rest := [.ref o]) C hG (c0_beside l D cy x2 x7 _ h) 2 gX6_layRound_X0_beside rfl (by decide +kernel) ⟨⟨Nat.le_of_ble_eq_true rfl, Nat.le_of_ble_eq_true rfl⟩, rfl, rfl⟩ (Foc.none C.2.2.2.2.2.2.2.2.1) rfl hl.1 rfl (Nat.le_of_ble_eq_true rfl) dX6_layRound_83 ⟨Nat.zero_le _, Nat.zero_le _⟩ (fun r8 z H locs h hG => ?_)
        refine lv_iload hx hb dX6_layRound_86 (lv_at hl 0 rfl) ?_
        refine callVI (As := [.int r8, .int r2]) (rest := []) C hG (c6_put l D cy o q r8 r2 S _ h) 2 gX6_layRound_X6_put rfl (by decide +kernel) ⟨⟨Nat.le_of_ble_eq_true rfl, Nat.le_of_ble_eq_true rfl⟩, rfl, rfl⟩ rfl rfl (Foc.pq (rv := fun z : MS => (w6 o q cy z ++ w1 o1 q1 cy V1 ++ w5 o2 q2 cy V2 : va_W)) C.2.2.2.2.2.2.2.2.1 [0, 1, 2] [3, 4, 5, 6, 7, 8, 9, 10, 11] [9, 10, 11, 0, 1, 2, 3, 4, 5, 6, 7, 8] rfl rfl rfl rfl rfl (by decide) rfl (fun _ => rfl) (fun _ => rfl)) rfl hl.1 rfl (Nat.le_of_ble_eq_true rfl) dX6_layRound_88 ⟨Nat.zero_le _, Nat.zero_le _⟩ (fun r9 S10 H locs h hG => ?_)
        have hG : GW D A s (w6 o q cy S10 ++ w1 o1 q1 cy V1 ++ w5 o2 q2 cy V2) H locs := hG
        refine lv_if_ne (tgt := 96) hx hb dX6_layRound_91 (by decide) (fun c11 => ?_) (fun c11 => ?_)
        · replace h := h.1 c11
          exact b6_layRound_b96 (K39 := K39) x2 x4 x6 x7 S10 V1 V2 C hK39 h hG (lv_sub hl [1, 2, 3, 4, 5, 6] rfl)
        · replace h := h.2 c11
          refine lv_iconst (v := 0) hx hb dX6_layRound_94 (by decide) ?_
          exact retZ (w := (fun z : MS × MS × MS => (w6 o q cy z.1 ++ w1 o1 q1 cy z.2.1 ++ w5 o2 q2 cy z.2.2 : va_W))) (S := (S10, V1, V2)) (Qp := (fun r z => z.2.1 = V1 ∧ z.2.2 = V2 ∧ Q r z.1)) C hG ⟨rfl, ⟨rfl, rfl, h⟩⟩ dX6_layRound_95
      · replace h := h.2 c7
        refine lv_goto (tgt := 96) hx hb dX6_layRound_76 (by decide) ?_
        exact b6_layRound_b96 (K39 := K39) x2 x4 x6 x7 S V1 V2 C hK39 h hG (lv_sub hl [1, 2, 3, 4, 5, 6] rfl)
def w6_layRound_F39 (x2 : Int32) (x4 : Int32) (x6 : Int32) (V1 : MS) (V2 : MS) (Q : Int32 → MS → Prop) (K : Int32 × MS → Prop) (a : Int32 × MS) : Prop := w6_layRound_d39 (fun y0 y1 => K (y0, y1)) x2 x4 x6 a.1 a.2 V1 V2 Q
def w6_layRound_b39 (x2 : Int32) (x4 : Int32) (x6 : Int32) (x7 : Int32) (S : MS) (V1 : MS) (V2 : MS) (Q : Int32 → MS → Prop) : Prop := lp (w6_layRound_F39 x2 x4 x6 V1 V2 Q) (x7, S)
set_option maxHeartbeats 4000000 in
set_option maxRecDepth 100000 in
theorem b6_layRound_b39 {p : Program} {l : Launch} {e : Env} {s : State} {m : MethodId} {args : Array Value} {below : List Frame} {meth : Method} {c : Code} {D : va_G} {cy : Nat → ClassId} {A : Nat → Prop} {o : Nat} {q : Nat → Nat} {o1 : Nat} {q1 : Nat → Nat} {o2 : Nat} {q2 : Nat → Nat} (x2 : Int32) (x4 : Int32) (x6 : Int32) (x7 : Int32) (S : MS) (V1 : MS) (V2 : MS) {Q : Int32 → MS → Prop} (C : Cx p s m args meth c cX6_layRound 9 (some .boolean) wsX6_layRound RX6 D cy nestWs A) (h : w6_layRound_b39 x2 x4 x6 x7 S V1 V2 Q) {H : Heap} {locs : List Loc} (hG : GW D A s (w6 o q cy S ++ w1 o1 q1 cy V1 ++ w5 o2 q2 cy V2) H locs) {ls : Array Slot} (hl : lv_has ls 9 [(0, .ref o), (1, .ref o1), (2, .int x2), (4, .int x4), (6, .int x6), (7, .int x7)]) : W p l e ({ frames := 2, cells := 0, slots := 0, locals := 46 } : Room) s m args below meth c H locs 0 0 (MQ below (va_Qi (fun r z => z.2.1 = V1 ∧ z.2.2 = V2 ∧ Q r z.1) (B1 D (fun z : MS × MS × MS => (w6 o q cy z.1 ++ w1 o1 q1 cy z.2.1 ++ w5 o2 q2 cy z.2.2 : va_W)) A) A) args s 0 0 A) (F0 m 39 ls []) := by
  obtain ⟨k, hn⟩ := h
  induction k generalizing x7 S H locs ls with
  | zero => exact hn.elim
  | succ k ih => exact b6_layRound_d39 (K39 := fun y0 y1 => itr (w6_layRound_F39 x2 x4 x6 V1 V2 Q) k (y0, y1)) x2 x4 x6 x7 S V1 V2 C (fun x7 S H locs ls hk hG hl => ih x7 S hG hl hk) hn hG hl
def w6_layRound_b34 (x2 : Int32) (x4 : Int32) (t0 : Int32) (S : MS) (V1 : MS) (V2 : MS) (Q : Int32 → MS → Prop) : Prop :=
  w6_layRound_b39 x2 x4 t0 (0 : Int32) S V1 V2 Q
set_option maxHeartbeats 4000000 in
set_option maxRecDepth 100000 in
theorem b6_layRound_b34 {p : Program} {l : Launch} {e : Env} {s : State} {m : MethodId} {args : Array Value} {below : List Frame} {meth : Method} {c : Code} {D : va_G} {cy : Nat → ClassId} {A : Nat → Prop} {o : Nat} {q : Nat → Nat} {o1 : Nat} {q1 : Nat → Nat} {o2 : Nat} {q2 : Nat → Nat} (x2 : Int32) (x4 : Int32) (t0 : Int32) (S : MS) (V1 : MS) (V2 : MS) {Q : Int32 → MS → Prop} (C : Cx p s m args meth c cX6_layRound 9 (some .boolean) wsX6_layRound RX6 D cy nestWs A) (h : w6_layRound_b34 x2 x4 t0 S V1 V2 Q) {H : Heap} {locs : List Loc} (hG : GW D A s (w6 o q cy S ++ w1 o1 q1 cy V1 ++ w5 o2 q2 cy V2) H locs) {ls : Array Slot} (hl : lv_has ls 9 [(0, .ref o), (1, .ref o1), (2, .int x2), (4, .int x4)]) : W p l e ({ frames := 2, cells := 0, slots := 0, locals := 46 } : Room) s m args below meth c H locs 0 0 (MQ below (va_Qi (fun r z => z.2.1 = V1 ∧ z.2.2 = V2 ∧ Q r z.1) (B1 D (fun z : MS × MS × MS => (w6 o q cy z.1 ++ w1 o1 q1 cy z.2.1 ++ w5 o2 q2 cy z.2.2 : va_W)) A) A) args s 0 0 A) (F0 m 34 ls [.int t0]) := by
  have hx := C.1
  have hb := C.2.1
  unfold w6_layRound_b34 at h
  refine lv_istore (lv' := [(6, .int t0), (0, .ref o), (1, .ref o1), (2, .int x2), (4, .int x4)]) hx hb dX6_layRound_34 hl (by decide) rfl (fun ls hl => ?_)
  refine lv_iconst (v := 0) hx hb dX6_layRound_36 (by decide) ?_
  refine lv_istore (lv' := [(7, .int (0 : Int32)), (6, .int t0), (0, .ref o), (1, .ref o1), (2, .int x2), (4, .int x4)]) hx hb dX6_layRound_37 hl (by decide) rfl (fun ls hl => ?_)
  exact b6_layRound_b39 x2 x4 t0 (0 : Int32) S V1 V2 C h hG (lv_sub hl [2, 3, 4, 5, 1, 0] rfl)
def w6_layRound (x2 : Int32) (S : MS) (V1 : MS) (V2 : MS) (Q : Int32 → MS → Prop) : Prop :=
  w6_frameAt x2 S (fun r1 => ∀ y3 : Int32, y3 = (r1 >>> ((2 : Int32) &&& 31)) → w5_hasPlace y3 V2 (fun r4 => ((r4 = 0 → w6_layRound_b34 x2 r1 (15 : Int32) S V1 V2 Q) ∧ (¬ r4 = 0 → vp_in y3 24 ∧ w6_layRound_b34 x2 r1 (rA V2 0 y3) S V1 V2 Q))))
set_option maxHeartbeats 4000000 in
set_option maxRecDepth 100000 in
theorem c6_layRound (l : Launch) (D : va_G) (cy : Nat → ClassId)  (o : Nat) (q : Nat → Nat) (o1 : Nat) (q1 : Nat → Nat) (o2 : Nat) (q2 : Nat → Nat) (x2 : Int32) (S : MS) (V1 : MS) (V2 : MS) (Q : Int32 → MS → Prop) (h : w6_layRound x2 S V1 V2 Q) : MetI l yX6_layRound wsX6_layRound ({ frames := 2, cells := 0, slots := 0, locals := 46 } : Room) D cy nestWs (fun z : MS × MS × MS => (w6 o q cy z.1 ++ w1 o1 q1 cy z.2.1 ++ w5 o2 q2 cy z.2.2 : va_W)) [.ref o, .ref o1, .int x2, .ref o2] (S, V1, V2) (fun r z => z.2.1 = V1 ∧ z.2.2 = V2 ∧ Q r z.1) := by
  refine MetI.mk RX6 cX6_layRound 9 .boolean (by decide) rfl nestWs_ok rfl (Nat.le_of_ble_eq_true rfl) ?_
  intro p e s m below meth c A ls C hG hl
  have hl : lv_has ls 9 [(0, .ref o), (1, .ref o1), (2, .int x2), (3, .ref o2)] := hl
  have hx := C.1
  have hb := C.2.1
  unfold w6_layRound at h
  refine lv_aload_n hx hb dX6_layRound_0 rfl (lv_at hl 0 rfl) ?_
  refine lv_iload_n hx hb dX6_layRound_1 rfl (lv_at hl 2 rfl) ?_
  refine callVI (As := [.int x2]) (rest := []) C hG (c6_frameAt l D cy o q x2 S _ h) 1 gX6_layRound_X6_frameAt rfl (by decide +kernel) ⟨⟨Nat.le_of_ble_eq_true rfl, Nat.le_of_ble_eq_true rfl⟩, rfl, rfl⟩ rfl rfl (Foc.pq (rv := fun z : MS => (w6 o q cy z ++ w1 o1 q1 cy V1 ++ w5 o2 q2 cy V2 : va_W)) C.2.2.2.2.2.2.2.2.1 [0, 1, 2] [3, 4, 5, 6, 7, 8, 9, 10, 11] [9, 10, 11, 0, 1, 2, 3, 4, 5, 6, 7, 8] rfl rfl rfl rfl rfl (by decide) rfl (fun _ => rfl) (fun _ => rfl)) rfl hl.1 rfl (Nat.le_of_ble_eq_true rfl) dX6_layRound_2 ⟨Nat.zero_le _, Nat.zero_le _⟩ (fun r1 u2 H locs h hG => ?_)
  obtain ⟨eu2, h⟩ := h
  have eu2 : u2 = S := eu2
  subst u2
  have hG : GW D A s (w6 o q cy S ++ w1 o1 q1 cy V1 ++ w5 o2 q2 cy V2) H locs := hG
  refine lv_istore (lv' := [(4, .int r1), (0, .ref o), (1, .ref o1), (2, .int x2), (3, .ref o2)]) hx hb dX6_layRound_5 hl (by decide) rfl (fun ls hl => ?_)
  refine lv_iload hx hb dX6_layRound_7 (lv_at hl 0 rfl) ?_
  refine lv_iconst (v := 2) hx hb dX6_layRound_9 (by decide) ?_
  refine lv_ishr hx hb dX6_layRound_10 ?_
  refine lv_topi (fun y3 ey3 => ?_)
  replace h := h y3 ey3
  refine lv_istore (lv' := [(5, .int y3), (4, .int r1), (0, .ref o), (1, .ref o1), (2, .int x2), (3, .ref o2)]) hx hb dX6_layRound_11 hl (by decide) rfl (fun ls hl => ?_)
  refine lv_aload_n hx hb dX6_layRound_13 rfl (lv_at hl 5 rfl) ?_
  refine lv_iload hx hb dX6_layRound_14 (lv_at hl 0 rfl) ?_
  refine callVI (As := [.int y3]) (rest := []) C hG (c5_hasPlace l D cy o2 q2 y3 V2 _ h) 1 gX6_layRound_X5_hasPlace rfl (by decide +kernel) ⟨⟨Nat.le_of_ble_eq_true rfl, Nat.le_of_ble_eq_true rfl⟩, rfl, rfl⟩ rfl rfl (Foc.pq (rv := fun z : MS => (w6 o q cy S ++ w1 o1 q1 cy V1 ++ w5 o2 q2 cy z : va_W)) C.2.2.2.2.2.2.2.2.1 [10, 11] [0, 1, 2, 3, 4, 5, 6, 7, 8, 9] [0, 1, 2, 3, 4, 5, 6, 7, 8, 9, 10, 11] rfl rfl rfl rfl rfl (by decide) rfl (fun _ => rfl) (fun _ => rfl)) rfl hl.1 rfl (Nat.le_of_ble_eq_true rfl) dX6_layRound_16 ⟨Nat.zero_le _, Nat.zero_le _⟩ (fun r4 u5 H locs h hG => ?_)
  obtain ⟨eu5, h⟩ := h
  have eu5 : u5 = V2 := eu5
  subst u5
  have hG : GW D A s (w6 o q cy S ++ w1 o1 q1 cy V1 ++ w5 o2 q2 cy V2) H locs := hG
  refine lv_if_eq (tgt := 32) hx hb dX6_layRound_19 (by decide) (fun c6 => ?_) (fun c6 => ?_)
  · replace h := h.1 c6
    refine lv_bipush (v := 15) hx hb dX6_layRound_32 (by decide) ?_
    exact b6_layRound_b34 x2 r1 (15 : Int32) S V1 V2 C h hG (lv_sub hl [2, 3, 4, 1] rfl)
  · replace h := h.2 c6
    refine lv_aload_n hx hb dX6_layRound_22 rfl (lv_at hl 5 rfl) ?_
    refine gx_getN (host := "PaperBodies") C i6_layRound_X5 hG 10 rfl rfl 0 (by decide) (by decide +kernel) rfl dX6_layRound_23 ?_
    refine lv_iload hx hb dX6_layRound_26 (lv_at hl 0 rfl) ?_
    obtain ⟨hv7, h⟩ := h
    refine gx_ald C hG 11 rfl hv7 dX6_layRound_28 ?_
    refine lv_goto (tgt := 34) hx hb dX6_layRound_29 (by decide) ?_
    exact b6_layRound_b34 x2 r1 (rA V2 0 y3) S V1 V2 C h hG (lv_sub hl [2, 3, 4, 1] rfl)
-- X6_layOutFrom
theorem i6_layOutFrom_X6 : ∀ w ∈ wsX60, w ∈ wsX6_layOutFrom := fun w h => List.mem_cons_of_mem _ (inG_X6 w h)
theorem i6_layOutFrom_X1 : ∀ w ∈ wsX10, w ∈ wsX6_layOutFrom := fun w h => List.mem_cons_of_mem _ (inG_X1 w h)
theorem k6_layOutFrom_15 : Cond.fieldLink RX6 15 "PaperBodies$Sheet" "order" "[I" ∈ wsX6_layOutFrom := (List.mem_cons_of_mem _ mw_244)
theorem k6_layOutFrom_54 : Cond.fieldLink RX6 54 "PaperBodies$Sheet" "laid" "I" ∈ wsX6_layOutFrom := (List.mem_cons_of_mem _ mw_249)
def w6_layOutFrom_b75 (t0 : Int32) (S : MS) (V1 : MS) (V2 : MS) (Q : Int32 → MS → Prop) : Prop :=
  narrow .boolean (.int t0) = .int t0 ∧ Q t0 S
set_option maxHeartbeats 4000000 in
set_option maxRecDepth 100000 in
theorem b6_layOutFrom_b75 {p : Program} {l : Launch} {e : Env} {s : State} {m : MethodId} {args : Array Value} {below : List Frame} {meth : Method} {c : Code} {D : va_G} {cy : Nat → ClassId} {A : Nat → Prop} {o : Nat} {q : Nat → Nat} {o1 : Nat} {q1 : Nat → Nat} {o2 : Nat} {q2 : Nat → Nat} (t0 : Int32) (S : MS) (V1 : MS) (V2 : MS) {Q : Int32 → MS → Prop} (C : Cx p s m args meth c cX6_layOutFrom 6 (some .boolean) wsX6_layOutFrom RX6 D cy nestWs A) (h : w6_layOutFrom_b75 t0 S V1 V2 Q) {H : Heap} {locs : List Loc} (hG : GW D A s (w6 o q cy S ++ w1 o1 q1 cy V1 ++ w5 o2 q2 cy V2) H locs) {ls : Array Slot} (hl : lv_has ls 6 [(0, .ref o)]) : W p l e ({ frames := 3, cells := 0, slots := 0, locals := 74 } : Room) s m args below meth c H locs 0 0 (MQ below (va_Qi (fun r z => z.2.1 = V1 ∧ z.2.2 = V2 ∧ Q r z.1) (B1 D (fun z : MS × MS × MS => (w6 o q cy z.1 ++ w1 o1 q1 cy z.2.1 ++ w5 o2 q2 cy z.2.2 : va_W)) A) A) args s 0 0 A) (F0 m 75 ls [.int t0]) := by
  have hx := C.1
  have hb := C.2.1
  unfold w6_layOutFrom_b75 at h
  exact retZ (w := (fun z : MS × MS × MS => (w6 o q cy z.1 ++ w1 o1 q1 cy z.2.1 ++ w5 o2 q2 cy z.2.2 : va_W))) (S := (S, V1, V2)) (Qp := (fun r z => z.2.1 = V1 ∧ z.2.2 = V2 ∧ Q r z.1)) C hG ⟨h.1, ⟨rfl, rfl, h.2⟩⟩ dX6_layOutFrom_75
def w6_layOutFrom_b59 (S : MS) (V1 : MS) (V2 : MS) (Q : Int32 → MS → Prop) : Prop :=
  ((¬ (fI S 2) = (fI V1 6) → w6_layOutFrom_b75 (0 : Int32) S V1 V2 Q) ∧ ((fI S 2) = (fI V1 6) → w6_layOutFrom_b75 (1 : Int32) S V1 V2 Q))
set_option maxHeartbeats 4000000 in
set_option maxRecDepth 100000 in
theorem b6_layOutFrom_b59 {p : Program} {l : Launch} {e : Env} {s : State} {m : MethodId} {args : Array Value} {below : List Frame} {meth : Method} {c : Code} {D : va_G} {cy : Nat → ClassId} {A : Nat → Prop} {o : Nat} {q : Nat → Nat} {o1 : Nat} {q1 : Nat → Nat} {o2 : Nat} {q2 : Nat → Nat} (S : MS) (V1 : MS) (V2 : MS) {Q : Int32 → MS → Prop} (C : Cx p s m args meth c cX6_layOutFrom 6 (some .boolean) wsX6_layOutFrom RX6 D cy nestWs A) (h : w6_layOutFrom_b59 S V1 V2 Q) {H : Heap} {locs : List Loc} (hG : GW D A s (w6 o q cy S ++ w1 o1 q1 cy V1 ++ w5 o2 q2 cy V2) H locs) {ls : Array Slot} (hl : lv_has ls 6 [(0, .ref o), (1, .ref o1)]) : W p l e ({ frames := 3, cells := 0, slots := 0, locals := 74 } : Room) s m args below meth c H locs 0 0 (MQ below (va_Qi (fun r z => z.2.1 = V1 ∧ z.2.2 = V2 ∧ Q r z.1) (B1 D (fun z : MS × MS × MS => (w6 o q cy z.1 ++ w1 o1 q1 cy z.2.1 ++ w5 o2 q2 cy z.2.2 : va_W)) A) A) args s 0 0 A) (F0 m 59 ls []) := by
  have hx := C.1
  have hb := C.2.1
  unfold w6_layOutFrom_b59 at h
  refine lv_aload_n hx hb dX6_layOutFrom_59 rfl (lv_at hl 0 rfl) ?_
  refine gx_get C i6_layOutFrom_X6 hG 0 rfl rfl 2 (by decide) k6_layOutFrom_54 rfl dX6_layOutFrom_60 ?_
  refine lv_aload_n hx hb dX6_layOutFrom_63 rfl (lv_at hl 1 rfl) ?_
  refine gx_getN (host := "PaperBodies") C i6_layOutFrom_X1 hG 3 rfl rfl 6 (by decide) (by decide +kernel) rfl dX6_layOutFrom_64 ?_
  refine lv_icmp_ne (tgt := 74) hx hb dX6_layOutFrom_67 (by decide) (fun c1 => ?_) (fun c1 => ?_)
  · replace h := h.1 c1
    refine lv_iconst (v := 0) hx hb dX6_layOutFrom_74 (by decide) ?_
    exact b6_layOutFrom_b75 (0 : Int32) S V1 V2 C h hG (lv_sub hl [0] rfl)
  · replace h := h.2 c1
    refine lv_iconst (v := 1) hx hb dX6_layOutFrom_70 (by decide) ?_
    refine lv_goto (tgt := 75) hx hb dX6_layOutFrom_71 (by decide) ?_
    exact b6_layOutFrom_b75 (1 : Int32) S V1 V2 C h hG (lv_sub hl [0] rfl)
def w6_layOutFrom_d18 (K18 : Int32 → MS → Prop) (x5 : Int32) (S : MS) (V1 : MS) (V2 : MS) (Q : Int32 → MS → Prop) : Prop :=
  (((24 : Int32) ≤ x5 → w6_layOutFrom_b59 S V1 V2 Q) ∧ (¬ (24 : Int32) ≤ x5 → (((fI S 2) ≤ x5 → w6_layOutFrom_b59 S V1 V2 Q) ∧ (¬ (fI S 2) ≤ x5 → vp_in x5 24 ∧ w6_layRound (rA S 1 x5) S V1 V2 (fun r4 S5 => ((¬ r4 = 0 → ∀ y9 : Int32, y9 = x5 + 1 → K18 y9 S5) ∧ (r4 = 0 → Q (0 : Int32) S5)))))))
set_option maxHeartbeats 4000000 in
set_option maxRecDepth 100000 in
theorem b6_layOutFrom_d18 {p : Program} {l : Launch} {e : Env} {s : State} {m : MethodId} {args : Array Value} {below : List Frame} {meth : Method} {c : Code} {D : va_G} {cy : Nat → ClassId} {A : Nat → Prop} {o : Nat} {q : Nat → Nat} {o1 : Nat} {q1 : Nat → Nat} {o2 : Nat} {q2 : Nat → Nat} {K18 : Int32 → MS → Prop} (x5 : Int32) (S : MS) (V1 : MS) (V2 : MS) {Q : Int32 → MS → Prop} (C : Cx p s m args meth c cX6_layOutFrom 6 (some .boolean) wsX6_layOutFrom RX6 D cy nestWs A) (hK18 : ∀ (x5 : Int32) (S : MS) (H : Heap) (locs : List Loc) (ls : Array Slot), K18 x5 S → GW D A s (w6 o q cy S ++ w1 o1 q1 cy V1 ++ w5 o2 q2 cy V2) H locs → lv_has ls 6 [(0, .ref o), (1, .ref o1), (4, .ref o2), (5, .int x5)] → W p l e ({ frames := 3, cells := 0, slots := 0, locals := 74 } : Room) s m args below meth c H locs 0 0 (MQ below (va_Qi (fun r z => z.2.1 = V1 ∧ z.2.2 = V2 ∧ Q r z.1) (B1 D (fun z : MS × MS × MS => (w6 o q cy z.1 ++ w1 o1 q1 cy z.2.1 ++ w5 o2 q2 cy z.2.2 : va_W)) A) A) args s 0 0 A) (F0 m 18 ls [])) (h : w6_layOutFrom_d18 K18 x5 S V1 V2 Q) {H : Heap} {locs : List Loc} (hG : GW D A s (w6 o q cy S ++ w1 o1 q1 cy V1 ++ w5 o2 q2 cy V2) H locs) {ls : Array Slot} (hl : lv_has ls 6 [(0, .ref o), (1, .ref o1), (4, .ref o2), (5, .int x5)]) : W p l e ({ frames := 3, cells := 0, slots := 0, locals := 74 } : Room) s m args below meth c H locs 0 0 (MQ below (va_Qi (fun r z => z.2.1 = V1 ∧ z.2.2 = V2 ∧ Q r z.1) (B1 D (fun z : MS × MS × MS => (w6 o q cy z.1 ++ w1 o1 q1 cy z.2.1 ++ w5 o2 q2 cy z.2.2 : va_W)) A) A) args s 0 0 A) (F0 m 18 ls []) := by
  have hx := C.1
  have hb := C.2.1
  unfold w6_layOutFrom_d18 at h
  refine lv_iload hx hb dX6_layOutFrom_18 (lv_at hl 3 rfl) ?_
  refine lv_bipush (v := 24) hx hb dX6_layOutFrom_20 (by decide) ?_
  refine lv_icmp_ge (tgt := 59) hx hb dX6_layOutFrom_22 (by decide) (fun c1 => ?_) (fun c1 => ?_)
  · replace h := h.1 c1
    exact b6_layOutFrom_b59 S V1 V2 C h hG (lv_sub hl [0, 1] rfl)
  · replace h := h.2 c1
    refine lv_iload hx hb dX6_layOutFrom_25 (lv_at hl 3 rfl) ?_
    refine lv_aload_n hx hb dX6_layOutFrom_27 rfl (lv_at hl 0 rfl) ?_
    refine gx_get C i6_layOutFrom_X6 hG 0 rfl rfl 2 (by decide) k6_layOutFrom_54 rfl dX6_layOutFrom_28 ?_
    refine lv_icmp_ge (tgt := 59) hx hb dX6_layOutFrom_31 (by decide) (fun c2 => ?_) (fun c2 => ?_)
    · replace h := h.1 c2
      exact b6_layOutFrom_b59 S V1 V2 C h hG (lv_sub hl [0, 1] rfl)
    · replace h := h.2 c2
      refine lv_aload_n hx hb dX6_layOutFrom_34 rfl (lv_at hl 0 rfl) ?_
      refine lv_aload_n hx hb dX6_layOutFrom_35 rfl (lv_at hl 1 rfl) ?_
      refine lv_aload_n hx hb dX6_layOutFrom_36 rfl (lv_at hl 0 rfl) ?_
      refine gx_get C i6_layOutFrom_X6 hG 0 rfl rfl 1 (by decide) k6_layOutFrom_15 rfl dX6_layOutFrom_37 ?_
      refine lv_iload hx hb dX6_layOutFrom_40 (lv_at hl 3 rfl) ?_
      obtain ⟨hv3, h⟩ := h
      refine gx_ald C hG 2 rfl hv3 dX6_layOutFrom_42 ?_
      refine lv_aload hx hb dX6_layOutFrom_43 (lv_at hl 2 rfl) ?_
      refine callVI (As := [.ref o1, .int (rA S 1 x5), .ref o2]) (rest := []) C hG (c6_layRound l D cy o q o1 q1 o2 q2 (rA S 1 x5) S V1 V2 _ h) 3 gX6_layOutFrom_X6_layRound rfl (by decide +kernel) ⟨⟨Nat.le_of_ble_eq_true rfl, Nat.le_of_ble_eq_true rfl⟩, rfl, rfl⟩ rfl rfl (Foc.all (w' := (fun z : MS × MS × MS => (w6 o q cy z.1 ++ w1 o1 q1 cy z.2.1 ++ w5 o2 q2 cy z.2.2 : va_W))) (S' := (S, V1, V2)) C.2.2.2.2.2.2.2.2.1) rfl hl.1 rfl (Nat.le_of_ble_eq_true rfl) dX6_layOutFrom_45 ⟨Nat.zero_le _, Nat.zero_le _⟩ (fun r4 z H locs h hG => ?_)
      obtain ⟨S5, u6, u7⟩ := z
      obtain ⟨eu6, h⟩ := h
      have eu6 : u6 = V1 := eu6
      obtain ⟨eu7, h⟩ := h
      have eu7 : u7 = V2 := eu7
      replace h := h
      subst u6
      subst u7
      have hG : GW D A s (w6 o q cy S5 ++ w1 o1 q1 cy V1 ++ w5 o2 q2 cy V2) H locs := hG
      refine lv_if_ne (tgt := 53) hx hb dX6_layOutFrom_48 (by decide) (fun c8 => ?_) (fun c8 => ?_)
      · replace h := h.1 c8
        obtain ⟨y9, ey9⟩ : ∃ y : Int32, y = x5 + 1 := ⟨_, rfl⟩
        replace h := h y9 ey9
        refine lv_iinc (v := y9) (lv' := [(5, .int y9), (0, .ref o), (1, .ref o1), (4, .ref o2)]) hx hb dX6_layOutFrom_53 hl (k := 3) rfl (by rw [ey9]; rfl) (by decide) rfl (fun ls hl => ?_)
        refine lv_goto (tgt := 18) hx hb dX6_layOutFrom_56 (by decide) ?_
        exact hK18 y9 S5 _ _ _ h hG (lv_sub hl [1, 2, 3, 0] rfl)
      · replace h := h.2 c8
        refine lv_iconst (v := 0) hx hb dX6_layOutFrom_51 (by decide) ?_
        exact retZ (w := (fun z : MS × MS × MS => (w6 o q cy z.1 ++ w1 o1 q1 cy z.2.1 ++ w5 o2 q2 cy z.2.2 : va_W))) (S := (S5, V1, V2)) (Qp := (fun r z => z.2.1 = V1 ∧ z.2.2 = V2 ∧ Q r z.1)) C hG ⟨rfl, ⟨rfl, rfl, h⟩⟩ dX6_layOutFrom_52
def w6_layOutFrom_F18 (V1 : MS) (V2 : MS) (Q : Int32 → MS → Prop) (K : Int32 × MS → Prop) (a : Int32 × MS) : Prop := w6_layOutFrom_d18 (fun y0 y1 => K (y0, y1)) a.1 a.2 V1 V2 Q
def w6_layOutFrom_b18 (x5 : Int32) (S : MS) (V1 : MS) (V2 : MS) (Q : Int32 → MS → Prop) : Prop := lp (w6_layOutFrom_F18 V1 V2 Q) (x5, S)
set_option maxHeartbeats 4000000 in
set_option maxRecDepth 100000 in
theorem b6_layOutFrom_b18 {p : Program} {l : Launch} {e : Env} {s : State} {m : MethodId} {args : Array Value} {below : List Frame} {meth : Method} {c : Code} {D : va_G} {cy : Nat → ClassId} {A : Nat → Prop} {o : Nat} {q : Nat → Nat} {o1 : Nat} {q1 : Nat → Nat} {o2 : Nat} {q2 : Nat → Nat} (x5 : Int32) (S : MS) (V1 : MS) (V2 : MS) {Q : Int32 → MS → Prop} (C : Cx p s m args meth c cX6_layOutFrom 6 (some .boolean) wsX6_layOutFrom RX6 D cy nestWs A) (h : w6_layOutFrom_b18 x5 S V1 V2 Q) {H : Heap} {locs : List Loc} (hG : GW D A s (w6 o q cy S ++ w1 o1 q1 cy V1 ++ w5 o2 q2 cy V2) H locs) {ls : Array Slot} (hl : lv_has ls 6 [(0, .ref o), (1, .ref o1), (4, .ref o2), (5, .int x5)]) : W p l e ({ frames := 3, cells := 0, slots := 0, locals := 74 } : Room) s m args below meth c H locs 0 0 (MQ below (va_Qi (fun r z => z.2.1 = V1 ∧ z.2.2 = V2 ∧ Q r z.1) (B1 D (fun z : MS × MS × MS => (w6 o q cy z.1 ++ w1 o1 q1 cy z.2.1 ++ w5 o2 q2 cy z.2.2 : va_W)) A) A) args s 0 0 A) (F0 m 18 ls []) := by
  obtain ⟨k, hn⟩ := h
  induction k generalizing x5 S H locs ls with
  | zero => exact hn.elim
  | succ k ih => exact b6_layOutFrom_d18 (K18 := fun y0 y1 => itr (w6_layOutFrom_F18 V1 V2 Q) k (y0, y1)) x5 S V1 V2 C (fun x5 S H locs ls hk hG hl => ih x5 S hG hl hk) hn hG hl
def w6_layOutFrom (x2 : Int32) (x3 : Int32) (S : MS) (V1 : MS) (V2 : MS) (Q : Int32 → MS → Prop) : Prop :=
  w6_clear S (fun S1 => w6_put x3 x2 S1 (fun r2 S3 => ((¬ r2 = 0 → w6_layOutFrom_b18 (0 : Int32) S3 V1 V2 Q) ∧ (r2 = 0 → Q (0 : Int32) S3))))
set_option maxHeartbeats 4000000 in
set_option maxRecDepth 100000 in
theorem c6_layOutFrom (l : Launch) (D : va_G) (cy : Nat → ClassId)  (o : Nat) (q : Nat → Nat) (o1 : Nat) (q1 : Nat → Nat) (o2 : Nat) (q2 : Nat → Nat) (x2 : Int32) (x3 : Int32) (S : MS) (V1 : MS) (V2 : MS) (Q : Int32 → MS → Prop) (h : w6_layOutFrom x2 x3 S V1 V2 Q) : MetI l yX6_layOutFrom wsX6_layOutFrom ({ frames := 3, cells := 0, slots := 0, locals := 74 } : Room) D cy nestWs (fun z : MS × MS × MS => (w6 o q cy z.1 ++ w1 o1 q1 cy z.2.1 ++ w5 o2 q2 cy z.2.2 : va_W)) [.ref o, .ref o1, .int x2, .int x3, .ref o2] (S, V1, V2) (fun r z => z.2.1 = V1 ∧ z.2.2 = V2 ∧ Q r z.1) := by
  refine MetI.mk RX6 cX6_layOutFrom 6 .boolean (by decide) rfl nestWs_ok rfl (Nat.le_of_ble_eq_true rfl) ?_
  intro p e s m below meth c A ls C hG hl
  have hl : lv_has ls 6 [(0, .ref o), (1, .ref o1), (2, .int x2), (3, .int x3), (4, .ref o2)] := hl
  have hx := C.1
  have hb := C.2.1
  unfold w6_layOutFrom at h
  refine lv_aload_n hx hb dX6_layOutFrom_0 rfl (lv_at hl 0 rfl) ?_
  refine callVV (As := []) (rest := []) C hG (c6_clear l D cy o q S _ h) 0 gX6_layOutFrom_X6_clear rfl (by decide +kernel) ⟨⟨Nat.le_of_ble_eq_true rfl, Nat.le_of_ble_eq_true rfl⟩, rfl, rfl⟩ rfl rfl (Foc.pq (rv := fun z : MS => (w6 o q cy z ++ w1 o1 q1 cy V1 ++ w5 o2 q2 cy V2 : va_W)) C.2.2.2.2.2.2.2.2.1 [0, 1, 2] [3, 4, 5, 6, 7, 8, 9, 10, 11] [9, 10, 11, 0, 1, 2, 3, 4, 5, 6, 7, 8] rfl rfl rfl rfl rfl (by decide) rfl (fun _ => rfl) (fun _ => rfl)) rfl hl.1 rfl (Nat.le_of_ble_eq_true rfl) dX6_layOutFrom_1 ⟨Nat.zero_le _, Nat.zero_le _⟩ (fun  S1 H locs h hG => ?_)
  have hG : GW D A s (w6 o q cy S1 ++ w1 o1 q1 cy V1 ++ w5 o2 q2 cy V2) H locs := hG
  refine lv_aload_n hx hb dX6_layOutFrom_4 rfl (lv_at hl 0 rfl) ?_
  refine lv_iload_n hx hb dX6_layOutFrom_5 rfl (lv_at hl 3 rfl) ?_
  refine lv_iload_n hx hb dX6_layOutFrom_6 rfl (lv_at hl 2 rfl) ?_
  refine callVI (As := [.int x3, .int x2]) (rest := []) C hG (c6_put l D cy o q x3 x2 S1 _ h) 2 gX6_layOutFrom_X6_put rfl (by decide +kernel) ⟨⟨Nat.le_of_ble_eq_true rfl, Nat.le_of_ble_eq_true rfl⟩, rfl, rfl⟩ rfl rfl (Foc.pq (rv := fun z : MS => (w6 o q cy z ++ w1 o1 q1 cy V1 ++ w5 o2 q2 cy V2 : va_W)) C.2.2.2.2.2.2.2.2.1 [0, 1, 2] [3, 4, 5, 6, 7, 8, 9, 10, 11] [9, 10, 11, 0, 1, 2, 3, 4, 5, 6, 7, 8] rfl rfl rfl rfl rfl (by decide) rfl (fun _ => rfl) (fun _ => rfl)) rfl hl.1 rfl (Nat.le_of_ble_eq_true rfl) dX6_layOutFrom_7 ⟨Nat.zero_le _, Nat.zero_le _⟩ (fun r2 S3 H locs h hG => ?_)
  have hG : GW D A s (w6 o q cy S3 ++ w1 o1 q1 cy V1 ++ w5 o2 q2 cy V2) H locs := hG
  refine lv_if_ne (tgt := 15) hx hb dX6_layOutFrom_10 (by decide) (fun c4 => ?_) (fun c4 => ?_)
  · replace h := h.1 c4
    refine lv_iconst (v := 0) hx hb dX6_layOutFrom_15 (by decide) ?_
    refine lv_istore (lv' := [(5, .int (0 : Int32)), (0, .ref o), (1, .ref o1), (2, .int x2), (3, .int x3), (4, .ref o2)]) hx hb dX6_layOutFrom_16 hl (by decide) rfl (fun ls hl => ?_)
    exact b6_layOutFrom_b18 (0 : Int32) S3 V1 V2 C h hG (lv_sub hl [1, 2, 5, 0] rfl)
  · replace h := h.2 c4
    refine lv_iconst (v := 0) hx hb dX6_layOutFrom_13 (by decide) ?_
    exact retZ (w := (fun z : MS × MS × MS => (w6 o q cy z.1 ++ w1 o1 q1 cy z.2.1 ++ w5 o2 q2 cy z.2.2 : va_W))) (S := (S3, V1, V2)) (Qp := (fun r z => z.2.1 = V1 ∧ z.2.2 = V2 ∧ Q r z.1)) C hG ⟨rfl, ⟨rfl, rfl, h⟩⟩ dX6_layOutFrom_14
-- X7_lengthTo
theorem k7_lengthTo_33 : Cond.constant RX7 33 (1073741824) ∈ wsX7_lengthTo := (List.mem_cons_of_mem _ mw_294)
def w7_lengthTo_d28 (K28 : Int32 → Int32 → Prop) (x2 : Int32) (x4 : Int32) (x5 : Int32) (x6 : Int32) (V1 : MS) (V2 : (Nat → Int32)) (Q : Int32 → Prop) : Prop :=
  (((3 : Int32) ≤ x6 → Q x4) ∧ (¬ (3 : Int32) ≤ x6 → vp_in (x5 + x6) 18 ∧ w1_middleOf x2 x6 V1 (fun r3 => ∀ y5 : Int32, y5 = ((V2 (x5 + x6).toNatClampNeg) - r3) → ∀ y6 : Int32, y6 = (x4 + (y5 * y5)) → ∀ y7 : Int32, y7 = x6 + 1 → K28 y6 y7)))
set_option maxHeartbeats 4000000 in
set_option maxRecDepth 100000 in
theorem b7_lengthTo_d28 {p : Program} {l : Launch} {e : Env} {s : State} {m : MethodId} {args : Array Value} {below : List Frame} {meth : Method} {c : Code} {D : va_G} {cy : Nat → ClassId} {A : Nat → Prop} {o1 : Nat} {q1 : Nat → Nat} {o2 : Nat} {K28 : Int32 → Int32 → Prop} (x2 : Int32) (x4 : Int32) (x5 : Int32) (x6 : Int32) (V1 : MS) (V2 : (Nat → Int32)) {Q : Int32 → Prop} (C : Cx p s m args meth c cX7_lengthTo 8 (some .int) wsX7_lengthTo RX7 D cy nestWs A) (hK28 : ∀ (x4 : Int32) (x6 : Int32) (H : Heap) (locs : List Loc) (ls : Array Slot), K28 x4 x6 → GW D A s (w1 o1 q1 cy V1 ++ [(o2, .inl (cy 0, 18, .inl V2))]) H locs → lv_has ls 8 [(0, .ref o1), (1, .ref o2), (2, .int x2), (4, .int x4), (5, .int x5), (6, .int x6)] → W p l e ({ frames := 2, cells := 0, slots := 0, locals := 44 } : Room) s m args below meth c H locs 0 0 (MQ below (va_Qi (fun r z => z.1 = V1 ∧ z.2 = V2 ∧ Q r ) (B1 D (fun z : MS × (Nat → Int32) => (w1 o1 q1 cy z.1 ++ [(o2, .inl (cy 0, 18, .inl z.2))] : va_W)) A) A) args s 0 0 A) (F0 m 28 ls [])) (h : w7_lengthTo_d28 K28 x2 x4 x5 x6 V1 V2 Q) {H : Heap} {locs : List Loc} (hG : GW D A s (w1 o1 q1 cy V1 ++ [(o2, .inl (cy 0, 18, .inl V2))]) H locs) {ls : Array Slot} (hl : lv_has ls 8 [(0, .ref o1), (1, .ref o2), (2, .int x2), (4, .int x4), (5, .int x5), (6, .int x6)]) : W p l e ({ frames := 2, cells := 0, slots := 0, locals := 44 } : Room) s m args below meth c H locs 0 0 (MQ below (va_Qi (fun r z => z.1 = V1 ∧ z.2 = V2 ∧ Q r ) (B1 D (fun z : MS × (Nat → Int32) => (w1 o1 q1 cy z.1 ++ [(o2, .inl (cy 0, 18, .inl z.2))] : va_W)) A) A) args s 0 0 A) (F0 m 28 ls []) := by
  have hx := C.1
  have hb := C.2.1
  unfold w7_lengthTo_d28 at h
  refine lv_iload hx hb dX7_lengthTo_28 (lv_at hl 5 rfl) ?_
  refine lv_iconst (v := 3) hx hb dX7_lengthTo_30 (by decide) ?_
  refine lv_icmp_ge (tgt := 67) hx hb dX7_lengthTo_31 (by decide) (fun c1 => ?_) (fun c1 => ?_)
  · replace h := h.1 c1
    refine lv_iload hx hb dX7_lengthTo_67 (lv_at hl 3 rfl) ?_
    exact retI (w := (fun z : MS × (Nat → Int32) => (w1 o1 q1 cy z.1 ++ [(o2, .inl (cy 0, 18, .inl z.2))] : va_W))) (S := (V1, V2)) (Qp := (fun r z => z.1 = V1 ∧ z.2 = V2 ∧ Q r )) C hG ⟨rfl, rfl, h⟩ dX7_lengthTo_69
  · replace h := h.2 c1
    refine lv_aload_n hx hb dX7_lengthTo_34 rfl (lv_at hl 1 rfl) ?_
    refine lv_iload hx hb dX7_lengthTo_35 (lv_at hl 4 rfl) ?_
    refine lv_iload hx hb dX7_lengthTo_37 (lv_at hl 5 rfl) ?_
    refine lv_iadd hx hb dX7_lengthTo_39 ?_
    obtain ⟨hv2, h⟩ := h
    refine gx_ald C hG 7 rfl hv2 dX7_lengthTo_40 ?_
    refine lv_aload_n hx hb dX7_lengthTo_41 rfl (lv_at hl 0 rfl) ?_
    refine lv_iload_n hx hb dX7_lengthTo_42 rfl (lv_at hl 2 rfl) ?_
    refine lv_iload hx hb dX7_lengthTo_43 (lv_at hl 5 rfl) ?_
    refine callVI (As := [.int x2, .int x6]) (rest := [.int (V2 (x5 + x6).toNatClampNeg)]) C hG (c1_middleOf l D cy o1 q1 x2 x6 V1 _ h) 2 gX7_lengthTo_X1_middleOf rfl (by decide +kernel) ⟨⟨Nat.le_of_ble_eq_true rfl, Nat.le_of_ble_eq_true rfl⟩, rfl, rfl⟩ rfl rfl (Foc.pq (rv := fun z : MS => (w1 o1 q1 cy z ++ [(o2, .inl (cy 0, 18, .inl V2))] : va_W)) C.2.2.2.2.2.2.2.2.1 [0, 1, 2, 3, 4, 5, 6] [7] [1, 2, 3, 4, 5, 6, 7, 0] rfl rfl rfl rfl rfl (by decide) rfl (fun _ => rfl) (fun _ => rfl)) rfl hl.1 rfl (Nat.le_of_ble_eq_true rfl) dX7_lengthTo_45 ⟨Nat.zero_le _, Nat.zero_le _⟩ (fun r3 u4 H locs h hG => ?_)
    obtain ⟨eu4, h⟩ := h
    have eu4 : u4 = V1 := eu4
    subst u4
    have hG : GW D A s (w1 o1 q1 cy V1 ++ [(o2, .inl (cy 0, 18, .inl V2))]) H locs := hG
    refine lv_isub hx hb dX7_lengthTo_48 ?_
    refine lv_topi (fun y5 ey5 => ?_)
    replace h := h y5 ey5
    refine lv_istore (lv' := [(7, .int y5), (0, .ref o1), (1, .ref o2), (2, .int x2), (4, .int x4), (5, .int x5), (6, .int x6)]) hx hb dX7_lengthTo_49 hl (by decide) rfl (fun ls hl => ?_)
    refine lv_iload hx hb dX7_lengthTo_51 (lv_at hl 4 rfl) ?_
    refine lv_iload hx hb dX7_lengthTo_53 (lv_at hl 0 rfl) ?_
    refine lv_iload hx hb dX7_lengthTo_55 (lv_at hl 0 rfl) ?_
    refine lv_imul hx hb dX7_lengthTo_57 ?_
    refine lv_iadd hx hb dX7_lengthTo_58 ?_
    refine lv_topi (fun y6 ey6 => ?_)
    replace h := h y6 ey6
    refine lv_istore (lv' := [(4, .int y6), (7, .int y5), (0, .ref o1), (1, .ref o2), (2, .int x2), (5, .int x5), (6, .int x6)]) hx hb dX7_lengthTo_59 hl (by decide) rfl (fun ls hl => ?_)
    obtain ⟨y7, ey7⟩ : ∃ y : Int32, y = x6 + 1 := ⟨_, rfl⟩
    replace h := h y7 ey7
    refine lv_iinc (v := y7) (lv' := [(6, .int y7), (4, .int y6), (7, .int y5), (0, .ref o1), (1, .ref o2), (2, .int x2), (5, .int x5)]) hx hb dX7_lengthTo_61 hl (k := 6) rfl (by rw [ey7]; rfl) (by decide) rfl (fun ls hl => ?_)
    refine lv_goto (tgt := 28) hx hb dX7_lengthTo_64 (by decide) ?_
    exact hK28 y6 y7 _ _ _ h hG (lv_sub hl [3, 4, 5, 1, 6, 0] rfl)
def w7_lengthTo_F28 (x2 : Int32) (x5 : Int32) (V1 : MS) (V2 : (Nat → Int32)) (Q : Int32 → Prop) (K : Int32 × Int32 → Prop) (a : Int32 × Int32) : Prop := w7_lengthTo_d28 (fun y0 y1 => K (y0, y1)) x2 a.1 x5 a.2 V1 V2 Q
def w7_lengthTo_b28 (x2 : Int32) (x4 : Int32) (x5 : Int32) (x6 : Int32) (V1 : MS) (V2 : (Nat → Int32)) (Q : Int32 → Prop) : Prop := lp (w7_lengthTo_F28 x2 x5 V1 V2 Q) (x4, x6)
set_option maxHeartbeats 4000000 in
set_option maxRecDepth 100000 in
theorem b7_lengthTo_b28 {p : Program} {l : Launch} {e : Env} {s : State} {m : MethodId} {args : Array Value} {below : List Frame} {meth : Method} {c : Code} {D : va_G} {cy : Nat → ClassId} {A : Nat → Prop} {o1 : Nat} {q1 : Nat → Nat} {o2 : Nat} (x2 : Int32) (x4 : Int32) (x5 : Int32) (x6 : Int32) (V1 : MS) (V2 : (Nat → Int32)) {Q : Int32 → Prop} (C : Cx p s m args meth c cX7_lengthTo 8 (some .int) wsX7_lengthTo RX7 D cy nestWs A) (h : w7_lengthTo_b28 x2 x4 x5 x6 V1 V2 Q) {H : Heap} {locs : List Loc} (hG : GW D A s (w1 o1 q1 cy V1 ++ [(o2, .inl (cy 0, 18, .inl V2))]) H locs) {ls : Array Slot} (hl : lv_has ls 8 [(0, .ref o1), (1, .ref o2), (2, .int x2), (4, .int x4), (5, .int x5), (6, .int x6)]) : W p l e ({ frames := 2, cells := 0, slots := 0, locals := 44 } : Room) s m args below meth c H locs 0 0 (MQ below (va_Qi (fun r z => z.1 = V1 ∧ z.2 = V2 ∧ Q r ) (B1 D (fun z : MS × (Nat → Int32) => (w1 o1 q1 cy z.1 ++ [(o2, .inl (cy 0, 18, .inl z.2))] : va_W)) A) A) args s 0 0 A) (F0 m 28 ls []) := by
  obtain ⟨k, hn⟩ := h
  induction k generalizing x4 x6 H locs ls with
  | zero => exact hn.elim
  | succ k ih => exact b7_lengthTo_d28 (K28 := fun y0 y1 => itr (w7_lengthTo_F28 x2 x5 V1 V2 Q) k (y0, y1)) x2 x4 x5 x6 V1 V2 C (fun x4 x6 H locs ls hk hG hl => ih x4 x6 hG hl hk) hn hG hl
def w7_lengthTo_b22 (V1 : MS) (V2 : (Nat → Int32)) (Q : Int32 → Prop) : Prop :=
  Q (1073741824 : Int32)
set_option maxHeartbeats 4000000 in
set_option maxRecDepth 100000 in
theorem b7_lengthTo_b22 {p : Program} {l : Launch} {e : Env} {s : State} {m : MethodId} {args : Array Value} {below : List Frame} {meth : Method} {c : Code} {D : va_G} {cy : Nat → ClassId} {A : Nat → Prop} {o1 : Nat} {q1 : Nat → Nat} {o2 : Nat} (V1 : MS) (V2 : (Nat → Int32)) {Q : Int32 → Prop} (C : Cx p s m args meth c cX7_lengthTo 8 (some .int) wsX7_lengthTo RX7 D cy nestWs A) (h : w7_lengthTo_b22 V1 V2 Q) {H : Heap} {locs : List Loc} (hG : GW D A s (w1 o1 q1 cy V1 ++ [(o2, .inl (cy 0, 18, .inl V2))]) H locs) {ls : Array Slot} (hl : lv_has ls 8 [(0, .ref o1)]) : W p l e ({ frames := 2, cells := 0, slots := 0, locals := 44 } : Room) s m args below meth c H locs 0 0 (MQ below (va_Qi (fun r z => z.1 = V1 ∧ z.2 = V2 ∧ Q r ) (B1 D (fun z : MS × (Nat → Int32) => (w1 o1 q1 cy z.1 ++ [(o2, .inl (cy 0, 18, .inl z.2))] : va_W)) A) A) args s 0 0 A) (F0 m 22 ls []) := by
  have hx := C.1
  have hb := C.2.1
  unfold w7_lengthTo_b22 at h
  refine lv_ldc (v := 1073741824) hx hb C.2.2.2.1 (C.2.2.2.2.1 _ k7_lengthTo_33) dX7_lengthTo_22 ?_
  exact retI (w := (fun z : MS × (Nat → Int32) => (w1 o1 q1 cy z.1 ++ [(o2, .inl (cy 0, 18, .inl z.2))] : va_W))) (S := (V1, V2)) (Qp := (fun r z => z.1 = V1 ∧ z.2 = V2 ∧ Q r )) C hG ⟨rfl, rfl, h⟩ dX7_lengthTo_24
def w7_lengthTo (x2 : Int32) (x3 : Int32) (V1 : MS) (V2 : (Nat → Int32)) (Q : Int32 → Prop) : Prop :=
  ∀ y1 : Int32, y1 = ((3 : Int32) * x3) → ((y1 < 0 → w7_lengthTo_b22 V1 V2 Q) ∧ (¬ y1 < 0 → (((y1 + (3 : Int32)) ≤ (nI 18) → w7_lengthTo_b28 x2 (0 : Int32) y1 (0 : Int32) V1 V2 Q) ∧ (¬ (y1 + (3 : Int32)) ≤ (nI 18) → w7_lengthTo_b22 V1 V2 Q))))
set_option maxHeartbeats 4000000 in
set_option maxRecDepth 100000 in
theorem c7_lengthTo (l : Launch) (D : va_G) (cy : Nat → ClassId)  (o1 : Nat) (q1 : Nat → Nat) (o2 : Nat) (x2 : Int32) (x3 : Int32) (V1 : MS) (V2 : (Nat → Int32)) (Q : Int32 → Prop) (h : w7_lengthTo x2 x3 V1 V2 Q) : MetI l yX7_lengthTo wsX7_lengthTo ({ frames := 2, cells := 0, slots := 0, locals := 44 } : Room) D cy nestWs (fun z : MS × (Nat → Int32) => (w1 o1 q1 cy z.1 ++ [(o2, .inl (cy 0, 18, .inl z.2))] : va_W)) [.ref o1, .ref o2, .int x2, .int x3] (V1, V2) (fun r z => z.1 = V1 ∧ z.2 = V2 ∧ Q r ) := by
  refine MetI.mk RX7 cX7_lengthTo 8 .int (by decide) rfl nestWs_ok rfl (Nat.le_of_ble_eq_true rfl) ?_
  intro p e s m below meth c A ls C hG hl
  have hl : lv_has ls 8 [(0, .ref o1), (1, .ref o2), (2, .int x2), (3, .int x3)] := hl
  have hx := C.1
  have hb := C.2.1
  unfold w7_lengthTo at h
  refine lv_iconst (v := 0) hx hb dX7_lengthTo_0 (by decide) ?_
  refine lv_istore (lv' := [(4, .int (0 : Int32)), (0, .ref o1), (1, .ref o2), (2, .int x2), (3, .int x3)]) hx hb dX7_lengthTo_1 hl (by decide) rfl (fun ls hl => ?_)
  refine lv_iconst (v := 3) hx hb dX7_lengthTo_3 (by decide) ?_
  refine lv_iload_n hx hb dX7_lengthTo_4 rfl (lv_at hl 4 rfl) ?_
  refine lv_imul hx hb dX7_lengthTo_5 ?_
  refine lv_topi (fun y1 ey1 => ?_)
  replace h := h y1 ey1
  refine lv_istore (lv' := [(5, .int y1), (4, .int (0 : Int32)), (0, .ref o1), (1, .ref o2), (2, .int x2), (3, .int x3)]) hx hb dX7_lengthTo_6 hl (by decide) rfl (fun ls hl => ?_)
  refine lv_iload hx hb dX7_lengthTo_8 (lv_at hl 0 rfl) ?_
  refine lv_if_lt (tgt := 22) hx hb dX7_lengthTo_10 (by decide) (fun c2 => ?_) (fun c2 => ?_)
  · replace h := h.1 c2
    exact b7_lengthTo_b22 V1 V2 C h hG (lv_sub hl [2] rfl)
  · replace h := h.2 c2
    refine lv_iload hx hb dX7_lengthTo_13 (lv_at hl 0 rfl) ?_
    refine lv_iconst (v := 3) hx hb dX7_lengthTo_15 (by decide) ?_
    refine lv_iadd hx hb dX7_lengthTo_16 ?_
    refine lv_aload_n hx hb dX7_lengthTo_17 rfl (lv_at hl 3 rfl) ?_
    refine gx_alen C hG 7 rfl dX7_lengthTo_18 ?_
    refine lv_icmp_le (tgt := 25) hx hb dX7_lengthTo_19 (by decide) (fun c3 => ?_) (fun c3 => ?_)
    · replace h := h.1 c3
      refine lv_iconst (v := 0) hx hb dX7_lengthTo_25 (by decide) ?_
      refine lv_istore (lv' := [(6, .int (0 : Int32)), (5, .int y1), (4, .int (0 : Int32)), (0, .ref o1), (1, .ref o2), (2, .int x2), (3, .int x3)]) hx hb dX7_lengthTo_26 hl (by decide) rfl (fun ls hl => ?_)
      exact b7_lengthTo_b28 x2 (0 : Int32) y1 (0 : Int32) V1 V2 C h hG (lv_sub hl [3, 4, 5, 2, 1, 0] rfl)
    · replace h := h.2 c3
      exact b7_lengthTo_b22 V1 V2 C h hG (lv_sub hl [2] rfl)
