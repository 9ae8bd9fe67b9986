-- X0_has
def w0_has_b25 (t0 : Int32) (Q : Int32 → Prop) : Prop :=
  narrow .boolean (.int t0) = .int t0 ∧ Q t0
set_option maxHeartbeats 4000000 in
set_option maxRecDepth 100000 in
theorem b0_has_b25 {p : Program} {l : Launch} {e : Env} {s : State} {m : MethodId} {args : Array Value} {below : List Frame} {meth : Method} {c : Code} {D : va_G} {cy : Nat → ClassId} {A : Nat → Prop} (t0 : Int32) {Q : Int32 → Prop} (C : Cx p s m args meth c cX0_has 3 (some .boolean) wsX0_has RX0 D cy nestWs A) (h : w0_has_b25 t0 Q) {H : Heap} {locs : List Loc} (hG : GW D A s (([] : va_W)) H locs) {ls : Array Slot} (hl : lv_has ls 3 []) : W p l e ({ frames := 0, cells := 0, slots := 0, locals := 0 } : Room) s m args below meth c H locs 0 0 (MQ below (va_Qi (fun r _ => Q r) (B1 D (fun _ : Unit => ([] : va_W)) A) A) args s 0 0 A) (F0 m 25 ls [.int t0]) := by
  have hx := C.1
  have hb := C.2.1
  unfold w0_has_b25 at h
  exact retZ (w := (fun _ : Unit => ([] : va_W))) (S := ()) C hG ⟨h.1, h.2⟩ dX0_has_25
def w0_has_b24 (Q : Int32 → Prop) : Prop :=
  w0_has_b25 (0 : Int32) Q
set_option maxHeartbeats 4000000 in
set_option maxRecDepth 100000 in
theorem b0_has_b24 {p : Program} {l : Launch} {e : Env} {s : State} {m : MethodId} {args : Array Value} {below : List Frame} {meth : Method} {c : Code} {D : va_G} {cy : Nat → ClassId} {A : Nat → Prop} {Q : Int32 → Prop} (C : Cx p s m args meth c cX0_has 3 (some .boolean) wsX0_has RX0 D cy nestWs A) (h : w0_has_b24 Q) {H : Heap} {locs : List Loc} (hG : GW D A s (([] : va_W)) H locs) {ls : Array Slot} (hl : lv_has ls 3 []) : W p l e ({ frames := 0, cells := 0, slots := 0, locals := 0 } : Room) s m args below meth c H locs 0 0 (MQ below (va_Qi (fun r _ => Q r) (B1 D (fun _ : Unit => ([] : va_W)) A) A) args s 0 0 A) (F0 m 24 ls []) := by
  have hx := C.1
  have hb := C.2.1
  unfold w0_has_b24 at h
  refine lv_iconst (v := 0) hx hb dX0_has_24 (by decide) ?_
  exact b0_has_b25 (0 : Int32) C h hG hl
def w0_has (x0 : Int64) (x2 : Int32) (Q : Int32 → Prop) : Prop :=
  ((x2 < 0 → w0_has_b24 Q) ∧ (¬ x2 < 0 → (((64 : Int32) ≤ x2 → w0_has_b24 Q) ∧ (¬ (64 : Int32) ≤ x2 → (((lg_cmp ((x0.toUInt64 >>> (x2.toInt64.toUInt64 &&& Int64.toUInt64 63)).toInt64 &&& (1 : Int64)) (0 : Int64)) = 0 → w0_has_b24 Q) ∧ (¬ (lg_cmp ((x0.toUInt64 >>> (x2.toInt64.toUInt64 &&& Int64.toUInt64 63)).toInt64 &&& (1 : Int64)) (0 : Int64)) = 0 → w0_has_b25 (1 : Int32) Q))))))
set_option maxHeartbeats 4000000 in
set_option maxRecDepth 100000 in
theorem c0_has (l : Launch) (D : va_G) (cy : Nat → ClassId)  (x0 : Int64) (x2 : Int32) (Q : Int32 → Prop) (h : w0_has x0 x2 Q) : MetI l yX0_has wsX0_has ({ frames := 0, cells := 0, slots := 0, locals := 0 } : Room) D cy nestWs (fun _ : Unit => ([] : va_W)) [.long x0, .int x2] () (fun r _ => Q r) := by
  refine MetI.mk RX0 cX0_has 3 .boolean (by decide) rfl nestWs_ok rfl (Nat.le_of_ble_eq_true rfl) ?_
  intro p e s m below meth c A ls C hG hl
  have hl : lv_has ls 3 [(0, .long x0), (2, .int x2)] := hl
  have hx := C.1
  have hb := C.2.1
  unfold w0_has at h
  refine lv_iload_n hx hb dX0_has_0 rfl (lv_at hl 1 rfl) ?_
  refine lv_if_lt (tgt := 24) hx hb dX0_has_1 (by decide) (fun c1 => ?_) (fun c1 => ?_)
  · replace h := h.1 c1
    exact b0_has_b24 C h hG (lv_sub hl [] rfl)
  · replace h := h.2 c1
    refine lv_iload_n hx hb dX0_has_4 rfl (lv_at hl 1 rfl) ?_
    refine lv_bipush (v := 64) hx hb dX0_has_5 (by decide) ?_
    refine lv_icmp_ge (tgt := 24) hx hb dX0_has_7 (by decide) (fun c2 => ?_) (fun c2 => ?_)
    · replace h := h.1 c2
      exact b0_has_b24 C h hG (lv_sub hl [] rfl)
    · replace h := h.2 c2
      refine lv_lload_n hx hb dX0_has_10 rfl (lv_at hl 0 rfl) ?_
      refine lv_iload_n hx hb dX0_has_11 rfl (lv_at hl 1 rfl) ?_
      refine lv_lushr hx hb dX0_has_12 rfl ?_
      refine lv_lconst (v := 1) hx hb dX0_has_13 (by decide) ?_
      refine lv_land hx hb dX0_has_14 ?_
      refine lv_lconst (v := 0) hx hb dX0_has_15 (by decide) ?_
      refine W.lcmp hx hb dX0_has_16 ?_
      refine lv_if_eq (tgt := 24) hx hb dX0_has_17 (by decide) (fun c3 => ?_) (fun c3 => ?_)
      · replace h := h.1 c3
        exact b0_has_b24 C h hG (lv_sub hl [] rfl)
      · replace h := h.2 c3
        refine lv_iconst (v := 1) hx hb dX0_has_20 (by decide) ?_
        refine lv_goto (tgt := 25) hx hb dX0_has_21 (by decide) ?_
        exact b0_has_b25 (1 : Int32) C h hG (lv_sub hl [] rfl)
-- J13_bitCount_95d88
theorem k13_bitCount_95d88_314 : Cond.constantLong RJ13 314 (6148914691236517205) ∈ wsJ13_bitCount_95d88 := (List.mem_cons_of_mem _ mw_2)
theorem k13_bitCount_95d88_316 : Cond.constantLong RJ13 316 (3689348814741910323) ∈ wsJ13_bitCount_95d88 := (List.mem_cons_of_mem _ mw_3)
theorem k13_bitCount_95d88_318 : Cond.constantLong RJ13 318 (1085102592571150095) ∈ wsJ13_bitCount_95d88 := (List.mem_cons_of_mem _ mw_4)
def w13_bitCount_95d88 (x0 : Int64) (Q : Int32 → Prop) : Prop :=
  ∀ y1 : Int64, y1 = (x0 - ((x0.toUInt64 >>> ((1 : Int32).toInt64.toUInt64 &&& Int64.toUInt64 63)).toInt64 &&& (6148914691236517205 : Int64))) → ∀ y2 : Int64, y2 = ((y1 &&& (3689348814741910323 : Int64)) + ((y1.toUInt64 >>> ((2 : Int32).toInt64.toUInt64 &&& Int64.toUInt64 63)).toInt64 &&& (3689348814741910323 : Int64))) → ∀ y3 : Int64, y3 = ((y2 + (y2.toUInt64 >>> ((4 : Int32).toInt64.toUInt64 &&& Int64.toUInt64 63)).toInt64) &&& (1085102592571150095 : Int64)) → ∀ y4 : Int64, y4 = (y3 + (y3.toUInt64 >>> ((8 : Int32).toInt64.toUInt64 &&& Int64.toUInt64 63)).toInt64) → ∀ y5 : Int64, y5 = (y4 + (y4.toUInt64 >>> ((16 : Int32).toInt64.toUInt64 &&& Int64.toUInt64 63)).toInt64) → ∀ y6 : Int64, y6 = (y5 + (y5.toUInt64 >>> ((32 : Int32).toInt64.toUInt64 &&& Int64.toUInt64 63)).toInt64) → Q (y6.toInt32 &&& (127 : Int32))
set_option maxHeartbeats 4000000 in
set_option maxRecDepth 100000 in
theorem c13_bitCount_95d88 (l : Launch) (D : va_G) (cy : Nat → ClassId)  (x0 : Int64) (Q : Int32 → Prop) (h : w13_bitCount_95d88 x0 Q) : MetI l yJ13_bitCount_95d88 wsJ13_bitCount_95d88 ({ frames := 0, cells := 0, slots := 0, locals := 0 } : Room) D cy nestWs (fun _ : Unit => ([] : va_W)) [.long x0] () (fun r _ => Q r) := by
  refine MetI.mk RJ13 cJ13_bitCount_95d88 2 .int (by decide) rfl nestWs_ok rfl (Nat.le_of_ble_eq_true rfl) ?_
  intro p e s m below meth c A ls C hG hl
  have hl : lv_has ls 2 [(0, .long x0)] := hl
  have hx := C.1
  have hb := C.2.1
  unfold w13_bitCount_95d88 at h
  refine lv_lload_n hx hb dJ13_bitCount_95d88_0 rfl (lv_at hl 0 rfl) ?_
  refine lv_lload_n hx hb dJ13_bitCount_95d88_1 rfl (lv_at hl 0 rfl) ?_
  refine lv_iconst (v := 1) hx hb dJ13_bitCount_95d88_2 (by decide) ?_
  refine lv_lushr hx hb dJ13_bitCount_95d88_3 rfl ?_
  refine lv_ldc2 (v := 6148914691236517205) hx hb C.2.2.2.1 (C.2.2.2.2.1 _ k13_bitCount_95d88_314) dJ13_bitCount_95d88_4 ?_
  refine lv_land hx hb dJ13_bitCount_95d88_7 ?_
  refine lv_lsub hx hb dJ13_bitCount_95d88_8 ?_
  refine lv_topl (fun y1 ey1 => ?_)
  replace h := h y1 ey1
  refine lv_lstore_n (lv' := [(0, .long y1)]) hx hb dJ13_bitCount_95d88_9 rfl hl (by decide) rfl (fun ls hl => ?_)
  refine lv_lload_n hx hb dJ13_bitCount_95d88_10 rfl (lv_at hl 0 rfl) ?_
  refine lv_ldc2 (v := 3689348814741910323) hx hb C.2.2.2.1 (C.2.2.2.2.1 _ k13_bitCount_95d88_316) dJ13_bitCount_95d88_11 ?_
  refine lv_land hx hb dJ13_bitCount_95d88_14 ?_
  refine lv_lload_n hx hb dJ13_bitCount_95d88_15 rfl (lv_at hl 0 rfl) ?_
  refine lv_iconst (v := 2) hx hb dJ13_bitCount_95d88_16 (by decide) ?_
  refine lv_lushr hx hb dJ13_bitCount_95d88_17 rfl ?_
  refine lv_ldc2 (v := 3689348814741910323) hx hb C.2.2.2.1 (C.2.2.2.2.1 _ k13_bitCount_95d88_316) dJ13_bitCount_95d88_18 ?_
  refine lv_land hx hb dJ13_bitCount_95d88_21 ?_
  refine lv_ladd hx hb dJ13_bitCount_95d88_22 ?_
  refine lv_topl (fun y2 ey2 => ?_)
  replace h := h y2 ey2
  refine lv_lstore_n (lv' := [(0, .long y2)]) hx hb dJ13_bitCount_95d88_23 rfl hl (by decide) rfl (fun ls hl => ?_)
  refine lv_lload_n hx hb dJ13_bitCount_95d88_24 rfl (lv_at hl 0 rfl) ?_
  refine lv_lload_n hx hb dJ13_bitCount_95d88_25 rfl (lv_at hl 0 rfl) ?_
  refine lv_iconst (v := 4) hx hb dJ13_bitCount_95d88_26 (by decide) ?_
  refine lv_lushr hx hb dJ13_bitCount_95d88_27 rfl ?_
  refine lv_ladd hx hb dJ13_bitCount_95d88_28 ?_
  refine lv_ldc2 (v := 1085102592571150095) hx hb C.2.2.2.1 (C.2.2.2.2.1 _ k13_bitCount_95d88_318) dJ13_bitCount_95d88_29 ?_
  refine lv_land hx hb dJ13_bitCount_95d88_32 ?_
  refine lv_topl (fun y3 ey3 => ?_)
  replace h := h y3 ey3
  refine lv_lstore_n (lv' := [(0, .long y3)]) hx hb dJ13_bitCount_95d88_33 rfl hl (by decide) rfl (fun ls hl => ?_)
  refine lv_lload_n hx hb dJ13_bitCount_95d88_34 rfl (lv_at hl 0 rfl) ?_
  refine lv_lload_n hx hb dJ13_bitCount_95d88_35 rfl (lv_at hl 0 rfl) ?_
  refine lv_bipush (v := 8) hx hb dJ13_bitCount_95d88_36 (by decide) ?_
  refine lv_lushr hx hb dJ13_bitCount_95d88_38 rfl ?_
  refine lv_ladd hx hb dJ13_bitCount_95d88_39 ?_
  refine lv_topl (fun y4 ey4 => ?_)
  replace h := h y4 ey4
  refine lv_lstore_n (lv' := [(0, .long y4)]) hx hb dJ13_bitCount_95d88_40 rfl hl (by decide) rfl (fun ls hl => ?_)
  refine lv_lload_n hx hb dJ13_bitCount_95d88_41 rfl (lv_at hl 0 rfl) ?_
  refine lv_lload_n hx hb dJ13_bitCount_95d88_42 rfl (lv_at hl 0 rfl) ?_
  refine lv_bipush (v := 16) hx hb dJ13_bitCount_95d88_43 (by decide) ?_
  refine lv_lushr hx hb dJ13_bitCount_95d88_45 rfl ?_
  refine lv_ladd hx hb dJ13_bitCount_95d88_46 ?_
  refine lv_topl (fun y5 ey5 => ?_)
  replace h := h y5 ey5
  refine lv_lstore_n (lv' := [(0, .long y5)]) hx hb dJ13_bitCount_95d88_47 rfl hl (by decide) rfl (fun ls hl => ?_)
  refine lv_lload_n hx hb dJ13_bitCount_95d88_48 rfl (lv_at hl 0 rfl) ?_
  refine lv_lload_n hx hb dJ13_bitCount_95d88_49 rfl (lv_at hl 0 rfl) ?_
  refine lv_bipush (v := 32) hx hb dJ13_bitCount_95d88_50 (by decide) ?_
  refine lv_lushr hx hb dJ13_bitCount_95d88_52 rfl ?_
  refine lv_ladd hx hb dJ13_bitCount_95d88_53 ?_
  refine lv_topl (fun y6 ey6 => ?_)
  replace h := h y6 ey6
  refine lv_lstore_n (lv' := [(0, .long y6)]) hx hb dJ13_bitCount_95d88_54 rfl hl (by decide) rfl (fun ls hl => ?_)
  refine lv_lload_n hx hb dJ13_bitCount_95d88_55 rfl (lv_at hl 0 rfl) ?_
  refine lv_l2i hx hb dJ13_bitCount_95d88_56 rfl ?_
  refine lv_bipush (v := 127) hx hb dJ13_bitCount_95d88_57 (by decide) ?_
  refine lv_iand hx hb dJ13_bitCount_95d88_59 ?_
  exact retI (w := (fun _ : Unit => ([] : va_W))) (S := ()) C hG h dJ13_bitCount_95d88_60
-- X0_least
def w0_least (x0 : Int64) (Q : Int32 → Prop) : Prop :=
  w13_bitCount_95d88 ((x0 &&& (-x0)) - (1 : Int64)) (fun r1 => Q r1)
set_option maxHeartbeats 4000000 in
set_option maxRecDepth 100000 in
theorem c0_least (l : Launch) (D : va_G) (cy : Nat → ClassId)  (x0 : Int64) (Q : Int32 → Prop) (h : w0_least x0 Q) : MetI l yX0_least wsX0_least ({ frames := 1, cells := 0, slots := 0, locals := 21 } : Room) D cy nestWs (fun _ : Unit => ([] : va_W)) [.long x0] () (fun r _ => Q r) := by
  refine MetI.mk RX0 cX0_least 2 .int (by decide) rfl nestWs_ok rfl (Nat.le_of_ble_eq_true rfl) ?_
  intro p e s m below meth c A ls C hG hl
  have hl : lv_has ls 2 [(0, .long x0)] := hl
  have hx := C.1
  have hb := C.2.1
  unfold w0_least at h
  refine lv_lload_n hx hb dX0_least_0 rfl (lv_at hl 0 rfl) ?_
  refine lv_lload_n hx hb dX0_least_1 rfl (lv_at hl 0 rfl) ?_
  refine lv_lneg hx hb dX0_least_2 ?_
  refine lv_land hx hb dX0_least_3 ?_
  refine lv_lconst (v := 1) hx hb dX0_least_4 (by decide) ?_
  refine lv_lsub hx hb dX0_least_5 ?_
  refine callSI (As := [.long ((x0 &&& (-x0)) - (1 : Int64))]) (rest := []) C hG (c13_bitCount_95d88 l D cy ((x0 &&& (-x0)) - (1 : Int64)) _ h) 1 gX0_least_J13_bitCount_95d88 rfl (by decide +kernel) ⟨⟨Nat.le_of_ble_eq_true rfl, Nat.le_of_ble_eq_true rfl⟩, rfl, rfl⟩ (Foc.none C.2.2.2.2.2.2.2.2.1) rfl hl.1 rfl (Nat.le_of_ble_eq_true rfl) dX0_least_6 ⟨Nat.zero_le _, Nat.zero_le _⟩ (fun r1 z H locs h hG => ?_)
  exact retI (w := (fun _ : Unit => ([] : va_W))) (S := ()) C hG h dX0_least_9
-- X8_isSquare
def w8_isSquare_b15 (t0 : Int32) (Q : Int32 → Prop) : Prop :=
  narrow .boolean (.int t0) = .int t0 ∧ Q t0
set_option maxHeartbeats 4000000 in
set_option maxRecDepth 100000 in
theorem b8_isSquare_b15 {p : Program} {l : Launch} {e : Env} {s : State} {m : MethodId} {args : Array Value} {below : List Frame} {meth : Method} {c : Code} {D : va_G} {cy : Nat → ClassId} {A : Nat → Prop} (t0 : Int32) {Q : Int32 → Prop} (C : Cx p s m args meth c cX8_isSquare 1 (some .boolean) wsX8_isSquare RX8 D cy nestWs A) (h : w8_isSquare_b15 t0 Q) {H : Heap} {locs : List Loc} (hG : GW D A s (([] : va_W)) H locs) {ls : Array Slot} (hl : lv_has ls 1 []) : W p l e ({ frames := 0, cells := 0, slots := 0, locals := 0 } : Room) s m args below meth c H locs 0 0 (MQ below (va_Qi (fun r _ => Q r) (B1 D (fun _ : Unit => ([] : va_W)) A) A) args s 0 0 A) (F0 m 15 ls [.int t0]) := by
  have hx := C.1
  have hb := C.2.1
  unfold w8_isSquare_b15 at h
  exact retZ (w := (fun _ : Unit => ([] : va_W))) (S := ()) C hG ⟨h.1, h.2⟩ dX8_isSquare_15
def w8_isSquare_b14 (Q : Int32 → Prop) : Prop :=
  w8_isSquare_b15 (0 : Int32) Q
set_option maxHeartbeats 4000000 in
set_option maxRecDepth 100000 in
theorem b8_isSquare_b14 {p : Program} {l : Launch} {e : Env} {s : State} {m : MethodId} {args : Array Value} {below : List Frame} {meth : Method} {c : Code} {D : va_G} {cy : Nat → ClassId} {A : Nat → Prop} {Q : Int32 → Prop} (C : Cx p s m args meth c cX8_isSquare 1 (some .boolean) wsX8_isSquare RX8 D cy nestWs A) (h : w8_isSquare_b14 Q) {H : Heap} {locs : List Loc} (hG : GW D A s (([] : va_W)) H locs) {ls : Array Slot} (hl : lv_has ls 1 []) : W p l e ({ frames := 0, cells := 0, slots := 0, locals := 0 } : Room) s m args below meth c H locs 0 0 (MQ below (va_Qi (fun r _ => Q r) (B1 D (fun _ : Unit => ([] : va_W)) A) A) args s 0 0 A) (F0 m 14 ls []) := by
  have hx := C.1
  have hb := C.2.1
  unfold w8_isSquare_b14 at h
  refine lv_iconst (v := 0) hx hb dX8_isSquare_14 (by decide) ?_
  exact b8_isSquare_b15 (0 : Int32) C h hG hl
def w8_isSquare (x0 : Int32) (Q : Int32 → Prop) : Prop :=
  ((x0 < 0 → w8_isSquare_b14 Q) ∧ (¬ x0 < 0 → (((64 : Int32) ≤ x0 → w8_isSquare_b14 Q) ∧ (¬ (64 : Int32) ≤ x0 → w8_isSquare_b15 (1 : Int32) Q))))
set_option maxHeartbeats 4000000 in
set_option maxRecDepth 100000 in
theorem c8_isSquare (l : Launch) (D : va_G) (cy : Nat → ClassId)  (x0 : Int32) (Q : Int32 → Prop) (h : w8_isSquare x0 Q) : MetI l yX8_isSquare wsX8_isSquare ({ frames := 0, cells := 0, slots := 0, locals := 0 } : Room) D cy nestWs (fun _ : Unit => ([] : va_W)) [.int x0] () (fun r _ => Q r) := by
  refine MetI.mk RX8 cX8_isSquare 1 .boolean (by decide) rfl nestWs_ok rfl (Nat.le_of_ble_eq_true rfl) ?_
  intro p e s m below meth c A ls C hG hl
  have hl : lv_has ls 1 [(0, .int x0)] := hl
  have hx := C.1
  have hb := C.2.1
  unfold w8_isSquare at h
  refine lv_iload_n hx hb dX8_isSquare_0 rfl (lv_at hl 0 rfl) ?_
  refine lv_if_lt (tgt := 14) hx hb dX8_isSquare_1 (by decide) (fun c1 => ?_) (fun c1 => ?_)
  · replace h := h.1 c1
    exact b8_isSquare_b14 C h hG (lv_sub hl [] rfl)
  · replace h := h.2 c1
    refine lv_iload_n hx hb dX8_isSquare_4 rfl (lv_at hl 0 rfl) ?_
    refine lv_bipush (v := 64) hx hb dX8_isSquare_5 (by decide) ?_
    refine lv_icmp_ge (tgt := 14) hx hb dX8_isSquare_7 (by decide) (fun c2 => ?_) (fun c2 => ?_)
    · replace h := h.1 c2
      exact b8_isSquare_b14 C h hG (lv_sub hl [] rfl)
    · replace h := h.2 c2
      refine lv_iconst (v := 1) hx hb dX8_isSquare_10 (by decide) ?_
      refine lv_goto (tgt := 15) hx hb dX8_isSquare_11 (by decide) ?_
      exact b8_isSquare_b15 (1 : Int32) C h hG (lv_sub hl [] rfl)
-- X8_within
def w8_within_b15 (t0 : Int32) (Q : Int32 → Prop) : Prop :=
  narrow .boolean (.int t0) = .int t0 ∧ Q t0
set_option maxHeartbeats 4000000 in
set_option maxRecDepth 100000 in
theorem b8_within_b15 {p : Program} {l : Launch} {e : Env} {s : State} {m : MethodId} {args : Array Value} {below : List Frame} {meth : Method} {c : Code} {D : va_G} {cy : Nat → ClassId} {A : Nat → Prop} (t0 : Int32) {Q : Int32 → Prop} (C : Cx p s m args meth c cX8_within 3 (some .boolean) wsX8_within RX8 D cy nestWs A) (h : w8_within_b15 t0 Q) {H : Heap} {locs : List Loc} (hG : GW D A s (([] : va_W)) H locs) {ls : Array Slot} (hl : lv_has ls 3 []) : W p l e ({ frames := 0, cells := 0, slots := 0, locals := 0 } : Room) s m args below meth c H locs 0 0 (MQ below (va_Qi (fun r _ => Q r) (B1 D (fun _ : Unit => ([] : va_W)) A) A) args s 0 0 A) (F0 m 15 ls [.int t0]) := by
  have hx := C.1
  have hb := C.2.1
  unfold w8_within_b15 at h
  exact retZ (w := (fun _ : Unit => ([] : va_W))) (S := ()) C hG ⟨h.1, h.2⟩ dX8_within_15
def w8_within_b14 (Q : Int32 → Prop) : Prop :=
  w8_within_b15 (0 : Int32) Q
set_option maxHeartbeats 4000000 in
set_option maxRecDepth 100000 in
theorem b8_within_b14 {p : Program} {l : Launch} {e : Env} {s : State} {m : MethodId} {args : Array Value} {below : List Frame} {meth : Method} {c : Code} {D : va_G} {cy : Nat → ClassId} {A : Nat → Prop} {Q : Int32 → Prop} (C : Cx p s m args meth c cX8_within 3 (some .boolean) wsX8_within RX8 D cy nestWs A) (h : w8_within_b14 Q) {H : Heap} {locs : List Loc} (hG : GW D A s (([] : va_W)) H locs) {ls : Array Slot} (hl : lv_has ls 3 []) : W p l e ({ frames := 0, cells := 0, slots := 0, locals := 0 } : Room) s m args below meth c H locs 0 0 (MQ below (va_Qi (fun r _ => Q r) (B1 D (fun _ : Unit => ([] : va_W)) A) A) args s 0 0 A) (F0 m 14 ls []) := by
  have hx := C.1
  have hb := C.2.1
  unfold w8_within_b14 at h
  refine lv_iconst (v := 0) hx hb dX8_within_14 (by decide) ?_
  exact b8_within_b15 (0 : Int32) C h hG hl
def w8_within (x0 : Int32) (x1 : Int32) (x2 : Int32) (Q : Int32 → Prop) : Prop :=
  ((x0 < x1 → w8_within_b14 Q) ∧ (¬ x0 < x1 → ((x2 < x0 → w8_within_b14 Q) ∧ (¬ x2 < x0 → w8_within_b15 (1 : Int32) Q))))
set_option maxHeartbeats 4000000 in
set_option maxRecDepth 100000 in
theorem c8_within (l : Launch) (D : va_G) (cy : Nat → ClassId)  (x0 : Int32) (x1 : Int32) (x2 : Int32) (Q : Int32 → Prop) (h : w8_within x0 x1 x2 Q) : MetI l yX8_within wsX8_within ({ frames := 0, cells := 0, slots := 0, locals := 0 } : Room) D cy nestWs (fun _ : Unit => ([] : va_W)) [.int x0, .int x1, .int x2] () (fun r _ => Q r) := by
  refine MetI.mk RX8 cX8_within 3 .boolean (by decide) rfl nestWs_ok rfl (Nat.le_of_ble_eq_true rfl) ?_
  intro p e s m below meth c A ls C hG hl
  have hl : lv_has ls 3 [(0, .int x0), (1, .int x1), (2, .int x2)] := hl
  have hx := C.1
  have hb := C.2.1
  unfold w8_within at h
  refine lv_iload_n hx hb dX8_within_0 rfl (lv_at hl 0 rfl) ?_
  refine lv_iload_n hx hb dX8_within_1 rfl (lv_at hl 1 rfl) ?_
  refine lv_icmp_lt (tgt := 14) hx hb dX8_within_2 (by decide) (fun c1 => ?_) (fun c1 => ?_)
  · replace h := h.1 c1
    exact b8_within_b14 C h hG (lv_sub hl [] rfl)
  · replace h := h.2 c1
    refine lv_iload_n hx hb dX8_within_5 rfl (lv_at hl 0 rfl) ?_
    refine lv_iload_n hx hb dX8_within_6 rfl (lv_at hl 2 rfl) ?_
    refine lv_icmp_gt (tgt := 14) hx hb dX8_within_7 (by decide) (fun c2 => ?_) (fun c2 => ?_)
    · replace h := h.1 c2
      exact b8_within_b14 C h hG (lv_sub hl [] rfl)
    · replace h := h.2 c2
      refine lv_iconst (v := 1) hx hb dX8_within_10 (by decide) ?_
      refine lv_goto (tgt := 15) hx hb dX8_within_11 (by decide) ?_
      exact b8_within_b15 (1 : Int32) C h hG (lv_sub hl [] rfl)
-- X0_beside
theorem k0_beside_15 : Cond.initialized yX8_isSquare.cls ∈ wsX0_beside ∧ Cond.static yX8_isSquare ∈ wsX0_beside := ⟨(List.mem_cons_of_mem _ mw_13), (List.mem_cons_of_mem _ mw_12)⟩
theorem k0_beside_21 : Cond.initialized yX8_within.cls ∈ wsX0_beside ∧ Cond.static yX8_within ∈ wsX0_beside := ⟨(List.mem_cons_of_mem _ mw_13), (List.mem_cons_of_mem _ mw_14)⟩
def w0_beside_b100 (t0 : Int32) (Q : Int32 → Prop) : Prop :=
  Q t0
set_option maxHeartbeats 4000000 in
set_option maxRecDepth 100000 in
theorem b0_beside_b100 {p : Program} {l : Launch} {e : Env} {s : State} {m : MethodId} {args : Array Value} {below : List Frame} {meth : Method} {c : Code} {D : va_G} {cy : Nat → ClassId} {A : Nat → Prop} (t0 : Int32) {Q : Int32 → Prop} (C : Cx p s m args meth c cX0_beside 4 (some .int) wsX0_beside RX0 D cy nestWs A) (h : w0_beside_b100 t0 Q) {H : Heap} {locs : List Loc} (hG : GW D A s (([] : va_W)) H locs) {ls : Array Slot} (hl : lv_has ls 4 []) : W p l e ({ frames := 1, cells := 0, slots := 0, locals := 22 } : Room) s m args below meth c H locs 0 0 (MQ below (va_Qi (fun r _ => Q r) (B1 D (fun _ : Unit => ([] : va_W)) A) A) args s 0 0 A) (F0 m 100 ls [.int t0]) := by
  have hx := C.1
  have hb := C.2.1
  unfold w0_beside_b100 at h
  exact retI (w := (fun _ : Unit => ([] : va_W))) (S := ()) C hG h dX0_beside_100
def w0_beside_b98 (Q : Int32 → Prop) : Prop :=
  w0_beside_b100 (-9 : Int32) Q
set_option maxHeartbeats 4000000 in
set_option maxRecDepth 100000 in
theorem b0_beside_b98 {p : Program} {l : Launch} {e : Env} {s : State} {m : MethodId} {args : Array Value} {below : List Frame} {meth : Method} {c : Code} {D : va_G} {cy : Nat → ClassId} {A : Nat → Prop} {Q : Int32 → Prop} (C : Cx p s m args meth c cX0_beside 4 (some .int) wsX0_beside RX0 D cy nestWs A) (h : w0_beside_b98 Q) {H : Heap} {locs : List Loc} (hG : GW D A s (([] : va_W)) H locs) {ls : Array Slot} (hl : lv_has ls 4 []) : W p l e ({ frames := 1, cells := 0, slots := 0, locals := 22 } : Room) s m args below meth c H locs 0 0 (MQ below (va_Qi (fun r _ => Q r) (B1 D (fun _ : Unit => ([] : va_W)) A) A) args s 0 0 A) (F0 m 98 ls []) := by
  have hx := C.1
  have hb := C.2.1
  unfold w0_beside_b98 at h
  refine lv_bipush (v := -9) hx hb dX0_beside_98 (by decide) ?_
  exact b0_beside_b100 (-9 : Int32) C h hG hl
def w0_beside_b69 (x2 : Int32) (x3 : Int32) (Q : Int32 → Prop) : Prop :=
  w8_within x2 (0 : Int32) (7 : Int32) (fun r1 => ((r1 = 0 → w0_beside_b98 Q) ∧ (¬ r1 = 0 → w8_within x3 (0 : Int32) (7 : Int32) (fun r3 => ((r3 = 0 → w0_beside_b98 Q) ∧ (¬ r3 = 0 → w0_beside_b100 (((8 : Int32) * x3) + x2) Q))))))
set_option maxHeartbeats 4000000 in
set_option maxRecDepth 100000 in
theorem b0_beside_b69 {p : Program} {l : Launch} {e : Env} {s : State} {m : MethodId} {args : Array Value} {below : List Frame} {meth : Method} {c : Code} {D : va_G} {cy : Nat → ClassId} {A : Nat → Prop} (x2 : Int32) (x3 : Int32) {Q : Int32 → Prop} (C : Cx p s m args meth c cX0_beside 4 (some .int) wsX0_beside RX0 D cy nestWs A) (h : w0_beside_b69 x2 x3 Q) {H : Heap} {locs : List Loc} (hG : GW D A s (([] : va_W)) H locs) {ls : Array Slot} (hl : lv_has ls 4 [(2, .int x2), (3, .int x3)]) : W p l e ({ frames := 1, cells := 0, slots := 0, locals := 22 } : Room) s m args below meth c H locs 0 0 (MQ below (va_Qi (fun r _ => Q r) (B1 D (fun _ : Unit => ([] : va_W)) A) A) args s 0 0 A) (F0 m 69 ls []) := by
  have hx := C.1
  have hb := C.2.1
  unfold w0_beside_b69 at h
  refine lv_iload_n hx hb dX0_beside_69 rfl (lv_at hl 0 rfl) ?_
  refine lv_iconst (v := 0) hx hb dX0_beside_70 (by decide) ?_
  refine lv_bipush (v := 7) hx hb dX0_beside_71 (by decide) ?_
  refine callSNI (As := [.int x2, .int (0 : Int32), .int (7 : Int32)]) (rest := []) (host := "PaperBodies") C hG (c8_within l D cy x2 (0 : Int32) (7 : Int32) _ h) 3 gX0_beside_X8_within_n21 rfl (by decide +kernel) k0_beside_21.1 k0_beside_21.2 (by decide +kernel) ⟨⟨Nat.le_of_ble_eq_true rfl, Nat.le_of_ble_eq_true rfl⟩, rfl, rfl⟩ (Foc.none C.2.2.2.2.2.2.2.2.1) rfl hl.1 rfl (Nat.le_of_ble_eq_true rfl) dX0_beside_73 ⟨Nat.zero_le _, Nat.zero_le _⟩ (fun r1 z H locs h hG => ?_)
  refine lv_if_eq (tgt := 98) hx hb dX0_beside_76 (by decide) (fun c2 => ?_) (fun c2 => ?_)
  · replace h := h.1 c2
    exact b0_beside_b98 C h hG (lv_sub hl [] rfl)
  · replace h := h.2 c2
    refine lv_iload_n hx hb dX0_beside_79 rfl (lv_at hl 1 rfl) ?_
    refine lv_iconst (v := 0) hx hb dX0_beside_80 (by decide) ?_
    refine lv_bipush (v := 7) hx hb dX0_beside_81 (by decide) ?_
    refine callSNI (As := [.int x3, .int (0 : Int32), .int (7 : Int32)]) (rest := []) (host := "PaperBodies") C hG (c8_within l D cy x3 (0 : Int32) (7 : Int32) _ h) 3 gX0_beside_X8_within_n21 rfl (by decide +kernel) k0_beside_21.1 k0_beside_21.2 (by decide +kernel) ⟨⟨Nat.le_of_ble_eq_true rfl, Nat.le_of_ble_eq_true rfl⟩, rfl, rfl⟩ (Foc.none C.2.2.2.2.2.2.2.2.1) rfl hl.1 rfl (Nat.le_of_ble_eq_true rfl) dX0_beside_83 ⟨Nat.zero_le _, Nat.zero_le _⟩ (fun r3 z H locs h hG => ?_)
    refine lv_if_eq (tgt := 98) hx hb dX0_beside_86 (by decide) (fun c4 => ?_) (fun c4 => ?_)
    · replace h := h.1 c4
      exact b0_beside_b98 C h hG (lv_sub hl [] rfl)
    · replace h := h.2 c4
      refine lv_bipush (v := 8) hx hb dX0_beside_89 (by decide) ?_
      refine lv_iload_n hx hb dX0_beside_91 rfl (lv_at hl 1 rfl) ?_
      refine lv_imul hx hb dX0_beside_92 ?_
      refine lv_iload_n hx hb dX0_beside_93 rfl (lv_at hl 0 rfl) ?_
      refine lv_iadd hx hb dX0_beside_94 ?_
      refine lv_goto (tgt := 100) hx hb dX0_beside_95 (by decide) ?_
      exact b0_beside_b100 (((8 : Int32) * x3) + x2) C h hG (lv_sub hl [] rfl)
def w0_beside (x0 : Int32) (x1 : Int32) (Q : Int32 → Prop) : Prop :=
  w8_isSquare x0 (fun r1 => ((¬ r1 = 0 → ∀ y3 : Int32, y3 = (x0 &&& (7 : Int32)) → ∀ y4 : Int32, y4 = (x0 >>> ((3 : Int32) &&& 31)) → ((x1 = 0 → ∀ y6 : Int32, y6 = y3 + 1 → w0_beside_b69 y6 y4 Q) ∧ (x1 = 1 → ∀ y7 : Int32, y7 = y4 + 1 → w0_beside_b69 y3 y7 Q) ∧ (x1 = 2 → ∀ y8 : Int32, y8 = y3 + (-1) → w0_beside_b69 y8 y4 Q) ∧ (¬ x1 = 0 → ¬ x1 = 1 → ¬ x1 = 2 → ∀ y9 : Int32, y9 = y4 + (-1) → w0_beside_b69 y3 y9 Q))) ∧ (r1 = 0 → Q (-9 : Int32))))
set_option maxHeartbeats 4000000 in
set_option maxRecDepth 100000 in
theorem c0_beside (l : Launch) (D : va_G) (cy : Nat → ClassId)  (x0 : Int32) (x1 : Int32) (Q : Int32 → Prop) (h : w0_beside x0 x1 Q) : MetI l yX0_beside wsX0_beside ({ frames := 1, cells := 0, slots := 0, locals := 22 } : Room) D cy nestWs (fun _ : Unit => ([] : va_W)) [.int x0, .int x1] () (fun r _ => Q r) := by
  refine MetI.mk RX0 cX0_beside 4 .int (by decide) rfl nestWs_ok rfl (Nat.le_of_ble_eq_true rfl) ?_
  intro p e s m below meth c A ls C hG hl
  have hl : lv_has ls 4 [(0, .int x0), (1, .int x1)] := hl
  have hx := C.1
  have hb := C.2.1
  unfold w0_beside at h
  refine lv_iload_n hx hb dX0_beside_0 rfl (lv_at hl 0 rfl) ?_
  refine callSNI (As := [.int x0]) (rest := []) (host := "PaperBodies") C hG (c8_isSquare l D cy x0 _ h) 1 gX0_beside_X8_isSquare_n15 rfl (by decide +kernel) k0_beside_15.1 k0_beside_15.2 (by decide +kernel) ⟨⟨Nat.le_of_ble_eq_true rfl, Nat.le_of_ble_eq_true rfl⟩, rfl, rfl⟩ (Foc.none C.2.2.2.2.2.2.2.2.1) rfl hl.1 rfl (Nat.le_of_ble_eq_true rfl) dX0_beside_1 ⟨Nat.zero_le _, Nat.zero_le _⟩ (fun r1 z H locs h hG => ?_)
  refine lv_if_ne (tgt := 10) hx hb dX0_beside_4 (by decide) (fun c2 => ?_) (fun c2 => ?_)
  · replace h := h.1 c2
    refine lv_iload_n hx hb dX0_beside_10 rfl (lv_at hl 0 rfl) ?_
    refine lv_bipush (v := 7) hx hb dX0_beside_11 (by decide) ?_
    refine lv_iand hx hb dX0_beside_13 ?_
    refine lv_topi (fun y3 ey3 => ?_)
    replace h := h y3 ey3
    refine lv_istore_n (lv' := [(2, .int y3), (0, .int x0), (1, .int x1)]) hx hb dX0_beside_14 rfl hl (by decide) rfl (fun ls hl => ?_)
    refine lv_iload_n hx hb dX0_beside_15 rfl (lv_at hl 1 rfl) ?_
    refine lv_iconst (v := 3) hx hb dX0_beside_16 (by decide) ?_
    refine lv_ishr hx hb dX0_beside_17 ?_
    refine lv_topi (fun y4 ey4 => ?_)
    replace h := h y4 ey4
    refine lv_istore_n (lv' := [(3, .int y4), (2, .int y3), (0, .int x0), (1, .int x1)]) hx hb dX0_beside_18 rfl hl (by decide) rfl (fun ls hl => ?_)
    refine lv_iload_n hx hb dX0_beside_19 rfl (lv_at hl 3 rfl) ?_
    by_cases c5_0 : x1 = 0
    · replace h := h.1 c5_0
      refine lv_tableIn (tgt := 48) hx hb dX0_beside_20 (by rw [c5_0]; decide) (by rw [c5_0]; decide) (by rw [c5_0]; rfl) (by decide) ?_
      obtain ⟨y6, ey6⟩ : ∃ y : Int32, y = y3 + 1 := ⟨_, rfl⟩
      replace h := h y6 ey6
      refine lv_iinc (v := y6) (lv' := [(2, .int y6), (3, .int y4), (0, .int x0), (1, .int x1)]) hx hb dX0_beside_48 hl (k := 1) rfl (by rw [ey6]; rfl) (by decide) rfl (fun ls hl => ?_)
      refine lv_goto (tgt := 69) hx hb dX0_beside_51 (by decide) ?_
      exact b0_beside_b69 y6 y4 C h hG (lv_sub hl [0, 1] rfl)
    by_cases c5_1 : x1 = 1
    · replace h := h.2.1 c5_1
      refine lv_tableIn (tgt := 54) hx hb dX0_beside_20 (by rw [c5_1]; decide) (by rw [c5_1]; decide) (by rw [c5_1]; rfl) (by decide) ?_
      obtain ⟨y7, ey7⟩ : ∃ y : Int32, y = y4 + 1 := ⟨_, rfl⟩
      replace h := h y7 ey7
      refine lv_iinc (v := y7) (lv' := [(3, .int y7), (2, .int y3), (0, .int x0), (1, .int x1)]) hx hb dX0_beside_54 hl (k := 0) rfl (by rw [ey7]; rfl) (by decide) rfl (fun ls hl => ?_)
      refine lv_goto (tgt := 69) hx hb dX0_beside_57 (by decide) ?_
      exact b0_beside_b69 y3 y7 C h hG (lv_sub hl [1, 0] rfl)
    by_cases c5_2 : x1 = 2
    · replace h := h.2.2.1 c5_2
      refine lv_tableIn (tgt := 60) hx hb dX0_beside_20 (by rw [c5_2]; decide) (by rw [c5_2]; decide) (by rw [c5_2]; rfl) (by decide) ?_
      obtain ⟨y8, ey8⟩ : ∃ y : Int32, y = y3 + (-1) := ⟨_, rfl⟩
      replace h := h y8 ey8
      refine lv_iinc (v := y8) (lv' := [(2, .int y8), (3, .int y4), (0, .int x0), (1, .int x1)]) hx hb dX0_beside_60 hl (k := 1) rfl (by rw [ey8]; rfl) (by decide) rfl (fun ls hl => ?_)
      refine lv_goto (tgt := 69) hx hb dX0_beside_63 (by decide) ?_
      exact b0_beside_b69 y8 y4 C h hG (lv_sub hl [0, 1] rfl)
    replace h := h.2.2.2 c5_0 c5_1 c5_2
    refine lv_tableOut (tgt := 66) hx hb dX0_beside_20 (sw_out 0 3 (by decide) (fun j hj => by rcases (show j = 0 ∨ j = 1 ∨ j = 2 by omega) with rfl | rfl | rfl <;> first | exact c5_0 | exact c5_1 | exact c5_2)) (by decide) ?_
    obtain ⟨y9, ey9⟩ : ∃ y : Int32, y = y4 + (-1) := ⟨_, rfl⟩
    replace h := h y9 ey9
    refine lv_iinc (v := y9) (lv' := [(3, .int y9), (2, .int y3), (0, .int x0), (1, .int x1)]) hx hb dX0_beside_66 hl (k := 0) rfl (by rw [ey9]; rfl) (by decide) rfl (fun ls hl => ?_)
    exact b0_beside_b69 y3 y9 C h hG (lv_sub hl [1, 0] rfl)
  · replace h := h.2 c2
    refine lv_bipush (v := -9) hx hb dX0_beside_7 (by decide) ?_
    exact retI (w := (fun _ : Unit => ([] : va_W))) (S := ()) C hG h dX0_beside_9
-- X0_moved
theorem k0_moved_25 : Cond.constantLong RX0 25 (-72340172838076674) ∈ wsX0_moved := (List.mem_cons_of_mem _ mw_16)
def w0_moved (x0 : Int64) (x2 : Int32) (Q : Int64 → Prop) : Prop :=
  ((x2 = 0 → Q ((x0 <<< ((1 : Int32).toInt64 &&& 63)) &&& (-72340172838076674 : Int64))) ∧ (x2 = 1 → Q (x0 <<< ((8 : Int32).toInt64 &&& 63))) ∧ (x2 = 2 → Q ((x0 &&& (-72340172838076674 : Int64)).toUInt64 >>> ((1 : Int32).toInt64.toUInt64 &&& Int64.toUInt64 63)).toInt64) ∧ (¬ x2 = 0 → ¬ x2 = 1 → ¬ x2 = 2 → Q (x0.toUInt64 >>> ((8 : Int32).toInt64.toUInt64 &&& Int64.toUInt64 63)).toInt64))
set_option maxHeartbeats 4000000 in
set_option maxRecDepth 100000 in
theorem c0_moved (l : Launch) (D : va_G) (cy : Nat → ClassId)  (x0 : Int64) (x2 : Int32) (Q : Int64 → Prop) (h : w0_moved x0 x2 Q) : MetL l yX0_moved wsX0_moved ({ frames := 0, cells := 0, slots := 0, locals := 0 } : Room) D cy nestWs (fun _ : Unit => ([] : va_W)) [.long x0, .int x2] () (fun r _ => Q r) := by
  refine MetL.mk RX0 cX0_moved 3 (by decide) rfl nestWs_ok rfl (Nat.le_of_ble_eq_true rfl) ?_
  intro p e s m below meth c A ls C hG hl
  have hl : lv_has ls 3 [(0, .long x0), (2, .int x2)] := hl
  have hx := C.1
  have hb := C.2.1
  unfold w0_moved at h
  refine lv_iload_n hx hb dX0_moved_0 rfl (lv_at hl 1 rfl) ?_
  by_cases c1_0 : x2 = 0
  · replace h := h.1 c1_0
    refine lv_tableIn (tgt := 28) hx hb dX0_moved_1 (by rw [c1_0]; decide) (by rw [c1_0]; decide) (by rw [c1_0]; rfl) (by decide) ?_
    refine lv_lload_n hx hb dX0_moved_28 rfl (lv_at hl 0 rfl) ?_
    refine lv_iconst (v := 1) hx hb dX0_moved_29 (by decide) ?_
    refine lv_lshl hx hb dX0_moved_30 rfl ?_
    refine lv_ldc2 (v := -72340172838076674) hx hb C.2.2.2.1 (C.2.2.2.2.1 _ k0_moved_25) dX0_moved_31 ?_
    refine lv_land hx hb dX0_moved_34 ?_
    exact retL (w := (fun _ : Unit => ([] : va_W))) (S := ()) C hG h dX0_moved_35
  by_cases c1_1 : x2 = 1
  · replace h := h.2.1 c1_1
    refine lv_tableIn (tgt := 36) hx hb dX0_moved_1 (by rw [c1_1]; decide) (by rw [c1_1]; decide) (by rw [c1_1]; rfl) (by decide) ?_
    refine lv_lload_n hx hb dX0_moved_36 rfl (lv_at hl 0 rfl) ?_
    refine lv_bipush (v := 8) hx hb dX0_moved_37 (by decide) ?_
    refine lv_lshl hx hb dX0_moved_39 rfl ?_
    exact retL (w := (fun _ : Unit => ([] : va_W))) (S := ()) C hG h dX0_moved_40
  by_cases c1_2 : x2 = 2
  · replace h := h.2.2.1 c1_2
    refine lv_tableIn (tgt := 41) hx hb dX0_moved_1 (by rw [c1_2]; decide) (by rw [c1_2]; decide) (by rw [c1_2]; rfl) (by decide) ?_
    refine lv_lload_n hx hb dX0_moved_41 rfl (lv_at hl 0 rfl) ?_
    refine lv_ldc2 (v := -72340172838076674) hx hb C.2.2.2.1 (C.2.2.2.2.1 _ k0_moved_25) dX0_moved_42 ?_
    refine lv_land hx hb dX0_moved_45 ?_
    refine lv_iconst (v := 1) hx hb dX0_moved_46 (by decide) ?_
    refine lv_lushr hx hb dX0_moved_47 rfl ?_
    exact retL (w := (fun _ : Unit => ([] : va_W))) (S := ()) C hG h dX0_moved_48
  replace h := h.2.2.2 c1_0 c1_1 c1_2
  refine lv_tableOut (tgt := 49) hx hb dX0_moved_1 (sw_out 0 3 (by decide) (fun j hj => by rcases (show j = 0 ∨ j = 1 ∨ j = 2 by omega) with rfl | rfl | rfl <;> first | exact c1_0 | exact c1_1 | exact c1_2)) (by decide) ?_
  refine lv_lload_n hx hb dX0_moved_49 rfl (lv_at hl 0 rfl) ?_
  refine lv_bipush (v := 8) hx hb dX0_moved_50 (by decide) ?_
  refine lv_lushr hx hb dX0_moved_52 rfl ?_
  exact retL (w := (fun _ : Unit => ([] : va_W))) (S := ()) C hG h dX0_moved_53
-- X0_hangsTogether
def w0_hangsTogether_b66 (t0 : Int32) (Q : Int32 → Prop) : Prop :=
  narrow .boolean (.int t0) = .int t0 ∧ Q t0
set_option maxHeartbeats 4000000 in
set_option maxRecDepth 100000 in
theorem b0_hangsTogether_b66 {p : Program} {l : Launch} {e : Env} {s : State} {m : MethodId} {args : Array Value} {below : List Frame} {meth : Method} {c : Code} {D : va_G} {cy : Nat → ClassId} {A : Nat → Prop} (t0 : Int32) {Q : Int32 → Prop} (C : Cx p s m args meth c cX0_hangsTogether 8 (some .boolean) wsX0_hangsTogether RX0 D cy nestWs A) (h : w0_hangsTogether_b66 t0 Q) {H : Heap} {locs : List Loc} (hG : GW D A s (([] : va_W)) H locs) {ls : Array Slot} (hl : lv_has ls 8 []) : W p l e ({ frames := 1, cells := 0, slots := 0, locals := 22 } : Room) s m args below meth c H locs 0 0 (MQ below (va_Qi (fun r _ => Q r) (B1 D (fun _ : Unit => ([] : va_W)) A) A) args s 0 0 A) (F0 m 66 ls [.int t0]) := by
  have hx := C.1
  have hb := C.2.1
  unfold w0_hangsTogether_b66 at h
  exact retZ (w := (fun _ : Unit => ([] : va_W))) (S := ()) C hG ⟨h.1, h.2⟩ dX0_hangsTogether_66
def w0_hangsTogether_d21 (K8 : Int64 → Int32 → Prop) (K21 : Int64 → Int32 → Prop) (x0 : Int64) (x2 : Int64) (x4 : Int32) (x5 : Int64) (x7 : Int32) (Q : Int32 → Prop) : Prop :=
  (((4 : Int32) ≤ x7 → ∀ y2 : Int64, y2 = (x5 &&& x0) → ∀ y3 : Int32, y3 = x4 + 1 → K8 y2 y3) ∧ (¬ (4 : Int32) ≤ x7 → w0_moved x2 x7 (fun r4 => ∀ y5 : Int64, y5 = (x5 ||| r4) → ∀ y6 : Int32, y6 = x7 + 1 → K21 y5 y6)))
set_option maxHeartbeats 4000000 in
set_option maxRecDepth 100000 in
theorem b0_hangsTogether_d21 {p : Program} {l : Launch} {e : Env} {s : State} {m : MethodId} {args : Array Value} {below : List Frame} {meth : Method} {c : Code} {D : va_G} {cy : Nat → ClassId} {A : Nat → Prop} {K8 : Int64 → Int32 → Prop} {K21 : Int64 → Int32 → Prop} (x0 : Int64) (x2 : Int64) (x4 : Int32) (x5 : Int64) (x7 : Int32) {Q : Int32 → Prop} (C : Cx p s m args meth c cX0_hangsTogether 8 (some .boolean) wsX0_hangsTogether RX0 D cy nestWs A) (hK8 : ∀ (x2 : Int64) (x4 : Int32) (H : Heap) (locs : List Loc) (ls : Array Slot), K8 x2 x4 → GW D A s (([] : va_W)) H locs → lv_has ls 8 [(0, .long x0), (2, .long x2), (4, .int x4)] → W p l e ({ frames := 1, cells := 0, slots := 0, locals := 22 } : Room) s m args below meth c H locs 0 0 (MQ below (va_Qi (fun r _ => Q r) (B1 D (fun _ : Unit => ([] : va_W)) A) A) args s 0 0 A) (F0 m 8 ls [])) (hK21 : ∀ (x5 : Int64) (x7 : Int32) (H : Heap) (locs : List Loc) (ls : Array Slot), K21 x5 x7 → GW D A s (([] : va_W)) H locs → lv_has ls 8 [(0, .long x0), (2, .long x2), (4, .int x4), (5, .long x5), (7, .int x7)] → W p l e ({ frames := 1, cells := 0, slots := 0, locals := 22 } : Room) s m args below meth c H locs 0 0 (MQ below (va_Qi (fun r _ => Q r) (B1 D (fun _ : Unit => ([] : va_W)) A) A) args s 0 0 A) (F0 m 21 ls [])) (h : w0_hangsTogether_d21 K8 K21 x0 x2 x4 x5 x7 Q) {H : Heap} {locs : List Loc} (hG : GW D A s (([] : va_W)) H locs) {ls : Array Slot} (hl : lv_has ls 8 [(0, .long x0), (2, .long x2), (4, .int x4), (5, .long x5), (7, .int x7)]) : W p l e ({ frames := 1, cells := 0, slots := 0, locals := 22 } : Room) s m args below meth c H locs 0 0 (MQ below (va_Qi (fun r _ => Q r) (B1 D (fun _ : Unit => ([] : va_W)) A) A) args s 0 0 A) (F0 m 21 ls []) := by
  have hx := C.1
  have hb := C.2.1
  unfold w0_hangsTogether_d21 at h
  refine lv_iload hx hb dX0_hangsTogether_21 (lv_at hl 4 rfl) ?_
  refine lv_iconst (v := 4) hx hb dX0_hangsTogether_23 (by decide) ?_
  refine lv_icmp_ge (tgt := 44) hx hb dX0_hangsTogether_24 (by decide) (fun c1 => ?_) (fun c1 => ?_)
  · replace h := h.1 c1
    refine lv_lload hx hb dX0_hangsTogether_44 (lv_at hl 3 rfl) ?_
    refine lv_lload_n hx hb dX0_hangsTogether_46 rfl (lv_at hl 0 rfl) ?_
    refine lv_land hx hb dX0_hangsTogether_47 ?_
    refine lv_topl (fun y2 ey2 => ?_)
    replace h := h y2 ey2
    refine lv_lstore_n (lv' := [(2, .long y2), (0, .long x0), (4, .int x4), (5, .long x5), (7, .int x7)]) hx hb dX0_hangsTogether_48 rfl hl (by decide) rfl (fun ls hl => ?_)
    obtain ⟨y3, ey3⟩ : ∃ y : Int32, y = x4 + 1 := ⟨_, rfl⟩
    replace h := h y3 ey3
    refine lv_iinc (v := y3) (lv' := [(4, .int y3), (2, .long y2), (0, .long x0), (5, .long x5), (7, .int x7)]) hx hb dX0_hangsTogether_49 hl (k := 2) rfl (by rw [ey3]; rfl) (by decide) rfl (fun ls hl => ?_)
    refine lv_goto (tgt := 8) hx hb dX0_hangsTogether_52 (by decide) ?_
    exact hK8 y2 y3 _ _ _ h hG (lv_sub hl [2, 1, 0] rfl)
  · replace h := h.2 c1
    refine lv_lload hx hb dX0_hangsTogether_27 (lv_at hl 3 rfl) ?_
    refine lv_lload_n hx hb dX0_hangsTogether_29 rfl (lv_at hl 1 rfl) ?_
    refine lv_iload hx hb dX0_hangsTogether_30 (lv_at hl 4 rfl) ?_
    refine callSL (As := [.long x2, .int x7]) (rest := [.long x5]) C hG (c0_moved l D cy x2 x7 _ h) 2 gX0_hangsTogether_X0_moved rfl (by decide +kernel) ⟨⟨Nat.le_of_ble_eq_true rfl, Nat.le_of_ble_eq_true rfl⟩, rfl, rfl⟩ (Foc.none C.2.2.2.2.2.2.2.2.1) rfl hl.1 rfl (Nat.le_of_ble_eq_true rfl) dX0_hangsTogether_32 ⟨Nat.zero_le _, Nat.zero_le _⟩ (fun r4 z H locs h hG => ?_)
    refine lv_lor hx hb dX0_hangsTogether_35 ?_
    refine lv_topl (fun y5 ey5 => ?_)
    replace h := h y5 ey5
    refine lv_lstore (lv' := [(5, .long y5), (0, .long x0), (2, .long x2), (4, .int x4), (7, .int x7)]) hx hb dX0_hangsTogether_36 hl (by decide) rfl (fun ls hl => ?_)
    obtain ⟨y6, ey6⟩ : ∃ y : Int32, y = x7 + 1 := ⟨_, rfl⟩
    replace h := h y6 ey6
    refine lv_iinc (v := y6) (lv' := [(7, .int y6), (5, .long y5), (0, .long x0), (2, .long x2), (4, .int x4)]) hx hb dX0_hangsTogether_38 hl (k := 4) rfl (by rw [ey6]; rfl) (by decide) rfl (fun ls hl => ?_)
    refine lv_goto (tgt := 21) hx hb dX0_hangsTogether_41 (by decide) ?_
    exact hK21 y5 y6 _ _ _ h hG (lv_sub hl [2, 3, 4, 1, 0] rfl)
def w0_hangsTogether_F21 (K8 : Int64 → Int32 → Prop) (x0 : Int64) (x2 : Int64) (x4 : Int32) (Q : Int32 → Prop) (K : Int64 × Int32 → Prop) (a : Int64 × Int32) : Prop := w0_hangsTogether_d21 K8 (fun y0 y1 => K (y0, y1)) x0 x2 x4 a.1 a.2 Q
def w0_hangsTogether_b21 (K8 : Int64 → Int32 → Prop) (x0 : Int64) (x2 : Int64) (x4 : Int32) (x5 : Int64) (x7 : Int32) (Q : Int32 → Prop) : Prop := lp (w0_hangsTogether_F21 K8 x0 x2 x4 Q) (x5, x7)
set_option maxHeartbeats 4000000 in
set_option maxRecDepth 100000 in
theorem b0_hangsTogether_b21 {p : Program} {l : Launch} {e : Env} {s : State} {m : MethodId} {args : Array Value} {below : List Frame} {meth : Method} {c : Code} {D : va_G} {cy : Nat → ClassId} {A : Nat → Prop} {K8 : Int64 → Int32 → Prop} (x0 : Int64) (x2 : Int64) (x4 : Int32) (x5 : Int64) (x7 : Int32) {Q : Int32 → Prop} (C : Cx p s m args meth c cX0_hangsTogether 8 (some .boolean) wsX0_hangsTogether RX0 D cy nestWs A) (hK8 : ∀ (x2 : Int64) (x4 : Int32) (H : Heap) (locs : List Loc) (ls : Array Slot), K8 x2 x4 → GW D A s (([] : va_W)) H locs → lv_has ls 8 [(0, .long x0), (2, .long x2), (4, .int x4)] → W p l e ({ frames := 1, cells := 0, slots := 0, locals := 22 } : Room) s m args below meth c H locs 0 0 (MQ below (va_Qi (fun r _ => Q r) (B1 D (fun _ : Unit => ([] : va_W)) A) A) args s 0 0 A) (F0 m 8 ls [])) (h : w0_hangsTogether_b21 K8 x0 x2 x4 x5 x7 Q) {H : Heap} {locs : List Loc} (hG : GW D A s (([] : va_W)) H locs) {ls : Array Slot} (hl : lv_has ls 8 [(0, .long x0), (2, .long x2), (4, .int x4), (5, .long x5), (7, .int x7)]) : W p l e ({ frames := 1, cells := 0, slots := 0, locals := 22 } : Room) s m args below meth c H locs 0 0 (MQ below (va_Qi (fun r _ => Q r) (B1 D (fun _ : Unit => ([] : va_W)) A) A) args s 0 0 A) (F0 m 21 ls []) := by
  obtain ⟨k, hn⟩ := h
  induction k generalizing x5 x7 H locs ls with
  | zero => exact hn.elim
  | succ k ih => exact b0_hangsTogether_d21 (K8 := K8) (K21 := fun y0 y1 => itr (w0_hangsTogether_F21 K8 x0 x2 x4 Q) k (y0, y1)) x0 x2 x4 x5 x7 C hK8 (fun x5 x7 H locs ls hk hG hl => ih x5 x7 hG hl hk) hn hG hl
def w0_hangsTogether_d8 (K8 : Int64 → Int32 → Prop) (x0 : Int64) (x2 : Int64) (x4 : Int32) (Q : Int32 → Prop) : Prop :=
  (((24 : Int32) ≤ x4 → ((¬ (lg_cmp x2 x0) = 0 → w0_hangsTogether_b66 (0 : Int32) Q) ∧ ((lg_cmp x2 x0) = 0 → w0_hangsTogether_b66 (1 : Int32) Q))) ∧ (¬ (24 : Int32) ≤ x4 → w0_hangsTogether_b21 K8 x0 x2 x4 x2 (0 : Int32) Q))
set_option maxHeartbeats 4000000 in
set_option maxRecDepth 100000 in
theorem b0_hangsTogether_d8 {p : Program} {l : Launch} {e : Env} {s : State} {m : MethodId} {args : Array Value} {below : List Frame} {meth : Method} {c : Code} {D : va_G} {cy : Nat → ClassId} {A : Nat → Prop} {K8 : Int64 → Int32 → Prop} (x0 : Int64) (x2 : Int64) (x4 : Int32) {Q : Int32 → Prop} (C : Cx p s m args meth c cX0_hangsTogether 8 (some .boolean) wsX0_hangsTogether RX0 D cy nestWs A) (hK8 : ∀ (x2 : Int64) (x4 : Int32) (H : Heap) (locs : List Loc) (ls : Array Slot), K8 x2 x4 → GW D A s (([] : va_W)) H locs → lv_has ls 8 [(0, .long x0), (2, .long x2), (4, .int x4)] → W p l e ({ frames := 1, cells := 0, slots := 0, locals := 22 } : Room) s m args below meth c H locs 0 0 (MQ below (va_Qi (fun r _ => Q r) (B1 D (fun _ : Unit => ([] : va_W)) A) A) args s 0 0 A) (F0 m 8 ls [])) (h : w0_hangsTogether_d8 K8 x0 x2 x4 Q) {H : Heap} {locs : List Loc} (hG : GW D A s (([] : va_W)) H locs) {ls : Array Slot} (hl : lv_has ls 8 [(0, .long x0), (2, .long x2), (4, .int x4)]) : W p l e ({ frames := 1, cells := 0, slots := 0, locals := 22 } : Room) s m args below meth c H locs 0 0 (MQ below (va_Qi (fun r _ => Q r) (B1 D (fun _ : Unit => ([] : va_W)) A) A) args s 0 0 A) (F0 m 8 ls []) := by
  have hx := C.1
  have hb := C.2.1
  unfold w0_hangsTogether_d8 at h
  refine lv_iload hx hb dX0_hangsTogether_8 (lv_at hl 2 rfl) ?_
  refine lv_bipush (v := 24) hx hb dX0_hangsTogether_10 (by decide) ?_
  refine lv_icmp_ge (tgt := 55) hx hb dX0_hangsTogether_12 (by decide) (fun c1 => ?_) (fun c1 => ?_)
  · replace h := h.1 c1
    refine lv_lload_n hx hb dX0_hangsTogether_55 rfl (lv_at hl 1 rfl) ?_
    refine lv_lload_n hx hb dX0_hangsTogether_56 rfl (lv_at hl 0 rfl) ?_
    refine W.lcmp hx hb dX0_hangsTogether_57 ?_
    refine lv_if_ne (tgt := 65) hx hb dX0_hangsTogether_58 (by decide) (fun c2 => ?_) (fun c2 => ?_)
    · replace h := h.1 c2
      refine lv_iconst (v := 0) hx hb dX0_hangsTogether_65 (by decide) ?_
      exact b0_hangsTogether_b66 (0 : Int32) C h hG (lv_sub hl [] rfl)
    · replace h := h.2 c2
      refine lv_iconst (v := 1) hx hb dX0_hangsTogether_61 (by decide) ?_
      refine lv_goto (tgt := 66) hx hb dX0_hangsTogether_62 (by decide) ?_
      exact b0_hangsTogether_b66 (1 : Int32) C h hG (lv_sub hl [] rfl)
  · replace h := h.2 c1
    refine lv_lload_n hx hb dX0_hangsTogether_15 rfl (lv_at hl 1 rfl) ?_
    refine lv_lstore (lv' := [(5, .long x2), (0, .long x0), (2, .long x2), (4, .int x4)]) hx hb dX0_hangsTogether_16 hl (by decide) rfl (fun ls hl => ?_)
    refine lv_iconst (v := 0) hx hb dX0_hangsTogether_18 (by decide) ?_
    refine lv_istore (lv' := [(7, .int (0 : Int32)), (5, .long x2), (0, .long x0), (2, .long x2), (4, .int x4)]) hx hb dX0_hangsTogether_19 hl (by decide) rfl (fun ls hl => ?_)
    exact b0_hangsTogether_b21 (K8 := K8) x0 x2 x4 x2 (0 : Int32) C hK8 h hG (lv_sub hl [2, 3, 4, 1, 0] rfl)
def w0_hangsTogether_F8 (x0 : Int64) (Q : Int32 → Prop) (K : Int64 × Int32 → Prop) (a : Int64 × Int32) : Prop := w0_hangsTogether_d8 (fun y0 y1 => K (y0, y1)) x0 a.1 a.2 Q
def w0_hangsTogether_b8 (x0 : Int64) (x2 : Int64) (x4 : Int32) (Q : Int32 → Prop) : Prop := lp (w0_hangsTogether_F8 x0 Q) (x2, x4)
set_option maxHeartbeats 4000000 in
set_option maxRecDepth 100000 in
theorem b0_hangsTogether_b8 {p : Program} {l : Launch} {e : Env} {s : State} {m : MethodId} {args : Array Value} {below : List Frame} {meth : Method} {c : Code} {D : va_G} {cy : Nat → ClassId} {A : Nat → Prop} (x0 : Int64) (x2 : Int64) (x4 : Int32) {Q : Int32 → Prop} (C : Cx p s m args meth c cX0_hangsTogether 8 (some .boolean) wsX0_hangsTogether RX0 D cy nestWs A) (h : w0_hangsTogether_b8 x0 x2 x4 Q) {H : Heap} {locs : List Loc} (hG : GW D A s (([] : va_W)) H locs) {ls : Array Slot} (hl : lv_has ls 8 [(0, .long x0), (2, .long x2), (4, .int x4)]) : W p l e ({ frames := 1, cells := 0, slots := 0, locals := 22 } : Room) s m args below meth c H locs 0 0 (MQ below (va_Qi (fun r _ => Q r) (B1 D (fun _ : Unit => ([] : va_W)) A) A) args s 0 0 A) (F0 m 8 ls []) := by
  obtain ⟨k, hn⟩ := h
  induction k generalizing x2 x4 H locs ls with
  | zero => exact hn.elim
  | succ k ih => exact b0_hangsTogether_d8 (K8 := fun y0 y1 => itr (w0_hangsTogether_F8 x0 Q) k (y0, y1)) x0 x2 x4 C (fun x2 x4 H locs ls hk hG hl => ih x2 x4 hG hl hk) hn hG hl
def w0_hangsTogether (x0 : Int64) (Q : Int32 → Prop) : Prop :=
  ∀ y1 : Int64, y1 = (x0 &&& (-x0)) → w0_hangsTogether_b8 x0 y1 (0 : Int32) Q
set_option maxHeartbeats 4000000 in
set_option maxRecDepth 100000 in
theorem c0_hangsTogether (l : Launch) (D : va_G) (cy : Nat → ClassId)  (x0 : Int64) (Q : Int32 → Prop) (h : w0_hangsTogether x0 Q) : MetI l yX0_hangsTogether wsX0_hangsTogether ({ frames := 1, cells := 0, slots := 0, locals := 22 } : Room) D cy nestWs (fun _ : Unit => ([] : va_W)) [.long x0] () (fun r _ => Q r) := by
  refine MetI.mk RX0 cX0_hangsTogether 8 .boolean (by decide) rfl nestWs_ok rfl (Nat.le_of_ble_eq_true rfl) ?_
  intro p e s m below meth c A ls C hG hl
  have hl : lv_has ls 8 [(0, .long x0)] := hl
  have hx := C.1
  have hb := C.2.1
  unfold w0_hangsTogether at h
  refine lv_lload_n hx hb dX0_hangsTogether_0 rfl (lv_at hl 0 rfl) ?_
  refine lv_lload_n hx hb dX0_hangsTogether_1 rfl (lv_at hl 0 rfl) ?_
  refine lv_lneg hx hb dX0_hangsTogether_2 ?_
  refine lv_land hx hb dX0_hangsTogether_3 ?_
  refine lv_topl (fun y1 ey1 => ?_)
  replace h := h y1 ey1
  refine lv_lstore_n (lv' := [(2, .long y1), (0, .long x0)]) hx hb dX0_hangsTogether_4 rfl hl (by decide) rfl (fun ls hl => ?_)
  refine lv_iconst (v := 0) hx hb dX0_hangsTogether_5 (by decide) ?_
  refine lv_istore (lv' := [(4, .int (0 : Int32)), (2, .long y1), (0, .long x0)]) hx hb dX0_hangsTogether_6 hl (by decide) rfl (fun ls hl => ?_)
  exact b0_hangsTogether_b8 x0 y1 (0 : Int32) C h hG (lv_sub hl [2, 1, 0] rfl)
-- X0_openEdges
theorem k0_openEdges_31 : Cond.constantLong RX0 31 (-1) ∈ wsX0_openEdges := (List.mem_cons_of_mem _ mw_22)
def w0_openEdges_d4 (K4 : Int32 → Int32 → Prop) (x0 : Int64) (x2 : Int32) (x3 : Int32) (Q : Int32 → Prop) : Prop :=
  (((4 : Int32) ≤ x3 → Q x2) ∧ (¬ (4 : Int32) ≤ x3 → w0_moved x0 x3 (fun r2 => w13_bitCount_95d88 (x0 &&& (r2 ^^^ (-1 : Int64))) (fun r3 => ∀ y4 : Int32, y4 = (x2 + r3) → ∀ y5 : Int32, y5 = x3 + 1 → K4 y4 y5))))
set_option maxHeartbeats 4000000 in
set_option maxRecDepth 100000 in
theorem b0_openEdges_d4 {p : Program} {l : Launch} {e : Env} {s : State} {m : MethodId} {args : Array Value} {below : List Frame} {meth : Method} {c : Code} {D : va_G} {cy : Nat → ClassId} {A : Nat → Prop} {K4 : Int32 → Int32 → Prop} (x0 : Int64) (x2 : Int32) (x3 : Int32) {Q : Int32 → Prop} (C : Cx p s m args meth c cX0_openEdges 4 (some .int) wsX0_openEdges RX0 D cy nestWs A) (hK4 : ∀ (x2 : Int32) (x3 : Int32) (H : Heap) (locs : List Loc) (ls : Array Slot), K4 x2 x3 → GW D A s (([] : va_W)) H locs → lv_has ls 4 [(0, .long x0), (2, .int x2), (3, .int x3)] → W p l e ({ frames := 1, cells := 0, slots := 0, locals := 22 } : Room) s m args below meth c H locs 0 0 (MQ below (va_Qi (fun r _ => Q r) (B1 D (fun _ : Unit => ([] : va_W)) A) A) args s 0 0 A) (F0 m 4 ls [])) (h : w0_openEdges_d4 K4 x0 x2 x3 Q) {H : Heap} {locs : List Loc} (hG : GW D A s (([] : va_W)) H locs) {ls : Array Slot} (hl : lv_has ls 4 [(0, .long x0), (2, .int x2), (3, .int x3)]) : W p l e ({ frames := 1, cells := 0, slots := 0, locals := 22 } : Room) s m args below meth c H locs 0 0 (MQ below (va_Qi (fun r _ => Q r) (B1 D (fun _ : Unit => ([] : va_W)) A) A) args s 0 0 A) (F0 m 4 ls []) := by
  have hx := C.1
  have hb := C.2.1
  unfold w0_openEdges_d4 at h
  refine lv_iload_n hx hb dX0_openEdges_4 rfl (lv_at hl 2 rfl) ?_
  refine lv_iconst (v := 4) hx hb dX0_openEdges_5 (by decide) ?_
  refine lv_icmp_ge (tgt := 32) hx hb dX0_openEdges_6 (by decide) (fun c1 => ?_) (fun c1 => ?_)
  · replace h := h.1 c1
    refine lv_iload_n hx hb dX0_openEdges_32 rfl (lv_at hl 1 rfl) ?_
    exact retI (w := (fun _ : Unit => ([] : va_W))) (S := ()) C hG h dX0_openEdges_33
  · replace h := h.2 c1
    refine lv_iload_n hx hb dX0_openEdges_9 rfl (lv_at hl 1 rfl) ?_
    refine lv_lload_n hx hb dX0_openEdges_10 rfl (lv_at hl 0 rfl) ?_
    refine lv_lload_n hx hb dX0_openEdges_11 rfl (lv_at hl 0 rfl) ?_
    refine lv_iload_n hx hb dX0_openEdges_12 rfl (lv_at hl 2 rfl) ?_
    refine callSL (As := [.long x0, .int x3]) (rest := [.long x0, .int x2]) C hG (c0_moved l D cy x0 x3 _ h) 2 gX0_openEdges_X0_moved rfl (by decide +kernel) ⟨⟨Nat.le_of_ble_eq_true rfl, Nat.le_of_ble_eq_true rfl⟩, rfl, rfl⟩ (Foc.none C.2.2.2.2.2.2.2.2.1) rfl hl.1 rfl (Nat.le_of_ble_eq_true rfl) dX0_openEdges_13 ⟨Nat.zero_le _, Nat.zero_le _⟩ (fun r2 z H locs h hG => ?_)
    refine lv_ldc2 (v := -1) hx hb C.2.2.2.1 (C.2.2.2.2.1 _ k0_openEdges_31) dX0_openEdges_16 ?_
    refine lv_lxor hx hb dX0_openEdges_19 ?_
    refine lv_land hx hb dX0_openEdges_20 ?_
    refine callSI (As := [.long (x0 &&& (r2 ^^^ (-1 : Int64)))]) (rest := [.int x2]) C hG (c13_bitCount_95d88 l D cy (x0 &&& (r2 ^^^ (-1 : Int64))) _ h) 1 gX0_openEdges_J13_bitCount_95d88 rfl (by decide +kernel) ⟨⟨Nat.le_of_ble_eq_true rfl, Nat.le_of_ble_eq_true rfl⟩, rfl, rfl⟩ (Foc.none C.2.2.2.2.2.2.2.2.1) rfl hl.1 rfl (Nat.le_of_ble_eq_true rfl) dX0_openEdges_21 ⟨Nat.zero_le _, Nat.zero_le _⟩ (fun r3 z H locs h hG => ?_)
    refine lv_iadd hx hb dX0_openEdges_24 ?_
    refine lv_topi (fun y4 ey4 => ?_)
    replace h := h y4 ey4
    refine lv_istore_n (lv' := [(2, .int y4), (0, .long x0), (3, .int x3)]) hx hb dX0_openEdges_25 rfl hl (by decide) rfl (fun ls hl => ?_)
    obtain ⟨y5, ey5⟩ : ∃ y : Int32, y = x3 + 1 := ⟨_, rfl⟩
    replace h := h y5 ey5
    refine lv_iinc (v := y5) (lv' := [(3, .int y5), (2, .int y4), (0, .long x0)]) hx hb dX0_openEdges_26 hl (k := 2) rfl (by rw [ey5]; rfl) (by decide) rfl (fun ls hl => ?_)
    refine lv_goto (tgt := 4) hx hb dX0_openEdges_29 (by decide) ?_
    exact hK4 y4 y5 _ _ _ h hG (lv_sub hl [2, 1, 0] rfl)
def w0_openEdges_F4 (x0 : Int64) (Q : Int32 → Prop) (K : Int32 × Int32 → Prop) (a : Int32 × Int32) : Prop := w0_openEdges_d4 (fun y0 y1 => K (y0, y1)) x0 a.1 a.2 Q
def w0_openEdges_b4 (x0 : Int64) (x2 : Int32) (x3 : Int32) (Q : Int32 → Prop) : Prop := lp (w0_openEdges_F4 x0 Q) (x2, x3)
set_option maxHeartbeats 4000000 in
set_option maxRecDepth 100000 in
theorem b0_openEdges_b4 {p : Program} {l : Launch} {e : Env} {s : State} {m : MethodId} {args : Array Value} {below : List Frame} {meth : Method} {c : Code} {D : va_G} {cy : Nat → ClassId} {A : Nat → Prop} (x0 : Int64) (x2 : Int32) (x3 : Int32) {Q : Int32 → Prop} (C : Cx p s m args meth c cX0_openEdges 4 (some .int) wsX0_openEdges RX0 D cy nestWs A) (h : w0_openEdges_b4 x0 x2 x3 Q) {H : Heap} {locs : List Loc} (hG : GW D A s (([] : va_W)) H locs) {ls : Array Slot} (hl : lv_has ls 4 [(0, .long x0), (2, .int x2), (3, .int x3)]) : W p l e ({ frames := 1, cells := 0, slots := 0, locals := 22 } : Room) s m args below meth c H locs 0 0 (MQ below (va_Qi (fun r _ => Q r) (B1 D (fun _ : Unit => ([] : va_W)) A) A) args s 0 0 A) (F0 m 4 ls []) := by
  obtain ⟨k, hn⟩ := h
  induction k generalizing x2 x3 H locs ls with
  | zero => exact hn.elim
  | succ k ih => exact b0_openEdges_d4 (K4 := fun y0 y1 => itr (w0_openEdges_F4 x0 Q) k (y0, y1)) x0 x2 x3 C (fun x2 x3 H locs ls hk hG hl => ih x2 x3 hG hl hk) hn hG hl
def w0_openEdges (x0 : Int64) (Q : Int32 → Prop) : Prop :=
  w0_openEdges_b4 x0 (0 : Int32) (0 : Int32) Q
set_option maxHeartbeats 4000000 in
set_option maxRecDepth 100000 in
theorem c0_openEdges (l : Launch) (D : va_G) (cy : Nat → ClassId)  (x0 : Int64) (Q : Int32 → Prop) (h : w0_openEdges x0 Q) : MetI l yX0_openEdges wsX0_openEdges ({ frames := 1, cells := 0, slots := 0, locals := 22 } : Room) D cy nestWs (fun _ : Unit => ([] : va_W)) [.long x0] () (fun r _ => Q r) := by
  refine MetI.mk RX0 cX0_openEdges 4 .int (by decide) rfl nestWs_ok rfl (Nat.le_of_ble_eq_true rfl) ?_
  intro p e s m below meth c A ls C hG hl
  have hl : lv_has ls 4 [(0, .long x0)] := hl
  have hx := C.1
  have hb := C.2.1
  unfold w0_openEdges at h
  refine lv_iconst (v := 0) hx hb dX0_openEdges_0 (by decide) ?_
  refine lv_istore_n (lv' := [(2, .int (0 : Int32)), (0, .long x0)]) hx hb dX0_openEdges_1 rfl hl (by decide) rfl (fun ls hl => ?_)
  refine lv_iconst (v := 0) hx hb dX0_openEdges_2 (by decide) ?_
  refine lv_istore_n (lv' := [(3, .int (0 : Int32)), (2, .int (0 : Int32)), (0, .long x0)]) hx hb dX0_openEdges_3 rfl hl (by decide) rfl (fun ls hl => ?_)
  exact b0_openEdges_b4 x0 (0 : Int32) (0 : Int32) C h hG (lv_sub hl [2, 1, 0] rfl)
-- X0_isLying
theorem k0_isLying_31 : Cond.constantLong RX0 31 (-1) ∈ wsX0_isLying := (List.mem_cons_of_mem _ mw_22)
theorem k0_isLying_36 : Cond.constantLong RX0 36 (255) ∈ wsX0_isLying := (List.mem_cons_of_mem _ mw_24)
def w0_isLying_b31 (t0 : Int32) (Q : Int32 → Prop) : Prop :=
  narrow .boolean (.int t0) = .int t0 ∧ Q t0
set_option maxHeartbeats 4000000 in
set_option maxRecDepth 100000 in
theorem b0_isLying_b31 {p : Program} {l : Launch} {e : Env} {s : State} {m : MethodId} {args : Array Value} {below : List Frame} {meth : Method} {c : Code} {D : va_G} {cy : Nat → ClassId} {A : Nat → Prop} (t0 : Int32) {Q : Int32 → Prop} (C : Cx p s m args meth c cX0_isLying 3 (some .boolean) wsX0_isLying RX0 D cy nestWs A) (h : w0_isLying_b31 t0 Q) {H : Heap} {locs : List Loc} (hG : GW D A s (([] : va_W)) H locs) {ls : Array Slot} (hl : lv_has ls 3 []) : W p l e ({ frames := 2, cells := 0, slots := 0, locals := 42 } : Room) s m args below meth c H locs 0 0 (MQ below (va_Qi (fun r _ => Q r) (B1 D (fun _ : Unit => ([] : va_W)) A) A) args s 0 0 A) (F0 m 31 ls [.int t0]) := by
  have hx := C.1
  have hb := C.2.1
  unfold w0_isLying_b31 at h
  exact retZ (w := (fun _ : Unit => ([] : va_W))) (S := ()) C hG ⟨h.1, h.2⟩ dX0_isLying_31
def w0_isLying (x0 : Int64) (Q : Int32 → Prop) : Prop :=
  w0_least x0 (fun r1 => ∀ y2 : Int32, y2 = (r1 >>> ((3 : Int32) &&& 31)) → ((¬ (lg_cmp (x0 &&& (((255 : Int64) <<< (((8 : Int32) * y2).toInt64 &&& 63)) ^^^ (-1 : Int64))) (0 : Int64)) = 0 → w0_isLying_b31 (0 : Int32) Q) ∧ ((lg_cmp (x0 &&& (((255 : Int64) <<< (((8 : Int32) * y2).toInt64 &&& 63)) ^^^ (-1 : Int64))) (0 : Int64)) = 0 → w0_isLying_b31 (1 : Int32) Q)))
set_option maxHeartbeats 4000000 in
set_option maxRecDepth 100000 in
theorem c0_isLying (l : Launch) (D : va_G) (cy : Nat → ClassId)  (x0 : Int64) (Q : Int32 → Prop) (h : w0_isLying x0 Q) : MetI l yX0_isLying wsX0_isLying ({ frames := 2, cells := 0, slots := 0, locals := 42 } : Room) D cy nestWs (fun _ : Unit => ([] : va_W)) [.long x0] () (fun r _ => Q r) := by
  refine MetI.mk RX0 cX0_isLying 3 .boolean (by decide) rfl nestWs_ok rfl (Nat.le_of_ble_eq_true rfl) ?_
  intro p e s m below meth c A ls C hG hl
  have hl : lv_has ls 3 [(0, .long x0)] := hl
  have hx := C.1
  have hb := C.2.1
  unfold w0_isLying at h
  refine lv_lload_n hx hb dX0_isLying_0 rfl (lv_at hl 0 rfl) ?_
  refine callSI (As := [.long x0]) (rest := []) C hG (c0_least l D cy x0 _ h) 1 gX0_isLying_X0_least rfl (by decide +kernel) ⟨⟨Nat.le_of_ble_eq_true rfl, Nat.le_of_ble_eq_true rfl⟩, rfl, rfl⟩ (Foc.none C.2.2.2.2.2.2.2.2.1) rfl hl.1 rfl (Nat.le_of_ble_eq_true rfl) dX0_isLying_1 ⟨Nat.zero_le _, Nat.zero_le _⟩ (fun r1 z H locs h hG => ?_)
  refine lv_iconst (v := 3) hx hb dX0_isLying_4 (by decide) ?_
  refine lv_ishr hx hb dX0_isLying_5 ?_
  refine lv_topi (fun y2 ey2 => ?_)
  replace h := h y2 ey2
  refine lv_istore_n (lv' := [(2, .int y2), (0, .long x0)]) hx hb dX0_isLying_6 rfl hl (by decide) rfl (fun ls hl => ?_)
  refine lv_lload_n hx hb dX0_isLying_7 rfl (lv_at hl 1 rfl) ?_
  refine lv_ldc2 (v := 255) hx hb C.2.2.2.1 (C.2.2.2.2.1 _ k0_isLying_36) dX0_isLying_8 ?_
  refine lv_bipush (v := 8) hx hb dX0_isLying_11 (by decide) ?_
  refine lv_iload_n hx hb dX0_isLying_13 rfl (lv_at hl 0 rfl) ?_
  refine lv_imul hx hb dX0_isLying_14 ?_
  refine lv_lshl hx hb dX0_isLying_15 rfl ?_
  refine lv_ldc2 (v := -1) hx hb C.2.2.2.1 (C.2.2.2.2.1 _ k0_isLying_31) dX0_isLying_16 ?_
  refine lv_lxor hx hb dX0_isLying_19 ?_
  refine lv_land hx hb dX0_isLying_20 ?_
  refine lv_lconst (v := 0) hx hb dX0_isLying_21 (by decide) ?_
  refine W.lcmp hx hb dX0_isLying_22 ?_
  refine lv_if_ne (tgt := 30) hx hb dX0_isLying_23 (by decide) (fun c3 => ?_) (fun c3 => ?_)
  · replace h := h.1 c3
    refine lv_iconst (v := 0) hx hb dX0_isLying_30 (by decide) ?_
    exact b0_isLying_b31 (0 : Int32) C h hG (lv_sub hl [] rfl)
  · replace h := h.2 c3
    refine lv_iconst (v := 1) hx hb dX0_isLying_26 (by decide) ?_
    refine lv_goto (tgt := 31) hx hb dX0_isLying_27 (by decide) ?_
    exact b0_isLying_b31 (1 : Int32) C h hG (lv_sub hl [] rfl)
-- X0_isStanding
theorem k0_isStanding_31 : Cond.constantLong RX0 31 (-1) ∈ wsX0_isStanding := (List.mem_cons_of_mem _ mw_22)
theorem k0_isStanding_38 : Cond.constantLong RX0 38 (72340172838076673) ∈ wsX0_isStanding := (List.mem_cons_of_mem _ mw_28)
def w0_isStanding_b29 (t0 : Int32) (Q : Int32 → Prop) : Prop :=
  narrow .boolean (.int t0) = .int t0 ∧ Q t0
set_option maxHeartbeats 4000000 in
set_option maxRecDepth 100000 in
theorem b0_isStanding_b29 {p : Program} {l : Launch} {e : Env} {s : State} {m : MethodId} {args : Array Value} {below : List Frame} {meth : Method} {c : Code} {D : va_G} {cy : Nat → ClassId} {A : Nat → Prop} (t0 : Int32) {Q : Int32 → Prop} (C : Cx p s m args meth c cX0_isStanding 3 (some .boolean) wsX0_isStanding RX0 D cy nestWs A) (h : w0_isStanding_b29 t0 Q) {H : Heap} {locs : List Loc} (hG : GW D A s (([] : va_W)) H locs) {ls : Array Slot} (hl : lv_has ls 3 []) : W p l e ({ frames := 2, cells := 0, slots := 0, locals := 42 } : Room) s m args below meth c H locs 0 0 (MQ below (va_Qi (fun r _ => Q r) (B1 D (fun _ : Unit => ([] : va_W)) A) A) args s 0 0 A) (F0 m 29 ls [.int t0]) := by
  have hx := C.1
  have hb := C.2.1
  unfold w0_isStanding_b29 at h
  exact retZ (w := (fun _ : Unit => ([] : va_W))) (S := ()) C hG ⟨h.1, h.2⟩ dX0_isStanding_29
def w0_isStanding (x0 : Int64) (Q : Int32 → Prop) : Prop :=
  w0_least x0 (fun r1 => ∀ y2 : Int32, y2 = (r1 &&& (7 : Int32)) → ((¬ (lg_cmp (x0 &&& (((72340172838076673 : Int64) <<< (y2.toInt64 &&& 63)) ^^^ (-1 : Int64))) (0 : Int64)) = 0 → w0_isStanding_b29 (0 : Int32) Q) ∧ ((lg_cmp (x0 &&& (((72340172838076673 : Int64) <<< (y2.toInt64 &&& 63)) ^^^ (-1 : Int64))) (0 : Int64)) = 0 → w0_isStanding_b29 (1 : Int32) Q)))
set_option maxHeartbeats 4000000 in
set_option maxRecDepth 100000 in
theorem c0_isStanding (l : Launch) (D : va_G) (cy : Nat → ClassId)  (x0 : Int64) (Q : Int32 → Prop) (h : w0_isStanding x0 Q) : MetI l yX0_isStanding wsX0_isStanding ({ frames := 2, cells := 0, slots := 0, locals := 42 } : Room) D cy nestWs (fun _ : Unit => ([] : va_W)) [.long x0] () (fun r _ => Q r) := by
  refine MetI.mk RX0 cX0_isStanding 3 .boolean (by decide) rfl nestWs_ok rfl (Nat.le_of_ble_eq_true rfl) ?_
  intro p e s m below meth c A ls C hG hl
  have hl : lv_has ls 3 [(0, .long x0)] := hl
  have hx := C.1
  have hb := C.2.1
  unfold w0_isStanding at h
  refine lv_lload_n hx hb dX0_isStanding_0 rfl (lv_at hl 0 rfl) ?_
  refine callSI (As := [.long x0]) (rest := []) C hG (c0_least l D cy x0 _ h) 1 gX0_isStanding_X0_least rfl (by decide +kernel) ⟨⟨Nat.le_of_ble_eq_true rfl, Nat.le_of_ble_eq_true rfl⟩, rfl, rfl⟩ (Foc.none C.2.2.2.2.2.2.2.2.1) rfl hl.1 rfl (Nat.le_of_ble_eq_true rfl) dX0_isStanding_1 ⟨Nat.zero_le _, Nat.zero_le _⟩ (fun r1 z H locs h hG => ?_)
  refine lv_bipush (v := 7) hx hb dX0_isStanding_4 (by decide) ?_
  refine lv_iand hx hb dX0_isStanding_6 ?_
  refine lv_topi (fun y2 ey2 => ?_)
  replace h := h y2 ey2
  refine lv_istore_n (lv' := [(2, .int y2), (0, .long x0)]) hx hb dX0_isStanding_7 rfl hl (by decide) rfl (fun ls hl => ?_)
  refine lv_lload_n hx hb dX0_isStanding_8 rfl (lv_at hl 1 rfl) ?_
  refine lv_ldc2 (v := 72340172838076673) hx hb C.2.2.2.1 (C.2.2.2.2.1 _ k0_isStanding_38) dX0_isStanding_9 ?_
  refine lv_iload_n hx hb dX0_isStanding_12 rfl (lv_at hl 0 rfl) ?_
  refine lv_lshl hx hb dX0_isStanding_13 rfl ?_
  refine lv_ldc2 (v := -1) hx hb C.2.2.2.1 (C.2.2.2.2.1 _ k0_isStanding_31) dX0_isStanding_14 ?_
  refine lv_lxor hx hb dX0_isStanding_17 ?_
  refine lv_land hx hb dX0_isStanding_18 ?_
  refine lv_lconst (v := 0) hx hb dX0_isStanding_19 (by decide) ?_
  refine W.lcmp hx hb dX0_isStanding_20 ?_
  refine lv_if_ne (tgt := 28) hx hb dX0_isStanding_21 (by decide) (fun c3 => ?_) (fun c3 => ?_)
  · replace h := h.1 c3
    refine lv_iconst (v := 0) hx hb dX0_isStanding_28 (by decide) ?_
    exact b0_isStanding_b29 (0 : Int32) C h hG (lv_sub hl [] rfl)
  · replace h := h.2 c3
    refine lv_iconst (v := 1) hx hb dX0_isStanding_24 (by decide) ?_
    refine lv_goto (tgt := 29) hx hb dX0_isStanding_25 (by decide) ?_
    exact b0_isStanding_b29 (1 : Int32) C h hG (lv_sub hl [] rfl)
-- X0_putDown
theorem k0_putDown_36 : Cond.constantLong RX0 36 (255) ∈ wsX0_putDown := (List.mem_cons_of_mem _ mw_24)
theorem k0_putDown_38 : Cond.constantLong RX0 38 (72340172838076673) ∈ wsX0_putDown := (List.mem_cons_of_mem _ mw_28)
def w0_putDown_b63 (x2 : Int64) (Q : Int64 → Prop) : Prop :=
  Q x2
set_option maxHeartbeats 4000000 in
set_option maxRecDepth 100000 in
theorem b0_putDown_b63 {p : Program} {l : Launch} {e : Env} {s : State} {m : MethodId} {args : Array Value} {below : List Frame} {meth : Method} {c : Code} {D : va_G} {cy : Nat → ClassId} {A : Nat → Prop} (x2 : Int64) {Q : Int64 → Prop} (C : Cx p s m args meth c cX0_putDown 5 (some .long) wsX0_putDown RX0 D cy nestWs A) (h : w0_putDown_b63 x2 Q) {H : Heap} {locs : List Loc} (hG : GW D A s (([] : va_W)) H locs) {ls : Array Slot} (hl : lv_has ls 5 [(2, .long x2)]) : W p l e ({ frames := 0, cells := 0, slots := 0, locals := 0 } : Room) s m args below meth c H locs 0 0 (MQ below (va_Ql (fun r _ => Q r) (B1 D (fun _ : Unit => ([] : va_W)) A) A) args s 0 0 A) (F0 m 63 ls []) := by
  have hx := C.1
  have hb := C.2.1
  unfold w0_putDown_b63 at h
  refine lv_lload_n hx hb dX0_putDown_63 rfl (lv_at hl 0 rfl) ?_
  exact retL (w := (fun _ : Unit => ([] : va_W))) (S := ()) C hG h dX0_putDown_64
def w0_putDown_d36 (K36 : Int64 → Int32 → Prop) (x2 : Int64) (x4 : Int32) (Q : Int64 → Prop) : Prop :=
  (((8 : Int32) ≤ x4 → w0_putDown_b63 x2 Q) ∧ (¬ (8 : Int32) ≤ x4 → ((¬ (lg_cmp (x2 &&& (72340172838076673 : Int64)) (0 : Int64)) = 0 → w0_putDown_b63 x2 Q) ∧ ((lg_cmp (x2 &&& (72340172838076673 : Int64)) (0 : Int64)) = 0 → ∀ y3 : Int64, y3 = (x2.toUInt64 >>> ((1 : Int32).toInt64.toUInt64 &&& Int64.toUInt64 63)).toInt64 → ∀ y4 : Int32, y4 = x4 + 1 → K36 y3 y4))))
set_option maxHeartbeats 4000000 in
set_option maxRecDepth 100000 in
theorem b0_putDown_d36 {p : Program} {l : Launch} {e : Env} {s : State} {m : MethodId} {args : Array Value} {below : List Frame} {meth : Method} {c : Code} {D : va_G} {cy : Nat → ClassId} {A : Nat → Prop} {K36 : Int64 → Int32 → Prop} (x2 : Int64) (x4 : Int32) {Q : Int64 → Prop} (C : Cx p s m args meth c cX0_putDown 5 (some .long) wsX0_putDown RX0 D cy nestWs A) (hK36 : ∀ (x2 : Int64) (x4 : Int32) (H : Heap) (locs : List Loc) (ls : Array Slot), K36 x2 x4 → GW D A s (([] : va_W)) H locs → lv_has ls 5 [(2, .long x2), (4, .int x4)] → W p l e ({ frames := 0, cells := 0, slots := 0, locals := 0 } : Room) s m args below meth c H locs 0 0 (MQ below (va_Ql (fun r _ => Q r) (B1 D (fun _ : Unit => ([] : va_W)) A) A) args s 0 0 A) (F0 m 36 ls [])) (h : w0_putDown_d36 K36 x2 x4 Q) {H : Heap} {locs : List Loc} (hG : GW D A s (([] : va_W)) H locs) {ls : Array Slot} (hl : lv_has ls 5 [(2, .long x2), (4, .int x4)]) : W p l e ({ frames := 0, cells := 0, slots := 0, locals := 0 } : Room) s m args below meth c H locs 0 0 (MQ below (va_Ql (fun r _ => Q r) (B1 D (fun _ : Unit => ([] : va_W)) A) A) args s 0 0 A) (F0 m 36 ls []) := by
  have hx := C.1
  have hb := C.2.1
  unfold w0_putDown_d36 at h
  refine lv_iload hx hb dX0_putDown_36 (lv_at hl 1 rfl) ?_
  refine lv_bipush (v := 8) hx hb dX0_putDown_38 (by decide) ?_
  refine lv_icmp_ge (tgt := 63) hx hb dX0_putDown_40 (by decide) (fun c1 => ?_) (fun c1 => ?_)
  · replace h := h.1 c1
    exact b0_putDown_b63 x2 C h hG (lv_sub hl [0] rfl)
  · replace h := h.2 c1
    refine lv_lload_n hx hb dX0_putDown_43 rfl (lv_at hl 0 rfl) ?_
    refine lv_ldc2 (v := 72340172838076673) hx hb C.2.2.2.1 (C.2.2.2.2.1 _ k0_putDown_38) dX0_putDown_44 ?_
    refine lv_land hx hb dX0_putDown_47 ?_
    refine lv_lconst (v := 0) hx hb dX0_putDown_48 (by decide) ?_
    refine W.lcmp hx hb dX0_putDown_49 ?_
    refine lv_if_ne (tgt := 63) hx hb dX0_putDown_50 (by decide) (fun c2 => ?_) (fun c2 => ?_)
    · replace h := h.1 c2
      exact b0_putDown_b63 x2 C h hG (lv_sub hl [0] rfl)
    · replace h := h.2 c2
      refine lv_lload_n hx hb dX0_putDown_53 rfl (lv_at hl 0 rfl) ?_
      refine lv_iconst (v := 1) hx hb dX0_putDown_54 (by decide) ?_
      refine lv_lushr hx hb dX0_putDown_55 rfl ?_
      refine lv_topl (fun y3 ey3 => ?_)
      replace h := h y3 ey3
      refine lv_lstore_n (lv' := [(2, .long y3), (4, .int x4)]) hx hb dX0_putDown_56 rfl hl (by decide) rfl (fun ls hl => ?_)
      obtain ⟨y4, ey4⟩ : ∃ y : Int32, y = x4 + 1 := ⟨_, rfl⟩
      replace h := h y4 ey4
      refine lv_iinc (v := y4) (lv' := [(4, .int y4), (2, .long y3)]) hx hb dX0_putDown_57 hl (k := 1) rfl (by rw [ey4]; rfl) (by decide) rfl (fun ls hl => ?_)
      refine lv_goto (tgt := 36) hx hb dX0_putDown_60 (by decide) ?_
      exact hK36 y3 y4 _ _ _ h hG (lv_sub hl [1, 0] rfl)
def w0_putDown_F36 (Q : Int64 → Prop) (K : Int64 × Int32 → Prop) (a : Int64 × Int32) : Prop := w0_putDown_d36 (fun y0 y1 => K (y0, y1)) a.1 a.2 Q
def w0_putDown_b36 (x2 : Int64) (x4 : Int32) (Q : Int64 → Prop) : Prop := lp (w0_putDown_F36 Q) (x2, x4)
set_option maxHeartbeats 4000000 in
set_option maxRecDepth 100000 in
theorem b0_putDown_b36 {p : Program} {l : Launch} {e : Env} {s : State} {m : MethodId} {args : Array Value} {below : List Frame} {meth : Method} {c : Code} {D : va_G} {cy : Nat → ClassId} {A : Nat → Prop} (x2 : Int64) (x4 : Int32) {Q : Int64 → Prop} (C : Cx p s m args meth c cX0_putDown 5 (some .long) wsX0_putDown RX0 D cy nestWs A) (h : w0_putDown_b36 x2 x4 Q) {H : Heap} {locs : List Loc} (hG : GW D A s (([] : va_W)) H locs) {ls : Array Slot} (hl : lv_has ls 5 [(2, .long x2), (4, .int x4)]) : W p l e ({ frames := 0, cells := 0, slots := 0, locals := 0 } : Room) s m args below meth c H locs 0 0 (MQ below (va_Ql (fun r _ => Q r) (B1 D (fun _ : Unit => ([] : va_W)) A) A) args s 0 0 A) (F0 m 36 ls []) := by
  obtain ⟨k, hn⟩ := h
  induction k generalizing x2 x4 H locs ls with
  | zero => exact hn.elim
  | succ k ih => exact b0_putDown_d36 (K36 := fun y0 y1 => itr (w0_putDown_F36 Q) k (y0, y1)) x2 x4 C (fun x2 x4 H locs ls hk hG hl => ih x2 x4 hG hl hk) hn hG hl
def w0_putDown_b33 (x2 : Int64) (Q : Int64 → Prop) : Prop :=
  w0_putDown_b36 x2 (1 : Int32) Q
set_option maxHeartbeats 4000000 in
set_option maxRecDepth 100000 in
theorem b0_putDown_b33 {p : Program} {l : Launch} {e : Env} {s : State} {m : MethodId} {args : Array Value} {below : List Frame} {meth : Method} {c : Code} {D : va_G} {cy : Nat → ClassId} {A : Nat → Prop} (x2 : Int64) {Q : Int64 → Prop} (C : Cx p s m args meth c cX0_putDown 5 (some .long) wsX0_putDown RX0 D cy nestWs A) (h : w0_putDown_b33 x2 Q) {H : Heap} {locs : List Loc} (hG : GW D A s (([] : va_W)) H locs) {ls : Array Slot} (hl : lv_has ls 5 [(2, .long x2)]) : W p l e ({ frames := 0, cells := 0, slots := 0, locals := 0 } : Room) s m args below meth c H locs 0 0 (MQ below (va_Ql (fun r _ => Q r) (B1 D (fun _ : Unit => ([] : va_W)) A) A) args s 0 0 A) (F0 m 33 ls []) := by
  have hx := C.1
  have hb := C.2.1
  unfold w0_putDown_b33 at h
  refine lv_iconst (v := 1) hx hb dX0_putDown_33 (by decide) ?_
  refine lv_istore (lv' := [(4, .int (1 : Int32)), (2, .long x2)]) hx hb dX0_putDown_34 hl (by decide) rfl (fun ls hl => ?_)
  exact b0_putDown_b36 x2 (1 : Int32) C h hG (lv_sub hl [1, 0] rfl)
def w0_putDown_d5 (K5 : Int64 → Int32 → Prop) (x2 : Int64) (x4 : Int32) (Q : Int64 → Prop) : Prop :=
  (((8 : Int32) ≤ x4 → w0_putDown_b33 x2 Q) ∧ (¬ (8 : Int32) ≤ x4 → ((¬ (lg_cmp (x2 &&& (255 : Int64)) (0 : Int64)) = 0 → w0_putDown_b33 x2 Q) ∧ ((lg_cmp (x2 &&& (255 : Int64)) (0 : Int64)) = 0 → ∀ y3 : Int64, y3 = (x2.toUInt64 >>> ((8 : Int32).toInt64.toUInt64 &&& Int64.toUInt64 63)).toInt64 → ∀ y4 : Int32, y4 = x4 + 1 → K5 y3 y4))))
set_option maxHeartbeats 4000000 in
set_option maxRecDepth 100000 in
theorem b0_putDown_d5 {p : Program} {l : Launch} {e : Env} {s : State} {m : MethodId} {args : Array Value} {below : List Frame} {meth : Method} {c : Code} {D : va_G} {cy : Nat → ClassId} {A : Nat → Prop} {K5 : Int64 → Int32 → Prop} (x2 : Int64) (x4 : Int32) {Q : Int64 → Prop} (C : Cx p s m args meth c cX0_putDown 5 (some .long) wsX0_putDown RX0 D cy nestWs A) (hK5 : ∀ (x2 : Int64) (x4 : Int32) (H : Heap) (locs : List Loc) (ls : Array Slot), K5 x2 x4 → GW D A s (([] : va_W)) H locs → lv_has ls 5 [(2, .long x2), (4, .int x4)] → W p l e ({ frames := 0, cells := 0, slots := 0, locals := 0 } : Room) s m args below meth c H locs 0 0 (MQ below (va_Ql (fun r _ => Q r) (B1 D (fun _ : Unit => ([] : va_W)) A) A) args s 0 0 A) (F0 m 5 ls [])) (h : w0_putDown_d5 K5 x2 x4 Q) {H : Heap} {locs : List Loc} (hG : GW D A s (([] : va_W)) H locs) {ls : Array Slot} (hl : lv_has ls 5 [(2, .long x2), (4, .int x4)]) : W p l e ({ frames := 0, cells := 0, slots := 0, locals := 0 } : Room) s m args below meth c H locs 0 0 (MQ below (va_Ql (fun r _ => Q r) (B1 D (fun _ : Unit => ([] : va_W)) A) A) args s 0 0 A) (F0 m 5 ls []) := by
  have hx := C.1
  have hb := C.2.1
  unfold w0_putDown_d5 at h
  refine lv_iload hx hb dX0_putDown_5 (lv_at hl 1 rfl) ?_
  refine lv_bipush (v := 8) hx hb dX0_putDown_7 (by decide) ?_
  refine lv_icmp_ge (tgt := 33) hx hb dX0_putDown_9 (by decide) (fun c1 => ?_) (fun c1 => ?_)
  · replace h := h.1 c1
    exact b0_putDown_b33 x2 C h hG (lv_sub hl [0] rfl)
  · replace h := h.2 c1
    refine lv_lload_n hx hb dX0_putDown_12 rfl (lv_at hl 0 rfl) ?_
    refine lv_ldc2 (v := 255) hx hb C.2.2.2.1 (C.2.2.2.2.1 _ k0_putDown_36) dX0_putDown_13 ?_
    refine lv_land hx hb dX0_putDown_16 ?_
    refine lv_lconst (v := 0) hx hb dX0_putDown_17 (by decide) ?_
    refine W.lcmp hx hb dX0_putDown_18 ?_
    refine lv_if_ne (tgt := 33) hx hb dX0_putDown_19 (by decide) (fun c2 => ?_) (fun c2 => ?_)
    · replace h := h.1 c2
      exact b0_putDown_b33 x2 C h hG (lv_sub hl [0] rfl)
    · replace h := h.2 c2
      refine lv_lload_n hx hb dX0_putDown_22 rfl (lv_at hl 0 rfl) ?_
      refine lv_bipush (v := 8) hx hb dX0_putDown_23 (by decide) ?_
      refine lv_lushr hx hb dX0_putDown_25 rfl ?_
      refine lv_topl (fun y3 ey3 => ?_)
      replace h := h y3 ey3
      refine lv_lstore_n (lv' := [(2, .long y3), (4, .int x4)]) hx hb dX0_putDown_26 rfl hl (by decide) rfl (fun ls hl => ?_)
      obtain ⟨y4, ey4⟩ : ∃ y : Int32, y = x4 + 1 := ⟨_, rfl⟩
      replace h := h y4 ey4
      refine lv_iinc (v := y4) (lv' := [(4, .int y4), (2, .long y3)]) hx hb dX0_putDown_27 hl (k := 1) rfl (by rw [ey4]; rfl) (by decide) rfl (fun ls hl => ?_)
      refine lv_goto (tgt := 5) hx hb dX0_putDown_30 (by decide) ?_
      exact hK5 y3 y4 _ _ _ h hG (lv_sub hl [1, 0] rfl)
def w0_putDown_F5 (Q : Int64 → Prop) (K : Int64 × Int32 → Prop) (a : Int64 × Int32) : Prop := w0_putDown_d5 (fun y0 y1 => K (y0, y1)) a.1 a.2 Q
def w0_putDown_b5 (x2 : Int64) (x4 : Int32) (Q : Int64 → Prop) : Prop := lp (w0_putDown_F5 Q) (x2, x4)
set_option maxHeartbeats 4000000 in
set_option maxRecDepth 100000 in
theorem b0_putDown_b5 {p : Program} {l : Launch} {e : Env} {s : State} {m : MethodId} {args : Array Value} {below : List Frame} {meth : Method} {c : Code} {D : va_G} {cy : Nat → ClassId} {A : Nat → Prop} (x2 : Int64) (x4 : Int32) {Q : Int64 → Prop} (C : Cx p s m args meth c cX0_putDown 5 (some .long) wsX0_putDown RX0 D cy nestWs A) (h : w0_putDown_b5 x2 x4 Q) {H : Heap} {locs : List Loc} (hG : GW D A s (([] : va_W)) H locs) {ls : Array Slot} (hl : lv_has ls 5 [(2, .long x2), (4, .int x4)]) : W p l e ({ frames := 0, cells := 0, slots := 0, locals := 0 } : Room) s m args below meth c H locs 0 0 (MQ below (va_Ql (fun r _ => Q r) (B1 D (fun _ : Unit => ([] : va_W)) A) A) args s 0 0 A) (F0 m 5 ls []) := by
  obtain ⟨k, hn⟩ := h
  induction k generalizing x2 x4 H locs ls with
  | zero => exact hn.elim
  | succ k ih => exact b0_putDown_d5 (K5 := fun y0 y1 => itr (w0_putDown_F5 Q) k (y0, y1)) x2 x4 C (fun x2 x4 H locs ls hk hG hl => ih x2 x4 hG hl hk) hn hG hl
def w0_putDown (x0 : Int64) (Q : Int64 → Prop) : Prop :=
  w0_putDown_b5 x0 (1 : Int32) Q
set_option maxHeartbeats 4000000 in
set_option maxRecDepth 100000 in
theorem c0_putDown (l : Launch) (D : va_G) (cy : Nat → ClassId)  (x0 : Int64) (Q : Int64 → Prop) (h : w0_putDown x0 Q) : MetL l yX0_putDown wsX0_putDown ({ frames := 0, cells := 0, slots := 0, locals := 0 } : Room) D cy nestWs (fun _ : Unit => ([] : va_W)) [.long x0] () (fun r _ => Q r) := by
  refine MetL.mk RX0 cX0_putDown 5 (by decide) rfl nestWs_ok rfl (Nat.le_of_ble_eq_true rfl) ?_
  intro p e s m below meth c A ls C hG hl
  have hl : lv_has ls 5 [(0, .long x0)] := hl
  have hx := C.1
  have hb := C.2.1
  unfold w0_putDown at h
  refine lv_lload_n hx hb dX0_putDown_0 rfl (lv_at hl 0 rfl) ?_
  refine lv_lstore_n (lv' := [(2, .long x0), (0, .long x0)]) hx hb dX0_putDown_1 rfl hl (by decide) rfl (fun ls hl => ?_)
  refine lv_iconst (v := 1) hx hb dX0_putDown_2 (by decide) ?_
  refine lv_istore (lv' := [(4, .int (1 : Int32)), (2, .long x0), (0, .long x0)]) hx hb dX0_putDown_3 hl (by decide) rfl (fun ls hl => ?_)
  exact b0_putDown_b5 x0 (1 : Int32) C h hG (lv_sub hl [1, 0] rfl)
-- X0_turned
def w0_turned_b72 (K5 : Int64 → Int32 → Prop) (x0 : Int64) (x2 : Int32) (x3 : Int64) (x5 : Int32) (Q : Int64 → Prop) : Prop :=
  ∀ y1 : Int32, y1 = x5 + 1 → K5 x3 y1
set_option maxHeartbeats 4000000 in
set_option maxRecDepth 100000 in
theorem b0_turned_b72 {p : Program} {l : Launch} {e : Env} {s : State} {m : MethodId} {args : Array Value} {below : List Frame} {meth : Method} {c : Code} {D : va_G} {cy : Nat → ClassId} {A : Nat → Prop} {K5 : Int64 → Int32 → Prop} (x0 : Int64) (x2 : Int32) (x3 : Int64) (x5 : Int32) {Q : Int64 → Prop} (C : Cx p s m args meth c cX0_turned 9 (some .long) wsX0_turned RX0 D cy nestWs A) (hK5 : ∀ (x3 : Int64) (x5 : Int32) (H : Heap) (locs : List Loc) (ls : Array Slot), K5 x3 x5 → GW D A s (([] : va_W)) H locs → lv_has ls 9 [(0, .long x0), (2, .int x2), (3, .long x3), (5, .int x5)] → W p l e ({ frames := 1, cells := 0, slots := 0, locals := 24 } : Room) s m args below meth c H locs 0 0 (MQ below (va_Ql (fun r _ => Q r) (B1 D (fun _ : Unit => ([] : va_W)) A) A) args s 0 0 A) (F0 m 5 ls [])) (h : w0_turned_b72 K5 x0 x2 x3 x5 Q) {H : Heap} {locs : List Loc} (hG : GW D A s (([] : va_W)) H locs) {ls : Array Slot} (hl : lv_has ls 9 [(0, .long x0), (2, .int x2), (3, .long x3), (5, .int x5)]) : W p l e ({ frames := 1, cells := 0, slots := 0, locals := 24 } : Room) s m args below meth c H locs 0 0 (MQ below (va_Ql (fun r _ => Q r) (B1 D (fun _ : Unit => ([] : va_W)) A) A) args s 0 0 A) (F0 m 72 ls []) := by
  have hx := C.1
  have hb := C.2.1
  unfold w0_turned_b72 at h
  obtain ⟨y1, ey1⟩ : ∃ y : Int32, y = x5 + 1 := ⟨_, rfl⟩
  replace h := h y1 ey1
  refine lv_iinc (v := y1) (lv' := [(5, .int y1), (0, .long x0), (2, .int x2), (3, .long x3)]) hx hb dX0_turned_72 hl (k := 3) rfl (by rw [ey1]; rfl) (by decide) rfl (fun ls hl => ?_)
  refine lv_goto (tgt := 5) hx hb dX0_turned_75 (by decide) ?_
  exact hK5 x3 y1 _ _ _ h hG (lv_sub hl [1, 2, 3, 0] rfl)
def w0_turned_b63 (K5 : Int64 → Int32 → Prop) (x0 : Int64) (x2 : Int32) (x3 : Int64) (x5 : Int32) (t0 : Int32) (Q : Int64 → Prop) : Prop :=
  ∀ y1 : Int64, y1 = (x3 ||| ((1 : Int64) <<< (t0.toInt64 &&& 63))) → w0_turned_b72 K5 x0 x2 y1 x5 Q
set_option maxHeartbeats 4000000 in
set_option maxRecDepth 100000 in
theorem b0_turned_b63 {p : Program} {l : Launch} {e : Env} {s : State} {m : MethodId} {args : Array Value} {below : List Frame} {meth : Method} {c : Code} {D : va_G} {cy : Nat → ClassId} {A : Nat → Prop} {K5 : Int64 → Int32 → Prop} (x0 : Int64) (x2 : Int32) (x3 : Int64) (x5 : Int32) (t0 : Int32) {Q : Int64 → Prop} (C : Cx p s m args meth c cX0_turned 9 (some .long) wsX0_turned RX0 D cy nestWs A) (hK5 : ∀ (x3 : Int64) (x5 : Int32) (H : Heap) (locs : List Loc) (ls : Array Slot), K5 x3 x5 → GW D A s (([] : va_W)) H locs → lv_has ls 9 [(0, .long x0), (2, .int x2), (3, .long x3), (5, .int x5)] → W p l e ({ frames := 1, cells := 0, slots := 0, locals := 24 } : Room) s m args below meth c H locs 0 0 (MQ below (va_Ql (fun r _ => Q r) (B1 D (fun _ : Unit => ([] : va_W)) A) A) args s 0 0 A) (F0 m 5 ls [])) (h : w0_turned_b63 K5 x0 x2 x3 x5 t0 Q) {H : Heap} {locs : List Loc} (hG : GW D A s (([] : va_W)) H locs) {ls : Array Slot} (hl : lv_has ls 9 [(0, .long x0), (2, .int x2), (3, .long x3), (5, .int x5)]) : W p l e ({ frames := 1, cells := 0, slots := 0, locals := 24 } : Room) s m args below meth c H locs 0 0 (MQ below (va_Ql (fun r _ => Q r) (B1 D (fun _ : Unit => ([] : va_W)) A) A) args s 0 0 A) (F0 m 63 ls [.int t0]) := by
  have hx := C.1
  have hb := C.2.1
  unfold w0_turned_b63 at h
  refine lv_istore (lv' := [(8, .int t0), (0, .long x0), (2, .int x2), (3, .long x3), (5, .int x5)]) hx hb dX0_turned_63 hl (by decide) rfl (fun ls hl => ?_)
  refine lv_lload_n hx hb dX0_turned_65 rfl (lv_at hl 3 rfl) ?_
  refine lv_lconst (v := 1) hx hb dX0_turned_66 (by decide) ?_
  refine lv_iload hx hb dX0_turned_67 (lv_at hl 0 rfl) ?_
  refine lv_lshl hx hb dX0_turned_69 rfl ?_
  refine lv_lor hx hb dX0_turned_70 ?_
  refine lv_topl (fun y1 ey1 => ?_)
  replace h := h y1 ey1
  refine lv_lstore_n (lv' := [(3, .long y1), (8, .int t0), (0, .long x0), (2, .int x2), (5, .int x5)]) hx hb dX0_turned_71 rfl hl (by decide) rfl (fun ls hl => ?_)
  exact b0_turned_b72 (K5 := K5) x0 x2 y1 x5 C hK5 h hG (lv_sub hl [2, 3, 0, 4] rfl)
def w0_turned_d5 (K5 : Int64 → Int32 → Prop) (x0 : Int64) (x2 : Int32) (x3 : Int64) (x5 : Int32) (Q : Int64 → Prop) : Prop :=
  (((64 : Int32) ≤ x5 → w0_putDown x3 (fun r2 => Q r2)) ∧ (¬ (64 : Int32) ≤ x5 → w0_has x0 x5 (fun r3 => ((r3 = 0 → w0_turned_b72 K5 x0 x2 x3 x5 Q) ∧ (¬ r3 = 0 → ∀ y5 : Int32, y5 = (x5 &&& (7 : Int32)) → ∀ y6 : Int32, y6 = (x5 >>> ((3 : Int32) &&& 31)) → ((x2 = 0 → w0_turned_b63 K5 x0 x2 x3 x5 ((((8 : Int32) * y5) + (7 : Int32)) - y6) Q) ∧ (¬ x2 = 0 → w0_turned_b63 K5 x0 x2 x3 x5 ((((8 : Int32) * y6) + (7 : Int32)) - y5) Q)))))))
set_option maxHeartbeats 4000000 in
set_option maxRecDepth 100000 in
theorem b0_turned_d5 {p : Program} {l : Launch} {e : Env} {s : State} {m : MethodId} {args : Array Value} {below : List Frame} {meth : Method} {c : Code} {D : va_G} {cy : Nat → ClassId} {A : Nat → Prop} {K5 : Int64 → Int32 → Prop} (x0 : Int64) (x2 : Int32) (x3 : Int64) (x5 : Int32) {Q : Int64 → Prop} (C : Cx p s m args meth c cX0_turned 9 (some .long) wsX0_turned RX0 D cy nestWs A) (hK5 : ∀ (x3 : Int64) (x5 : Int32) (H : Heap) (locs : List Loc) (ls : Array Slot), K5 x3 x5 → GW D A s (([] : va_W)) H locs → lv_has ls 9 [(0, .long x0), (2, .int x2), (3, .long x3), (5, .int x5)] → W p l e ({ frames := 1, cells := 0, slots := 0, locals := 24 } : Room) s m args below meth c H locs 0 0 (MQ below (va_Ql (fun r _ => Q r) (B1 D (fun _ : Unit => ([] : va_W)) A) A) args s 0 0 A) (F0 m 5 ls [])) (h : w0_turned_d5 K5 x0 x2 x3 x5 Q) {H : Heap} {locs : List Loc} (hG : GW D A s (([] : va_W)) H locs) {ls : Array Slot} (hl : lv_has ls 9 [(0, .long x0), (2, .int x2), (3, .long x3), (5, .int x5)]) : W p l e ({ frames := 1, cells := 0, slots := 0, locals := 24 } : Room) s m args below meth c H locs 0 0 (MQ below (va_Ql (fun r _ => Q r) (B1 D (fun _ : Unit => ([] : va_W)) A) A) args s 0 0 A) (F0 m 5 ls []) := by
  have hx := C.1
  have hb := C.2.1
  unfold w0_turned_d5 at h
  refine lv_iload hx hb dX0_turned_5 (lv_at hl 3 rfl) ?_
  refine lv_bipush (v := 64) hx hb dX0_turned_7 (by decide) ?_
  refine lv_icmp_ge (tgt := 78) hx hb dX0_turned_9 (by decide) (fun c1 => ?_) (fun c1 => ?_)
  · replace h := h.1 c1
    refine lv_lload_n hx hb dX0_turned_78 rfl (lv_at hl 2 rfl) ?_
    refine callSL (As := [.long x3]) (rest := []) C hG (c0_putDown l D cy x3 _ h) 1 gX0_turned_X0_putDown rfl (by decide +kernel) ⟨⟨Nat.le_of_ble_eq_true rfl, Nat.le_of_ble_eq_true rfl⟩, rfl, rfl⟩ (Foc.none C.2.2.2.2.2.2.2.2.1) rfl hl.1 rfl (Nat.le_of_ble_eq_true rfl) dX0_turned_79 ⟨Nat.zero_le _, Nat.zero_le _⟩ (fun r2 z H locs h hG => ?_)
    exact retL (w := (fun _ : Unit => ([] : va_W))) (S := ()) C hG h dX0_turned_82
  · replace h := h.2 c1
    refine lv_lload_n hx hb dX0_turned_12 rfl (lv_at hl 0 rfl) ?_
    refine lv_iload hx hb dX0_turned_13 (lv_at hl 3 rfl) ?_
    refine callSI (As := [.long x0, .int x5]) (rest := []) C hG (c0_has l D cy x0 x5 _ h) 2 gX0_turned_X0_has rfl (by decide +kernel) ⟨⟨Nat.le_of_ble_eq_true rfl, Nat.le_of_ble_eq_true rfl⟩, rfl, rfl⟩ (Foc.none C.2.2.2.2.2.2.2.2.1) rfl hl.1 rfl (Nat.le_of_ble_eq_true rfl) dX0_turned_15 ⟨Nat.zero_le _, Nat.zero_le _⟩ (fun r3 z H locs h hG => ?_)
    refine lv_if_eq (tgt := 72) hx hb dX0_turned_18 (by decide) (fun c4 => ?_) (fun c4 => ?_)
    · replace h := h.1 c4
      exact b0_turned_b72 (K5 := K5) x0 x2 x3 x5 C hK5 h hG hl
    · replace h := h.2 c4
      refine lv_iload hx hb dX0_turned_21 (lv_at hl 3 rfl) ?_
      refine lv_bipush (v := 7) hx hb dX0_turned_23 (by decide) ?_
      refine lv_iand hx hb dX0_turned_25 ?_
      refine lv_topi (fun y5 ey5 => ?_)
      replace h := h y5 ey5
      refine lv_istore (lv' := [(6, .int y5), (0, .long x0), (2, .int x2), (3, .long x3), (5, .int x5)]) hx hb dX0_turned_26 hl (by decide) rfl (fun ls hl => ?_)
      refine lv_iload hx hb dX0_turned_28 (lv_at hl 4 rfl) ?_
      refine lv_iconst (v := 3) hx hb dX0_turned_30 (by decide) ?_
      refine lv_ishr hx hb dX0_turned_31 ?_
      refine lv_topi (fun y6 ey6 => ?_)
      replace h := h y6 ey6
      refine lv_istore (lv' := [(7, .int y6), (6, .int y5), (0, .long x0), (2, .int x2), (3, .long x3), (5, .int x5)]) hx hb dX0_turned_32 hl (by decide) rfl (fun ls hl => ?_)
      refine lv_iload_n hx hb dX0_turned_34 rfl (lv_at hl 3 rfl) ?_
      refine lv_if_eq (tgt := 52) hx hb dX0_turned_35 (by decide) (fun c7 => ?_) (fun c7 => ?_)
      · replace h := h.1 c7
        refine lv_bipush (v := 8) hx hb dX0_turned_52 (by decide) ?_
        refine lv_iload hx hb dX0_turned_54 (lv_at hl 1 rfl) ?_
        refine lv_imul hx hb dX0_turned_56 ?_
        refine lv_bipush (v := 7) hx hb dX0_turned_57 (by decide) ?_
        refine lv_iadd hx hb dX0_turned_59 ?_
        refine lv_iload hx hb dX0_turned_60 (lv_at hl 0 rfl) ?_
        refine lv_isub hx hb dX0_turned_62 ?_
        exact b0_turned_b63 (K5 := K5) x0 x2 x3 x5 ((((8 : Int32) * y5) + (7 : Int32)) - y6) C hK5 h hG (lv_sub hl [2, 3, 4, 5] rfl)
      · replace h := h.2 c7
        refine lv_bipush (v := 8) hx hb dX0_turned_38 (by decide) ?_
        refine lv_iload hx hb dX0_turned_40 (lv_at hl 0 rfl) ?_
        refine lv_imul hx hb dX0_turned_42 ?_
        refine lv_bipush (v := 7) hx hb dX0_turned_43 (by decide) ?_
        refine lv_iadd hx hb dX0_turned_45 ?_
        refine lv_iload hx hb dX0_turned_46 (lv_at hl 1 rfl) ?_
        refine lv_isub hx hb dX0_turned_48 ?_
        refine lv_goto (tgt := 63) hx hb dX0_turned_49 (by decide) ?_
        exact b0_turned_b63 (K5 := K5) x0 x2 x3 x5 ((((8 : Int32) * y6) + (7 : Int32)) - y5) C hK5 h hG (lv_sub hl [2, 3, 4, 5] rfl)
def w0_turned_F5 (x0 : Int64) (x2 : Int32) (Q : Int64 → Prop) (K : Int64 × Int32 → Prop) (a : Int64 × Int32) : Prop := w0_turned_d5 (fun y0 y1 => K (y0, y1)) x0 x2 a.1 a.2 Q
def w0_turned_b5 (x0 : Int64) (x2 : Int32) (x3 : Int64) (x5 : Int32) (Q : Int64 → Prop) : Prop := lp (w0_turned_F5 x0 x2 Q) (x3, x5)
set_option maxHeartbeats 4000000 in
set_option maxRecDepth 100000 in
theorem b0_turned_b5 {p : Program} {l : Launch} {e : Env} {s : State} {m : MethodId} {args : Array Value} {below : List Frame} {meth : Method} {c : Code} {D : va_G} {cy : Nat → ClassId} {A : Nat → Prop} (x0 : Int64) (x2 : Int32) (x3 : Int64) (x5 : Int32) {Q : Int64 → Prop} (C : Cx p s m args meth c cX0_turned 9 (some .long) wsX0_turned RX0 D cy nestWs A) (h : w0_turned_b5 x0 x2 x3 x5 Q) {H : Heap} {locs : List Loc} (hG : GW D A s (([] : va_W)) H locs) {ls : Array Slot} (hl : lv_has ls 9 [(0, .long x0), (2, .int x2), (3, .long x3), (5, .int x5)]) : W p l e ({ frames := 1, cells := 0, slots := 0, locals := 24 } : Room) s m args below meth c H locs 0 0 (MQ below (va_Ql (fun r _ => Q r) (B1 D (fun _ : Unit => ([] : va_W)) A) A) args s 0 0 A) (F0 m 5 ls []) := by
  obtain ⟨k, hn⟩ := h
  induction k generalizing x3 x5 H locs ls with
  | zero => exact hn.elim
  | succ k ih => exact b0_turned_d5 (K5 := fun y0 y1 => itr (w0_turned_F5 x0 x2 Q) k (y0, y1)) x0 x2 x3 x5 C (fun x3 x5 H locs ls hk hG hl => ih x3 x5 hG hl hk) hn hG hl
def w0_turned (x0 : Int64) (x2 : Int32) (Q : Int64 → Prop) : Prop :=
  w0_turned_b5 x0 x2 (0 : Int64) (0 : Int32) Q
set_option maxHeartbeats 4000000 in
set_option maxRecDepth 100000 in
theorem c0_turned (l : Launch) (D : va_G) (cy : Nat → ClassId)  (x0 : Int64) (x2 : Int32) (Q : Int64 → Prop) (h : w0_turned x0 x2 Q) : MetL l yX0_turned wsX0_turned ({ frames := 1, cells := 0, slots := 0, locals := 24 } : Room) D cy nestWs (fun _ : Unit => ([] : va_W)) [.long x0, .int x2] () (fun r _ => Q r) := by
  refine MetL.mk RX0 cX0_turned 9 (by decide) rfl nestWs_ok rfl (Nat.le_of_ble_eq_true rfl) ?_
  intro p e s m below meth c A ls C hG hl
  have hl : lv_has ls 9 [(0, .long x0), (2, .int x2)] := hl
  have hx := C.1
  have hb := C.2.1
  unfold w0_turned at h
  refine lv_lconst (v := 0) hx hb dX0_turned_0 (by decide) ?_
  refine lv_lstore_n (lv' := [(3, .long (0 : Int64)), (0, .long x0), (2, .int x2)]) hx hb dX0_turned_1 rfl hl (by decide) rfl (fun ls hl => ?_)
  refine lv_iconst (v := 0) hx hb dX0_turned_2 (by decide) ?_
  refine lv_istore (lv' := [(5, .int (0 : Int32)), (3, .long (0 : Int64)), (0, .long x0), (2, .int x2)]) hx hb dX0_turned_3 hl (by decide) rfl (fun ls hl => ?_)
  exact b0_turned_b5 x0 x2 (0 : Int64) (0 : Int32) C h hG (lv_sub hl [2, 3, 1, 0] rfl)
-- X0_areAlike
def w0_areAlike_b45 (K15 : Int64 → Int32 → Prop) (x4 : Int64) (x8 : Int32) (t0 : Int64) (t1 : Int32) (Q : Int32 → Prop) : Prop :=
  w0_turned t0 t1 (fun r1 => ∀ y2 : Int32, y2 = x8 + 1 → K15 r1 y2)
set_option maxHeartbeats 4000000 in
set_option maxRecDepth 100000 in
theorem b0_areAlike_b45 {p : Program} {l : Launch} {e : Env} {s : State} {m : MethodId} {args : Array Value} {below : List Frame} {meth : Method} {c : Code} {D : va_G} {cy : Nat → ClassId} {A : Nat → Prop} {K15 : Int64 → Int32 → Prop} (x4 : Int64) (x8 : Int32) (t0 : Int64) (t1 : Int32) {Q : Int32 → Prop} (C : Cx p s m args meth c cX0_areAlike 9 (some .boolean) wsX0_areAlike RX0 D cy nestWs A) (hK15 : ∀ (x6 : Int64) (x8 : Int32) (H : Heap) (locs : List Loc) (ls : Array Slot), K15 x6 x8 → GW D A s (([] : va_W)) H locs → lv_has ls 9 [(4, .long x4), (6, .long x6), (8, .int x8)] → W p l e ({ frames := 2, cells := 0, slots := 0, locals := 52 } : Room) s m args below meth c H locs 0 0 (MQ below (va_Qi (fun r _ => Q r) (B1 D (fun _ : Unit => ([] : va_W)) A) A) args s 0 0 A) (F0 m 15 ls [])) (h : w0_areAlike_b45 K15 x4 x8 t0 t1 Q) {H : Heap} {locs : List Loc} (hG : GW D A s (([] : va_W)) H locs) {ls : Array Slot} (hl : lv_has ls 9 [(4, .long x4), (8, .int x8)]) : W p l e ({ frames := 2, cells := 0, slots := 0, locals := 52 } : Room) s m args below meth c H locs 0 0 (MQ below (va_Qi (fun r _ => Q r) (B1 D (fun _ : Unit => ([] : va_W)) A) A) args s 0 0 A) (F0 m 45 ls [.int t1, .long t0]) := by
  have hx := C.1
  have hb := C.2.1
  unfold w0_areAlike_b45 at h
  refine callSL (As := [.long t0, .int t1]) (rest := []) C hG (c0_turned l D cy t0 t1 _ h) 2 gX0_areAlike_X0_turned rfl (by decide +kernel) ⟨⟨Nat.le_of_ble_eq_true rfl, Nat.le_of_ble_eq_true rfl⟩, rfl, rfl⟩ (Foc.none C.2.2.2.2.2.2.2.2.1) rfl hl.1 rfl (Nat.le_of_ble_eq_true rfl) dX0_areAlike_45 ⟨Nat.zero_le _, Nat.zero_le _⟩ (fun r1 z H locs h hG => ?_)
  refine lv_lstore (lv' := [(6, .long r1), (4, .long x4), (8, .int x8)]) hx hb dX0_areAlike_48 hl (by decide) rfl (fun ls hl => ?_)
  obtain ⟨y2, ey2⟩ : ∃ y : Int32, y = x8 + 1 := ⟨_, rfl⟩
  replace h := h y2 ey2
  refine lv_iinc (v := y2) (lv' := [(8, .int y2), (6, .long r1), (4, .long x4)]) hx hb dX0_areAlike_50 hl (k := 2) rfl (by rw [ey2]; rfl) (by decide) rfl (fun ls hl => ?_)
  refine lv_goto (tgt := 15) hx hb dX0_areAlike_53 (by decide) ?_
  exact hK15 r1 y2 _ _ _ h hG (lv_sub hl [2, 1, 0] rfl)
def w0_areAlike_d15 (K15 : Int64 → Int32 → Prop) (x4 : Int64) (x6 : Int64) (x8 : Int32) (Q : Int32 → Prop) : Prop :=
  (((8 : Int32) ≤ x8 → Q (0 : Int32)) ∧ (¬ (8 : Int32) ≤ x8 → ((¬ (lg_cmp x6 x4) = 0 → ((¬ x8 = (3 : Int32) → w0_areAlike_b45 K15 x4 x8 x6 (0 : Int32) Q) ∧ (x8 = (3 : Int32) → w0_areAlike_b45 K15 x4 x8 x6 (1 : Int32) Q))) ∧ ((lg_cmp x6 x4) = 0 → Q (1 : Int32)))))
set_option maxHeartbeats 4000000 in
set_option maxRecDepth 100000 in
theorem b0_areAlike_d15 {p : Program} {l : Launch} {e : Env} {s : State} {m : MethodId} {args : Array Value} {below : List Frame} {meth : Method} {c : Code} {D : va_G} {cy : Nat → ClassId} {A : Nat → Prop} {K15 : Int64 → Int32 → Prop} (x4 : Int64) (x6 : Int64) (x8 : Int32) {Q : Int32 → Prop} (C : Cx p s m args meth c cX0_areAlike 9 (some .boolean) wsX0_areAlike RX0 D cy nestWs A) (hK15 : ∀ (x6 : Int64) (x8 : Int32) (H : Heap) (locs : List Loc) (ls : Array Slot), K15 x6 x8 → GW D A s (([] : va_W)) H locs → lv_has ls 9 [(4, .long x4), (6, .long x6), (8, .int x8)] → W p l e ({ frames := 2, cells := 0, slots := 0, locals := 52 } : Room) s m args below meth c H locs 0 0 (MQ below (va_Qi (fun r _ => Q r) (B1 D (fun _ : Unit => ([] : va_W)) A) A) args s 0 0 A) (F0 m 15 ls [])) (h : w0_areAlike_d15 K15 x4 x6 x8 Q) {H : Heap} {locs : List Loc} (hG : GW D A s (([] : va_W)) H locs) {ls : Array Slot} (hl : lv_has ls 9 [(4, .long x4), (6, .long x6), (8, .int x8)]) : W p l e ({ frames := 2, cells := 0, slots := 0, locals := 52 } : Room) s m args below meth c H locs 0 0 (MQ below (va_Qi (fun r _ => Q r) (B1 D (fun _ : Unit => ([] : va_W)) A) A) args s 0 0 A) (F0 m 15 ls []) := by
  have hx := C.1
  have hb := C.2.1
  unfold w0_areAlike_d15 at h
  refine lv_iload hx hb dX0_areAlike_15 (lv_at hl 2 rfl) ?_
  refine lv_bipush (v := 8) hx hb dX0_areAlike_17 (by decide) ?_
  refine lv_icmp_ge (tgt := 56) hx hb dX0_areAlike_19 (by decide) (fun c1 => ?_) (fun c1 => ?_)
  · replace h := h.1 c1
    refine lv_iconst (v := 0) hx hb dX0_areAlike_56 (by decide) ?_
    exact retZ (w := (fun _ : Unit => ([] : va_W))) (S := ()) C hG ⟨rfl, h⟩ dX0_areAlike_57
  · replace h := h.2 c1
    refine lv_lload hx hb dX0_areAlike_22 (lv_at hl 1 rfl) ?_
    refine lv_lload hx hb dX0_areAlike_24 (lv_at hl 0 rfl) ?_
    refine W.lcmp hx hb dX0_areAlike_26 ?_
    refine lv_if_ne (tgt := 32) hx hb dX0_areAlike_27 (by decide) (fun c2 => ?_) (fun c2 => ?_)
    · replace h := h.1 c2
      refine lv_lload hx hb dX0_areAlike_32 (lv_at hl 1 rfl) ?_
      refine lv_iload hx hb dX0_areAlike_34 (lv_at hl 2 rfl) ?_
      refine lv_iconst (v := 3) hx hb dX0_areAlike_36 (by decide) ?_
      refine lv_icmp_ne (tgt := 44) hx hb dX0_areAlike_37 (by decide) (fun c3 => ?_) (fun c3 => ?_)
      · replace h := h.1 c3
        refine lv_iconst (v := 0) hx hb dX0_areAlike_44 (by decide) ?_
        exact b0_areAlike_b45 (K15 := K15) x4 x8 x6 (0 : Int32) C hK15 h hG (lv_sub hl [0, 2] rfl)
      · replace h := h.2 c3
        refine lv_iconst (v := 1) hx hb dX0_areAlike_40 (by decide) ?_
        refine lv_goto (tgt := 45) hx hb dX0_areAlike_41 (by decide) ?_
        exact b0_areAlike_b45 (K15 := K15) x4 x8 x6 (1 : Int32) C hK15 h hG (lv_sub hl [0, 2] rfl)
    · replace h := h.2 c2
      refine lv_iconst (v := 1) hx hb dX0_areAlike_30 (by decide) ?_
      exact retZ (w := (fun _ : Unit => ([] : va_W))) (S := ()) C hG ⟨rfl, h⟩ dX0_areAlike_31
def w0_areAlike_F15 (x4 : Int64) (Q : Int32 → Prop) (K : Int64 × Int32 → Prop) (a : Int64 × Int32) : Prop := w0_areAlike_d15 (fun y0 y1 => K (y0, y1)) x4 a.1 a.2 Q
def w0_areAlike_b15 (x4 : Int64) (x6 : Int64) (x8 : Int32) (Q : Int32 → Prop) : Prop := lp (w0_areAlike_F15 x4 Q) (x6, x8)
set_option maxHeartbeats 4000000 in
set_option maxRecDepth 100000 in
theorem b0_areAlike_b15 {p : Program} {l : Launch} {e : Env} {s : State} {m : MethodId} {args : Array Value} {below : List Frame} {meth : Method} {c : Code} {D : va_G} {cy : Nat → ClassId} {A : Nat → Prop} (x4 : Int64) (x6 : Int64) (x8 : Int32) {Q : Int32 → Prop} (C : Cx p s m args meth c cX0_areAlike 9 (some .boolean) wsX0_areAlike RX0 D cy nestWs A) (h : w0_areAlike_b15 x4 x6 x8 Q) {H : Heap} {locs : List Loc} (hG : GW D A s (([] : va_W)) H locs) {ls : Array Slot} (hl : lv_has ls 9 [(4, .long x4), (6, .long x6), (8, .int x8)]) : W p l e ({ frames := 2, cells := 0, slots := 0, locals := 52 } : Room) s m args below meth c H locs 0 0 (MQ below (va_Qi (fun r _ => Q r) (B1 D (fun _ : Unit => ([] : va_W)) A) A) args s 0 0 A) (F0 m 15 ls []) := by
  obtain ⟨k, hn⟩ := h
  induction k generalizing x6 x8 H locs ls with
  | zero => exact hn.elim
  | succ k ih => exact b0_areAlike_d15 (K15 := fun y0 y1 => itr (w0_areAlike_F15 x4 Q) k (y0, y1)) x4 x6 x8 C (fun x6 x8 H locs ls hk hG hl => ih x6 x8 hG hl hk) hn hG hl
def w0_areAlike (x0 : Int64) (x2 : Int64) (Q : Int32 → Prop) : Prop :=
  w0_putDown x2 (fun r1 => w0_putDown x0 (fun r2 => w0_areAlike_b15 r1 r2 (0 : Int32) Q))
set_option maxHeartbeats 4000000 in
set_option maxRecDepth 100000 in
theorem c0_areAlike (l : Launch) (D : va_G) (cy : Nat → ClassId)  (x0 : Int64) (x2 : Int64) (Q : Int32 → Prop) (h : w0_areAlike x0 x2 Q) : MetI l yX0_areAlike wsX0_areAlike ({ frames := 2, cells := 0, slots := 0, locals := 52 } : Room) D cy nestWs (fun _ : Unit => ([] : va_W)) [.long x0, .long x2] () (fun r _ => Q r) := by
  refine MetI.mk RX0 cX0_areAlike 9 .boolean (by decide) rfl nestWs_ok rfl (Nat.le_of_ble_eq_true rfl) ?_
  intro p e s m below meth c A ls C hG hl
  have hl : lv_has ls 9 [(0, .long x0), (2, .long x2)] := hl
  have hx := C.1
  have hb := C.2.1
  unfold w0_areAlike at h
  refine lv_lload_n hx hb dX0_areAlike_0 rfl (lv_at hl 1 rfl) ?_
  refine callSL (As := [.long x2]) (rest := []) C hG (c0_putDown l D cy x2 _ h) 1 gX0_areAlike_X0_putDown rfl (by decide +kernel) ⟨⟨Nat.le_of_ble_eq_true rfl, Nat.le_of_ble_eq_true rfl⟩, rfl, rfl⟩ (Foc.none C.2.2.2.2.2.2.2.2.1) rfl hl.1 rfl (Nat.le_of_ble_eq_true rfl) dX0_areAlike_1 ⟨Nat.zero_le _, Nat.zero_le _⟩ (fun r1 z H locs h hG => ?_)
  refine lv_lstore (lv' := [(4, .long r1), (0, .long x0), (2, .long x2)]) hx hb dX0_areAlike_4 hl (by decide) rfl (fun ls hl => ?_)
  refine lv_lload_n hx hb dX0_areAlike_6 rfl (lv_at hl 1 rfl) ?_
  refine callSL (As := [.long x0]) (rest := []) C hG (c0_putDown l D cy x0 _ h) 1 gX0_areAlike_X0_putDown rfl (by decide +kernel) ⟨⟨Nat.le_of_ble_eq_true rfl, Nat.le_of_ble_eq_true rfl⟩, rfl, rfl⟩ (Foc.none C.2.2.2.2.2.2.2.2.1) rfl hl.1 rfl (Nat.le_of_ble_eq_true rfl) dX0_areAlike_7 ⟨Nat.zero_le _, Nat.zero_le _⟩ (fun r2 z H locs h hG => ?_)
  refine lv_lstore (lv' := [(6, .long r2), (4, .long r1), (0, .long x0), (2, .long x2)]) hx hb dX0_areAlike_10 hl (by decide) rfl (fun ls hl => ?_)
  refine lv_iconst (v := 0) hx hb dX0_areAlike_12 (by decide) ?_
  refine lv_istore (lv' := [(8, .int (0 : Int32)), (6, .long r2), (4, .long r1), (0, .long x0), (2, .long x2)]) hx hb dX0_areAlike_13 hl (by decide) rfl (fun ls hl => ?_)
  exact b0_areAlike_b15 r1 r2 (0 : Int32) C h hG (lv_sub hl [2, 1, 0] rfl)
-- X1_isThere
theorem i1_isThere_X1 : ∀ w ∈ wsX10, w ∈ wsX1_isThere := fun w h => List.mem_cons_of_mem _ (inG_X1 w h)
theorem k1_isThere_30 : Cond.fieldLink RX1 30 "PaperBodies$Box" "cells" "I" ∈ wsX1_isThere := (List.mem_cons_of_mem _ mw_50)
def w1_isThere_b12 (t0 : Int32) (S : MS) (Q : Int32 → Prop) : Prop :=
  narrow .boolean (.int t0) = .int t0 ∧ Q t0
set_option maxHeartbeats 4000000 in
set_option maxRecDepth 100000 in
theorem b1_isThere_b12 {p : Program} {l : Launch} {e : Env} {s : State} {m : MethodId} {args : Array Value} {below : List Frame} {meth : Method} {c : Code} {D : va_G} {cy : Nat → ClassId} {A : Nat → Prop} {o : Nat} {q : Nat → Nat} (t0 : Int32) (S : MS) {Q : Int32 → Prop} (C : Cx p s m args meth c cX1_isThere 1 (some .boolean) wsX1_isThere RX1 D cy nestWs A) (h : w1_isThere_b12 t0 S Q) {H : Heap} {locs : List Loc} (hG : GW D A s (w1 o q cy S) H locs) {ls : Array Slot} (hl : lv_has ls 1 [(0, .ref o)]) : W p l e ({ frames := 0, cells := 0, slots := 0, locals := 0 } : Room) s m args below meth c H locs 0 0 (MQ below (va_Qi (fun r z => z = S ∧ Q r ) (B1 D (w1 o q cy) A) A) args s 0 0 A) (F0 m 12 ls [.int t0]) := by
  have hx := C.1
  have hb := C.2.1
  unfold w1_isThere_b12 at h
  exact retZ (w := (w1 o q cy)) (S := S) C hG ⟨h.1, ⟨rfl, h.2⟩⟩ dX1_isThere_12
def w1_isThere (S : MS) (Q : Int32 → Prop) : Prop :=
  (((fI S 6) ≤ 0 → w1_isThere_b12 (0 : Int32) S Q) ∧ (¬ (fI S 6) ≤ 0 → w1_isThere_b12 (1 : Int32) S Q))
set_option maxHeartbeats 4000000 in
set_option maxRecDepth 100000 in
theorem c1_isThere (l : Launch) (D : va_G) (cy : Nat → ClassId)  (o : Nat) (q : Nat → Nat) (S : MS) (Q : Int32 → Prop) (h : w1_isThere S Q) : MetI l yX1_isThere wsX1_isThere ({ frames := 0, cells := 0, slots := 0, locals := 0 } : Room) D cy nestWs (w1 o q cy) [.ref o] S (fun r z => z = S ∧ Q r ) := by
  refine MetI.mk RX1 cX1_isThere 1 .boolean (by decide) rfl nestWs_ok rfl (Nat.le_of_ble_eq_true rfl) ?_
  intro p e s m below meth c A ls C hG hl
  have hl : lv_has ls 1 [(0, .ref o)] := hl
  have hx := C.1
  have hb := C.2.1
  unfold w1_isThere at h
  refine lv_aload_n hx hb dX1_isThere_0 rfl (lv_at hl 0 rfl) ?_
  refine gx_get C i1_isThere_X1 hG 0 rfl rfl 6 (by decide) k1_isThere_30 rfl dX1_isThere_1 ?_
  refine lv_if_le (tgt := 11) hx hb dX1_isThere_4 (by decide) (fun c1 => ?_) (fun c1 => ?_)
  · replace h := h.1 c1
    refine lv_iconst (v := 0) hx hb dX1_isThere_11 (by decide) ?_
    exact b1_isThere_b12 (0 : Int32) S C h hG hl
  · replace h := h.2 c1
    refine lv_iconst (v := 1) hx hb dX1_isThere_7 (by decide) ?_
    refine lv_goto (tgt := 12) hx hb dX1_isThere_8 (by decide) ?_
    exact b1_isThere_b12 (1 : Int32) S C h hG hl
-- X1_isCube
theorem i1_isCube_X1 : ∀ w ∈ wsX10, w ∈ wsX1_isCube := fun w h => List.mem_cons_of_mem _ (inG_X1 w h)
theorem k1_isCube_11 : Cond.fieldLink RX1 11 "PaperBodies$Box" "lengths" "[I" ∈ wsX1_isCube := (List.mem_cons_of_mem _ mw_43)
def w1_isCube_b35 (t0 : Int32) (S : MS) (Q : Int32 → Prop) : Prop :=
  narrow .boolean (.int t0) = .int t0 ∧ Q t0
set_option maxHeartbeats 4000000 in
set_option maxRecDepth 100000 in
theorem b1_isCube_b35 {p : Program} {l : Launch} {e : Env} {s : State} {m : MethodId} {args : Array Value} {below : List Frame} {meth : Method} {c : Code} {D : va_G} {cy : Nat → ClassId} {A : Nat → Prop} {o : Nat} {q : Nat → Nat} (t0 : Int32) (S : MS) {Q : Int32 → Prop} (C : Cx p s m args meth c cX1_isCube 1 (some .boolean) wsX1_isCube RX1 D cy nestWs A) (h : w1_isCube_b35 t0 S Q) {H : Heap} {locs : List Loc} (hG : GW D A s (w1 o q cy S) H locs) {ls : Array Slot} (hl : lv_has ls 1 [(0, .ref o)]) : W p l e ({ frames := 0, cells := 0, slots := 0, locals := 0 } : Room) s m args below meth c H locs 0 0 (MQ below (va_Qi (fun r z => z = S ∧ Q r ) (B1 D (w1 o q cy) A) A) args s 0 0 A) (F0 m 35 ls [.int t0]) := by
  have hx := C.1
  have hb := C.2.1
  unfold w1_isCube_b35 at h
  exact retZ (w := (w1 o q cy)) (S := S) C hG ⟨h.1, ⟨rfl, h.2⟩⟩ dX1_isCube_35
def w1_isCube_b34 (S : MS) (Q : Int32 → Prop) : Prop :=
  w1_isCube_b35 (0 : Int32) S Q
set_option maxHeartbeats 4000000 in
set_option maxRecDepth 100000 in
theorem b1_isCube_b34 {p : Program} {l : Launch} {e : Env} {s : State} {m : MethodId} {args : Array Value} {below : List Frame} {meth : Method} {c : Code} {D : va_G} {cy : Nat → ClassId} {A : Nat → Prop} {o : Nat} {q : Nat → Nat} (S : MS) {Q : Int32 → Prop} (C : Cx p s m args meth c cX1_isCube 1 (some .boolean) wsX1_isCube RX1 D cy nestWs A) (h : w1_isCube_b34 S Q) {H : Heap} {locs : List Loc} (hG : GW D A s (w1 o q cy S) H locs) {ls : Array Slot} (hl : lv_has ls 1 [(0, .ref o)]) : W p l e ({ frames := 0, cells := 0, slots := 0, locals := 0 } : Room) s m args below meth c H locs 0 0 (MQ below (va_Qi (fun r z => z = S ∧ Q r ) (B1 D (w1 o q cy) A) A) args s 0 0 A) (F0 m 34 ls []) := by
  have hx := C.1
  have hb := C.2.1
  unfold w1_isCube_b34 at h
  refine lv_iconst (v := 0) hx hb dX1_isCube_34 (by decide) ?_
  exact b1_isCube_b35 (0 : Int32) S C h hG hl
def w1_isCube (S : MS) (Q : Int32 → Prop) : Prop :=
  ((¬ (rA S 0 (0 : Int32)) = (rA S 0 (1 : Int32)) → w1_isCube_b34 S Q) ∧ ((rA S 0 (0 : Int32)) = (rA S 0 (1 : Int32)) → ((¬ (rA S 0 (1 : Int32)) = (rA S 0 (2 : Int32)) → w1_isCube_b34 S Q) ∧ ((rA S 0 (1 : Int32)) = (rA S 0 (2 : Int32)) → w1_isCube_b35 (1 : Int32) S Q))))
set_option maxHeartbeats 4000000 in
set_option maxRecDepth 100000 in
theorem c1_isCube (l : Launch) (D : va_G) (cy : Nat → ClassId)  (o : Nat) (q : Nat → Nat) (S : MS) (Q : Int32 → Prop) (h : w1_isCube S Q) : MetI l yX1_isCube wsX1_isCube ({ frames := 0, cells := 0, slots := 0, locals := 0 } : Room) D cy nestWs (w1 o q cy) [.ref o] S (fun r z => z = S ∧ Q r ) := by
  refine MetI.mk RX1 cX1_isCube 1 .boolean (by decide) rfl nestWs_ok rfl (Nat.le_of_ble_eq_true rfl) ?_
  intro p e s m below meth c A ls C hG hl
  have hl : lv_has ls 1 [(0, .ref o)] := hl
  have hx := C.1
  have hb := C.2.1
  unfold w1_isCube at h
  refine lv_aload_n hx hb dX1_isCube_0 rfl (lv_at hl 0 rfl) ?_
  refine gx_get C i1_isCube_X1 hG 0 rfl rfl 0 (by decide) k1_isCube_11 rfl dX1_isCube_1 ?_
  refine lv_iconst (v := 0) hx hb dX1_isCube_4 (by decide) ?_
  refine gx_ald C hG 1 rfl (by unfold vp_in; decide) dX1_isCube_5 ?_
  refine lv_aload_n hx hb dX1_isCube_6 rfl (lv_at hl 0 rfl) ?_
  refine gx_get C i1_isCube_X1 hG 0 rfl rfl 0 (by decide) k1_isCube_11 rfl dX1_isCube_7 ?_
  refine lv_iconst (v := 1) hx hb dX1_isCube_10 (by decide) ?_
  refine gx_ald C hG 1 rfl (by unfold vp_in; decide) dX1_isCube_11 ?_
  refine lv_icmp_ne (tgt := 34) hx hb dX1_isCube_12 (by decide) (fun c1 => ?_) (fun c1 => ?_)
  · replace h := h.1 c1
    exact b1_isCube_b34 S C h hG hl
  · replace h := h.2 c1
    refine lv_aload_n hx hb dX1_isCube_15 rfl (lv_at hl 0 rfl) ?_
    refine gx_get C i1_isCube_X1 hG 0 rfl rfl 0 (by decide) k1_isCube_11 rfl dX1_isCube_16 ?_
    refine lv_iconst (v := 1) hx hb dX1_isCube_19 (by decide) ?_
    refine gx_ald C hG 1 rfl (by unfold vp_in; decide) dX1_isCube_20 ?_
    refine lv_aload_n hx hb dX1_isCube_21 rfl (lv_at hl 0 rfl) ?_
    refine gx_get C i1_isCube_X1 hG 0 rfl rfl 0 (by decide) k1_isCube_11 rfl dX1_isCube_22 ?_
    refine lv_iconst (v := 2) hx hb dX1_isCube_25 (by decide) ?_
    refine gx_ald C hG 1 rfl (by unfold vp_in; decide) dX1_isCube_26 ?_
    refine lv_icmp_ne (tgt := 34) hx hb dX1_isCube_27 (by decide) (fun c2 => ?_) (fun c2 => ?_)
    · replace h := h.1 c2
      exact b1_isCube_b34 S C h hG hl
    · replace h := h.2 c2
      refine lv_iconst (v := 1) hx hb dX1_isCube_30 (by decide) ?_
      refine lv_goto (tgt := 35) hx hb dX1_isCube_31 (by decide) ?_
      exact b1_isCube_b35 (1 : Int32) S C h hG hl
-- X1_hasCell
theorem i1_hasCell_X1 : ∀ w ∈ wsX10, w ∈ wsX1_hasCell := fun w h => List.mem_cons_of_mem _ (inG_X1 w h)
theorem k1_hasCell_30 : Cond.fieldLink RX1 30 "PaperBodies$Box" "cells" "I" ∈ wsX1_hasCell := (List.mem_cons_of_mem _ mw_50)
def w1_hasCell_b17 (t0 : Int32) (S : MS) (Q : Int32 → Prop) : Prop :=
  narrow .boolean (.int t0) = .int t0 ∧ Q t0
set_option maxHeartbeats 4000000 in
set_option maxRecDepth 100000 in
theorem b1_hasCell_b17 {p : Program} {l : Launch} {e : Env} {s : State} {m : MethodId} {args : Array Value} {below : List Frame} {meth : Method} {c : Code} {D : va_G} {cy : Nat → ClassId} {A : Nat → Prop} {o : Nat} {q : Nat → Nat} (t0 : Int32) (S : MS) {Q : Int32 → Prop} (C : Cx p s m args meth c cX1_hasCell 2 (some .boolean) wsX1_hasCell RX1 D cy nestWs A) (h : w1_hasCell_b17 t0 S Q) {H : Heap} {locs : List Loc} (hG : GW D A s (w1 o q cy S) H locs) {ls : Array Slot} (hl : lv_has ls 2 [(0, .ref o)]) : W p l e ({ frames := 0, cells := 0, slots := 0, locals := 0 } : Room) s m args below meth c H locs 0 0 (MQ below (va_Qi (fun r z => z = S ∧ Q r ) (B1 D (w1 o q cy) A) A) args s 0 0 A) (F0 m 17 ls [.int t0]) := by
  have hx := C.1
  have hb := C.2.1
  unfold w1_hasCell_b17 at h
  exact retZ (w := (w1 o q cy)) (S := S) C hG ⟨h.1, ⟨rfl, h.2⟩⟩ dX1_hasCell_17
def w1_hasCell_b16 (S : MS) (Q : Int32 → Prop) : Prop :=
  w1_hasCell_b17 (0 : Int32) S Q
set_option maxHeartbeats 4000000 in
set_option maxRecDepth 100000 in
theorem b1_hasCell_b16 {p : Program} {l : Launch} {e : Env} {s : State} {m : MethodId} {args : Array Value} {below : List Frame} {meth : Method} {c : Code} {D : va_G} {cy : Nat → ClassId} {A : Nat → Prop} {o : Nat} {q : Nat → Nat} (S : MS) {Q : Int32 → Prop} (C : Cx p s m args meth c cX1_hasCell 2 (some .boolean) wsX1_hasCell RX1 D cy nestWs A) (h : w1_hasCell_b16 S Q) {H : Heap} {locs : List Loc} (hG : GW D A s (w1 o q cy S) H locs) {ls : Array Slot} (hl : lv_has ls 2 [(0, .ref o)]) : W p l e ({ frames := 0, cells := 0, slots := 0, locals := 0 } : Room) s m args below meth c H locs 0 0 (MQ below (va_Qi (fun r z => z = S ∧ Q r ) (B1 D (w1 o q cy) A) A) args s 0 0 A) (F0 m 16 ls []) := by
  have hx := C.1
  have hb := C.2.1
  unfold w1_hasCell_b16 at h
  refine lv_iconst (v := 0) hx hb dX1_hasCell_16 (by decide) ?_
  exact b1_hasCell_b17 (0 : Int32) S C h hG hl
def w1_hasCell (x1 : Int32) (S : MS) (Q : Int32 → Prop) : Prop :=
  ((x1 < 0 → w1_hasCell_b16 S Q) ∧ (¬ x1 < 0 → (((fI S 6) ≤ x1 → w1_hasCell_b16 S Q) ∧ (¬ (fI S 6) ≤ x1 → w1_hasCell_b17 (1 : Int32) S Q))))
set_option maxHeartbeats 4000000 in
set_option maxRecDepth 100000 in
theorem c1_hasCell (l : Launch) (D : va_G) (cy : Nat → ClassId)  (o : Nat) (q : Nat → Nat) (x1 : Int32) (S : MS) (Q : Int32 → Prop) (h : w1_hasCell x1 S Q) : MetI l yX1_hasCell wsX1_hasCell ({ frames := 0, cells := 0, slots := 0, locals := 0 } : Room) D cy nestWs (w1 o q cy) [.ref o, .int x1] S (fun r z => z = S ∧ Q r ) := by
  refine MetI.mk RX1 cX1_hasCell 2 .boolean (by decide) rfl nestWs_ok rfl (Nat.le_of_ble_eq_true rfl) ?_
  intro p e s m below meth c A ls C hG hl
  have hl : lv_has ls 2 [(0, .ref o), (1, .int x1)] := hl
  have hx := C.1
  have hb := C.2.1
  unfold w1_hasCell at h
  refine lv_iload_n hx hb dX1_hasCell_0 rfl (lv_at hl 1 rfl) ?_
  refine lv_if_lt (tgt := 16) hx hb dX1_hasCell_1 (by decide) (fun c1 => ?_) (fun c1 => ?_)
  · replace h := h.1 c1
    exact b1_hasCell_b16 S C h hG (lv_sub hl [0] rfl)
  · replace h := h.2 c1
    refine lv_iload_n hx hb dX1_hasCell_4 rfl (lv_at hl 1 rfl) ?_
    refine lv_aload_n hx hb dX1_hasCell_5 rfl (lv_at hl 0 rfl) ?_
    refine gx_get C i1_hasCell_X1 hG 0 rfl rfl 6 (by decide) k1_hasCell_30 rfl dX1_hasCell_6 ?_
    refine lv_icmp_ge (tgt := 16) hx hb dX1_hasCell_9 (by decide) (fun c2 => ?_) (fun c2 => ?_)
    · replace h := h.1 c2
      exact b1_hasCell_b16 S C h hG (lv_sub hl [0] rfl)
    · replace h := h.2 c2
      refine lv_iconst (v := 1) hx hb dX1_hasCell_12 (by decide) ?_
      refine lv_goto (tgt := 17) hx hb dX1_hasCell_13 (by decide) ?_
      exact b1_hasCell_b17 (1 : Int32) S C h hG (lv_sub hl [0] rfl)
-- X1_length
theorem i1_length_X1 : ∀ w ∈ wsX10, w ∈ wsX1_length := fun w h => List.mem_cons_of_mem _ (inG_X1 w h)
theorem k1_length_11 : Cond.fieldLink RX1 11 "PaperBodies$Box" "lengths" "[I" ∈ wsX1_length := (List.mem_cons_of_mem _ mw_43)
theorem k1_length_34 : Cond.initialized yX8_within.cls ∈ wsX1_length ∧ Cond.static yX8_within ∈ wsX1_length := ⟨(List.mem_cons_of_mem _ mw_13), (List.mem_cons_of_mem _ mw_14)⟩
def w1_length_b19 (t0 : Int32) (S : MS) (Q : Int32 → Prop) : Prop :=
  Q t0
set_option maxHeartbeats 4000000 in
set_option maxRecDepth 100000 in
theorem b1_length_b19 {p : Program} {l : Launch} {e : Env} {s : State} {m : MethodId} {args : Array Value} {below : List Frame} {meth : Method} {c : Code} {D : va_G} {cy : Nat → ClassId} {A : Nat → Prop} {o : Nat} {q : Nat → Nat} (t0 : Int32) (S : MS) {Q : Int32 → Prop} (C : Cx p s m args meth c cX1_length 2 (some .int) wsX1_length RX1 D cy nestWs A) (h : w1_length_b19 t0 S Q) {H : Heap} {locs : List Loc} (hG : GW D A s (w1 o q cy S) H locs) {ls : Array Slot} (hl : lv_has ls 2 [(0, .ref o)]) : W p l e ({ frames := 1, cells := 0, slots := 0, locals := 22 } : Room) s m args below meth c H locs 0 0 (MQ below (va_Qi (fun r z => z = S ∧ Q r ) (B1 D (w1 o q cy) A) A) args s 0 0 A) (F0 m 19 ls [.int t0]) := by
  have hx := C.1
  have hb := C.2.1
  unfold w1_length_b19 at h
  exact retI (w := (w1 o q cy)) (S := S) C hG ⟨rfl, h⟩ dX1_length_19
def w1_length (x1 : Int32) (S : MS) (Q : Int32 → Prop) : Prop :=
  w8_within x1 (0 : Int32) (2 : Int32) (fun r1 => ((r1 = 0 → w1_length_b19 (0 : Int32) S Q) ∧ (¬ r1 = 0 → vp_in x1 3 ∧ w1_length_b19 (rA S 0 x1) S Q)))
set_option maxHeartbeats 4000000 in
set_option maxRecDepth 100000 in
theorem c1_length (l : Launch) (D : va_G) (cy : Nat → ClassId)  (o : Nat) (q : Nat → Nat) (x1 : Int32) (S : MS) (Q : Int32 → Prop) (h : w1_length x1 S Q) : MetI l yX1_length wsX1_length ({ frames := 1, cells := 0, slots := 0, locals := 22 } : Room) D cy nestWs (w1 o q cy) [.ref o, .int x1] S (fun r z => z = S ∧ Q r ) := by
  refine MetI.mk RX1 cX1_length 2 .int (by decide) rfl nestWs_ok rfl (Nat.le_of_ble_eq_true rfl) ?_
  intro p e s m below meth c A ls C hG hl
  have hl : lv_has ls 2 [(0, .ref o), (1, .int x1)] := hl
  have hx := C.1
  have hb := C.2.1
  unfold w1_length at h
  refine lv_iload_n hx hb dX1_length_0 rfl (lv_at hl 1 rfl) ?_
  refine lv_iconst (v := 0) hx hb dX1_length_1 (by decide) ?_
  refine lv_iconst (v := 2) hx hb dX1_length_2 (by decide) ?_
  refine callSNI (As := [.int x1, .int (0 : Int32), .int (2 : Int32)]) (rest := []) (host := "PaperBodies") C hG (c8_within l D cy x1 (0 : Int32) (2 : Int32) _ h) 3 gX1_length_X8_within_n34 rfl (by decide +kernel) k1_length_34.1 k1_length_34.2 (by decide +kernel) ⟨⟨Nat.le_of_ble_eq_true rfl, Nat.le_of_ble_eq_true rfl⟩, rfl, rfl⟩ (Foc.none C.2.2.2.2.2.2.2.2.1) rfl hl.1 rfl (Nat.le_of_ble_eq_true rfl) dX1_length_3 ⟨Nat.zero_le _, Nat.zero_le _⟩ (fun r1 z H locs h hG => ?_)
  refine lv_if_eq (tgt := 18) hx hb dX1_length_6 (by decide) (fun c2 => ?_) (fun c2 => ?_)
  · replace h := h.1 c2
    refine lv_iconst (v := 0) hx hb dX1_length_18 (by decide) ?_
    exact b1_length_b19 (0 : Int32) S C h hG (lv_sub hl [0] rfl)
  · replace h := h.2 c2
    refine lv_aload_n hx hb dX1_length_9 rfl (lv_at hl 0 rfl) ?_
    refine gx_get C i1_length_X1 hG 0 rfl rfl 0 (by decide) k1_length_11 rfl dX1_length_10 ?_
    refine lv_iload_n hx hb dX1_length_13 rfl (lv_at hl 1 rfl) ?_
    obtain ⟨hv3, h⟩ := h
    refine gx_ald C hG 1 rfl hv3 dX1_length_14 ?_
    refine lv_goto (tgt := 19) hx hb dX1_length_15 (by decide) ?_
    exact b1_length_b19 (rA S 0 x1) S C h hG (lv_sub hl [0] rfl)
-- X1_sideOf
theorem i1_sideOf_X1 : ∀ w ∈ wsX10, w ∈ wsX1_sideOf := fun w h => List.mem_cons_of_mem _ (inG_X1 w h)
theorem k1_sideOf_18 : Cond.fieldLink RX1 18 "PaperBodies$Box" "sides" "[I" ∈ wsX1_sideOf := (List.mem_cons_of_mem _ mw_45)
def w1_sideOf_b19 (t0 : Int32) (S : MS) (Q : Int32 → Prop) : Prop :=
  Q t0
set_option maxHeartbeats 4000000 in
set_option maxRecDepth 100000 in
theorem b1_sideOf_b19 {p : Program} {l : Launch} {e : Env} {s : State} {m : MethodId} {args : Array Value} {below : List Frame} {meth : Method} {c : Code} {D : va_G} {cy : Nat → ClassId} {A : Nat → Prop} {o : Nat} {q : Nat → Nat} (t0 : Int32) (S : MS) {Q : Int32 → Prop} (C : Cx p s m args meth c cX1_sideOf 2 (some .int) wsX1_sideOf RX1 D cy nestWs A) (h : w1_sideOf_b19 t0 S Q) {H : Heap} {locs : List Loc} (hG : GW D A s (w1 o q cy S) H locs) {ls : Array Slot} (hl : lv_has ls 2 [(0, .ref o)]) : W p l e ({ frames := 1, cells := 0, slots := 0, locals := 21 } : Room) s m args below meth c H locs 0 0 (MQ below (va_Qi (fun r z => z = S ∧ Q r ) (B1 D (w1 o q cy) A) A) args s 0 0 A) (F0 m 19 ls [.int t0]) := by
  have hx := C.1
  have hb := C.2.1
  unfold w1_sideOf_b19 at h
  exact retI (w := (w1 o q cy)) (S := S) C hG ⟨rfl, h⟩ dX1_sideOf_19
def w1_sideOf (x1 : Int32) (S : MS) (Q : Int32 → Prop) : Prop :=
  w1_hasCell x1 S (fun r1 => ((r1 = 0 → w1_sideOf_b19 (-9 : Int32) S Q) ∧ (¬ r1 = 0 → vp_in x1 24 ∧ w1_sideOf_b19 (rA S 2 x1) S Q)))
set_option maxHeartbeats 4000000 in
set_option maxRecDepth 100000 in
theorem c1_sideOf (l : Launch) (D : va_G) (cy : Nat → ClassId)  (o : Nat) (q : Nat → Nat) (x1 : Int32) (S : MS) (Q : Int32 → Prop) (h : w1_sideOf x1 S Q) : MetI l yX1_sideOf wsX1_sideOf ({ frames := 1, cells := 0, slots := 0, locals := 21 } : Room) D cy nestWs (w1 o q cy) [.ref o, .int x1] S (fun r z => z = S ∧ Q r ) := by
  refine MetI.mk RX1 cX1_sideOf 2 .int (by decide) rfl nestWs_ok rfl (Nat.le_of_ble_eq_true rfl) ?_
  intro p e s m below meth c A ls C hG hl
  have hl : lv_has ls 2 [(0, .ref o), (1, .int x1)] := hl
  have hx := C.1
  have hb := C.2.1
  unfold w1_sideOf at h
  refine lv_aload_n hx hb dX1_sideOf_0 rfl (lv_at hl 0 rfl) ?_
  refine lv_iload_n hx hb dX1_sideOf_1 rfl (lv_at hl 1 rfl) ?_
  refine callVI (As := [.int x1]) (rest := []) C hG (c1_hasCell l D cy o q x1 S _ h) 1 gX1_sideOf_X1_hasCell rfl (by decide +kernel) ⟨⟨Nat.le_of_ble_eq_true rfl, Nat.le_of_ble_eq_true rfl⟩, rfl, rfl⟩ rfl rfl (Foc.all C.2.2.2.2.2.2.2.2.1) rfl hl.1 rfl (Nat.le_of_ble_eq_true rfl) dX1_sideOf_2 ⟨Nat.zero_le _, Nat.zero_le _⟩ (fun r1 u2 H locs h hG => ?_)
  obtain ⟨eu2, h⟩ := h
  have eu2 : u2 = S := eu2
  subst u2
  have hG : GW D A s (w1 o q cy S) H locs := hG
  refine lv_if_eq (tgt := 17) hx hb dX1_sideOf_5 (by decide) (fun c3 => ?_) (fun c3 => ?_)
  · replace h := h.1 c3
    refine lv_bipush (v := -9) hx hb dX1_sideOf_17 (by decide) ?_
    exact b1_sideOf_b19 (-9 : Int32) S C h hG (lv_sub hl [0] rfl)
  · replace h := h.2 c3
    refine lv_aload_n hx hb dX1_sideOf_8 rfl (lv_at hl 0 rfl) ?_
    refine gx_get C i1_sideOf_X1 hG 0 rfl rfl 2 (by decide) k1_sideOf_18 rfl dX1_sideOf_9 ?_
    refine lv_iload_n hx hb dX1_sideOf_12 rfl (lv_at hl 1 rfl) ?_
    obtain ⟨hv4, h⟩ := h
    refine gx_ald C hG 3 rfl hv4 dX1_sideOf_13 ?_
    refine lv_goto (tgt := 19) hx hb dX1_sideOf_14 (by decide) ?_
    exact b1_sideOf_b19 (rA S 2 x1) S C h hG (lv_sub hl [0] rfl)
