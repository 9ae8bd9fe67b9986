-- X9_box
theorem i9_box_X9 : ∀ w ∈ wsX90, w ∈ wsX9_box := fun w h => List.mem_cons_of_mem _ (inG_X9 w h)
theorem k9_box_26 : Cond.fieldLink RX9 26 "PaperBodiesModel" "dims" "[I" ∈ wsX9_box := (List.mem_cons_of_mem _ mw_542)
def w9_box_b47 (S : MS) (Q : Int32 → MS → Prop) : Prop :=
  Q (-1 : Int32) S
set_option maxHeartbeats 4000000 in
set_option maxRecDepth 100000 in
theorem b9_box_b47 {p : Program} {l : Launch} {e : Env} {s : State} {m : MethodId} {args : Array Value} {below : List Frame} {meth : Method} {c : Code} {D : va_G} {cy : Nat → ClassId} {A : Nat → Prop} {o : Nat} {q : Nat → Nat} (S : MS) {Q : Int32 → MS → Prop} (C : Cx p s m args meth c cX9_box 5 (some .int) wsX9_box RX9 D cy nestWs A) (h : w9_box_b47 S Q) {H : Heap} {locs : List Loc} (hG : GW D A s (w9 o q cy S) H locs) {ls : Array Slot} (hl : lv_has ls 5 [(0, .ref o)]) : W p l e ({ frames := 2, cells := 0, slots := 0, locals := 43 } : Room) s m args below meth c H locs 0 0 (MQ below (va_Qi Q (B1 D (w9 o q cy) A) A) args s 0 0 A) (F0 m 47 ls []) := by
  have hx := C.1
  have hb := C.2.1
  unfold w9_box_b47 at h
  refine lv_iconst (v := -1) hx hb dX9_box_47 (by decide) ?_
  exact retI (w := (w9 o q cy)) (S := S) C hG h dX9_box_48
def w9_box (x1 : Int32) (x2 : Int32) (x3 : Int32) (x4 : Int32) (S : MS) (Q : Int32 → MS → Prop) : Prop :=
  w9_isBox x1 (fun r1 => ((r1 = 0 → w9_box_b47 S Q) ∧ (¬ r1 = 0 → w9_in x2 (1 : Int32) (5 : Int32) (fun r3 => ((r3 = 0 → w9_box_b47 S Q) ∧ (¬ r3 = 0 → w9_in x3 (1 : Int32) (5 : Int32) (fun r5 => ((r5 = 0 → w9_box_b47 S Q) ∧ (¬ r5 = 0 → w9_in x4 (1 : Int32) (5 : Int32) (fun r7 => ((r7 = 0 → w9_box_b47 S Q) ∧ (¬ r7 = 0 → w9_cellsOf x2 x3 x4 (fun r9 => ((r9 ≤ (24 : Int32) → vp_in ((3 : Int32) * x1) 12 ∧ ∀ S12 : MS, S12 = sA S 7 ((3 : Int32) * x1) x2 → vp_in (((3 : Int32) * x1) + (1 : Int32)) 12 ∧ ∀ S14 : MS, S14 = sA S12 7 (((3 : Int32) * x1) + (1 : Int32)) x3 → vp_in (((3 : Int32) * x1) + (2 : Int32)) 12 ∧ ∀ S16 : MS, S16 = sA S14 7 (((3 : Int32) * x1) + (2 : Int32)) x4 → w9_cells x1 S16 (fun r17 => Q r17 S16)) ∧ (¬ r9 ≤ (24 : Int32) → w9_box_b47 S Q)))))))))))))))
set_option maxHeartbeats 4000000 in
set_option maxRecDepth 100000 in
theorem c9_box (l : Launch) (D : va_G) (cy : Nat → ClassId)  (o : Nat) (q : Nat → Nat) (x1 : Int32) (x2 : Int32) (x3 : Int32) (x4 : Int32) (S : MS) (Q : Int32 → MS → Prop) (h : w9_box x1 x2 x3 x4 S Q) : MetI l yX9_box wsX9_box ({ frames := 2, cells := 0, slots := 0, locals := 43 } : Room) D cy nestWs (w9 o q cy) [.ref o, .int x1, .int x2, .int x3, .int x4] S Q := by
  refine MetI.mk RX9 cX9_box 5 .int (by decide) rfl nestWs_ok rfl (Nat.le_of_ble_eq_true rfl) ?_
  intro p e s m below meth c A ls C hG hl
  have hl : lv_has ls 5 [(0, .ref o), (1, .int x1), (2, .int x2), (3, .int x3), (4, .int x4)] := hl
  have hx := C.1
  have hb := C.2.1
  unfold w9_box at h
  refine lv_iload_n hx hb dX9_box_0 rfl (lv_at hl 1 rfl) ?_
  refine callSI (As := [.int x1]) (rest := []) C hG (c9_isBox l D cy x1 _ h) 1 gX9_box_X9_isBox rfl (by decide +kernel) ⟨⟨Nat.le_of_ble_eq_true rfl, Nat.le_of_ble_eq_true rfl⟩, rfl, rfl⟩ (Foc.none C.2.2.2.2.2.2.2.2.1) rfl hl.1 rfl (Nat.le_of_ble_eq_true rfl) dX9_box_1 ⟨Nat.zero_le _, Nat.zero_le _⟩ (fun r1 z H locs h hG => ?_)
  refine lv_if_eq (tgt := 47) hx hb dX9_box_4 (by decide) (fun c2 => ?_) (fun c2 => ?_)
  · replace h := h.1 c2
    exact b9_box_b47 S C h hG (lv_sub hl [0] rfl)
  · replace h := h.2 c2
    refine lv_iload_n hx hb dX9_box_7 rfl (lv_at hl 2 rfl) ?_
    refine lv_iconst (v := 1) hx hb dX9_box_8 (by decide) ?_
    refine lv_iconst (v := 5) hx hb dX9_box_9 (by decide) ?_
    refine callSI (As := [.int x2, .int (1 : Int32), .int (5 : Int32)]) (rest := []) C hG (c9_in l D cy x2 (1 : Int32) (5 : Int32) _ h) 3 gX9_box_X9_in rfl (by decide +kernel) ⟨⟨Nat.le_of_ble_eq_true rfl, Nat.le_of_ble_eq_true rfl⟩, rfl, rfl⟩ (Foc.none C.2.2.2.2.2.2.2.2.1) rfl hl.1 rfl (Nat.le_of_ble_eq_true rfl) dX9_box_10 ⟨Nat.zero_le _, Nat.zero_le _⟩ (fun r3 z H locs h hG => ?_)
    refine lv_if_eq (tgt := 47) hx hb dX9_box_13 (by decide) (fun c4 => ?_) (fun c4 => ?_)
    · replace h := h.1 c4
      exact b9_box_b47 S C h hG (lv_sub hl [0] rfl)
    · replace h := h.2 c4
      refine lv_iload_n hx hb dX9_box_16 rfl (lv_at hl 3 rfl) ?_
      refine lv_iconst (v := 1) hx hb dX9_box_17 (by decide) ?_
      refine lv_iconst (v := 5) hx hb dX9_box_18 (by decide) ?_
      refine callSI (As := [.int x3, .int (1 : Int32), .int (5 : Int32)]) (rest := []) C hG (c9_in l D cy x3 (1 : Int32) (5 : Int32) _ h) 3 gX9_box_X9_in rfl (by decide +kernel) ⟨⟨Nat.le_of_ble_eq_true rfl, Nat.le_of_ble_eq_true rfl⟩, rfl, rfl⟩ (Foc.none C.2.2.2.2.2.2.2.2.1) rfl hl.1 rfl (Nat.le_of_ble_eq_true rfl) dX9_box_19 ⟨Nat.zero_le _, Nat.zero_le _⟩ (fun r5 z H locs h hG => ?_)
      refine lv_if_eq (tgt := 47) hx hb dX9_box_22 (by decide) (fun c6 => ?_) (fun c6 => ?_)
      · replace h := h.1 c6
        exact b9_box_b47 S C h hG (lv_sub hl [0] rfl)
      · replace h := h.2 c6
        refine lv_iload hx hb dX9_box_25 (lv_at hl 4 rfl) ?_
        refine lv_iconst (v := 1) hx hb dX9_box_27 (by decide) ?_
        refine lv_iconst (v := 5) hx hb dX9_box_28 (by decide) ?_
        refine callSI (As := [.int x4, .int (1 : Int32), .int (5 : Int32)]) (rest := []) C hG (c9_in l D cy x4 (1 : Int32) (5 : Int32) _ h) 3 gX9_box_X9_in rfl (by decide +kernel) ⟨⟨Nat.le_of_ble_eq_true rfl, Nat.le_of_ble_eq_true rfl⟩, rfl, rfl⟩ (Foc.none C.2.2.2.2.2.2.2.2.1) rfl hl.1 rfl (Nat.le_of_ble_eq_true rfl) dX9_box_29 ⟨Nat.zero_le _, Nat.zero_le _⟩ (fun r7 z H locs h hG => ?_)
        refine lv_if_eq (tgt := 47) hx hb dX9_box_32 (by decide) (fun c8 => ?_) (fun c8 => ?_)
        · replace h := h.1 c8
          exact b9_box_b47 S C h hG (lv_sub hl [0] rfl)
        · replace h := h.2 c8
          refine lv_iload_n hx hb dX9_box_35 rfl (lv_at hl 2 rfl) ?_
          refine lv_iload_n hx hb dX9_box_36 rfl (lv_at hl 3 rfl) ?_
          refine lv_iload hx hb dX9_box_37 (lv_at hl 4 rfl) ?_
          refine callSI (As := [.int x2, .int x3, .int x4]) (rest := []) C hG (c9_cellsOf l D cy x2 x3 x4 _ h) 3 gX9_box_X9_cellsOf rfl (by decide +kernel) ⟨⟨Nat.le_of_ble_eq_true rfl, Nat.le_of_ble_eq_true rfl⟩, rfl, rfl⟩ (Foc.none C.2.2.2.2.2.2.2.2.1) rfl hl.1 rfl (Nat.le_of_ble_eq_true rfl) dX9_box_39 ⟨Nat.zero_le _, Nat.zero_le _⟩ (fun r9 z H locs h hG => ?_)
          refine lv_bipush (v := 24) hx hb dX9_box_42 (by decide) ?_
          refine lv_icmp_le (tgt := 49) hx hb dX9_box_44 (by decide) (fun c10 => ?_) (fun c10 => ?_)
          · replace h := h.1 c10
            refine lv_aload_n hx hb dX9_box_49 rfl (lv_at hl 0 rfl) ?_
            refine x9g_7 C i9_box_X9 k9_box_26 hG dX9_box_50 ?_
            refine lv_iconst (v := 3) hx hb dX9_box_53 (by decide) ?_
            refine lv_iload_n hx hb dX9_box_54 rfl (lv_at hl 1 rfl) ?_
            refine lv_imul hx hb dX9_box_55 ?_
            refine lv_iload_n hx hb dX9_box_56 rfl (lv_at hl 2 rfl) ?_
            obtain ⟨hv11, h⟩ := h
            refine x9s_7 C hG hv11 dX9_box_57 (fun S12 eS12 H locs hG => ?_)
            replace h := h S12 eS12
            refine lv_aload_n hx hb dX9_box_58 rfl (lv_at hl 0 rfl) ?_
            refine x9g_7 C i9_box_X9 k9_box_26 hG dX9_box_59 ?_
            refine lv_iconst (v := 3) hx hb dX9_box_62 (by decide) ?_
            refine lv_iload_n hx hb dX9_box_63 rfl (lv_at hl 1 rfl) ?_
            refine lv_imul hx hb dX9_box_64 ?_
            refine lv_iconst (v := 1) hx hb dX9_box_65 (by decide) ?_
            refine lv_iadd hx hb dX9_box_66 ?_
            refine lv_iload_n hx hb dX9_box_67 rfl (lv_at hl 3 rfl) ?_
            obtain ⟨hv13, h⟩ := h
            refine x9s_7 C hG hv13 dX9_box_68 (fun S14 eS14 H locs hG => ?_)
            replace h := h S14 eS14
            refine lv_aload_n hx hb dX9_box_69 rfl (lv_at hl 0 rfl) ?_
            refine x9g_7 C i9_box_X9 k9_box_26 hG dX9_box_70 ?_
            refine lv_iconst (v := 3) hx hb dX9_box_73 (by decide) ?_
            refine lv_iload_n hx hb dX9_box_74 rfl (lv_at hl 1 rfl) ?_
            refine lv_imul hx hb dX9_box_75 ?_
            refine lv_iconst (v := 2) hx hb dX9_box_76 (by decide) ?_
            refine lv_iadd hx hb dX9_box_77 ?_
            refine lv_iload hx hb dX9_box_78 (lv_at hl 4 rfl) ?_
            obtain ⟨hv15, h⟩ := h
            refine x9s_7 C hG hv15 dX9_box_80 (fun S16 eS16 H locs hG => ?_)
            replace h := h S16 eS16
            refine lv_aload_n hx hb dX9_box_81 rfl (lv_at hl 0 rfl) ?_
            refine lv_iload_n hx hb dX9_box_82 rfl (lv_at hl 1 rfl) ?_
            refine callVI (As := [.int x1]) (rest := []) C hG (c9_cells l D cy o q x1 S16 _ h) 1 gX9_box_X9_cells rfl (by decide +kernel) ⟨⟨Nat.le_of_ble_eq_true rfl, Nat.le_of_ble_eq_true rfl⟩, rfl, rfl⟩ rfl rfl (Foc.all C.2.2.2.2.2.2.2.2.1) rfl hl.1 rfl (Nat.le_of_ble_eq_true rfl) dX9_box_83 ⟨Nat.zero_le _, Nat.zero_le _⟩ (fun r17 u18 H locs h hG => ?_)
            obtain ⟨eu18, h⟩ := h
            have eu18 : u18 = S16 := eu18
            subst u18
            have hG : GW D A s (w9 o q cy S16) H locs := hG
            exact retI (w := (w9 o q cy)) (S := S16) C hG h dX9_box_86
          · replace h := h.2 c10
            exact b9_box_b47 S C h hG (lv_sub hl [0] rfl)
-- X9_sign
def w9_sign_b11 (t0 : Int32) (Q : Int32 → Prop) : Prop :=
  Q t0
set_option maxHeartbeats 4000000 in
set_option maxRecDepth 100000 in
theorem b9_sign_b11 {p : Program} {l : Launch} {e : Env} {s : State} {m : MethodId} {args : Array Value} {below : List Frame} {meth : Method} {c : Code} {D : va_G} {cy : Nat → ClassId} {A : Nat → Prop} (t0 : Int32) {Q : Int32 → Prop} (C : Cx p s m args meth c cX9_sign 1 (some .int) wsX9_sign RX9 D cy nestWs A) (h : w9_sign_b11 t0 Q) {H : Heap} {locs : List Loc} (hG : GW D A s (([] : va_W)) H locs) {ls : Array Slot} (hl : lv_has ls 1 []) : W p l e ({ frames := 0, cells := 0, slots := 0, locals := 0 } : Room) s m args below meth c H locs 0 0 (MQ below (va_Qi (fun r _ => Q r) (B1 D (fun _ : Unit => ([] : va_W)) A) A) args s 0 0 A) (F0 m 11 ls [.int t0]) := by
  have hx := C.1
  have hb := C.2.1
  unfold w9_sign_b11 at h
  exact retI (w := (fun _ : Unit => ([] : va_W))) (S := ()) C hG h dX9_sign_11
def w9_sign (x0 : Int32) (Q : Int32 → Prop) : Prop :=
  ((¬ (x0 - x0 / (2 : Int32) * (2 : Int32)) = 0 → w9_sign_b11 (-1 : Int32) Q) ∧ ((x0 - x0 / (2 : Int32) * (2 : Int32)) = 0 → w9_sign_b11 (1 : Int32) Q))
set_option maxHeartbeats 4000000 in
set_option maxRecDepth 100000 in
theorem c9_sign (l : Launch) (D : va_G) (cy : Nat → ClassId)  (x0 : Int32) (Q : Int32 → Prop) (h : w9_sign x0 Q) : MetI l yX9_sign wsX9_sign ({ frames := 0, cells := 0, slots := 0, locals := 0 } : Room) D cy nestWs (fun _ : Unit => ([] : va_W)) [.int x0] () (fun r _ => Q r) := by
  refine MetI.mk RX9 cX9_sign 1 .int (by decide) rfl nestWs_ok rfl (Nat.le_of_ble_eq_true rfl) ?_
  intro p e s m below meth c A ls C hG hl
  have hl : lv_has ls 1 [(0, .int x0)] := hl
  have hx := C.1
  have hb := C.2.1
  unfold w9_sign at h
  refine lv_iload_n hx hb dX9_sign_0 rfl (lv_at hl 0 rfl) ?_
  refine lv_iconst (v := 2) hx hb dX9_sign_1 (by decide) ?_
  refine lv_irem hx hb dX9_sign_2 (by decide) ?_
  refine lv_if_ne (tgt := 10) hx hb dX9_sign_3 (by decide) (fun c1 => ?_) (fun c1 => ?_)
  · replace h := h.1 c1
    refine lv_iconst (v := -1) hx hb dX9_sign_10 (by decide) ?_
    exact b9_sign_b11 (-1 : Int32) C h hG (lv_sub hl [] rfl)
  · replace h := h.2 c1
    refine lv_iconst (v := 1) hx hb dX9_sign_6 (by decide) ?_
    refine lv_goto (tgt := 11) hx hb dX9_sign_7 (by decide) ?_
    exact b9_sign_b11 (1 : Int32) C h hG (lv_sub hl [] rfl)
-- X9_cross
def w9_cross_b59 (t0 : Int32) (t1 : Int32) (Q : Int32 → Prop) : Prop :=
  Q (t0 + t1)
set_option maxHeartbeats 4000000 in
set_option maxRecDepth 100000 in
theorem b9_cross_b59 {p : Program} {l : Launch} {e : Env} {s : State} {m : MethodId} {args : Array Value} {below : List Frame} {meth : Method} {c : Code} {D : va_G} {cy : Nat → ClassId} {A : Nat → Prop} (t0 : Int32) (t1 : Int32) {Q : Int32 → Prop} (C : Cx p s m args meth c cX9_cross 4 (some .int) wsX9_cross RX9 D cy nestWs A) (h : w9_cross_b59 t0 t1 Q) {H : Heap} {locs : List Loc} (hG : GW D A s (([] : va_W)) H locs) {ls : Array Slot} (hl : lv_has ls 4 []) : W p l e ({ frames := 1, cells := 0, slots := 0, locals := 20 } : Room) s m args below meth c H locs 0 0 (MQ below (va_Qi (fun r _ => Q r) (B1 D (fun _ : Unit => ([] : va_W)) A) A) args s 0 0 A) (F0 m 59 ls [.int t1, .int t0]) := by
  have hx := C.1
  have hb := C.2.1
  unfold w9_cross_b59 at h
  refine lv_iadd hx hb dX9_cross_59 ?_
  exact retI (w := (fun _ : Unit => ([] : va_W))) (S := ()) C hG h dX9_cross_60
def w9_cross_b50 (t0 : Int32) (t1 : Int32) (t2 : Int32) (Q : Int32 → Prop) : Prop :=
  (((t1 * t2) ≤ 0 → w9_cross_b59 t0 (1 : Int32) Q) ∧ (¬ (t1 * t2) ≤ 0 → w9_cross_b59 t0 (0 : Int32) Q))
set_option maxHeartbeats 4000000 in
set_option maxRecDepth 100000 in
theorem b9_cross_b50 {p : Program} {l : Launch} {e : Env} {s : State} {m : MethodId} {args : Array Value} {below : List Frame} {meth : Method} {c : Code} {D : va_G} {cy : Nat → ClassId} {A : Nat → Prop} (t0 : Int32) (t1 : Int32) (t2 : Int32) {Q : Int32 → Prop} (C : Cx p s m args meth c cX9_cross 4 (some .int) wsX9_cross RX9 D cy nestWs A) (h : w9_cross_b50 t0 t1 t2 Q) {H : Heap} {locs : List Loc} (hG : GW D A s (([] : va_W)) H locs) {ls : Array Slot} (hl : lv_has ls 4 []) : W p l e ({ frames := 1, cells := 0, slots := 0, locals := 20 } : Room) s m args below meth c H locs 0 0 (MQ below (va_Qi (fun r _ => Q r) (B1 D (fun _ : Unit => ([] : va_W)) A) A) args s 0 0 A) (F0 m 50 ls [.int t2, .int t1, .int t0]) := by
  have hx := C.1
  have hb := C.2.1
  unfold w9_cross_b50 at h
  refine lv_imul hx hb dX9_cross_50 ?_
  refine lv_if_le (tgt := 58) hx hb dX9_cross_51 (by decide) (fun c1 => ?_) (fun c1 => ?_)
  · replace h := h.1 c1
    refine lv_iconst (v := 1) hx hb dX9_cross_58 (by decide) ?_
    exact b9_cross_b59 t0 (1 : Int32) C h hG hl
  · replace h := h.2 c1
    refine lv_iconst (v := 0) hx hb dX9_cross_54 (by decide) ?_
    refine lv_goto (tgt := 59) hx hb dX9_cross_55 (by decide) ?_
    exact b9_cross_b59 t0 (0 : Int32) C h hG hl
def w9_cross_b28 (x0 : Int32) (x1 : Int32) (x2 : Int32) (t0 : Int32) (Q : Int32 → Prop) : Prop :=
  w9_sign x0 (fun r1 => w9_sign x1 (fun r2 => ((t0 = 0 → w9_cross_b50 ((2 : Int32) * x2) (r1 * r2) (-1 : Int32) Q) ∧ (¬ t0 = 0 → w9_cross_b50 ((2 : Int32) * x2) (r1 * r2) (1 : Int32) Q))))
set_option maxHeartbeats 4000000 in
set_option maxRecDepth 100000 in
theorem b9_cross_b28 {p : Program} {l : Launch} {e : Env} {s : State} {m : MethodId} {args : Array Value} {below : List Frame} {meth : Method} {c : Code} {D : va_G} {cy : Nat → ClassId} {A : Nat → Prop} (x0 : Int32) (x1 : Int32) (x2 : Int32) (t0 : Int32) {Q : Int32 → Prop} (C : Cx p s m args meth c cX9_cross 4 (some .int) wsX9_cross RX9 D cy nestWs A) (h : w9_cross_b28 x0 x1 x2 t0 Q) {H : Heap} {locs : List Loc} (hG : GW D A s (([] : va_W)) H locs) {ls : Array Slot} (hl : lv_has ls 4 [(0, .int x0), (1, .int x1), (2, .int x2)]) : W p l e ({ frames := 1, cells := 0, slots := 0, locals := 20 } : Room) s m args below meth c H locs 0 0 (MQ below (va_Qi (fun r _ => Q r) (B1 D (fun _ : Unit => ([] : va_W)) A) A) args s 0 0 A) (F0 m 28 ls [.int t0]) := by
  have hx := C.1
  have hb := C.2.1
  unfold w9_cross_b28 at h
  refine lv_istore_n (lv' := [(3, .int t0), (0, .int x0), (1, .int x1), (2, .int x2)]) hx hb dX9_cross_28 rfl hl (by decide) rfl (fun ls hl => ?_)
  refine lv_iconst (v := 2) hx hb dX9_cross_29 (by decide) ?_
  refine lv_iload_n hx hb dX9_cross_30 rfl (lv_at hl 3 rfl) ?_
  refine lv_imul hx hb dX9_cross_31 ?_
  refine lv_iload_n hx hb dX9_cross_32 rfl (lv_at hl 1 rfl) ?_
  refine callSI (As := [.int x0]) (rest := [.int ((2 : Int32) * x2)]) C hG (c9_sign l D cy x0 _ h) 1 gX9_cross_X9_sign rfl (by decide +kernel) ⟨⟨Nat.le_of_ble_eq_true rfl, Nat.le_of_ble_eq_true rfl⟩, rfl, rfl⟩ (Foc.none C.2.2.2.2.2.2.2.2.1) rfl hl.1 rfl (Nat.le_of_ble_eq_true rfl) dX9_cross_33 ⟨Nat.zero_le _, Nat.zero_le _⟩ (fun r1 z H locs h hG => ?_)
  refine lv_iload_n hx hb dX9_cross_36 rfl (lv_at hl 2 rfl) ?_
  refine callSI (As := [.int x1]) (rest := [.int r1, .int ((2 : Int32) * x2)]) C hG (c9_sign l D cy x1 _ h) 1 gX9_cross_X9_sign rfl (by decide +kernel) ⟨⟨Nat.le_of_ble_eq_true rfl, Nat.le_of_ble_eq_true rfl⟩, rfl, rfl⟩ (Foc.none C.2.2.2.2.2.2.2.2.1) rfl hl.1 rfl (Nat.le_of_ble_eq_true rfl) dX9_cross_37 ⟨Nat.zero_le _, Nat.zero_le _⟩ (fun r2 z H locs h hG => ?_)
  refine lv_imul hx hb dX9_cross_40 ?_
  refine lv_iload_n hx hb dX9_cross_41 rfl (lv_at hl 0 rfl) ?_
  refine lv_if_eq (tgt := 49) hx hb dX9_cross_42 (by decide) (fun c3 => ?_) (fun c3 => ?_)
  · replace h := h.1 c3
    refine lv_iconst (v := -1) hx hb dX9_cross_49 (by decide) ?_
    exact b9_cross_b50 ((2 : Int32) * x2) (r1 * r2) (-1 : Int32) C h hG (lv_sub hl [] rfl)
  · replace h := h.2 c3
    refine lv_iconst (v := 1) hx hb dX9_cross_45 (by decide) ?_
    refine lv_goto (tgt := 50) hx hb dX9_cross_46 (by decide) ?_
    exact b9_cross_b50 ((2 : Int32) * x2) (r1 * r2) (1 : Int32) C h hG (lv_sub hl [] rfl)
def w9_cross (x0 : Int32) (x1 : Int32) (Q : Int32 → Prop) : Prop :=
  ∀ y1 : Int32, y1 = (((3 : Int32) - (x0 / (2 : Int32))) - (x1 / (2 : Int32))) → ((¬ (((x0 / (2 : Int32)) + (1 : Int32)) - ((x0 / (2 : Int32)) + (1 : Int32)) / (3 : Int32) * (3 : Int32)) = (x1 / (2 : Int32)) → w9_cross_b28 x0 x1 y1 (0 : Int32) Q) ∧ ((((x0 / (2 : Int32)) + (1 : Int32)) - ((x0 / (2 : Int32)) + (1 : Int32)) / (3 : Int32) * (3 : Int32)) = (x1 / (2 : Int32)) → w9_cross_b28 x0 x1 y1 (1 : Int32) Q))
set_option maxHeartbeats 4000000 in
set_option maxRecDepth 100000 in
theorem c9_cross (l : Launch) (D : va_G) (cy : Nat → ClassId)  (x0 : Int32) (x1 : Int32) (Q : Int32 → Prop) (h : w9_cross x0 x1 Q) : MetI l yX9_cross wsX9_cross ({ frames := 1, cells := 0, slots := 0, locals := 20 } : Room) D cy nestWs (fun _ : Unit => ([] : va_W)) [.int x0, .int x1] () (fun r _ => Q r) := by
  refine MetI.mk RX9 cX9_cross 4 .int (by decide) rfl nestWs_ok rfl (Nat.le_of_ble_eq_true rfl) ?_
  intro p e s m below meth c A ls C hG hl
  have hl : lv_has ls 4 [(0, .int x0), (1, .int x1)] := hl
  have hx := C.1
  have hb := C.2.1
  unfold w9_cross at h
  refine lv_iconst (v := 3) hx hb dX9_cross_0 (by decide) ?_
  refine lv_iload_n hx hb dX9_cross_1 rfl (lv_at hl 0 rfl) ?_
  refine lv_iconst (v := 2) hx hb dX9_cross_2 (by decide) ?_
  refine lv_idiv hx hb dX9_cross_3 (by decide) ?_
  refine lv_isub hx hb dX9_cross_4 ?_
  refine lv_iload_n hx hb dX9_cross_5 rfl (lv_at hl 1 rfl) ?_
  refine lv_iconst (v := 2) hx hb dX9_cross_6 (by decide) ?_
  refine lv_idiv hx hb dX9_cross_7 (by decide) ?_
  refine lv_isub hx hb dX9_cross_8 ?_
  refine lv_topi (fun y1 ey1 => ?_)
  replace h := h y1 ey1
  refine lv_istore_n (lv' := [(2, .int y1), (0, .int x0), (1, .int x1)]) hx hb dX9_cross_9 rfl hl (by decide) rfl (fun ls hl => ?_)
  refine lv_iload_n hx hb dX9_cross_10 rfl (lv_at hl 1 rfl) ?_
  refine lv_iconst (v := 2) hx hb dX9_cross_11 (by decide) ?_
  refine lv_idiv hx hb dX9_cross_12 (by decide) ?_
  refine lv_iconst (v := 1) hx hb dX9_cross_13 (by decide) ?_
  refine lv_iadd hx hb dX9_cross_14 ?_
  refine lv_iconst (v := 3) hx hb dX9_cross_15 (by decide) ?_
  refine lv_irem hx hb dX9_cross_16 (by decide) ?_
  refine lv_iload_n hx hb dX9_cross_17 rfl (lv_at hl 2 rfl) ?_
  refine lv_iconst (v := 2) hx hb dX9_cross_18 (by decide) ?_
  refine lv_idiv hx hb dX9_cross_19 (by decide) ?_
  refine lv_icmp_ne (tgt := 27) hx hb dX9_cross_20 (by decide) (fun c2 => ?_) (fun c2 => ?_)
  · replace h := h.1 c2
    refine lv_iconst (v := 0) hx hb dX9_cross_27 (by decide) ?_
    exact b9_cross_b28 x0 x1 y1 (0 : Int32) C h hG (lv_sub hl [1, 2, 0] rfl)
  · replace h := h.2 c2
    refine lv_iconst (v := 1) hx hb dX9_cross_23 (by decide) ?_
    refine lv_goto (tgt := 28) hx hb dX9_cross_24 (by decide) ?_
    exact b9_cross_b28 x0 x1 y1 (1 : Int32) C h hG (lv_sub hl [1, 2, 0] rfl)
-- X9_baseUp
def w9_baseUp_b10 (t0 : Int32) (Q : Int32 → Prop) : Prop :=
  Q t0
set_option maxHeartbeats 4000000 in
set_option maxRecDepth 100000 in
theorem b9_baseUp_b10 {p : Program} {l : Launch} {e : Env} {s : State} {m : MethodId} {args : Array Value} {below : List Frame} {meth : Method} {c : Code} {D : va_G} {cy : Nat → ClassId} {A : Nat → Prop} (t0 : Int32) {Q : Int32 → Prop} (C : Cx p s m args meth c cX9_baseUp 1 (some .int) wsX9_baseUp RX9 D cy nestWs A) (h : w9_baseUp_b10 t0 Q) {H : Heap} {locs : List Loc} (hG : GW D A s (([] : va_W)) H locs) {ls : Array Slot} (hl : lv_has ls 1 []) : W p l e ({ frames := 0, cells := 0, slots := 0, locals := 0 } : Room) s m args below meth c H locs 0 0 (MQ below (va_Qi (fun r _ => Q r) (B1 D (fun _ : Unit => ([] : va_W)) A) A) args s 0 0 A) (F0 m 10 ls [.int t0]) := by
  have hx := C.1
  have hb := C.2.1
  unfold w9_baseUp_b10 at h
  exact retI (w := (fun _ : Unit => ([] : va_W))) (S := ()) C hG h dX9_baseUp_10
def w9_baseUp (x0 : Int32) (Q : Int32 → Prop) : Prop :=
  ((x0 ≤ (3 : Int32) → w9_baseUp_b10 (4 : Int32) Q) ∧ (¬ x0 ≤ (3 : Int32) → w9_baseUp_b10 (2 : Int32) Q))
set_option maxHeartbeats 4000000 in
set_option maxRecDepth 100000 in
theorem c9_baseUp (l : Launch) (D : va_G) (cy : Nat → ClassId)  (x0 : Int32) (Q : Int32 → Prop) (h : w9_baseUp x0 Q) : MetI l yX9_baseUp wsX9_baseUp ({ frames := 0, cells := 0, slots := 0, locals := 0 } : Room) D cy nestWs (fun _ : Unit => ([] : va_W)) [.int x0] () (fun r _ => Q r) := by
  refine MetI.mk RX9 cX9_baseUp 1 .int (by decide) rfl nestWs_ok rfl (Nat.le_of_ble_eq_true rfl) ?_
  intro p e s m below meth c A ls C hG hl
  have hl : lv_has ls 1 [(0, .int x0)] := hl
  have hx := C.1
  have hb := C.2.1
  unfold w9_baseUp at h
  refine lv_iload_n hx hb dX9_baseUp_0 rfl (lv_at hl 0 rfl) ?_
  refine lv_iconst (v := 3) hx hb dX9_baseUp_1 (by decide) ?_
  refine lv_icmp_le (tgt := 9) hx hb dX9_baseUp_2 (by decide) (fun c1 => ?_) (fun c1 => ?_)
  · replace h := h.1 c1
    refine lv_iconst (v := 4) hx hb dX9_baseUp_9 (by decide) ?_
    exact b9_baseUp_b10 (4 : Int32) C h hG (lv_sub hl [] rfl)
  · replace h := h.2 c1
    refine lv_iconst (v := 2) hx hb dX9_baseUp_5 (by decide) ?_
    refine lv_goto (tgt := 10) hx hb dX9_baseUp_6 (by decide) ?_
    exact b9_baseUp_b10 (2 : Int32) C h hG (lv_sub hl [] rfl)
-- X9_baseRight
def w9_baseRight (x0 : Int32) (Q : Int32 → Prop) : Prop :=
  w9_baseUp x0 (fun r1 => w9_cross r1 (x0 ^^^ (1 : Int32)) (fun r2 => Q r2))
set_option maxHeartbeats 4000000 in
set_option maxRecDepth 100000 in
theorem c9_baseRight (l : Launch) (D : va_G) (cy : Nat → ClassId)  (x0 : Int32) (Q : Int32 → Prop) (h : w9_baseRight x0 Q) : MetI l yX9_baseRight wsX9_baseRight ({ frames := 2, cells := 0, slots := 0, locals := 43 } : Room) D cy nestWs (fun _ : Unit => ([] : va_W)) [.int x0] () (fun r _ => Q r) := by
  refine MetI.mk RX9 cX9_baseRight 1 .int (by decide) rfl nestWs_ok rfl (Nat.le_of_ble_eq_true rfl) ?_
  intro p e s m below meth c A ls C hG hl
  have hl : lv_has ls 1 [(0, .int x0)] := hl
  have hx := C.1
  have hb := C.2.1
  unfold w9_baseRight at h
  refine lv_iload_n hx hb dX9_baseRight_0 rfl (lv_at hl 0 rfl) ?_
  refine callSI (As := [.int x0]) (rest := []) C hG (c9_baseUp l D cy x0 _ h) 1 gX9_baseRight_X9_baseUp rfl (by decide +kernel) ⟨⟨Nat.le_of_ble_eq_true rfl, Nat.le_of_ble_eq_true rfl⟩, rfl, rfl⟩ (Foc.none C.2.2.2.2.2.2.2.2.1) rfl hl.1 rfl (Nat.le_of_ble_eq_true rfl) dX9_baseRight_1 ⟨Nat.zero_le _, Nat.zero_le _⟩ (fun r1 z H locs h hG => ?_)
  refine lv_iload_n hx hb dX9_baseRight_4 rfl (lv_at hl 0 rfl) ?_
  refine lv_iconst (v := 1) hx hb dX9_baseRight_5 (by decide) ?_
  refine lv_ixor hx hb dX9_baseRight_6 ?_
  refine callSI (As := [.int r1, .int (x0 ^^^ (1 : Int32))]) (rest := []) C hG (c9_cross l D cy r1 (x0 ^^^ (1 : Int32)) _ h) 2 gX9_baseRight_X9_cross rfl (by decide +kernel) ⟨⟨Nat.le_of_ble_eq_true rfl, Nat.le_of_ble_eq_true rfl⟩, rfl, rfl⟩ (Foc.none C.2.2.2.2.2.2.2.2.1) rfl hl.1 rfl (Nat.le_of_ble_eq_true rfl) dX9_baseRight_7 ⟨Nat.zero_le _, Nat.zero_le _⟩ (fun r2 z H locs h hG => ?_)
  exact retI (w := (fun _ : Unit => ([] : va_W))) (S := ()) C hG h dX9_baseRight_10
-- X9_setFrame
theorem i9_setFrame_X9 : ∀ w ∈ wsX90, w ∈ wsX9_setFrame := fun w h => List.mem_cons_of_mem _ (inG_X9 w h)
theorem k9_setFrame_193 : Cond.fieldLink RX9 193 "PaperBodiesModel" "side" "I" ∈ wsX9_setFrame := (List.mem_cons_of_mem _ mw_653)
theorem k9_setFrame_199 : Cond.fieldLink RX9 199 "PaperBodiesModel" "right" "I" ∈ wsX9_setFrame := (List.mem_cons_of_mem _ mw_654)
theorem k9_setFrame_202 : Cond.fieldLink RX9 202 "PaperBodiesModel" "up" "I" ∈ wsX9_setFrame := (List.mem_cons_of_mem _ mw_655)
def w9_setFrame_d24 (K24 : Int32 → MS → Prop) (x1 : Int32) (x2 : Int32) (S : MS) (Q : MS → Prop) : Prop :=
  ((x1 ≤ x2 → Q S) ∧ (¬ x1 ≤ x2 → ∀ y2 : Int32, y2 = (fI S 10) → ∀ S3 : MS, S3 = sI S 10 (fI S 11) → ∀ S4 : MS, S4 = sI S3 11 (y2 ^^^ (1 : Int32)) → ∀ y5 : Int32, y5 = x2 + 1 → K24 y5 S4))
set_option maxHeartbeats 4000000 in
set_option maxRecDepth 100000 in
theorem b9_setFrame_d24 {p : Program} {l : Launch} {e : Env} {s : State} {m : MethodId} {args : Array Value} {below : List Frame} {meth : Method} {c : Code} {D : va_G} {cy : Nat → ClassId} {A : Nat → Prop} {o : Nat} {q : Nat → Nat} {K24 : Int32 → MS → Prop} (x1 : Int32) (x2 : Int32) (S : MS) {Q : MS → Prop} (C : Cx p s m args meth c cX9_setFrame 4 (none) wsX9_setFrame RX9 D cy nestWs A) (hK24 : ∀ (x2 : Int32) (S : MS) (H : Heap) (locs : List Loc) (ls : Array Slot), K24 x2 S → GW D A s (w9 o q cy S) H locs → lv_has ls 4 [(0, .ref o), (1, .int x1), (2, .int x2)] → W p l e ({ frames := 3, cells := 0, slots := 0, locals := 63 } : Room) s m args below meth c H locs 0 0 (MQ below (va_Qv Q (B1 D (w9 o q cy) A) A) args s 0 0 A) (F0 m 24 ls [])) (h : w9_setFrame_d24 K24 x1 x2 S Q) {H : Heap} {locs : List Loc} (hG : GW D A s (w9 o q cy S) H locs) {ls : Array Slot} (hl : lv_has ls 4 [(0, .ref o), (1, .int x1), (2, .int x2)]) : W p l e ({ frames := 3, cells := 0, slots := 0, locals := 63 } : Room) s m args below meth c H locs 0 0 (MQ below (va_Qv Q (B1 D (w9 o q cy) A) A) args s 0 0 A) (F0 m 24 ls []) := by
  have hx := C.1
  have hb := C.2.1
  unfold w9_setFrame_d24 at h
  refine lv_iload_n hx hb dX9_setFrame_24 rfl (lv_at hl 2 rfl) ?_
  refine lv_iload_n hx hb dX9_setFrame_25 rfl (lv_at hl 1 rfl) ?_
  refine lv_icmp_ge (tgt := 55) hx hb dX9_setFrame_26 (by decide) (fun c1 => ?_) (fun c1 => ?_)
  · replace h := h.1 c1
    exact retV (w := (w9 o q cy)) (S := S) C hG h dX9_setFrame_55
  · replace h := h.2 c1
    refine lv_aload_n hx hb dX9_setFrame_29 rfl (lv_at hl 0 rfl) ?_
    refine x9g_10 C i9_setFrame_X9 k9_setFrame_199 hG dX9_setFrame_30 ?_
    refine lv_topi (fun y2 ey2 => ?_)
    replace h := h y2 ey2
    refine lv_istore_n (lv' := [(3, .int y2), (0, .ref o), (1, .int x1), (2, .int x2)]) hx hb dX9_setFrame_33 rfl hl (by decide) rfl (fun ls hl => ?_)
    refine lv_aload_n hx hb dX9_setFrame_34 rfl (lv_at hl 1 rfl) ?_
    refine lv_aload_n hx hb dX9_setFrame_35 rfl (lv_at hl 1 rfl) ?_
    refine x9g_11 C i9_setFrame_X9 k9_setFrame_202 hG dX9_setFrame_36 ?_
    refine x9p_10 C i9_setFrame_X9 k9_setFrame_199 hG dX9_setFrame_39 (fun S3 eS3 H locs hG => ?_)
    replace h := h S3 eS3
    refine lv_aload_n hx hb dX9_setFrame_42 rfl (lv_at hl 1 rfl) ?_
    refine lv_iload_n hx hb dX9_setFrame_43 rfl (lv_at hl 0 rfl) ?_
    refine lv_iconst (v := 1) hx hb dX9_setFrame_44 (by decide) ?_
    refine lv_ixor hx hb dX9_setFrame_45 ?_
    refine x9p_11 C i9_setFrame_X9 k9_setFrame_202 hG dX9_setFrame_46 (fun S4 eS4 H locs hG => ?_)
    replace h := h S4 eS4
    obtain ⟨y5, ey5⟩ : ∃ y : Int32, y = x2 + 1 := ⟨_, rfl⟩
    replace h := h y5 ey5
    refine lv_iinc (v := y5) (lv' := [(2, .int y5), (3, .int y2), (0, .ref o), (1, .int x1)]) hx hb dX9_setFrame_49 hl (k := 3) rfl (by rw [ey5]; rfl) (by decide) rfl (fun ls hl => ?_)
    refine lv_goto (tgt := 24) hx hb dX9_setFrame_52 (by decide) ?_
    exact hK24 y5 S4 _ _ _ h hG (lv_sub hl [2, 3, 0] rfl)
def w9_setFrame_F24 (x1 : Int32) (Q : MS → Prop) (K : Int32 × MS → Prop) (a : Int32 × MS) : Prop := w9_setFrame_d24 (fun y0 y1 => K (y0, y1)) x1 a.1 a.2 Q
def w9_setFrame_b24 (x1 : Int32) (x2 : Int32) (S : MS) (Q : MS → Prop) : Prop := lp (w9_setFrame_F24 x1 Q) (x2, S)
set_option maxHeartbeats 4000000 in
set_option maxRecDepth 100000 in
theorem b9_setFrame_b24 {p : Program} {l : Launch} {e : Env} {s : State} {m : MethodId} {args : Array Value} {below : List Frame} {meth : Method} {c : Code} {D : va_G} {cy : Nat → ClassId} {A : Nat → Prop} {o : Nat} {q : Nat → Nat} (x1 : Int32) (x2 : Int32) (S : MS) {Q : MS → Prop} (C : Cx p s m args meth c cX9_setFrame 4 (none) wsX9_setFrame RX9 D cy nestWs A) (h : w9_setFrame_b24 x1 x2 S Q) {H : Heap} {locs : List Loc} (hG : GW D A s (w9 o q cy S) H locs) {ls : Array Slot} (hl : lv_has ls 4 [(0, .ref o), (1, .int x1), (2, .int x2)]) : W p l e ({ frames := 3, cells := 0, slots := 0, locals := 63 } : Room) s m args below meth c H locs 0 0 (MQ below (va_Qv Q (B1 D (w9 o q cy) A) A) args s 0 0 A) (F0 m 24 ls []) := by
  obtain ⟨k, hn⟩ := h
  induction k generalizing x2 S H locs ls with
  | zero => exact hn.elim
  | succ k ih => exact b9_setFrame_d24 (K24 := fun y0 y1 => itr (w9_setFrame_F24 x1 Q) k (y0, y1)) x1 x2 S C (fun x2 S H locs ls hk hG hl => ih x2 S hG hl hk) hn hG hl
def w9_setFrame (x1 : Int32) (S : MS) (Q : MS → Prop) : Prop :=
  w9_baseRight (fI S 8) (fun r1 => ∀ S2 : MS, S2 = sI S 10 r1 → w9_baseUp (fI S2 8) (fun r3 => ∀ S4 : MS, S4 = sI S2 11 r3 → w9_setFrame_b24 x1 (0 : Int32) S4 Q))
set_option maxHeartbeats 4000000 in
set_option maxRecDepth 100000 in
theorem c9_setFrame (l : Launch) (D : va_G) (cy : Nat → ClassId)  (o : Nat) (q : Nat → Nat) (x1 : Int32) (S : MS) (Q : MS → Prop) (h : w9_setFrame x1 S Q) : MetV l yX9_setFrame wsX9_setFrame ({ frames := 3, cells := 0, slots := 0, locals := 63 } : Room) D cy nestWs (w9 o q cy) [.ref o, .int x1] S Q := by
  refine MetV.mk RX9 cX9_setFrame 4 (by decide) rfl nestWs_ok rfl (Nat.le_of_ble_eq_true rfl) ?_
  intro p e s m below meth c A ls C hG hl
  have hl : lv_has ls 4 [(0, .ref o), (1, .int x1)] := hl
  have hx := C.1
  have hb := C.2.1
  unfold w9_setFrame at h
  refine lv_aload_n hx hb dX9_setFrame_0 rfl (lv_at hl 0 rfl) ?_
  refine lv_aload_n hx hb dX9_setFrame_1 rfl (lv_at hl 0 rfl) ?_
  refine x9g_8 C i9_setFrame_X9 k9_setFrame_193 hG dX9_setFrame_2 ?_
  refine callSI (As := [.int (fI S 8)]) (rest := [.ref o]) C hG (c9_baseRight l D cy (fI S 8) _ h) 1 gX9_setFrame_X9_baseRight rfl (by decide +kernel) ⟨⟨Nat.le_of_ble_eq_true rfl, Nat.le_of_ble_eq_true rfl⟩, rfl, rfl⟩ (Foc.none C.2.2.2.2.2.2.2.2.1) rfl hl.1 rfl (Nat.le_of_ble_eq_true rfl) dX9_setFrame_5 ⟨Nat.zero_le _, Nat.zero_le _⟩ (fun r1 z H locs h hG => ?_)
  refine x9p_10 C i9_setFrame_X9 k9_setFrame_199 hG dX9_setFrame_8 (fun S2 eS2 H locs hG => ?_)
  replace h := h S2 eS2
  refine lv_aload_n hx hb dX9_setFrame_11 rfl (lv_at hl 0 rfl) ?_
  refine lv_aload_n hx hb dX9_setFrame_12 rfl (lv_at hl 0 rfl) ?_
  refine x9g_8 C i9_setFrame_X9 k9_setFrame_193 hG dX9_setFrame_13 ?_
  refine callSI (As := [.int (fI S2 8)]) (rest := [.ref o]) C hG (c9_baseUp l D cy (fI S2 8) _ h) 1 gX9_setFrame_X9_baseUp rfl (by decide +kernel) ⟨⟨Nat.le_of_ble_eq_true rfl, Nat.le_of_ble_eq_true rfl⟩, rfl, rfl⟩ (Foc.none C.2.2.2.2.2.2.2.2.1) rfl hl.1 rfl (Nat.le_of_ble_eq_true rfl) dX9_setFrame_16 ⟨Nat.zero_le _, Nat.zero_le _⟩ (fun r3 z H locs h hG => ?_)
  refine x9p_11 C i9_setFrame_X9 k9_setFrame_202 hG dX9_setFrame_19 (fun S4 eS4 H locs hG => ?_)
  replace h := h S4 eS4
  refine lv_iconst (v := 0) hx hb dX9_setFrame_22 (by decide) ?_
  refine lv_istore_n (lv' := [(2, .int (0 : Int32)), (0, .ref o), (1, .int x1)]) hx hb dX9_setFrame_23 rfl hl (by decide) rfl (fun ls hl => ?_)
  exact b9_setFrame_b24 x1 (0 : Int32) S4 C h hG (lv_sub hl [1, 2, 0] rfl)
-- X9_turnNow
theorem i9_turnNow_X9 : ∀ w ∈ wsX90, w ∈ wsX9_turnNow := fun w h => List.mem_cons_of_mem _ (inG_X9 w h)
theorem k9_turnNow_193 : Cond.fieldLink RX9 193 "PaperBodiesModel" "side" "I" ∈ wsX9_turnNow := (List.mem_cons_of_mem _ mw_653)
theorem k9_turnNow_202 : Cond.fieldLink RX9 202 "PaperBodiesModel" "up" "I" ∈ wsX9_turnNow := (List.mem_cons_of_mem _ mw_655)
def w9_turnNow_b57 (t0 : Int32) (S : MS) (Q : Int32 → Prop) : Prop :=
  Q t0
set_option maxHeartbeats 4000000 in
set_option maxRecDepth 100000 in
theorem b9_turnNow_b57 {p : Program} {l : Launch} {e : Env} {s : State} {m : MethodId} {args : Array Value} {below : List Frame} {meth : Method} {c : Code} {D : va_G} {cy : Nat → ClassId} {A : Nat → Prop} {o : Nat} {q : Nat → Nat} (t0 : Int32) (S : MS) {Q : Int32 → Prop} (C : Cx p s m args meth c cX9_turnNow 3 (some .int) wsX9_turnNow RX9 D cy nestWs A) (h : w9_turnNow_b57 t0 S Q) {H : Heap} {locs : List Loc} (hG : GW D A s (w9 o q cy S) H locs) {ls : Array Slot} (hl : lv_has ls 3 [(0, .ref o)]) : W p l e ({ frames := 3, cells := 0, slots := 0, locals := 63 } : Room) s m args below meth c H locs 0 0 (MQ below (va_Qi (fun r z => z = S ∧ Q r ) (B1 D (w9 o q cy) A) A) args s 0 0 A) (F0 m 57 ls [.int t0]) := by
  have hx := C.1
  have hb := C.2.1
  unfold w9_turnNow_b57 at h
  exact retI (w := (w9 o q cy)) (S := S) C hG ⟨rfl, h⟩ dX9_turnNow_57
def w9_turnNow (S : MS) (Q : Int32 → Prop) : Prop :=
  w9_baseRight (fI S 8) (fun r1 => w9_baseUp (fI S 8) (fun r2 => ((¬ (fI S 11) = r2 → ((¬ (fI S 11) = (r1 ^^^ (1 : Int32)) → ((¬ (fI S 11) = (r2 ^^^ (1 : Int32)) → w9_turnNow_b57 (3 : Int32) S Q) ∧ ((fI S 11) = (r2 ^^^ (1 : Int32)) → w9_turnNow_b57 (2 : Int32) S Q))) ∧ ((fI S 11) = (r1 ^^^ (1 : Int32)) → w9_turnNow_b57 (1 : Int32) S Q))) ∧ ((fI S 11) = r2 → w9_turnNow_b57 (0 : Int32) S Q))))
set_option maxHeartbeats 4000000 in
set_option maxRecDepth 100000 in
theorem c9_turnNow (l : Launch) (D : va_G) (cy : Nat → ClassId)  (o : Nat) (q : Nat → Nat) (S : MS) (Q : Int32 → Prop) (h : w9_turnNow S Q) : MetI l yX9_turnNow wsX9_turnNow ({ frames := 3, cells := 0, slots := 0, locals := 63 } : Room) D cy nestWs (w9 o q cy) [.ref o] S (fun r z => z = S ∧ Q r ) := by
  refine MetI.mk RX9 cX9_turnNow 3 .int (by decide) rfl nestWs_ok rfl (Nat.le_of_ble_eq_true rfl) ?_
  intro p e s m below meth c A ls C hG hl
  have hl : lv_has ls 3 [(0, .ref o)] := hl
  have hx := C.1
  have hb := C.2.1
  unfold w9_turnNow at h
  refine lv_aload_n hx hb dX9_turnNow_0 rfl (lv_at hl 0 rfl) ?_
  refine x9g_8 C i9_turnNow_X9 k9_turnNow_193 hG dX9_turnNow_1 ?_
  refine callSI (As := [.int (fI S 8)]) (rest := []) C hG (c9_baseRight l D cy (fI S 8) _ h) 1 gX9_turnNow_X9_baseRight rfl (by decide +kernel) ⟨⟨Nat.le_of_ble_eq_true rfl, Nat.le_of_ble_eq_true rfl⟩, rfl, rfl⟩ (Foc.none C.2.2.2.2.2.2.2.2.1) rfl hl.1 rfl (Nat.le_of_ble_eq_true rfl) dX9_turnNow_4 ⟨Nat.zero_le _, Nat.zero_le _⟩ (fun r1 z H locs h hG => ?_)
  refine lv_istore_n (lv' := [(1, .int r1), (0, .ref o)]) hx hb dX9_turnNow_7 rfl hl (by decide) rfl (fun ls hl => ?_)
  refine lv_aload_n hx hb dX9_turnNow_8 rfl (lv_at hl 1 rfl) ?_
  refine x9g_8 C i9_turnNow_X9 k9_turnNow_193 hG dX9_turnNow_9 ?_
  refine callSI (As := [.int (fI S 8)]) (rest := []) C hG (c9_baseUp l D cy (fI S 8) _ h) 1 gX9_turnNow_X9_baseUp rfl (by decide +kernel) ⟨⟨Nat.le_of_ble_eq_true rfl, Nat.le_of_ble_eq_true rfl⟩, rfl, rfl⟩ (Foc.none C.2.2.2.2.2.2.2.2.1) rfl hl.1 rfl (Nat.le_of_ble_eq_true rfl) dX9_turnNow_12 ⟨Nat.zero_le _, Nat.zero_le _⟩ (fun r2 z H locs h hG => ?_)
  refine lv_istore_n (lv' := [(2, .int r2), (1, .int r1), (0, .ref o)]) hx hb dX9_turnNow_15 rfl hl (by decide) rfl (fun ls hl => ?_)
  refine lv_aload_n hx hb dX9_turnNow_16 rfl (lv_at hl 2 rfl) ?_
  refine x9g_11 C i9_turnNow_X9 k9_turnNow_202 hG dX9_turnNow_17 ?_
  refine lv_iload_n hx hb dX9_turnNow_20 rfl (lv_at hl 0 rfl) ?_
  refine lv_icmp_ne (tgt := 28) hx hb dX9_turnNow_21 (by decide) (fun c3 => ?_) (fun c3 => ?_)
  · replace h := h.1 c3
    refine lv_aload_n hx hb dX9_turnNow_28 rfl (lv_at hl 2 rfl) ?_
    refine x9g_11 C i9_turnNow_X9 k9_turnNow_202 hG dX9_turnNow_29 ?_
    refine lv_iload_n hx hb dX9_turnNow_32 rfl (lv_at hl 1 rfl) ?_
    refine lv_iconst (v := 1) hx hb dX9_turnNow_33 (by decide) ?_
    refine lv_ixor hx hb dX9_turnNow_34 ?_
    refine lv_icmp_ne (tgt := 42) hx hb dX9_turnNow_35 (by decide) (fun c4 => ?_) (fun c4 => ?_)
    · replace h := h.1 c4
      refine lv_aload_n hx hb dX9_turnNow_42 rfl (lv_at hl 2 rfl) ?_
      refine x9g_11 C i9_turnNow_X9 k9_turnNow_202 hG dX9_turnNow_43 ?_
      refine lv_iload_n hx hb dX9_turnNow_46 rfl (lv_at hl 0 rfl) ?_
      refine lv_iconst (v := 1) hx hb dX9_turnNow_47 (by decide) ?_
      refine lv_ixor hx hb dX9_turnNow_48 ?_
      refine lv_icmp_ne (tgt := 56) hx hb dX9_turnNow_49 (by decide) (fun c5 => ?_) (fun c5 => ?_)
      · replace h := h.1 c5
        refine lv_iconst (v := 3) hx hb dX9_turnNow_56 (by decide) ?_
        exact b9_turnNow_b57 (3 : Int32) S C h hG (lv_sub hl [2] rfl)
      · replace h := h.2 c5
        refine lv_iconst (v := 2) hx hb dX9_turnNow_52 (by decide) ?_
        refine lv_goto (tgt := 57) hx hb dX9_turnNow_53 (by decide) ?_
        exact b9_turnNow_b57 (2 : Int32) S C h hG (lv_sub hl [2] rfl)
    · replace h := h.2 c4
      refine lv_iconst (v := 1) hx hb dX9_turnNow_38 (by decide) ?_
      refine lv_goto (tgt := 57) hx hb dX9_turnNow_39 (by decide) ?_
      exact b9_turnNow_b57 (1 : Int32) S C h hG (lv_sub hl [2] rfl)
  · replace h := h.2 c3
    refine lv_iconst (v := 0) hx hb dX9_turnNow_24 (by decide) ?_
    refine lv_goto (tgt := 57) hx hb dX9_turnNow_25 (by decide) ?_
    exact b9_turnNow_b57 (0 : Int32) S C h hG (lv_sub hl [2] rfl)
-- X9_sideSize
theorem i9_sideSize_X9 : ∀ w ∈ wsX90, w ∈ wsX9_sideSize := fun w h => List.mem_cons_of_mem _ (inG_X9 w h)
theorem k9_sideSize_26 : Cond.fieldLink RX9 26 "PaperBodiesModel" "dims" "[I" ∈ wsX9_sideSize := (List.mem_cons_of_mem _ mw_542)
def w9_sideSize_b39 (t0 : Int32) (t2 : Int32) (t3 : Int32) (S : MS) (Q : Int32 → Prop) : Prop :=
  vp_in (t2 + t3) 12 ∧ Q (t0 * (rA S 7 (t2 + t3)))
set_option maxHeartbeats 4000000 in
set_option maxRecDepth 100000 in
theorem b9_sideSize_b39 {p : Program} {l : Launch} {e : Env} {s : State} {m : MethodId} {args : Array Value} {below : List Frame} {meth : Method} {c : Code} {D : va_G} {cy : Nat → ClassId} {A : Nat → Prop} {o : Nat} {q : Nat → Nat} (t0 : Int32) (t2 : Int32) (t3 : Int32) (S : MS) {Q : Int32 → Prop} (C : Cx p s m args meth c cX9_sideSize 4 (some .int) wsX9_sideSize RX9 D cy nestWs A) (h : w9_sideSize_b39 t0 t2 t3 S Q) {H : Heap} {locs : List Loc} (hG : GW D A s (w9 o q cy S) H locs) {ls : Array Slot} (hl : lv_has ls 4 [(0, .ref o)]) : W p l e ({ frames := 0, cells := 0, slots := 0, locals := 0 } : Room) s m args below meth c H locs 0 0 (MQ below (va_Qi (fun r z => z = S ∧ Q r ) (B1 D (w9 o q cy) A) A) args s 0 0 A) (F0 m 39 ls [.int t3, .int t2, .ref (q 7), .int t0]) := by
  have hx := C.1
  have hb := C.2.1
  unfold w9_sideSize_b39 at h
  refine lv_iadd hx hb dX9_sideSize_39 ?_
  obtain ⟨hv1, h⟩ := h
  refine x9l_7 C hG hv1 dX9_sideSize_40 ?_
  refine lv_imul hx hb dX9_sideSize_41 ?_
  exact retI (w := (w9 o q cy)) (S := S) C hG ⟨rfl, h⟩ dX9_sideSize_42
def w9_sideSize_b20 (x1 : Int32) (x3 : Int32) (t1 : Int32) (t2 : Int32) (S : MS) (Q : Int32 → Prop) : Prop :=
  vp_in (t1 + t2) 12 ∧ ((¬ x3 = (2 : Int32) → w9_sideSize_b39 (rA S 7 (t1 + t2)) ((3 : Int32) * x1) (2 : Int32) S Q) ∧ (x3 = (2 : Int32) → w9_sideSize_b39 (rA S 7 (t1 + t2)) ((3 : Int32) * x1) (1 : Int32) S Q))
set_option maxHeartbeats 4000000 in
set_option maxRecDepth 100000 in
theorem b9_sideSize_b20 {p : Program} {l : Launch} {e : Env} {s : State} {m : MethodId} {args : Array Value} {below : List Frame} {meth : Method} {c : Code} {D : va_G} {cy : Nat → ClassId} {A : Nat → Prop} {o : Nat} {q : Nat → Nat} (x1 : Int32) (x3 : Int32) (t1 : Int32) (t2 : Int32) (S : MS) {Q : Int32 → Prop} (C : Cx p s m args meth c cX9_sideSize 4 (some .int) wsX9_sideSize RX9 D cy nestWs A) (h : w9_sideSize_b20 x1 x3 t1 t2 S Q) {H : Heap} {locs : List Loc} (hG : GW D A s (w9 o q cy S) H locs) {ls : Array Slot} (hl : lv_has ls 4 [(0, .ref o), (1, .int x1), (3, .int x3)]) : W p l e ({ frames := 0, cells := 0, slots := 0, locals := 0 } : Room) s m args below meth c H locs 0 0 (MQ below (va_Qi (fun r z => z = S ∧ Q r ) (B1 D (w9 o q cy) A) A) args s 0 0 A) (F0 m 20 ls [.int t2, .int t1, .ref (q 7)]) := by
  have hx := C.1
  have hb := C.2.1
  unfold w9_sideSize_b20 at h
  refine lv_iadd hx hb dX9_sideSize_20 ?_
  obtain ⟨hv1, h⟩ := h
  refine x9l_7 C hG hv1 dX9_sideSize_21 ?_
  refine lv_aload_n hx hb dX9_sideSize_22 rfl (lv_at hl 0 rfl) ?_
  refine x9g_7 C i9_sideSize_X9 k9_sideSize_26 hG dX9_sideSize_23 ?_
  refine lv_iconst (v := 3) hx hb dX9_sideSize_26 (by decide) ?_
  refine lv_iload_n hx hb dX9_sideSize_27 rfl (lv_at hl 1 rfl) ?_
  refine lv_imul hx hb dX9_sideSize_28 ?_
  refine lv_iload_n hx hb dX9_sideSize_29 rfl (lv_at hl 2 rfl) ?_
  refine lv_iconst (v := 2) hx hb dX9_sideSize_30 (by decide) ?_
  refine lv_icmp_ne (tgt := 38) hx hb dX9_sideSize_31 (by decide) (fun c2 => ?_) (fun c2 => ?_)
  · replace h := h.1 c2
    refine lv_iconst (v := 2) hx hb dX9_sideSize_38 (by decide) ?_
    exact b9_sideSize_b39 (rA S 7 (t1 + t2)) ((3 : Int32) * x1) (2 : Int32) S C h hG (lv_sub hl [0] rfl)
  · replace h := h.2 c2
    refine lv_iconst (v := 1) hx hb dX9_sideSize_34 (by decide) ?_
    refine lv_goto (tgt := 39) hx hb dX9_sideSize_35 (by decide) ?_
    exact b9_sideSize_b39 (rA S 7 (t1 + t2)) ((3 : Int32) * x1) (1 : Int32) S C h hG (lv_sub hl [0] rfl)
def w9_sideSize (x1 : Int32) (x2 : Int32) (S : MS) (Q : Int32 → Prop) : Prop :=
  ∀ y1 : Int32, y1 = (x2 / (2 : Int32)) → ((¬ y1 = 0 → w9_sideSize_b20 x1 y1 ((3 : Int32) * x1) (0 : Int32) S Q) ∧ (y1 = 0 → w9_sideSize_b20 x1 y1 ((3 : Int32) * x1) (1 : Int32) S Q))
set_option maxHeartbeats 4000000 in
set_option maxRecDepth 100000 in
theorem c9_sideSize (l : Launch) (D : va_G) (cy : Nat → ClassId)  (o : Nat) (q : Nat → Nat) (x1 : Int32) (x2 : Int32) (S : MS) (Q : Int32 → Prop) (h : w9_sideSize x1 x2 S Q) : MetI l yX9_sideSize wsX9_sideSize ({ frames := 0, cells := 0, slots := 0, locals := 0 } : Room) D cy nestWs (w9 o q cy) [.ref o, .int x1, .int x2] S (fun r z => z = S ∧ Q r ) := by
  refine MetI.mk RX9 cX9_sideSize 4 .int (by decide) rfl nestWs_ok rfl (Nat.le_of_ble_eq_true rfl) ?_
  intro p e s m below meth c A ls C hG hl
  have hl : lv_has ls 4 [(0, .ref o), (1, .int x1), (2, .int x2)] := hl
  have hx := C.1
  have hb := C.2.1
  unfold w9_sideSize at h
  refine lv_iload_n hx hb dX9_sideSize_0 rfl (lv_at hl 2 rfl) ?_
  refine lv_iconst (v := 2) hx hb dX9_sideSize_1 (by decide) ?_
  refine lv_idiv hx hb dX9_sideSize_2 (by decide) ?_
  refine lv_topi (fun y1 ey1 => ?_)
  replace h := h y1 ey1
  refine lv_istore_n (lv' := [(3, .int y1), (0, .ref o), (1, .int x1), (2, .int x2)]) hx hb dX9_sideSize_3 rfl hl (by decide) rfl (fun ls hl => ?_)
  refine lv_aload_n hx hb dX9_sideSize_4 rfl (lv_at hl 1 rfl) ?_
  refine x9g_7 C i9_sideSize_X9 k9_sideSize_26 hG dX9_sideSize_5 ?_
  refine lv_iconst (v := 3) hx hb dX9_sideSize_8 (by decide) ?_
  refine lv_iload_n hx hb dX9_sideSize_9 rfl (lv_at hl 2 rfl) ?_
  refine lv_imul hx hb dX9_sideSize_10 ?_
  refine lv_iload_n hx hb dX9_sideSize_11 rfl (lv_at hl 0 rfl) ?_
  refine lv_if_ne (tgt := 19) hx hb dX9_sideSize_12 (by decide) (fun c2 => ?_) (fun c2 => ?_)
  · replace h := h.1 c2
    refine lv_iconst (v := 0) hx hb dX9_sideSize_19 (by decide) ?_
    exact b9_sideSize_b20 x1 y1 ((3 : Int32) * x1) (0 : Int32) S C h hG (lv_sub hl [1, 2, 0] rfl)
  · replace h := h.2 c2
    refine lv_iconst (v := 1) hx hb dX9_sideSize_15 (by decide) ?_
    refine lv_goto (tgt := 20) hx hb dX9_sideSize_16 (by decide) ?_
    exact b9_sideSize_b20 x1 y1 ((3 : Int32) * x1) (1 : Int32) S C h hG (lv_sub hl [1, 2, 0] rfl)
-- X9_goTo
theorem i9_goTo_X9 : ∀ w ∈ wsX90, w ∈ wsX9_goTo := fun w h => List.mem_cons_of_mem _ (inG_X9 w h)
theorem k9_goTo_26 : Cond.fieldLink RX9 26 "PaperBodiesModel" "dims" "[I" ∈ wsX9_goTo := (List.mem_cons_of_mem _ mw_542)
theorem k9_goTo_29 : Cond.fieldLink RX9 29 "PaperBodiesModel" "at" "[I" ∈ wsX9_goTo := (List.mem_cons_of_mem _ mw_543)
theorem k9_goTo_193 : Cond.fieldLink RX9 193 "PaperBodiesModel" "side" "I" ∈ wsX9_goTo := (List.mem_cons_of_mem _ mw_653)
def w9_goTo_b110 (x1 : Int32) (x3 : Int32) (x5 : Int32) (x6 : Int32) (t1 : Int32) (t2 : Int32) (S : MS) (Q : MS → Prop) : Prop :=
  vp_in t1 3 ∧ ∀ S2 : MS, S2 = sA S 9 t1 t2 → vp_in (((3 : Int32) * x1) + x6) 12 ∧ ¬ (rA S2 7 (((3 : Int32) * x1) + x6)) = 0 ∧ vp_in x5 3 ∧ ∀ S6 : MS, S6 = sA S2 9 x5 (((2 : Int32) * (x3 / (rA S2 7 (((3 : Int32) * x1) + x6)))) + (1 : Int32)) → ¬ (rA S6 7 (((3 : Int32) * x1) + x6)) = 0 ∧ vp_in x6 3 ∧ ∀ S9 : MS, S9 = sA S6 9 x6 (((2 : Int32) * (x3 - x3 / (rA S6 7 (((3 : Int32) * x1) + x6)) * (rA S6 7 (((3 : Int32) * x1) + x6)))) + (1 : Int32)) → Q S9
set_option maxHeartbeats 4000000 in
set_option maxRecDepth 100000 in
theorem b9_goTo_b110 {p : Program} {l : Launch} {e : Env} {s : State} {m : MethodId} {args : Array Value} {below : List Frame} {meth : Method} {c : Code} {D : va_G} {cy : Nat → ClassId} {A : Nat → Prop} {o : Nat} {q : Nat → Nat} (x1 : Int32) (x3 : Int32) (x5 : Int32) (x6 : Int32) (t1 : Int32) (t2 : Int32) (S : MS) {Q : MS → Prop} (C : Cx p s m args meth c cX9_goTo 7 (none) wsX9_goTo RX9 D cy nestWs A) (h : w9_goTo_b110 x1 x3 x5 x6 t1 t2 S Q) {H : Heap} {locs : List Loc} (hG : GW D A s (w9 o q cy S) H locs) {ls : Array Slot} (hl : lv_has ls 7 [(0, .ref o), (1, .int x1), (3, .int x3), (5, .int x5), (6, .int x6)]) : W p l e ({ frames := 1, cells := 0, slots := 0, locals := 23 } : Room) s m args below meth c H locs 0 0 (MQ below (va_Qv Q (B1 D (w9 o q cy) A) A) args s 0 0 A) (F0 m 110 ls [.int t2, .int t1, .ref (q 9)]) := by
  have hx := C.1
  have hb := C.2.1
  unfold w9_goTo_b110 at h
  obtain ⟨hv1, h⟩ := h
  refine x9s_9 C hG hv1 dX9_goTo_110 (fun S2 eS2 H locs hG => ?_)
  replace h := h S2 eS2
  refine lv_aload_n hx hb dX9_goTo_111 rfl (lv_at hl 0 rfl) ?_
  refine x9g_9 C i9_goTo_X9 k9_goTo_29 hG dX9_goTo_112 ?_
  refine lv_iload hx hb dX9_goTo_115 (lv_at hl 3 rfl) ?_
  refine lv_iconst (v := 2) hx hb dX9_goTo_117 (by decide) ?_
  refine lv_iload_n hx hb dX9_goTo_118 rfl (lv_at hl 2 rfl) ?_
  refine lv_aload_n hx hb dX9_goTo_119 rfl (lv_at hl 0 rfl) ?_
  refine x9g_7 C i9_goTo_X9 k9_goTo_26 hG dX9_goTo_120 ?_
  refine lv_iconst (v := 3) hx hb dX9_goTo_123 (by decide) ?_
  refine lv_iload_n hx hb dX9_goTo_124 rfl (lv_at hl 1 rfl) ?_
  refine lv_imul hx hb dX9_goTo_125 ?_
  refine lv_iload hx hb dX9_goTo_126 (lv_at hl 4 rfl) ?_
  refine lv_iadd hx hb dX9_goTo_128 ?_
  obtain ⟨hv3, h⟩ := h
  refine x9l_7 C hG hv3 dX9_goTo_129 ?_
  obtain ⟨hz4, h⟩ := h
  refine lv_idiv hx hb dX9_goTo_130 hz4 ?_
  refine lv_imul hx hb dX9_goTo_131 ?_
  refine lv_iconst (v := 1) hx hb dX9_goTo_132 (by decide) ?_
  refine lv_iadd hx hb dX9_goTo_133 ?_
  obtain ⟨hv5, h⟩ := h
  refine x9s_9 C hG hv5 dX9_goTo_134 (fun S6 eS6 H locs hG => ?_)
  replace h := h S6 eS6
  refine lv_aload_n hx hb dX9_goTo_135 rfl (lv_at hl 0 rfl) ?_
  refine x9g_9 C i9_goTo_X9 k9_goTo_29 hG dX9_goTo_136 ?_
  refine lv_iload hx hb dX9_goTo_139 (lv_at hl 4 rfl) ?_
  refine lv_iconst (v := 2) hx hb dX9_goTo_141 (by decide) ?_
  refine lv_iload_n hx hb dX9_goTo_142 rfl (lv_at hl 2 rfl) ?_
  refine lv_aload_n hx hb dX9_goTo_143 rfl (lv_at hl 0 rfl) ?_
  refine x9g_7 C i9_goTo_X9 k9_goTo_26 hG dX9_goTo_144 ?_
  refine lv_iconst (v := 3) hx hb dX9_goTo_147 (by decide) ?_
  refine lv_iload_n hx hb dX9_goTo_148 rfl (lv_at hl 1 rfl) ?_
  refine lv_imul hx hb dX9_goTo_149 ?_
  refine lv_iload hx hb dX9_goTo_150 (lv_at hl 4 rfl) ?_
  refine lv_iadd hx hb dX9_goTo_152 ?_
  refine x9l_7 C hG hv3 dX9_goTo_153 ?_
  obtain ⟨hz7, h⟩ := h
  refine lv_irem hx hb dX9_goTo_154 hz7 ?_
  refine lv_imul hx hb dX9_goTo_155 ?_
  refine lv_iconst (v := 1) hx hb dX9_goTo_156 (by decide) ?_
  refine lv_iadd hx hb dX9_goTo_157 ?_
  obtain ⟨hv8, h⟩ := h
  refine x9s_9 C hG hv8 dX9_goTo_158 (fun S9 eS9 H locs hG => ?_)
  replace h := h S9 eS9
  exact retV (w := (w9 o q cy)) (S := S9) C hG h dX9_goTo_159
def w9_goTo_b76 (x1 : Int32) (x3 : Int32) (x4 : Int32) (x5 : Int32) (t0 : Int32) (S : MS) (Q : MS → Prop) : Prop :=
  ((¬ ((fI S 8) - (fI S 8) / (2 : Int32) * (2 : Int32)) = 0 → vp_in (((3 : Int32) * x1) + x4) 12 ∧ w9_goTo_b110 x1 x3 x5 t0 x4 ((2 : Int32) * (rA S 7 (((3 : Int32) * x1) + x4))) S Q) ∧ (((fI S 8) - (fI S 8) / (2 : Int32) * (2 : Int32)) = 0 → w9_goTo_b110 x1 x3 x5 t0 x4 (0 : Int32) S Q))
set_option maxHeartbeats 4000000 in
set_option maxRecDepth 100000 in
theorem b9_goTo_b76 {p : Program} {l : Launch} {e : Env} {s : State} {m : MethodId} {args : Array Value} {below : List Frame} {meth : Method} {c : Code} {D : va_G} {cy : Nat → ClassId} {A : Nat → Prop} {o : Nat} {q : Nat → Nat} (x1 : Int32) (x3 : Int32) (x4 : Int32) (x5 : Int32) (t0 : Int32) (S : MS) {Q : MS → Prop} (C : Cx p s m args meth c cX9_goTo 7 (none) wsX9_goTo RX9 D cy nestWs A) (h : w9_goTo_b76 x1 x3 x4 x5 t0 S Q) {H : Heap} {locs : List Loc} (hG : GW D A s (w9 o q cy S) H locs) {ls : Array Slot} (hl : lv_has ls 7 [(0, .ref o), (1, .int x1), (3, .int x3), (4, .int x4), (5, .int x5)]) : W p l e ({ frames := 1, cells := 0, slots := 0, locals := 23 } : Room) s m args below meth c H locs 0 0 (MQ below (va_Qv Q (B1 D (w9 o q cy) A) A) args s 0 0 A) (F0 m 76 ls [.int t0]) := by
  have hx := C.1
  have hb := C.2.1
  unfold w9_goTo_b76 at h
  refine lv_istore (lv' := [(6, .int t0), (0, .ref o), (1, .int x1), (3, .int x3), (4, .int x4), (5, .int x5)]) hx hb dX9_goTo_76 hl (by decide) rfl (fun ls hl => ?_)
  refine lv_aload_n hx hb dX9_goTo_78 rfl (lv_at hl 1 rfl) ?_
  refine x9g_9 C i9_goTo_X9 k9_goTo_29 hG dX9_goTo_79 ?_
  refine lv_iload hx hb dX9_goTo_82 (lv_at hl 4 rfl) ?_
  refine lv_aload_n hx hb dX9_goTo_84 rfl (lv_at hl 1 rfl) ?_
  refine x9g_8 C i9_goTo_X9 k9_goTo_193 hG dX9_goTo_85 ?_
  refine lv_iconst (v := 2) hx hb dX9_goTo_88 (by decide) ?_
  refine lv_irem hx hb dX9_goTo_89 (by decide) ?_
  refine lv_if_ne (tgt := 97) hx hb dX9_goTo_90 (by decide) (fun c1 => ?_) (fun c1 => ?_)
  · replace h := h.1 c1
    refine lv_iconst (v := 2) hx hb dX9_goTo_97 (by decide) ?_
    refine lv_aload_n hx hb dX9_goTo_98 rfl (lv_at hl 1 rfl) ?_
    refine x9g_7 C i9_goTo_X9 k9_goTo_26 hG dX9_goTo_99 ?_
    refine lv_iconst (v := 3) hx hb dX9_goTo_102 (by decide) ?_
    refine lv_iload_n hx hb dX9_goTo_103 rfl (lv_at hl 2 rfl) ?_
    refine lv_imul hx hb dX9_goTo_104 ?_
    refine lv_iload hx hb dX9_goTo_105 (lv_at hl 4 rfl) ?_
    refine lv_iadd hx hb dX9_goTo_107 ?_
    obtain ⟨hv2, h⟩ := h
    refine x9l_7 C hG hv2 dX9_goTo_108 ?_
    refine lv_imul hx hb dX9_goTo_109 ?_
    exact b9_goTo_b110 x1 x3 x5 t0 x4 ((2 : Int32) * (rA S 7 (((3 : Int32) * x1) + x4))) S C h hG (lv_sub hl [1, 2, 3, 5, 0] rfl)
  · replace h := h.2 c1
    refine lv_iconst (v := 0) hx hb dX9_goTo_93 (by decide) ?_
    refine lv_goto (tgt := 110) hx hb dX9_goTo_94 (by decide) ?_
    exact b9_goTo_b110 x1 x3 x5 t0 x4 (0 : Int32) S C h hG (lv_sub hl [1, 2, 3, 5, 0] rfl)
def w9_goTo_b63 (x1 : Int32) (x3 : Int32) (x4 : Int32) (t0 : Int32) (S : MS) (Q : MS → Prop) : Prop :=
  ((¬ x4 = (2 : Int32) → w9_goTo_b76 x1 x3 x4 t0 (2 : Int32) S Q) ∧ (x4 = (2 : Int32) → w9_goTo_b76 x1 x3 x4 t0 (1 : Int32) S Q))
set_option maxHeartbeats 4000000 in
set_option maxRecDepth 100000 in
theorem b9_goTo_b63 {p : Program} {l : Launch} {e : Env} {s : State} {m : MethodId} {args : Array Value} {below : List Frame} {meth : Method} {c : Code} {D : va_G} {cy : Nat → ClassId} {A : Nat → Prop} {o : Nat} {q : Nat → Nat} (x1 : Int32) (x3 : Int32) (x4 : Int32) (t0 : Int32) (S : MS) {Q : MS → Prop} (C : Cx p s m args meth c cX9_goTo 7 (none) wsX9_goTo RX9 D cy nestWs A) (h : w9_goTo_b63 x1 x3 x4 t0 S Q) {H : Heap} {locs : List Loc} (hG : GW D A s (w9 o q cy S) H locs) {ls : Array Slot} (hl : lv_has ls 7 [(0, .ref o), (1, .int x1), (3, .int x3), (4, .int x4)]) : W p l e ({ frames := 1, cells := 0, slots := 0, locals := 23 } : Room) s m args below meth c H locs 0 0 (MQ below (va_Qv Q (B1 D (w9 o q cy) A) A) args s 0 0 A) (F0 m 63 ls [.int t0]) := by
  have hx := C.1
  have hb := C.2.1
  unfold w9_goTo_b63 at h
  refine lv_istore (lv' := [(5, .int t0), (0, .ref o), (1, .int x1), (3, .int x3), (4, .int x4)]) hx hb dX9_goTo_63 hl (by decide) rfl (fun ls hl => ?_)
  refine lv_iload hx hb dX9_goTo_65 (lv_at hl 4 rfl) ?_
  refine lv_iconst (v := 2) hx hb dX9_goTo_67 (by decide) ?_
  refine lv_icmp_ne (tgt := 75) hx hb dX9_goTo_68 (by decide) (fun c1 => ?_) (fun c1 => ?_)
  · replace h := h.1 c1
    refine lv_iconst (v := 2) hx hb dX9_goTo_75 (by decide) ?_
    exact b9_goTo_b76 x1 x3 x4 t0 (2 : Int32) S C h hG (lv_sub hl [1, 2, 3, 4, 0] rfl)
  · replace h := h.2 c1
    refine lv_iconst (v := 1) hx hb dX9_goTo_71 (by decide) ?_
    refine lv_goto (tgt := 76) hx hb dX9_goTo_72 (by decide) ?_
    exact b9_goTo_b76 x1 x3 x4 t0 (1 : Int32) S C h hG (lv_sub hl [1, 2, 3, 4, 0] rfl)
def w9_goTo_d7 (K7 : Int32 → MS → Prop) (x1 : Int32) (x3 : Int32) (S : MS) (Q : MS → Prop) : Prop :=
  w9_sideSize x1 (fI S 8) S (fun r1 => ((x3 < r1 → ∀ y4 : Int32, y4 = ((fI S 8) / (2 : Int32)) → ((¬ y4 = 0 → w9_goTo_b63 x1 x3 y4 (0 : Int32) S Q) ∧ (y4 = 0 → w9_goTo_b63 x1 x3 y4 (1 : Int32) S Q))) ∧ (¬ x3 < r1 → w9_sideSize x1 (fI S 8) S (fun r6 => ∀ y8 : Int32, y8 = (x3 - r6) → ∀ S9 : MS, S9 = sI S 8 ((fI S 8) + (1 : Int32)) → K7 y8 S9))))
set_option maxHeartbeats 4000000 in
set_option maxRecDepth 100000 in
theorem b9_goTo_d7 {p : Program} {l : Launch} {e : Env} {s : State} {m : MethodId} {args : Array Value} {below : List Frame} {meth : Method} {c : Code} {D : va_G} {cy : Nat → ClassId} {A : Nat → Prop} {o : Nat} {q : Nat → Nat} {K7 : Int32 → MS → Prop} (x1 : Int32) (x3 : Int32) (S : MS) {Q : MS → Prop} (C : Cx p s m args meth c cX9_goTo 7 (none) wsX9_goTo RX9 D cy nestWs A) (hK7 : ∀ (x3 : Int32) (S : MS) (H : Heap) (locs : List Loc) (ls : Array Slot), K7 x3 S → GW D A s (w9 o q cy S) H locs → lv_has ls 7 [(0, .ref o), (1, .int x1), (3, .int x3)] → W p l e ({ frames := 1, cells := 0, slots := 0, locals := 23 } : Room) s m args below meth c H locs 0 0 (MQ below (va_Qv Q (B1 D (w9 o q cy) A) A) args s 0 0 A) (F0 m 7 ls [])) (h : w9_goTo_d7 K7 x1 x3 S Q) {H : Heap} {locs : List Loc} (hG : GW D A s (w9 o q cy S) H locs) {ls : Array Slot} (hl : lv_has ls 7 [(0, .ref o), (1, .int x1), (3, .int x3)]) : W p l e ({ frames := 1, cells := 0, slots := 0, locals := 23 } : Room) s m args below meth c H locs 0 0 (MQ below (va_Qv Q (B1 D (w9 o q cy) A) A) args s 0 0 A) (F0 m 7 ls []) := by
  have hx := C.1
  have hb := C.2.1
  unfold w9_goTo_d7 at h
  refine lv_iload_n hx hb dX9_goTo_7 rfl (lv_at hl 2 rfl) ?_
  refine lv_aload_n hx hb dX9_goTo_8 rfl (lv_at hl 0 rfl) ?_
  refine lv_iload_n hx hb dX9_goTo_9 rfl (lv_at hl 1 rfl) ?_
  refine lv_aload_n hx hb dX9_goTo_10 rfl (lv_at hl 0 rfl) ?_
  refine x9g_8 C i9_goTo_X9 k9_goTo_193 hG dX9_goTo_11 ?_
  refine callVI (As := [.int x1, .int (fI S 8)]) (rest := [.int x3]) C hG (c9_sideSize l D cy o q x1 (fI S 8) S _ h) 2 gX9_goTo_X9_sideSize rfl (by decide +kernel) ⟨⟨Nat.le_of_ble_eq_true rfl, Nat.le_of_ble_eq_true rfl⟩, rfl, rfl⟩ rfl rfl (Foc.all C.2.2.2.2.2.2.2.2.1) rfl hl.1 rfl (Nat.le_of_ble_eq_true rfl) dX9_goTo_14 ⟨Nat.zero_le _, Nat.zero_le _⟩ (fun r1 u2 H locs h hG => ?_)
  obtain ⟨eu2, h⟩ := h
  have eu2 : u2 = S := eu2
  subst u2
  have hG : GW D A s (w9 o q cy S) H locs := hG
  refine lv_icmp_lt (tgt := 45) hx hb dX9_goTo_17 (by decide) (fun c3 => ?_) (fun c3 => ?_)
  · replace h := h.1 c3
    refine lv_aload_n hx hb dX9_goTo_45 rfl (lv_at hl 0 rfl) ?_
    refine x9g_8 C i9_goTo_X9 k9_goTo_193 hG dX9_goTo_46 ?_
    refine lv_iconst (v := 2) hx hb dX9_goTo_49 (by decide) ?_
    refine lv_idiv hx hb dX9_goTo_50 (by decide) ?_
    refine lv_topi (fun y4 ey4 => ?_)
    replace h := h y4 ey4
    refine lv_istore (lv' := [(4, .int y4), (0, .ref o), (1, .int x1), (3, .int x3)]) hx hb dX9_goTo_51 hl (by decide) rfl (fun ls hl => ?_)
    refine lv_iload hx hb dX9_goTo_53 (lv_at hl 0 rfl) ?_
    refine lv_if_ne (tgt := 62) hx hb dX9_goTo_55 (by decide) (fun c5 => ?_) (fun c5 => ?_)
    · replace h := h.1 c5
      refine lv_iconst (v := 0) hx hb dX9_goTo_62 (by decide) ?_
      exact b9_goTo_b63 x1 x3 y4 (0 : Int32) S C h hG (lv_sub hl [1, 2, 3, 0] rfl)
    · replace h := h.2 c5
      refine lv_iconst (v := 1) hx hb dX9_goTo_58 (by decide) ?_
      refine lv_goto (tgt := 63) hx hb dX9_goTo_59 (by decide) ?_
      exact b9_goTo_b63 x1 x3 y4 (1 : Int32) S C h hG (lv_sub hl [1, 2, 3, 0] rfl)
  · replace h := h.2 c3
    refine lv_iload_n hx hb dX9_goTo_20 rfl (lv_at hl 2 rfl) ?_
    refine lv_aload_n hx hb dX9_goTo_21 rfl (lv_at hl 0 rfl) ?_
    refine lv_iload_n hx hb dX9_goTo_22 rfl (lv_at hl 1 rfl) ?_
    refine lv_aload_n hx hb dX9_goTo_23 rfl (lv_at hl 0 rfl) ?_
    refine x9g_8 C i9_goTo_X9 k9_goTo_193 hG dX9_goTo_24 ?_
    refine callVI (As := [.int x1, .int (fI S 8)]) (rest := [.int x3]) C hG (c9_sideSize l D cy o q x1 (fI S 8) S _ h) 2 gX9_goTo_X9_sideSize rfl (by decide +kernel) ⟨⟨Nat.le_of_ble_eq_true rfl, Nat.le_of_ble_eq_true rfl⟩, rfl, rfl⟩ rfl rfl (Foc.all C.2.2.2.2.2.2.2.2.1) rfl hl.1 rfl (Nat.le_of_ble_eq_true rfl) dX9_goTo_27 ⟨Nat.zero_le _, Nat.zero_le _⟩ (fun r6 u7 H locs h hG => ?_)
    obtain ⟨eu7, h⟩ := h
    have eu7 : u7 = S := eu7
    subst u7
    have hG : GW D A s (w9 o q cy S) H locs := hG
    refine lv_isub hx hb dX9_goTo_30 ?_
    refine lv_topi (fun y8 ey8 => ?_)
    replace h := h y8 ey8
    refine lv_istore_n (lv' := [(3, .int y8), (0, .ref o), (1, .int x1)]) hx hb dX9_goTo_31 rfl hl (by decide) rfl (fun ls hl => ?_)
    refine lv_aload_n hx hb dX9_goTo_32 rfl (lv_at hl 1 rfl) ?_
    refine lv_dup hx hb dX9_goTo_33 rfl ?_
    refine x9g_8 C i9_goTo_X9 k9_goTo_193 hG dX9_goTo_34 ?_
    refine lv_iconst (v := 1) hx hb dX9_goTo_37 (by decide) ?_
    refine lv_iadd hx hb dX9_goTo_38 ?_
    refine x9p_8 C i9_goTo_X9 k9_goTo_193 hG dX9_goTo_39 (fun S9 eS9 H locs hG => ?_)
    replace h := h S9 eS9
    refine lv_goto (tgt := 7) hx hb dX9_goTo_42 (by decide) ?_
    exact hK7 y8 S9 _ _ _ h hG (lv_sub hl [1, 2, 0] rfl)
def w9_goTo_F7 (x1 : Int32) (Q : MS → Prop) (K : Int32 × MS → Prop) (a : Int32 × MS) : Prop := w9_goTo_d7 (fun y0 y1 => K (y0, y1)) x1 a.1 a.2 Q
def w9_goTo_b7 (x1 : Int32) (x3 : Int32) (S : MS) (Q : MS → Prop) : Prop := lp (w9_goTo_F7 x1 Q) (x3, S)
set_option maxHeartbeats 4000000 in
set_option maxRecDepth 100000 in
theorem b9_goTo_b7 {p : Program} {l : Launch} {e : Env} {s : State} {m : MethodId} {args : Array Value} {below : List Frame} {meth : Method} {c : Code} {D : va_G} {cy : Nat → ClassId} {A : Nat → Prop} {o : Nat} {q : Nat → Nat} (x1 : Int32) (x3 : Int32) (S : MS) {Q : MS → Prop} (C : Cx p s m args meth c cX9_goTo 7 (none) wsX9_goTo RX9 D cy nestWs A) (h : w9_goTo_b7 x1 x3 S Q) {H : Heap} {locs : List Loc} (hG : GW D A s (w9 o q cy S) H locs) {ls : Array Slot} (hl : lv_has ls 7 [(0, .ref o), (1, .int x1), (3, .int x3)]) : W p l e ({ frames := 1, cells := 0, slots := 0, locals := 23 } : Room) s m args below meth c H locs 0 0 (MQ below (va_Qv Q (B1 D (w9 o q cy) A) A) args s 0 0 A) (F0 m 7 ls []) := by
  obtain ⟨k, hn⟩ := h
  induction k generalizing x3 S H locs ls with
  | zero => exact hn.elim
  | succ k ih => exact b9_goTo_d7 (K7 := fun y0 y1 => itr (w9_goTo_F7 x1 Q) k (y0, y1)) x1 x3 S C (fun x3 S H locs ls hk hG hl => ih x3 S hG hl hk) hn hG hl
def w9_goTo (x1 : Int32) (x2 : Int32) (S : MS) (Q : MS → Prop) : Prop :=
  ∀ S1 : MS, S1 = sI S 8 (0 : Int32) → w9_goTo_b7 x1 x2 S1 Q
set_option maxHeartbeats 4000000 in
set_option maxRecDepth 100000 in
theorem c9_goTo (l : Launch) (D : va_G) (cy : Nat → ClassId)  (o : Nat) (q : Nat → Nat) (x1 : Int32) (x2 : Int32) (S : MS) (Q : MS → Prop) (h : w9_goTo x1 x2 S Q) : MetV l yX9_goTo wsX9_goTo ({ frames := 1, cells := 0, slots := 0, locals := 23 } : Room) D cy nestWs (w9 o q cy) [.ref o, .int x1, .int x2] S Q := by
  refine MetV.mk RX9 cX9_goTo 7 (by decide) rfl nestWs_ok rfl (Nat.le_of_ble_eq_true rfl) ?_
  intro p e s m below meth c A ls C hG hl
  have hl : lv_has ls 7 [(0, .ref o), (1, .int x1), (2, .int x2)] := hl
  have hx := C.1
  have hb := C.2.1
  unfold w9_goTo at h
  refine lv_iload_n hx hb dX9_goTo_0 rfl (lv_at hl 2 rfl) ?_
  refine lv_istore_n (lv' := [(3, .int x2), (0, .ref o), (1, .int x1), (2, .int x2)]) hx hb dX9_goTo_1 rfl hl (by decide) rfl (fun ls hl => ?_)
  refine lv_aload_n hx hb dX9_goTo_2 rfl (lv_at hl 1 rfl) ?_
  refine lv_iconst (v := 0) hx hb dX9_goTo_3 (by decide) ?_
  refine x9p_8 C i9_goTo_X9 k9_goTo_193 hG dX9_goTo_4 (fun S1 eS1 H locs hG => ?_)
  replace h := h S1 eS1
  exact b9_goTo_b7 x1 x2 S1 C h hG (lv_sub hl [1, 2, 0] rfl)
-- X9_cellNow
theorem i9_cellNow_X9 : ∀ w ∈ wsX90, w ∈ wsX9_cellNow := fun w h => List.mem_cons_of_mem _ (inG_X9 w h)
theorem k9_cellNow_26 : Cond.fieldLink RX9 26 "PaperBodiesModel" "dims" "[I" ∈ wsX9_cellNow := (List.mem_cons_of_mem _ mw_542)
theorem k9_cellNow_29 : Cond.fieldLink RX9 29 "PaperBodiesModel" "at" "[I" ∈ wsX9_cellNow := (List.mem_cons_of_mem _ mw_543)
theorem k9_cellNow_193 : Cond.fieldLink RX9 193 "PaperBodiesModel" "side" "I" ∈ wsX9_cellNow := (List.mem_cons_of_mem _ mw_653)
def w9_cellNow_b55 (x1 : Int32) (x2 : Int32) (x4 : Int32) (t0 : Int32) (S : MS) (Q : Int32 → Prop) : Prop :=
  vp_in x4 3 ∧ vp_in (((3 : Int32) * x1) + t0) 12 ∧ vp_in t0 3 ∧ Q ((x2 + (((rA S 9 x4) / (2 : Int32)) * (rA S 7 (((3 : Int32) * x1) + t0)))) + ((rA S 9 t0) / (2 : Int32)))
set_option maxHeartbeats 4000000 in
set_option maxRecDepth 100000 in
theorem b9_cellNow_b55 {p : Program} {l : Launch} {e : Env} {s : State} {m : MethodId} {args : Array Value} {below : List Frame} {meth : Method} {c : Code} {D : va_G} {cy : Nat → ClassId} {A : Nat → Prop} {o : Nat} {q : Nat → Nat} (x1 : Int32) (x2 : Int32) (x4 : Int32) (t0 : Int32) (S : MS) {Q : Int32 → Prop} (C : Cx p s m args meth c cX9_cellNow 6 (some .int) wsX9_cellNow RX9 D cy nestWs A) (h : w9_cellNow_b55 x1 x2 x4 t0 S Q) {H : Heap} {locs : List Loc} (hG : GW D A s (w9 o q cy S) H locs) {ls : Array Slot} (hl : lv_has ls 6 [(0, .ref o), (1, .int x1), (2, .int x2), (4, .int x4)]) : W p l e ({ frames := 1, cells := 0, slots := 0, locals := 23 } : Room) s m args below meth c H locs 0 0 (MQ below (va_Qi (fun r z => z = S ∧ Q r ) (B1 D (w9 o q cy) A) A) args s 0 0 A) (F0 m 55 ls [.int t0]) := by
  have hx := C.1
  have hb := C.2.1
  unfold w9_cellNow_b55 at h
  refine lv_istore (lv' := [(5, .int t0), (0, .ref o), (1, .int x1), (2, .int x2), (4, .int x4)]) hx hb dX9_cellNow_55 hl (by decide) rfl (fun ls hl => ?_)
  refine lv_iload_n hx hb dX9_cellNow_57 rfl (lv_at hl 3 rfl) ?_
  refine lv_aload_n hx hb dX9_cellNow_58 rfl (lv_at hl 1 rfl) ?_
  refine x9g_9 C i9_cellNow_X9 k9_cellNow_29 hG dX9_cellNow_59 ?_
  refine lv_iload hx hb dX9_cellNow_62 (lv_at hl 4 rfl) ?_
  obtain ⟨hv1, h⟩ := h
  refine x9l_9 C hG hv1 dX9_cellNow_64 ?_
  refine lv_iconst (v := 2) hx hb dX9_cellNow_65 (by decide) ?_
  refine lv_idiv hx hb dX9_cellNow_66 (by decide) ?_
  refine lv_aload_n hx hb dX9_cellNow_67 rfl (lv_at hl 1 rfl) ?_
  refine x9g_7 C i9_cellNow_X9 k9_cellNow_26 hG dX9_cellNow_68 ?_
  refine lv_iconst (v := 3) hx hb dX9_cellNow_71 (by decide) ?_
  refine lv_iload_n hx hb dX9_cellNow_72 rfl (lv_at hl 2 rfl) ?_
  refine lv_imul hx hb dX9_cellNow_73 ?_
  refine lv_iload hx hb dX9_cellNow_74 (lv_at hl 0 rfl) ?_
  refine lv_iadd hx hb dX9_cellNow_76 ?_
  obtain ⟨hv2, h⟩ := h
  refine x9l_7 C hG hv2 dX9_cellNow_77 ?_
  refine lv_imul hx hb dX9_cellNow_78 ?_
  refine lv_iadd hx hb dX9_cellNow_79 ?_
  refine lv_aload_n hx hb dX9_cellNow_80 rfl (lv_at hl 1 rfl) ?_
  refine x9g_9 C i9_cellNow_X9 k9_cellNow_29 hG dX9_cellNow_81 ?_
  refine lv_iload hx hb dX9_cellNow_84 (lv_at hl 0 rfl) ?_
  obtain ⟨hv3, h⟩ := h
  refine x9l_9 C hG hv3 dX9_cellNow_86 ?_
  refine lv_iconst (v := 2) hx hb dX9_cellNow_87 (by decide) ?_
  refine lv_idiv hx hb dX9_cellNow_88 (by decide) ?_
  refine lv_iadd hx hb dX9_cellNow_89 ?_
  exact retI (w := (w9 o q cy)) (S := S) C hG ⟨rfl, h⟩ dX9_cellNow_90
def w9_cellNow_b43 (x1 : Int32) (x2 : Int32) (x3 : Int32) (t0 : Int32) (S : MS) (Q : Int32 → Prop) : Prop :=
  ((¬ x3 = (2 : Int32) → w9_cellNow_b55 x1 x2 t0 (2 : Int32) S Q) ∧ (x3 = (2 : Int32) → w9_cellNow_b55 x1 x2 t0 (1 : Int32) S Q))
set_option maxHeartbeats 4000000 in
set_option maxRecDepth 100000 in
theorem b9_cellNow_b43 {p : Program} {l : Launch} {e : Env} {s : State} {m : MethodId} {args : Array Value} {below : List Frame} {meth : Method} {c : Code} {D : va_G} {cy : Nat → ClassId} {A : Nat → Prop} {o : Nat} {q : Nat → Nat} (x1 : Int32) (x2 : Int32) (x3 : Int32) (t0 : Int32) (S : MS) {Q : Int32 → Prop} (C : Cx p s m args meth c cX9_cellNow 6 (some .int) wsX9_cellNow RX9 D cy nestWs A) (h : w9_cellNow_b43 x1 x2 x3 t0 S Q) {H : Heap} {locs : List Loc} (hG : GW D A s (w9 o q cy S) H locs) {ls : Array Slot} (hl : lv_has ls 6 [(0, .ref o), (1, .int x1), (2, .int x2), (3, .int x3)]) : W p l e ({ frames := 1, cells := 0, slots := 0, locals := 23 } : Room) s m args below meth c H locs 0 0 (MQ below (va_Qi (fun r z => z = S ∧ Q r ) (B1 D (w9 o q cy) A) A) args s 0 0 A) (F0 m 43 ls [.int t0]) := by
  have hx := C.1
  have hb := C.2.1
  unfold w9_cellNow_b43 at h
  refine lv_istore (lv' := [(4, .int t0), (0, .ref o), (1, .int x1), (2, .int x2), (3, .int x3)]) hx hb dX9_cellNow_43 hl (by decide) rfl (fun ls hl => ?_)
  refine lv_iload_n hx hb dX9_cellNow_45 rfl (lv_at hl 4 rfl) ?_
  refine lv_iconst (v := 2) hx hb dX9_cellNow_46 (by decide) ?_
  refine lv_icmp_ne (tgt := 54) hx hb dX9_cellNow_47 (by decide) (fun c1 => ?_) (fun c1 => ?_)
  · replace h := h.1 c1
    refine lv_iconst (v := 2) hx hb dX9_cellNow_54 (by decide) ?_
    exact b9_cellNow_b55 x1 x2 t0 (2 : Int32) S C h hG (lv_sub hl [1, 2, 3, 0] rfl)
  · replace h := h.2 c1
    refine lv_iconst (v := 1) hx hb dX9_cellNow_50 (by decide) ?_
    refine lv_goto (tgt := 55) hx hb dX9_cellNow_51 (by decide) ?_
    exact b9_cellNow_b55 x1 x2 t0 (1 : Int32) S C h hG (lv_sub hl [1, 2, 3, 0] rfl)
def w9_cellNow_d4 (K4 : Int32 → Int32 → Prop) (x1 : Int32) (x2 : Int32) (x3 : Int32) (S : MS) (Q : Int32 → Prop) : Prop :=
  (((fI S 8) ≤ x3 → ∀ y2 : Int32, y2 = ((fI S 8) / (2 : Int32)) → ((¬ y2 = 0 → w9_cellNow_b43 x1 x2 y2 (0 : Int32) S Q) ∧ (y2 = 0 → w9_cellNow_b43 x1 x2 y2 (1 : Int32) S Q))) ∧ (¬ (fI S 8) ≤ x3 → w9_sideSize x1 x3 S (fun r4 => ∀ y6 : Int32, y6 = (x2 + r4) → ∀ y7 : Int32, y7 = x3 + 1 → K4 y6 y7)))
set_option maxHeartbeats 4000000 in
set_option maxRecDepth 100000 in
theorem b9_cellNow_d4 {p : Program} {l : Launch} {e : Env} {s : State} {m : MethodId} {args : Array Value} {below : List Frame} {meth : Method} {c : Code} {D : va_G} {cy : Nat → ClassId} {A : Nat → Prop} {o : Nat} {q : Nat → Nat} {K4 : Int32 → Int32 → Prop} (x1 : Int32) (x2 : Int32) (x3 : Int32) (S : MS) {Q : Int32 → Prop} (C : Cx p s m args meth c cX9_cellNow 6 (some .int) wsX9_cellNow RX9 D cy nestWs A) (hK4 : ∀ (x2 : Int32) (x3 : Int32) (H : Heap) (locs : List Loc) (ls : Array Slot), K4 x2 x3 → GW D A s (w9 o q cy S) H locs → lv_has ls 6 [(0, .ref o), (1, .int x1), (2, .int x2), (3, .int x3)] → W p l e ({ frames := 1, cells := 0, slots := 0, locals := 23 } : Room) s m args below meth c H locs 0 0 (MQ below (va_Qi (fun r z => z = S ∧ Q r ) (B1 D (w9 o q cy) A) A) args s 0 0 A) (F0 m 4 ls [])) (h : w9_cellNow_d4 K4 x1 x2 x3 S Q) {H : Heap} {locs : List Loc} (hG : GW D A s (w9 o q cy S) H locs) {ls : Array Slot} (hl : lv_has ls 6 [(0, .ref o), (1, .int x1), (2, .int x2), (3, .int x3)]) : W p l e ({ frames := 1, cells := 0, slots := 0, locals := 23 } : Room) s m args below meth c H locs 0 0 (MQ below (va_Qi (fun r z => z = S ∧ Q r ) (B1 D (w9 o q cy) A) A) args s 0 0 A) (F0 m 4 ls []) := by
  have hx := C.1
  have hb := C.2.1
  unfold w9_cellNow_d4 at h
  refine lv_iload_n hx hb dX9_cellNow_4 rfl (lv_at hl 3 rfl) ?_
  refine lv_aload_n hx hb dX9_cellNow_5 rfl (lv_at hl 0 rfl) ?_
  refine x9g_8 C i9_cellNow_X9 k9_cellNow_193 hG dX9_cellNow_6 ?_
  refine lv_icmp_ge (tgt := 27) hx hb dX9_cellNow_9 (by decide) (fun c1 => ?_) (fun c1 => ?_)
  · replace h := h.1 c1
    refine lv_aload_n hx hb dX9_cellNow_27 rfl (lv_at hl 0 rfl) ?_
    refine x9g_8 C i9_cellNow_X9 k9_cellNow_193 hG dX9_cellNow_28 ?_
    refine lv_iconst (v := 2) hx hb dX9_cellNow_31 (by decide) ?_
    refine lv_idiv hx hb dX9_cellNow_32 (by decide) ?_
    refine lv_topi (fun y2 ey2 => ?_)
    replace h := h y2 ey2
    refine lv_istore_n (lv' := [(3, .int y2), (0, .ref o), (1, .int x1), (2, .int x2)]) hx hb dX9_cellNow_33 rfl hl (by decide) rfl (fun ls hl => ?_)
    refine lv_iload_n hx hb dX9_cellNow_34 rfl (lv_at hl 0 rfl) ?_
    refine lv_if_ne (tgt := 42) hx hb dX9_cellNow_35 (by decide) (fun c3 => ?_) (fun c3 => ?_)
    · replace h := h.1 c3
      refine lv_iconst (v := 0) hx hb dX9_cellNow_42 (by decide) ?_
      exact b9_cellNow_b43 x1 x2 y2 (0 : Int32) S C h hG (lv_sub hl [1, 2, 3, 0] rfl)
    · replace h := h.2 c3
      refine lv_iconst (v := 1) hx hb dX9_cellNow_38 (by decide) ?_
      refine lv_goto (tgt := 43) hx hb dX9_cellNow_39 (by decide) ?_
      exact b9_cellNow_b43 x1 x2 y2 (1 : Int32) S C h hG (lv_sub hl [1, 2, 3, 0] rfl)
  · replace h := h.2 c1
    refine lv_iload_n hx hb dX9_cellNow_12 rfl (lv_at hl 2 rfl) ?_
    refine lv_aload_n hx hb dX9_cellNow_13 rfl (lv_at hl 0 rfl) ?_
    refine lv_iload_n hx hb dX9_cellNow_14 rfl (lv_at hl 1 rfl) ?_
    refine lv_iload_n hx hb dX9_cellNow_15 rfl (lv_at hl 3 rfl) ?_
    refine callVI (As := [.int x1, .int x3]) (rest := [.int x2]) C hG (c9_sideSize l D cy o q x1 x3 S _ h) 2 gX9_cellNow_X9_sideSize rfl (by decide +kernel) ⟨⟨Nat.le_of_ble_eq_true rfl, Nat.le_of_ble_eq_true rfl⟩, rfl, rfl⟩ rfl rfl (Foc.all C.2.2.2.2.2.2.2.2.1) rfl hl.1 rfl (Nat.le_of_ble_eq_true rfl) dX9_cellNow_16 ⟨Nat.zero_le _, Nat.zero_le _⟩ (fun r4 u5 H locs h hG => ?_)
    obtain ⟨eu5, h⟩ := h
    have eu5 : u5 = S := eu5
    subst u5
    have hG : GW D A s (w9 o q cy S) H locs := hG
    refine lv_iadd hx hb dX9_cellNow_19 ?_
    refine lv_topi (fun y6 ey6 => ?_)
    replace h := h y6 ey6
    refine lv_istore_n (lv' := [(2, .int y6), (0, .ref o), (1, .int x1), (3, .int x3)]) hx hb dX9_cellNow_20 rfl hl (by decide) rfl (fun ls hl => ?_)
    obtain ⟨y7, ey7⟩ : ∃ y : Int32, y = x3 + 1 := ⟨_, rfl⟩
    replace h := h y7 ey7
    refine lv_iinc (v := y7) (lv' := [(3, .int y7), (2, .int y6), (0, .ref o), (1, .int x1)]) hx hb dX9_cellNow_21 hl (k := 3) rfl (by rw [ey7]; rfl) (by decide) rfl (fun ls hl => ?_)
    refine lv_goto (tgt := 4) hx hb dX9_cellNow_24 (by decide) ?_
    exact hK4 y6 y7 _ _ _ h hG (lv_sub hl [2, 3, 1, 0] rfl)
def w9_cellNow_F4 (x1 : Int32) (S : MS) (Q : Int32 → Prop) (K : Int32 × Int32 → Prop) (a : Int32 × Int32) : Prop := w9_cellNow_d4 (fun y0 y1 => K (y0, y1)) x1 a.1 a.2 S Q
def w9_cellNow_b4 (x1 : Int32) (x2 : Int32) (x3 : Int32) (S : MS) (Q : Int32 → Prop) : Prop := lp (w9_cellNow_F4 x1 S Q) (x2, x3)
set_option maxHeartbeats 4000000 in
set_option maxRecDepth 100000 in
theorem b9_cellNow_b4 {p : Program} {l : Launch} {e : Env} {s : State} {m : MethodId} {args : Array Value} {below : List Frame} {meth : Method} {c : Code} {D : va_G} {cy : Nat → ClassId} {A : Nat → Prop} {o : Nat} {q : Nat → Nat} (x1 : Int32) (x2 : Int32) (x3 : Int32) (S : MS) {Q : Int32 → Prop} (C : Cx p s m args meth c cX9_cellNow 6 (some .int) wsX9_cellNow RX9 D cy nestWs A) (h : w9_cellNow_b4 x1 x2 x3 S Q) {H : Heap} {locs : List Loc} (hG : GW D A s (w9 o q cy S) H locs) {ls : Array Slot} (hl : lv_has ls 6 [(0, .ref o), (1, .int x1), (2, .int x2), (3, .int x3)]) : W p l e ({ frames := 1, cells := 0, slots := 0, locals := 23 } : Room) s m args below meth c H locs 0 0 (MQ below (va_Qi (fun r z => z = S ∧ Q r ) (B1 D (w9 o q cy) A) A) args s 0 0 A) (F0 m 4 ls []) := by
  obtain ⟨k, hn⟩ := h
  induction k generalizing x2 x3 H locs ls with
  | zero => exact hn.elim
  | succ k ih => exact b9_cellNow_d4 (K4 := fun y0 y1 => itr (w9_cellNow_F4 x1 S Q) k (y0, y1)) x1 x2 x3 S C (fun x2 x3 H locs ls hk hG hl => ih x2 x3 hG hl hk) hn hG hl
def w9_cellNow (x1 : Int32) (S : MS) (Q : Int32 → Prop) : Prop :=
  w9_cellNow_b4 x1 (0 : Int32) (0 : Int32) S Q
set_option maxHeartbeats 4000000 in
set_option maxRecDepth 100000 in
theorem c9_cellNow (l : Launch) (D : va_G) (cy : Nat → ClassId)  (o : Nat) (q : Nat → Nat) (x1 : Int32) (S : MS) (Q : Int32 → Prop) (h : w9_cellNow x1 S Q) : MetI l yX9_cellNow wsX9_cellNow ({ frames := 1, cells := 0, slots := 0, locals := 23 } : Room) D cy nestWs (w9 o q cy) [.ref o, .int x1] S (fun r z => z = S ∧ Q r ) := by
  refine MetI.mk RX9 cX9_cellNow 6 .int (by decide) rfl nestWs_ok rfl (Nat.le_of_ble_eq_true rfl) ?_
  intro p e s m below meth c A ls C hG hl
  have hl : lv_has ls 6 [(0, .ref o), (1, .int x1)] := hl
  have hx := C.1
  have hb := C.2.1
  unfold w9_cellNow at h
  refine lv_iconst (v := 0) hx hb dX9_cellNow_0 (by decide) ?_
  refine lv_istore_n (lv' := [(2, .int (0 : Int32)), (0, .ref o), (1, .int x1)]) hx hb dX9_cellNow_1 rfl hl (by decide) rfl (fun ls hl => ?_)
  refine lv_iconst (v := 0) hx hb dX9_cellNow_2 (by decide) ?_
  refine lv_istore_n (lv' := [(3, .int (0 : Int32)), (2, .int (0 : Int32)), (0, .ref o), (1, .int x1)]) hx hb dX9_cellNow_3 rfl hl (by decide) rfl (fun ls hl => ?_)
  exact b9_cellNow_b4 x1 (0 : Int32) (0 : Int32) S C h hG (lv_sub hl [2, 3, 1, 0] rfl)
-- X9_wayNow
theorem i9_wayNow_X9 : ∀ w ∈ wsX90, w ∈ wsX9_wayNow := fun w h => List.mem_cons_of_mem _ (inG_X9 w h)
theorem k9_wayNow_199 : Cond.fieldLink RX9 199 "PaperBodiesModel" "right" "I" ∈ wsX9_wayNow := (List.mem_cons_of_mem _ mw_654)
theorem k9_wayNow_202 : Cond.fieldLink RX9 202 "PaperBodiesModel" "up" "I" ∈ wsX9_wayNow := (List.mem_cons_of_mem _ mw_655)
def w9_wayNow_b43 (t0 : Int32) (S : MS) (Q : Int32 → Prop) : Prop :=
  Q t0
set_option maxHeartbeats 4000000 in
set_option maxRecDepth 100000 in
theorem b9_wayNow_b43 {p : Program} {l : Launch} {e : Env} {s : State} {m : MethodId} {args : Array Value} {below : List Frame} {meth : Method} {c : Code} {D : va_G} {cy : Nat → ClassId} {A : Nat → Prop} {o : Nat} {q : Nat → Nat} (t0 : Int32) (S : MS) {Q : Int32 → Prop} (C : Cx p s m args meth c cX9_wayNow 2 (some .int) wsX9_wayNow RX9 D cy nestWs A) (h : w9_wayNow_b43 t0 S Q) {H : Heap} {locs : List Loc} (hG : GW D A s (w9 o q cy S) H locs) {ls : Array Slot} (hl : lv_has ls 2 [(0, .ref o)]) : W p l e ({ frames := 0, cells := 0, slots := 0, locals := 0 } : Room) s m args below meth c H locs 0 0 (MQ below (va_Qi (fun r z => z = S ∧ Q r ) (B1 D (w9 o q cy) A) A) args s 0 0 A) (F0 m 43 ls [.int t0]) := by
  have hx := C.1
  have hb := C.2.1
  unfold w9_wayNow_b43 at h
  exact retI (w := (w9 o q cy)) (S := S) C hG ⟨rfl, h⟩ dX9_wayNow_43
def w9_wayNow (x1 : Int32) (S : MS) (Q : Int32 → Prop) : Prop :=
  ((¬ x1 = 0 → ((¬ x1 = (1 : Int32) → ((¬ x1 = (2 : Int32) → w9_wayNow_b43 ((fI S 11) ^^^ (1 : Int32)) S Q) ∧ (x1 = (2 : Int32) → w9_wayNow_b43 ((fI S 10) ^^^ (1 : Int32)) S Q))) ∧ (x1 = (1 : Int32) → w9_wayNow_b43 (fI S 11) S Q))) ∧ (x1 = 0 → w9_wayNow_b43 (fI S 10) S Q))
set_option maxHeartbeats 4000000 in
set_option maxRecDepth 100000 in
theorem c9_wayNow (l : Launch) (D : va_G) (cy : Nat → ClassId)  (o : Nat) (q : Nat → Nat) (x1 : Int32) (S : MS) (Q : Int32 → Prop) (h : w9_wayNow x1 S Q) : MetI l yX9_wayNow wsX9_wayNow ({ frames := 0, cells := 0, slots := 0, locals := 0 } : Room) D cy nestWs (w9 o q cy) [.ref o, .int x1] S (fun r z => z = S ∧ Q r ) := by
  refine MetI.mk RX9 cX9_wayNow 2 .int (by decide) rfl nestWs_ok rfl (Nat.le_of_ble_eq_true rfl) ?_
  intro p e s m below meth c A ls C hG hl
  have hl : lv_has ls 2 [(0, .ref o), (1, .int x1)] := hl
  have hx := C.1
  have hb := C.2.1
  unfold w9_wayNow at h
  refine lv_iload_n hx hb dX9_wayNow_0 rfl (lv_at hl 1 rfl) ?_
  refine lv_if_ne (tgt := 11) hx hb dX9_wayNow_1 (by decide) (fun c1 => ?_) (fun c1 => ?_)
  · replace h := h.1 c1
    refine lv_iload_n hx hb dX9_wayNow_11 rfl (lv_at hl 1 rfl) ?_
    refine lv_iconst (v := 1) hx hb dX9_wayNow_12 (by decide) ?_
    refine lv_icmp_ne (tgt := 23) hx hb dX9_wayNow_13 (by decide) (fun c2 => ?_) (fun c2 => ?_)
    · replace h := h.1 c2
      refine lv_iload_n hx hb dX9_wayNow_23 rfl (lv_at hl 1 rfl) ?_
      refine lv_iconst (v := 2) hx hb dX9_wayNow_24 (by decide) ?_
      refine lv_icmp_ne (tgt := 37) hx hb dX9_wayNow_25 (by decide) (fun c3 => ?_) (fun c3 => ?_)
      · replace h := h.1 c3
        refine lv_aload_n hx hb dX9_wayNow_37 rfl (lv_at hl 0 rfl) ?_
        refine x9g_11 C i9_wayNow_X9 k9_wayNow_202 hG dX9_wayNow_38 ?_
        refine lv_iconst (v := 1) hx hb dX9_wayNow_41 (by decide) ?_
        refine lv_ixor hx hb dX9_wayNow_42 ?_
        exact b9_wayNow_b43 ((fI S 11) ^^^ (1 : Int32)) S C h hG (lv_sub hl [0] rfl)
      · replace h := h.2 c3
        refine lv_aload_n hx hb dX9_wayNow_28 rfl (lv_at hl 0 rfl) ?_
        refine x9g_10 C i9_wayNow_X9 k9_wayNow_199 hG dX9_wayNow_29 ?_
        refine lv_iconst (v := 1) hx hb dX9_wayNow_32 (by decide) ?_
        refine lv_ixor hx hb dX9_wayNow_33 ?_
        refine lv_goto (tgt := 43) hx hb dX9_wayNow_34 (by decide) ?_
        exact b9_wayNow_b43 ((fI S 10) ^^^ (1 : Int32)) S C h hG (lv_sub hl [0] rfl)
    · replace h := h.2 c2
      refine lv_aload_n hx hb dX9_wayNow_16 rfl (lv_at hl 0 rfl) ?_
      refine x9g_11 C i9_wayNow_X9 k9_wayNow_202 hG dX9_wayNow_17 ?_
      refine lv_goto (tgt := 43) hx hb dX9_wayNow_20 (by decide) ?_
      exact b9_wayNow_b43 (fI S 11) S C h hG (lv_sub hl [0] rfl)
  · replace h := h.2 c1
    refine lv_aload_n hx hb dX9_wayNow_4 rfl (lv_at hl 0 rfl) ?_
    refine x9g_10 C i9_wayNow_X9 k9_wayNow_199 hG dX9_wayNow_5 ?_
    refine lv_goto (tgt := 43) hx hb dX9_wayNow_8 (by decide) ?_
    exact b9_wayNow_b43 (fI S 10) S C h hG (lv_sub hl [0] rfl)
-- X9_bend
theorem i9_bend_X9 : ∀ w ∈ wsX90, w ∈ wsX9_bend := fun w h => List.mem_cons_of_mem _ (inG_X9 w h)
theorem k9_bend_193 : Cond.fieldLink RX9 193 "PaperBodiesModel" "side" "I" ∈ wsX9_bend := (List.mem_cons_of_mem _ mw_653)
theorem k9_bend_199 : Cond.fieldLink RX9 199 "PaperBodiesModel" "right" "I" ∈ wsX9_bend := (List.mem_cons_of_mem _ mw_654)
theorem k9_bend_202 : Cond.fieldLink RX9 202 "PaperBodiesModel" "up" "I" ∈ wsX9_bend := (List.mem_cons_of_mem _ mw_655)
def w9_bend_b54 (S : MS) (Q : MS → Prop) : Prop :=
  Q S
set_option maxHeartbeats 4000000 in
set_option maxRecDepth 100000 in
theorem b9_bend_b54 {p : Program} {l : Launch} {e : Env} {s : State} {m : MethodId} {args : Array Value} {below : List Frame} {meth : Method} {c : Code} {D : va_G} {cy : Nat → ClassId} {A : Nat → Prop} {o : Nat} {q : Nat → Nat} (S : MS) {Q : MS → Prop} (C : Cx p s m args meth c cX9_bend 4 (none) wsX9_bend RX9 D cy nestWs A) (h : w9_bend_b54 S Q) {H : Heap} {locs : List Loc} (hG : GW D A s (w9 o q cy S) H locs) {ls : Array Slot} (hl : lv_has ls 4 [(0, .ref o)]) : W p l e ({ frames := 0, cells := 0, slots := 0, locals := 0 } : Room) s m args below meth c H locs 0 0 (MQ below (va_Qv Q (B1 D (w9 o q cy) A) A) args s 0 0 A) (F0 m 54 ls []) := by
  have hx := C.1
  have hb := C.2.1
  unfold w9_bend_b54 at h
  exact retV (w := (w9 o q cy)) (S := S) C hG h dX9_bend_54
def w9_bend (x1 : Int32) (x2 : Int32) (x3 : Int32) (S : MS) (Q : MS → Prop) : Prop :=
  ∀ S1 : MS, S1 = sI S 8 (x1 ^^^ (1 : Int32)) → ((¬ x2 = 0 → ((¬ x2 = (1 : Int32) → ((¬ x2 = (2 : Int32) → ∀ S5 : MS, S5 = sI S1 11 x3 → w9_bend_b54 S5 Q) ∧ (x2 = (2 : Int32) → ∀ S6 : MS, S6 = sI S1 10 x3 → w9_bend_b54 S6 Q))) ∧ (x2 = (1 : Int32) → ∀ S7 : MS, S7 = sI S1 11 (x3 ^^^ (1 : Int32)) → w9_bend_b54 S7 Q))) ∧ (x2 = 0 → ∀ S8 : MS, S8 = sI S1 10 (x3 ^^^ (1 : Int32)) → w9_bend_b54 S8 Q))
set_option maxHeartbeats 4000000 in
set_option maxRecDepth 100000 in
theorem c9_bend (l : Launch) (D : va_G) (cy : Nat → ClassId)  (o : Nat) (q : Nat → Nat) (x1 : Int32) (x2 : Int32) (x3 : Int32) (S : MS) (Q : MS → Prop) (h : w9_bend x1 x2 x3 S Q) : MetV l yX9_bend wsX9_bend ({ frames := 0, cells := 0, slots := 0, locals := 0 } : Room) D cy nestWs (w9 o q cy) [.ref o, .int x1, .int x2, .int x3] S Q := by
  refine MetV.mk RX9 cX9_bend 4 (by decide) rfl nestWs_ok rfl (Nat.le_of_ble_eq_true rfl) ?_
  intro p e s m below meth c A ls C hG hl
  have hl : lv_has ls 4 [(0, .ref o), (1, .int x1), (2, .int x2), (3, .int x3)] := hl
  have hx := C.1
  have hb := C.2.1
  unfold w9_bend at h
  refine lv_aload_n hx hb dX9_bend_0 rfl (lv_at hl 0 rfl) ?_
  refine lv_iload_n hx hb dX9_bend_1 rfl (lv_at hl 1 rfl) ?_
  refine lv_iconst (v := 1) hx hb dX9_bend_2 (by decide) ?_
  refine lv_ixor hx hb dX9_bend_3 ?_
  refine x9p_8 C i9_bend_X9 k9_bend_193 hG dX9_bend_4 (fun S1 eS1 H locs hG => ?_)
  replace h := h S1 eS1
  refine lv_iload_n hx hb dX9_bend_7 rfl (lv_at hl 2 rfl) ?_
  refine lv_if_ne (tgt := 21) hx hb dX9_bend_8 (by decide) (fun c2 => ?_) (fun c2 => ?_)
  · replace h := h.1 c2
    refine lv_iload_n hx hb dX9_bend_21 rfl (lv_at hl 2 rfl) ?_
    refine lv_iconst (v := 1) hx hb dX9_bend_22 (by decide) ?_
    refine lv_icmp_ne (tgt := 36) hx hb dX9_bend_23 (by decide) (fun c3 => ?_) (fun c3 => ?_)
    · replace h := h.1 c3
      refine lv_iload_n hx hb dX9_bend_36 rfl (lv_at hl 2 rfl) ?_
      refine lv_iconst (v := 2) hx hb dX9_bend_37 (by decide) ?_
      refine lv_icmp_ne (tgt := 49) hx hb dX9_bend_38 (by decide) (fun c4 => ?_) (fun c4 => ?_)
      · replace h := h.1 c4
        refine lv_aload_n hx hb dX9_bend_49 rfl (lv_at hl 0 rfl) ?_
        refine lv_iload_n hx hb dX9_bend_50 rfl (lv_at hl 3 rfl) ?_
        refine x9p_11 C i9_bend_X9 k9_bend_202 hG dX9_bend_51 (fun S5 eS5 H locs hG => ?_)
        replace h := h S5 eS5
        exact b9_bend_b54 S5 C h hG (lv_sub hl [0] rfl)
      · replace h := h.2 c4
        refine lv_aload_n hx hb dX9_bend_41 rfl (lv_at hl 0 rfl) ?_
        refine lv_iload_n hx hb dX9_bend_42 rfl (lv_at hl 3 rfl) ?_
        refine x9p_10 C i9_bend_X9 k9_bend_199 hG dX9_bend_43 (fun S6 eS6 H locs hG => ?_)
        replace h := h S6 eS6
        refine lv_goto (tgt := 54) hx hb dX9_bend_46 (by decide) ?_
        exact b9_bend_b54 S6 C h hG (lv_sub hl [0] rfl)
    · replace h := h.2 c3
      refine lv_aload_n hx hb dX9_bend_26 rfl (lv_at hl 0 rfl) ?_
      refine lv_iload_n hx hb dX9_bend_27 rfl (lv_at hl 3 rfl) ?_
      refine lv_iconst (v := 1) hx hb dX9_bend_28 (by decide) ?_
      refine lv_ixor hx hb dX9_bend_29 ?_
      refine x9p_11 C i9_bend_X9 k9_bend_202 hG dX9_bend_30 (fun S7 eS7 H locs hG => ?_)
      replace h := h S7 eS7
      refine lv_goto (tgt := 54) hx hb dX9_bend_33 (by decide) ?_
      exact b9_bend_b54 S7 C h hG (lv_sub hl [0] rfl)
  · replace h := h.2 c2
    refine lv_aload_n hx hb dX9_bend_11 rfl (lv_at hl 0 rfl) ?_
    refine lv_iload_n hx hb dX9_bend_12 rfl (lv_at hl 3 rfl) ?_
    refine lv_iconst (v := 1) hx hb dX9_bend_13 (by decide) ?_
    refine lv_ixor hx hb dX9_bend_14 ?_
    refine x9p_10 C i9_bend_X9 k9_bend_199 hG dX9_bend_15 (fun S8 eS8 H locs hG => ?_)
    replace h := h S8 eS8
    refine lv_goto (tgt := 54) hx hb dX9_bend_18 (by decide) ?_
    exact b9_bend_b54 S8 C h hG (lv_sub hl [0] rfl)
