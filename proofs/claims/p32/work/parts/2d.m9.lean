-- X9_go
theorem i9_go_X9 : ∀ w ∈ wsX90, w ∈ wsX9_go := fun w h => List.mem_cons_of_mem _ (inG_X9 w h)
theorem k9_go_26 : Cond.fieldLink RX9 26 "PaperBodiesModel" "dims" "[I" ∈ wsX9_go := (List.mem_cons_of_mem _ mw_542)
theorem k9_go_29 : Cond.fieldLink RX9 29 "PaperBodiesModel" "at" "[I" ∈ wsX9_go := (List.mem_cons_of_mem _ mw_543)
theorem k9_go_193 : Cond.fieldLink RX9 193 "PaperBodiesModel" "side" "I" ∈ wsX9_go := (List.mem_cons_of_mem _ mw_653)
def w9_go_b66 (x2 : Int32) (x3 : Int32) (x4 : Int32) (S : MS) (Q : MS → Prop) : Prop :=
  vp_in (x3 / (2 : Int32)) 3 ∧ w9_sign x3 (fun r2 => ∀ S3 : MS, S3 = sA S 9 (x3 / (2 : Int32)) ((rA S 9 (x3 / (2 : Int32))) + r2) → vp_in (x4 / (2 : Int32)) 3 ∧ w9_sign x4 (fun r5 => ∀ S6 : MS, S6 = sA S3 9 (x4 / (2 : Int32)) ((rA S3 9 (x4 / (2 : Int32))) - r5) → w9_bend x3 x2 x4 S6 (fun S7 => Q S7)))
set_option maxHeartbeats 4000000 in
set_option maxRecDepth 100000 in
theorem b9_go_b66 {p : Program} {l : Launch} {e : Env} {s : State} {m : MethodId} {args : Array Value} {below : List Frame} {meth : Method} {c : Code} {D : va_G} {cy : Nat → ClassId} {A : Nat → Prop} {o : Nat} {q : Nat → Nat} (x2 : Int32) (x3 : Int32) (x4 : Int32) (S : MS) {Q : MS → Prop} (C : Cx p s m args meth c cX9_go 6 (none) wsX9_go RX9 D cy nestWs A) (h : w9_go_b66 x2 x3 x4 S Q) {H : Heap} {locs : List Loc} (hG : GW D A s (w9 o q cy S) H locs) {ls : Array Slot} (hl : lv_has ls 6 [(0, .ref o), (2, .int x2), (3, .int x3), (4, .int x4)]) : W p l e ({ frames := 1, cells := 0, slots := 0, locals := 23 } : Room) s m args below meth c H locs 0 0 (MQ below (va_Qv Q (B1 D (w9 o q cy) A) A) args s 0 0 A) (F0 m 66 ls []) := by
  have hx := C.1
  have hb := C.2.1
  unfold w9_go_b66 at h
  refine lv_aload_n hx hb dX9_go_66 rfl (lv_at hl 0 rfl) ?_
  refine x9g_9 C i9_go_X9 k9_go_29 hG dX9_go_67 ?_
  refine lv_iload_n hx hb dX9_go_70 rfl (lv_at hl 2 rfl) ?_
  refine lv_iconst (v := 2) hx hb dX9_go_71 (by decide) ?_
  refine lv_idiv hx hb dX9_go_72 (by decide) ?_
  refine lv_dup2_11 hx hb dX9_go_73 rfl rfl ?_
  obtain ⟨hv1, h⟩ := h
  refine x9l_9 C hG hv1 dX9_go_74 ?_
  refine lv_iload_n hx hb dX9_go_75 rfl (lv_at hl 2 rfl) ?_
  refine callSI (As := [.int x3]) (rest := [.int (rA S 9 (x3 / (2 : Int32))), .int (x3 / (2 : Int32)), .ref (q 9)]) C hG (c9_sign l D cy x3 _ h) 1 gX9_go_X9_sign rfl (by decide +kernel) ⟨⟨Nat.le_of_ble_eq_true rfl, Nat.le_of_ble_eq_true rfl⟩, rfl, rfl⟩ (Foc.none C.2.2.2.2.2.2.2.2.1) rfl hl.1 rfl (Nat.le_of_ble_eq_true rfl) dX9_go_76 ⟨Nat.zero_le _, Nat.zero_le _⟩ (fun r2 z H locs h hG => ?_)
  refine lv_iadd hx hb dX9_go_79 ?_
  refine x9s_9 C hG hv1 dX9_go_80 (fun S3 eS3 H locs hG => ?_)
  replace h := h S3 eS3
  refine lv_aload_n hx hb dX9_go_81 rfl (lv_at hl 0 rfl) ?_
  refine x9g_9 C i9_go_X9 k9_go_29 hG dX9_go_82 ?_
  refine lv_iload hx hb dX9_go_85 (lv_at hl 3 rfl) ?_
  refine lv_iconst (v := 2) hx hb dX9_go_87 (by decide) ?_
  refine lv_idiv hx hb dX9_go_88 (by decide) ?_
  refine lv_dup2_11 hx hb dX9_go_89 rfl rfl ?_
  obtain ⟨hv4, h⟩ := h
  refine x9l_9 C hG hv4 dX9_go_90 ?_
  refine lv_iload hx hb dX9_go_91 (lv_at hl 3 rfl) ?_
  refine callSI (As := [.int x4]) (rest := [.int (rA S3 9 (x4 / (2 : Int32))), .int (x4 / (2 : Int32)), .ref (q 9)]) C hG (c9_sign l D cy x4 _ h) 1 gX9_go_X9_sign rfl (by decide +kernel) ⟨⟨Nat.le_of_ble_eq_true rfl, Nat.le_of_ble_eq_true rfl⟩, rfl, rfl⟩ (Foc.none C.2.2.2.2.2.2.2.2.1) rfl hl.1 rfl (Nat.le_of_ble_eq_true rfl) dX9_go_93 ⟨Nat.zero_le _, Nat.zero_le _⟩ (fun r5 z H locs h hG => ?_)
  refine lv_isub hx hb dX9_go_96 ?_
  refine x9s_9 C hG hv4 dX9_go_97 (fun S6 eS6 H locs hG => ?_)
  replace h := h S6 eS6
  refine lv_aload_n hx hb dX9_go_98 rfl (lv_at hl 0 rfl) ?_
  refine lv_iload_n hx hb dX9_go_99 rfl (lv_at hl 2 rfl) ?_
  refine lv_iload_n hx hb dX9_go_100 rfl (lv_at hl 1 rfl) ?_
  refine lv_iload hx hb dX9_go_101 (lv_at hl 3 rfl) ?_
  refine callVV (As := [.int x3, .int x2, .int x4]) (rest := []) C hG (c9_bend l D cy o q x3 x2 x4 S6 _ h) 3 gX9_go_X9_bend rfl (by decide +kernel) ⟨⟨Nat.le_of_ble_eq_true rfl, Nat.le_of_ble_eq_true rfl⟩, rfl, rfl⟩ rfl rfl (Foc.all C.2.2.2.2.2.2.2.2.1) rfl hl.1 rfl (Nat.le_of_ble_eq_true rfl) dX9_go_103 ⟨Nat.zero_le _, Nat.zero_le _⟩ (fun  S7 H locs h hG => ?_)
  have hG : GW D A s (w9 o q cy S7) H locs := hG
  exact retV (w := (w9 o q cy)) (S := S7) C hG h dX9_go_106
def w9_go (x1 : Int32) (x2 : Int32) (S : MS) (Q : MS → Prop) : Prop :=
  w9_wayNow x2 S (fun r1 => ∀ y3 : Int32, y3 = ((fI S 8) ^^^ (1 : Int32)) → vp_in (r1 / (2 : Int32)) 3 ∧ w9_sign r1 (fun r5 => ∀ y6 : Int32, y6 = ((rA S 9 (r1 / (2 : Int32))) + ((2 : Int32) * r5)) → ((y6 ≤ 0 → w9_go_b66 x2 r1 y3 S Q) ∧ (¬ y6 ≤ 0 → vp_in (((3 : Int32) * x1) + (r1 / (2 : Int32))) 12 ∧ ((((2 : Int32) * (rA S 7 (((3 : Int32) * x1) + (r1 / (2 : Int32))))) ≤ y6 → w9_go_b66 x2 r1 y3 S Q) ∧ (¬ ((2 : Int32) * (rA S 7 (((3 : Int32) * x1) + (r1 / (2 : Int32))))) ≤ y6 → ∀ S10 : MS, S10 = sA S 9 (r1 / (2 : Int32)) y6 → Q S10))))))
set_option maxHeartbeats 4000000 in
set_option maxRecDepth 100000 in
theorem c9_go (l : Launch) (D : va_G) (cy : Nat → ClassId)  (o : Nat) (q : Nat → Nat) (x1 : Int32) (x2 : Int32) (S : MS) (Q : MS → Prop) (h : w9_go x1 x2 S Q) : MetV l yX9_go wsX9_go ({ frames := 1, cells := 0, slots := 0, locals := 23 } : Room) D cy nestWs (w9 o q cy) [.ref o, .int x1, .int x2] S Q := by
  refine MetV.mk RX9 cX9_go 6 (by decide) rfl nestWs_ok rfl (Nat.le_of_ble_eq_true rfl) ?_
  intro p e s m below meth c A ls C hG hl
  have hl : lv_has ls 6 [(0, .ref o), (1, .int x1), (2, .int x2)] := hl
  have hx := C.1
  have hb := C.2.1
  unfold w9_go at h
  refine lv_aload_n hx hb dX9_go_0 rfl (lv_at hl 0 rfl) ?_
  refine lv_iload_n hx hb dX9_go_1 rfl (lv_at hl 2 rfl) ?_
  refine callVI (As := [.int x2]) (rest := []) C hG (c9_wayNow l D cy o q x2 S _ h) 1 gX9_go_X9_wayNow rfl (by decide +kernel) ⟨⟨Nat.le_of_ble_eq_true rfl, Nat.le_of_ble_eq_true rfl⟩, rfl, rfl⟩ rfl rfl (Foc.all C.2.2.2.2.2.2.2.2.1) rfl hl.1 rfl (Nat.le_of_ble_eq_true rfl) dX9_go_2 ⟨Nat.zero_le _, Nat.zero_le _⟩ (fun r1 u2 H locs h hG => ?_)
  obtain ⟨eu2, h⟩ := h
  have eu2 : u2 = S := eu2
  subst u2
  have hG : GW D A s (w9 o q cy S) H locs := hG
  refine lv_istore_n (lv' := [(3, .int r1), (0, .ref o), (1, .int x1), (2, .int x2)]) hx hb dX9_go_5 rfl hl (by decide) rfl (fun ls hl => ?_)
  refine lv_aload_n hx hb dX9_go_6 rfl (lv_at hl 1 rfl) ?_
  refine x9g_8 C i9_go_X9 k9_go_193 hG dX9_go_7 ?_
  refine lv_iconst (v := 1) hx hb dX9_go_10 (by decide) ?_
  refine lv_ixor hx hb dX9_go_11 ?_
  refine lv_topi (fun y3 ey3 => ?_)
  replace h := h y3 ey3
  refine lv_istore (lv' := [(4, .int y3), (3, .int r1), (0, .ref o), (1, .int x1), (2, .int x2)]) hx hb dX9_go_12 hl (by decide) rfl (fun ls hl => ?_)
  refine lv_aload_n hx hb dX9_go_14 rfl (lv_at hl 2 rfl) ?_
  refine x9g_9 C i9_go_X9 k9_go_29 hG dX9_go_15 ?_
  refine lv_iload_n hx hb dX9_go_18 rfl (lv_at hl 1 rfl) ?_
  refine lv_iconst (v := 2) hx hb dX9_go_19 (by decide) ?_
  refine lv_idiv hx hb dX9_go_20 (by decide) ?_
  obtain ⟨hv4, h⟩ := h
  refine x9l_9 C hG hv4 dX9_go_21 ?_
  refine lv_iconst (v := 2) hx hb dX9_go_22 (by decide) ?_
  refine lv_iload_n hx hb dX9_go_23 rfl (lv_at hl 1 rfl) ?_
  refine callSI (As := [.int r1]) (rest := [.int (2 : Int32), .int (rA S 9 (r1 / (2 : Int32)))]) C hG (c9_sign l D cy r1 _ h) 1 gX9_go_X9_sign rfl (by decide +kernel) ⟨⟨Nat.le_of_ble_eq_true rfl, Nat.le_of_ble_eq_true rfl⟩, rfl, rfl⟩ (Foc.none C.2.2.2.2.2.2.2.2.1) rfl hl.1 rfl (Nat.le_of_ble_eq_true rfl) dX9_go_24 ⟨Nat.zero_le _, Nat.zero_le _⟩ (fun r5 z H locs h hG => ?_)
  refine lv_imul hx hb dX9_go_27 ?_
  refine lv_iadd hx hb dX9_go_28 ?_
  refine lv_topi (fun y6 ey6 => ?_)
  replace h := h y6 ey6
  refine lv_istore (lv' := [(5, .int y6), (4, .int y3), (3, .int r1), (0, .ref o), (1, .int x1), (2, .int x2)]) hx hb dX9_go_29 hl (by decide) rfl (fun ls hl => ?_)
  refine lv_iload hx hb dX9_go_31 (lv_at hl 0 rfl) ?_
  refine lv_if_le (tgt := 66) hx hb dX9_go_33 (by decide) (fun c7 => ?_) (fun c7 => ?_)
  · replace h := h.1 c7
    exact b9_go_b66 x2 r1 y3 S C h hG (lv_sub hl [3, 5, 2, 1] rfl)
  · replace h := h.2 c7
    refine lv_iload hx hb dX9_go_36 (lv_at hl 0 rfl) ?_
    refine lv_iconst (v := 2) hx hb dX9_go_38 (by decide) ?_
    refine lv_aload_n hx hb dX9_go_39 rfl (lv_at hl 3 rfl) ?_
    refine x9g_7 C i9_go_X9 k9_go_26 hG dX9_go_40 ?_
    refine lv_iconst (v := 3) hx hb dX9_go_43 (by decide) ?_
    refine lv_iload_n hx hb dX9_go_44 rfl (lv_at hl 4 rfl) ?_
    refine lv_imul hx hb dX9_go_45 ?_
    refine lv_iload_n hx hb dX9_go_46 rfl (lv_at hl 2 rfl) ?_
    refine lv_iconst (v := 2) hx hb dX9_go_47 (by decide) ?_
    refine lv_idiv hx hb dX9_go_48 (by decide) ?_
    refine lv_iadd hx hb dX9_go_49 ?_
    obtain ⟨hv8, h⟩ := h
    refine x9l_7 C hG hv8 dX9_go_50 ?_
    refine lv_imul hx hb dX9_go_51 ?_
    refine lv_icmp_ge (tgt := 66) hx hb dX9_go_52 (by decide) (fun c9 => ?_) (fun c9 => ?_)
    · replace h := h.1 c9
      exact b9_go_b66 x2 r1 y3 S C h hG (lv_sub hl [3, 5, 2, 1] rfl)
    · replace h := h.2 c9
      refine lv_aload_n hx hb dX9_go_55 rfl (lv_at hl 3 rfl) ?_
      refine x9g_9 C i9_go_X9 k9_go_29 hG dX9_go_56 ?_
      refine lv_iload_n hx hb dX9_go_59 rfl (lv_at hl 2 rfl) ?_
      refine lv_iconst (v := 2) hx hb dX9_go_60 (by decide) ?_
      refine lv_idiv hx hb dX9_go_61 (by decide) ?_
      refine lv_iload hx hb dX9_go_62 (lv_at hl 0 rfl) ?_
      refine x9s_9 C hG hv4 dX9_go_64 (fun S10 eS10 H locs hG => ?_)
      replace h := h S10 eS10
      exact retV (w := (w9 o q cy)) (S := S10) C hG h dX9_go_65
-- X9_isCell
def w9_isCell (x1 : Int32) (x2 : Int32) (S : MS) (Q : Int32 → Prop) : Prop :=
  w9_cells x1 S (fun r1 => w9_in x2 (0 : Int32) (r1 - (1 : Int32)) (fun r3 => narrow .boolean (.int r3) = .int r3 ∧ Q r3))
set_option maxHeartbeats 4000000 in
set_option maxRecDepth 100000 in
theorem c9_isCell (l : Launch) (D : va_G) (cy : Nat → ClassId)  (o : Nat) (q : Nat → Nat) (x1 : Int32) (x2 : Int32) (S : MS) (Q : Int32 → Prop) (h : w9_isCell x1 x2 S Q) : MetI l yX9_isCell wsX9_isCell ({ frames := 2, cells := 0, slots := 0, locals := 43 } : Room) D cy nestWs (w9 o q cy) [.ref o, .int x1, .int x2] S (fun r z => z = S ∧ Q r ) := by
  refine MetI.mk RX9 cX9_isCell 3 .boolean (by decide) rfl nestWs_ok rfl (Nat.le_of_ble_eq_true rfl) ?_
  intro p e s m below meth c A ls C hG hl
  have hl : lv_has ls 3 [(0, .ref o), (1, .int x1), (2, .int x2)] := hl
  have hx := C.1
  have hb := C.2.1
  unfold w9_isCell at h
  refine lv_iload_n hx hb dX9_isCell_0 rfl (lv_at hl 2 rfl) ?_
  refine lv_iconst (v := 0) hx hb dX9_isCell_1 (by decide) ?_
  refine lv_aload_n hx hb dX9_isCell_2 rfl (lv_at hl 0 rfl) ?_
  refine lv_iload_n hx hb dX9_isCell_3 rfl (lv_at hl 1 rfl) ?_
  refine callVI (As := [.int x1]) (rest := [.int (0 : Int32), .int x2]) C hG (c9_cells l D cy o q x1 S _ h) 1 gX9_isCell_X9_cells rfl (by decide +kernel) ⟨⟨Nat.le_of_ble_eq_true rfl, Nat.le_of_ble_eq_true rfl⟩, rfl, rfl⟩ rfl rfl (Foc.all C.2.2.2.2.2.2.2.2.1) rfl hl.1 rfl (Nat.le_of_ble_eq_true rfl) dX9_isCell_4 ⟨Nat.zero_le _, Nat.zero_le _⟩ (fun r1 u2 H locs h hG => ?_)
  obtain ⟨eu2, h⟩ := h
  have eu2 : u2 = S := eu2
  subst u2
  have hG : GW D A s (w9 o q cy S) H locs := hG
  refine lv_iconst (v := 1) hx hb dX9_isCell_7 (by decide) ?_
  refine lv_isub hx hb dX9_isCell_8 ?_
  refine callSI (As := [.int x2, .int (0 : Int32), .int (r1 - (1 : Int32))]) (rest := []) C hG (c9_in l D cy x2 (0 : Int32) (r1 - (1 : Int32)) _ h) 3 gX9_isCell_X9_in rfl (by decide +kernel) ⟨⟨Nat.le_of_ble_eq_true rfl, Nat.le_of_ble_eq_true rfl⟩, rfl, rfl⟩ (Foc.none C.2.2.2.2.2.2.2.2.1) rfl hl.1 rfl (Nat.le_of_ble_eq_true rfl) dX9_isCell_9 ⟨Nat.zero_le _, Nat.zero_le _⟩ (fun r3 z H locs h hG => ?_)
  exact retZ (w := (w9 o q cy)) (S := S) C hG ⟨h.1, ⟨rfl, h.2⟩⟩ dX9_isCell_12
-- X9_cell
theorem i9_cell_X9 : ∀ w ∈ wsX90, w ∈ wsX9_cell := fun w h => List.mem_cons_of_mem _ (inG_X9 w h)
theorem k9_cell_29 : Cond.fieldLink RX9 29 "PaperBodiesModel" "at" "[I" ∈ wsX9_cell := (List.mem_cons_of_mem _ mw_543)
theorem k9_cell_193 : Cond.fieldLink RX9 193 "PaperBodiesModel" "side" "I" ∈ wsX9_cell := (List.mem_cons_of_mem _ mw_653)
def w9_cell_b66 (t0 : Int32) (S : MS) (Q : Int32 → MS → Prop) : Prop :=
  Q t0 S
set_option maxHeartbeats 4000000 in
set_option maxRecDepth 100000 in
theorem b9_cell_b66 {p : Program} {l : Launch} {e : Env} {s : State} {m : MethodId} {args : Array Value} {below : List Frame} {meth : Method} {c : Code} {D : va_G} {cy : Nat → ClassId} {A : Nat → Prop} {o : Nat} {q : Nat → Nat} (t0 : Int32) (S : MS) {Q : Int32 → MS → Prop} (C : Cx p s m args meth c cX9_cell 5 (some .int) wsX9_cell RX9 D cy nestWs A) (h : w9_cell_b66 t0 S Q) {H : Heap} {locs : List Loc} (hG : GW D A s (w9 o q cy S) H locs) {ls : Array Slot} (hl : lv_has ls 5 [(0, .ref o)]) : W p l e ({ frames := 3, cells := 0, slots := 0, locals := 65 } : Room) s m args below meth c H locs 0 0 (MQ below (va_Qi Q (B1 D (w9 o q cy) A) A) args s 0 0 A) (F0 m 66 ls [.int t0]) := by
  have hx := C.1
  have hb := C.2.1
  unfold w9_cell_b66 at h
  exact retI (w := (w9 o q cy)) (S := S) C hG h dX9_cell_66
def w9_cell (x1 : Int32) (x2 : Int32) (x3 : Int32) (S : MS) (Q : Int32 → MS → Prop) : Prop :=
  w9_in x3 (0 : Int32) (3 : Int32) (fun r1 => ((¬ r1 = 0 → w9_lookedBox x1 S (fun r3 S4 => ((0 ≤ r3 → w9_isCell x1 x2 S4 (fun r6 => ((¬ r6 = 0 → w9_goTo x1 x2 S4 (fun S9 => ((¬ x3 = 0 → vp_in (x3 - (1 : Int32)) 3 ∧ w9_cell_b66 (rA S9 9 (x3 - (1 : Int32))) S9 Q) ∧ (x3 = 0 → w9_cell_b66 (fI S9 8) S9 Q)))) ∧ (r6 = 0 → w9_meets (2 : Int32) S4 (fun r12 S13 => Q r12 S13))))) ∧ (¬ 0 ≤ r3 → Q r3 S4)))) ∧ (r1 = 0 → Q (-1 : Int32) S)))
set_option maxHeartbeats 4000000 in
set_option maxRecDepth 100000 in
theorem c9_cell (l : Launch) (D : va_G) (cy : Nat → ClassId)  (o : Nat) (q : Nat → Nat) (x1 : Int32) (x2 : Int32) (x3 : Int32) (S : MS) (Q : Int32 → MS → Prop) (h : w9_cell x1 x2 x3 S Q) : MetI l yX9_cell wsX9_cell ({ frames := 3, cells := 0, slots := 0, locals := 65 } : Room) D cy nestWs (w9 o q cy) [.ref o, .int x1, .int x2, .int x3] S Q := by
  refine MetI.mk RX9 cX9_cell 5 .int (by decide) rfl nestWs_ok rfl (Nat.le_of_ble_eq_true rfl) ?_
  intro p e s m below meth c A ls C hG hl
  have hl : lv_has ls 5 [(0, .ref o), (1, .int x1), (2, .int x2), (3, .int x3)] := hl
  have hx := C.1
  have hb := C.2.1
  unfold w9_cell at h
  refine lv_iload_n hx hb dX9_cell_0 rfl (lv_at hl 3 rfl) ?_
  refine lv_iconst (v := 0) hx hb dX9_cell_1 (by decide) ?_
  refine lv_iconst (v := 3) hx hb dX9_cell_2 (by decide) ?_
  refine callSI (As := [.int x3, .int (0 : Int32), .int (3 : Int32)]) (rest := []) C hG (c9_in l D cy x3 (0 : Int32) (3 : Int32) _ h) 3 gX9_cell_X9_in rfl (by decide +kernel) ⟨⟨Nat.le_of_ble_eq_true rfl, Nat.le_of_ble_eq_true rfl⟩, rfl, rfl⟩ (Foc.none C.2.2.2.2.2.2.2.2.1) rfl hl.1 rfl (Nat.le_of_ble_eq_true rfl) dX9_cell_3 ⟨Nat.zero_le _, Nat.zero_le _⟩ (fun r1 z H locs h hG => ?_)
  refine lv_if_ne (tgt := 11) hx hb dX9_cell_6 (by decide) (fun c2 => ?_) (fun c2 => ?_)
  · replace h := h.1 c2
    refine lv_aload_n hx hb dX9_cell_11 rfl (lv_at hl 0 rfl) ?_
    refine lv_iload_n hx hb dX9_cell_12 rfl (lv_at hl 1 rfl) ?_
    refine callVI (As := [.int x1]) (rest := []) C hG (c9_lookedBox l D cy o q x1 S _ h) 1 gX9_cell_X9_lookedBox rfl (by decide +kernel) ⟨⟨Nat.le_of_ble_eq_true rfl, Nat.le_of_ble_eq_true rfl⟩, rfl, rfl⟩ rfl rfl (Foc.all C.2.2.2.2.2.2.2.2.1) rfl hl.1 rfl (Nat.le_of_ble_eq_true rfl) dX9_cell_13 ⟨Nat.zero_le _, Nat.zero_le _⟩ (fun r3 S4 H locs h hG => ?_)
    have hG : GW D A s (w9 o q cy S4) H locs := hG
    refine lv_istore (lv' := [(4, .int r3), (0, .ref o), (1, .int x1), (2, .int x2), (3, .int x3)]) hx hb dX9_cell_16 hl (by decide) rfl (fun ls hl => ?_)
    refine lv_iload hx hb dX9_cell_18 (lv_at hl 0 rfl) ?_
    refine lv_if_ge (tgt := 26) hx hb dX9_cell_20 (by decide) (fun c5 => ?_) (fun c5 => ?_)
    · replace h := h.1 c5
      refine lv_aload_n hx hb dX9_cell_26 rfl (lv_at hl 1 rfl) ?_
      refine lv_iload_n hx hb dX9_cell_27 rfl (lv_at hl 2 rfl) ?_
      refine lv_iload_n hx hb dX9_cell_28 rfl (lv_at hl 3 rfl) ?_
      refine callVI (As := [.int x1, .int x2]) (rest := []) C hG (c9_isCell l D cy o q x1 x2 S4 _ h) 2 gX9_cell_X9_isCell rfl (by decide +kernel) ⟨⟨Nat.le_of_ble_eq_true rfl, Nat.le_of_ble_eq_true rfl⟩, rfl, rfl⟩ rfl rfl (Foc.all C.2.2.2.2.2.2.2.2.1) rfl hl.1 rfl (Nat.le_of_ble_eq_true rfl) dX9_cell_29 ⟨Nat.zero_le _, Nat.zero_le _⟩ (fun r6 u7 H locs h hG => ?_)
      obtain ⟨eu7, h⟩ := h
      have eu7 : u7 = S4 := eu7
      subst u7
      have hG : GW D A s (w9 o q cy S4) H locs := hG
      refine lv_if_ne (tgt := 41) hx hb dX9_cell_32 (by decide) (fun c8 => ?_) (fun c8 => ?_)
      · replace h := h.1 c8
        refine lv_aload_n hx hb dX9_cell_41 rfl (lv_at hl 1 rfl) ?_
        refine lv_iload_n hx hb dX9_cell_42 rfl (lv_at hl 2 rfl) ?_
        refine lv_iload_n hx hb dX9_cell_43 rfl (lv_at hl 3 rfl) ?_
        refine callVV (As := [.int x1, .int x2]) (rest := []) C hG (c9_goTo l D cy o q x1 x2 S4 _ h) 2 gX9_cell_X9_goTo rfl (by decide +kernel) ⟨⟨Nat.le_of_ble_eq_true rfl, Nat.le_of_ble_eq_true rfl⟩, rfl, rfl⟩ rfl rfl (Foc.all C.2.2.2.2.2.2.2.2.1) rfl hl.1 rfl (Nat.le_of_ble_eq_true rfl) dX9_cell_44 ⟨Nat.zero_le _, Nat.zero_le _⟩ (fun  S9 H locs h hG => ?_)
        have hG : GW D A s (w9 o q cy S9) H locs := hG
        refine lv_iload_n hx hb dX9_cell_47 rfl (lv_at hl 4 rfl) ?_
        refine lv_if_ne (tgt := 58) hx hb dX9_cell_48 (by decide) (fun c10 => ?_) (fun c10 => ?_)
        · replace h := h.1 c10
          refine lv_aload_n hx hb dX9_cell_58 rfl (lv_at hl 1 rfl) ?_
          refine x9g_9 C i9_cell_X9 k9_cell_29 hG dX9_cell_59 ?_
          refine lv_iload_n hx hb dX9_cell_62 rfl (lv_at hl 4 rfl) ?_
          refine lv_iconst (v := 1) hx hb dX9_cell_63 (by decide) ?_
          refine lv_isub hx hb dX9_cell_64 ?_
          obtain ⟨hv11, h⟩ := h
          refine x9l_9 C hG hv11 dX9_cell_65 ?_
          exact b9_cell_b66 (rA S9 9 (x3 - (1 : Int32))) S9 C h hG (lv_sub hl [1] rfl)
        · replace h := h.2 c10
          refine lv_aload_n hx hb dX9_cell_51 rfl (lv_at hl 1 rfl) ?_
          refine x9g_8 C i9_cell_X9 k9_cell_193 hG dX9_cell_52 ?_
          refine lv_goto (tgt := 66) hx hb dX9_cell_55 (by decide) ?_
          exact b9_cell_b66 (fI S9 8) S9 C h hG (lv_sub hl [1] rfl)
      · replace h := h.2 c8
        refine lv_aload_n hx hb dX9_cell_35 rfl (lv_at hl 1 rfl) ?_
        refine lv_iconst (v := 2) hx hb dX9_cell_36 (by decide) ?_
        refine callVI (As := [.int (2 : Int32)]) (rest := []) C hG (c9_meets l D cy o q (2 : Int32) S4 _ h) 1 gX9_cell_X9_meets rfl (by decide +kernel) ⟨⟨Nat.le_of_ble_eq_true rfl, Nat.le_of_ble_eq_true rfl⟩, rfl, rfl⟩ rfl rfl (Foc.all C.2.2.2.2.2.2.2.2.1) rfl hl.1 rfl (Nat.le_of_ble_eq_true rfl) dX9_cell_37 ⟨Nat.zero_le _, Nat.zero_le _⟩ (fun r12 S13 H locs h hG => ?_)
        have hG : GW D A s (w9 o q cy S13) H locs := hG
        exact retI (w := (w9 o q cy)) (S := S13) C hG h dX9_cell_40
    · replace h := h.2 c5
      refine lv_iload hx hb dX9_cell_23 (lv_at hl 0 rfl) ?_
      exact retI (w := (w9 o q cy)) (S := S4) C hG h dX9_cell_25
  · replace h := h.2 c2
    refine lv_iconst (v := -1) hx hb dX9_cell_9 (by decide) ?_
    exact retI (w := (w9 o q cy)) (S := S) C hG h dX9_cell_10
-- X9_next
def w9_next_b19 (S : MS) (Q : Int32 → MS → Prop) : Prop :=
  Q (-1 : Int32) S
set_option maxHeartbeats 4000000 in
set_option maxRecDepth 100000 in
theorem b9_next_b19 {p : Program} {l : Launch} {e : Env} {s : State} {m : MethodId} {args : Array Value} {below : List Frame} {meth : Method} {c : Code} {D : va_G} {cy : Nat → ClassId} {A : Nat → Prop} {o : Nat} {q : Nat → Nat} (S : MS) {Q : Int32 → MS → Prop} (C : Cx p s m args meth c cX9_next 6 (some .int) wsX9_next RX9 D cy nestWs A) (h : w9_next_b19 S Q) {H : Heap} {locs : List Loc} (hG : GW D A s (w9 o q cy S) H locs) {ls : Array Slot} (hl : lv_has ls 6 [(0, .ref o)]) : W p l e ({ frames := 4, cells := 0, slots := 0, locals := 86 } : Room) s m args below meth c H locs 0 0 (MQ below (va_Qi Q (B1 D (w9 o q cy) A) A) args s 0 0 A) (F0 m 19 ls []) := by
  have hx := C.1
  have hb := C.2.1
  unfold w9_next_b19 at h
  refine lv_iconst (v := -1) hx hb dX9_next_19 (by decide) ?_
  exact retI (w := (w9 o q cy)) (S := S) C hG h dX9_next_20
def w9_next (x1 : Int32) (x2 : Int32) (x3 : Int32) (x4 : Int32) (S : MS) (Q : Int32 → MS → Prop) : Prop :=
  w9_in x3 (0 : Int32) (3 : Int32) (fun r1 => ((r1 = 0 → w9_next_b19 S Q) ∧ (¬ r1 = 0 → w9_in x4 (0 : Int32) (3 : Int32) (fun r3 => ((¬ r3 = 0 → w9_lookedBox x1 S (fun r5 S6 => ((0 ≤ r5 → w9_isCell x1 x2 S6 (fun r8 => ((¬ r8 = 0 → w9_goTo x1 x2 S6 (fun S11 => w9_setFrame x3 S11 (fun S12 => w9_go x1 x4 S12 (fun S13 => w9_turnNow S13 (fun r14 => w9_cellNow x1 S13 (fun r16 => w9_ask r14.toInt64 r16 S13 (fun r18 S19 => Q r18 S19))))))) ∧ (r8 = 0 → w9_meets (2 : Int32) S6 (fun r20 S21 => Q r20 S21))))) ∧ (¬ 0 ≤ r5 → Q r5 S6)))) ∧ (r3 = 0 → w9_next_b19 S Q))))))
set_option maxHeartbeats 4000000 in
set_option maxRecDepth 100000 in
theorem c9_next (l : Launch) (D : va_G) (cy : Nat → ClassId)  (o : Nat) (q : Nat → Nat) (x1 : Int32) (x2 : Int32) (x3 : Int32) (x4 : Int32) (S : MS) (Q : Int32 → MS → Prop) (h : w9_next x1 x2 x3 x4 S Q) : MetI l yX9_next wsX9_next ({ frames := 4, cells := 0, slots := 0, locals := 86 } : Room) D cy nestWs (w9 o q cy) [.ref o, .int x1, .int x2, .int x3, .int x4] S Q := by
  refine MetI.mk RX9 cX9_next 6 .int (by decide) rfl nestWs_ok rfl (Nat.le_of_ble_eq_true rfl) ?_
  intro p e s m below meth c A ls C hG hl
  have hl : lv_has ls 6 [(0, .ref o), (1, .int x1), (2, .int x2), (3, .int x3), (4, .int x4)] := hl
  have hx := C.1
  have hb := C.2.1
  unfold w9_next at h
  refine lv_iload_n hx hb dX9_next_0 rfl (lv_at hl 3 rfl) ?_
  refine lv_iconst (v := 0) hx hb dX9_next_1 (by decide) ?_
  refine lv_iconst (v := 3) hx hb dX9_next_2 (by decide) ?_
  refine callSI (As := [.int x3, .int (0 : Int32), .int (3 : Int32)]) (rest := []) C hG (c9_in l D cy x3 (0 : Int32) (3 : Int32) _ h) 3 gX9_next_X9_in rfl (by decide +kernel) ⟨⟨Nat.le_of_ble_eq_true rfl, Nat.le_of_ble_eq_true rfl⟩, rfl, rfl⟩ (Foc.none C.2.2.2.2.2.2.2.2.1) rfl hl.1 rfl (Nat.le_of_ble_eq_true rfl) dX9_next_3 ⟨Nat.zero_le _, Nat.zero_le _⟩ (fun r1 z H locs h hG => ?_)
  refine lv_if_eq (tgt := 19) hx hb dX9_next_6 (by decide) (fun c2 => ?_) (fun c2 => ?_)
  · replace h := h.1 c2
    exact b9_next_b19 S C h hG (lv_sub hl [0] rfl)
  · replace h := h.2 c2
    refine lv_iload hx hb dX9_next_9 (lv_at hl 4 rfl) ?_
    refine lv_iconst (v := 0) hx hb dX9_next_11 (by decide) ?_
    refine lv_iconst (v := 3) hx hb dX9_next_12 (by decide) ?_
    refine callSI (As := [.int x4, .int (0 : Int32), .int (3 : Int32)]) (rest := []) C hG (c9_in l D cy x4 (0 : Int32) (3 : Int32) _ h) 3 gX9_next_X9_in rfl (by decide +kernel) ⟨⟨Nat.le_of_ble_eq_true rfl, Nat.le_of_ble_eq_true rfl⟩, rfl, rfl⟩ (Foc.none C.2.2.2.2.2.2.2.2.1) rfl hl.1 rfl (Nat.le_of_ble_eq_true rfl) dX9_next_13 ⟨Nat.zero_le _, Nat.zero_le _⟩ (fun r3 z H locs h hG => ?_)
    refine lv_if_ne (tgt := 21) hx hb dX9_next_16 (by decide) (fun c4 => ?_) (fun c4 => ?_)
    · replace h := h.1 c4
      refine lv_aload_n hx hb dX9_next_21 rfl (lv_at hl 0 rfl) ?_
      refine lv_iload_n hx hb dX9_next_22 rfl (lv_at hl 1 rfl) ?_
      refine callVI (As := [.int x1]) (rest := []) C hG (c9_lookedBox l D cy o q x1 S _ h) 1 gX9_next_X9_lookedBox rfl (by decide +kernel) ⟨⟨Nat.le_of_ble_eq_true rfl, Nat.le_of_ble_eq_true rfl⟩, rfl, rfl⟩ rfl rfl (Foc.all C.2.2.2.2.2.2.2.2.1) rfl hl.1 rfl (Nat.le_of_ble_eq_true rfl) dX9_next_23 ⟨Nat.zero_le _, Nat.zero_le _⟩ (fun r5 S6 H locs h hG => ?_)
      have hG : GW D A s (w9 o q cy S6) H locs := hG
      refine lv_istore (lv' := [(5, .int r5), (0, .ref o), (1, .int x1), (2, .int x2), (3, .int x3), (4, .int x4)]) hx hb dX9_next_26 hl (by decide) rfl (fun ls hl => ?_)
      refine lv_iload hx hb dX9_next_28 (lv_at hl 0 rfl) ?_
      refine lv_if_ge (tgt := 36) hx hb dX9_next_30 (by decide) (fun c7 => ?_) (fun c7 => ?_)
      · replace h := h.1 c7
        refine lv_aload_n hx hb dX9_next_36 rfl (lv_at hl 1 rfl) ?_
        refine lv_iload_n hx hb dX9_next_37 rfl (lv_at hl 2 rfl) ?_
        refine lv_iload_n hx hb dX9_next_38 rfl (lv_at hl 3 rfl) ?_
        refine callVI (As := [.int x1, .int x2]) (rest := []) C hG (c9_isCell l D cy o q x1 x2 S6 _ h) 2 gX9_next_X9_isCell rfl (by decide +kernel) ⟨⟨Nat.le_of_ble_eq_true rfl, Nat.le_of_ble_eq_true rfl⟩, rfl, rfl⟩ rfl rfl (Foc.all C.2.2.2.2.2.2.2.2.1) rfl hl.1 rfl (Nat.le_of_ble_eq_true rfl) dX9_next_39 ⟨Nat.zero_le _, Nat.zero_le _⟩ (fun r8 u9 H locs h hG => ?_)
        obtain ⟨eu9, h⟩ := h
        have eu9 : u9 = S6 := eu9
        subst u9
        have hG : GW D A s (w9 o q cy S6) H locs := hG
        refine lv_if_ne (tgt := 51) hx hb dX9_next_42 (by decide) (fun c10 => ?_) (fun c10 => ?_)
        · replace h := h.1 c10
          refine lv_aload_n hx hb dX9_next_51 rfl (lv_at hl 1 rfl) ?_
          refine lv_iload_n hx hb dX9_next_52 rfl (lv_at hl 2 rfl) ?_
          refine lv_iload_n hx hb dX9_next_53 rfl (lv_at hl 3 rfl) ?_
          refine callVV (As := [.int x1, .int x2]) (rest := []) C hG (c9_goTo l D cy o q x1 x2 S6 _ h) 2 gX9_next_X9_goTo rfl (by decide +kernel) ⟨⟨Nat.le_of_ble_eq_true rfl, Nat.le_of_ble_eq_true rfl⟩, rfl, rfl⟩ rfl rfl (Foc.all C.2.2.2.2.2.2.2.2.1) rfl hl.1 rfl (Nat.le_of_ble_eq_true rfl) dX9_next_54 ⟨Nat.zero_le _, Nat.zero_le _⟩ (fun  S11 H locs h hG => ?_)
          have hG : GW D A s (w9 o q cy S11) H locs := hG
          refine lv_aload_n hx hb dX9_next_57 rfl (lv_at hl 1 rfl) ?_
          refine lv_iload_n hx hb dX9_next_58 rfl (lv_at hl 4 rfl) ?_
          refine callVV (As := [.int x3]) (rest := []) C hG (c9_setFrame l D cy o q x3 S11 _ h) 1 gX9_next_X9_setFrame rfl (by decide +kernel) ⟨⟨Nat.le_of_ble_eq_true rfl, Nat.le_of_ble_eq_true rfl⟩, rfl, rfl⟩ rfl rfl (Foc.all C.2.2.2.2.2.2.2.2.1) rfl hl.1 rfl (Nat.le_of_ble_eq_true rfl) dX9_next_59 ⟨Nat.zero_le _, Nat.zero_le _⟩ (fun  S12 H locs h hG => ?_)
          have hG : GW D A s (w9 o q cy S12) H locs := hG
          refine lv_aload_n hx hb dX9_next_62 rfl (lv_at hl 1 rfl) ?_
          refine lv_iload_n hx hb dX9_next_63 rfl (lv_at hl 2 rfl) ?_
          refine lv_iload hx hb dX9_next_64 (lv_at hl 5 rfl) ?_
          refine callVV (As := [.int x1, .int x4]) (rest := []) C hG (c9_go l D cy o q x1 x4 S12 _ h) 2 gX9_next_X9_go rfl (by decide +kernel) ⟨⟨Nat.le_of_ble_eq_true rfl, Nat.le_of_ble_eq_true rfl⟩, rfl, rfl⟩ rfl rfl (Foc.all C.2.2.2.2.2.2.2.2.1) rfl hl.1 rfl (Nat.le_of_ble_eq_true rfl) dX9_next_66 ⟨Nat.zero_le _, Nat.zero_le _⟩ (fun  S13 H locs h hG => ?_)
          have hG : GW D A s (w9 o q cy S13) H locs := hG
          refine lv_aload_n hx hb dX9_next_69 rfl (lv_at hl 1 rfl) ?_
          refine lv_aload_n hx hb dX9_next_70 rfl (lv_at hl 1 rfl) ?_
          refine callVI (As := []) (rest := [.ref o]) C hG (c9_turnNow l D cy o q S13 _ h) 0 gX9_next_X9_turnNow rfl (by decide +kernel) ⟨⟨Nat.le_of_ble_eq_true rfl, Nat.le_of_ble_eq_true rfl⟩, rfl, rfl⟩ rfl rfl (Foc.all C.2.2.2.2.2.2.2.2.1) rfl hl.1 rfl (Nat.le_of_ble_eq_true rfl) dX9_next_71 ⟨Nat.zero_le _, Nat.zero_le _⟩ (fun r14 u15 H locs h hG => ?_)
          obtain ⟨eu15, h⟩ := h
          have eu15 : u15 = S13 := eu15
          subst u15
          have hG : GW D A s (w9 o q cy S13) H locs := hG
          refine lv_i2l hx hb dX9_next_74 rfl ?_
          refine lv_aload_n hx hb dX9_next_75 rfl (lv_at hl 1 rfl) ?_
          refine lv_iload_n hx hb dX9_next_76 rfl (lv_at hl 2 rfl) ?_
          refine callVI (As := [.int x1]) (rest := [.long r14.toInt64, .ref o]) C hG (c9_cellNow l D cy o q x1 S13 _ h) 1 gX9_next_X9_cellNow rfl (by decide +kernel) ⟨⟨Nat.le_of_ble_eq_true rfl, Nat.le_of_ble_eq_true rfl⟩, rfl, rfl⟩ rfl rfl (Foc.all C.2.2.2.2.2.2.2.2.1) rfl hl.1 rfl (Nat.le_of_ble_eq_true rfl) dX9_next_77 ⟨Nat.zero_le _, Nat.zero_le _⟩ (fun r16 u17 H locs h hG => ?_)
          obtain ⟨eu17, h⟩ := h
          have eu17 : u17 = S13 := eu17
          subst u17
          have hG : GW D A s (w9 o q cy S13) H locs := hG
          refine callVI (As := [.long r14.toInt64, .int r16]) (rest := []) C hG (c9_ask l D cy o q r14.toInt64 r16 S13 _ h) 2 gX9_next_X9_ask rfl (by decide +kernel) ⟨⟨Nat.le_of_ble_eq_true rfl, Nat.le_of_ble_eq_true rfl⟩, rfl, rfl⟩ rfl rfl (Foc.all C.2.2.2.2.2.2.2.2.1) rfl hl.1 rfl (Nat.le_of_ble_eq_true rfl) dX9_next_80 ⟨Nat.zero_le _, Nat.zero_le _⟩ (fun r18 S19 H locs h hG => ?_)
          have hG : GW D A s (w9 o q cy S19) H locs := hG
          exact retI (w := (w9 o q cy)) (S := S19) C hG h dX9_next_83
        · replace h := h.2 c10
          refine lv_aload_n hx hb dX9_next_45 rfl (lv_at hl 1 rfl) ?_
          refine lv_iconst (v := 2) hx hb dX9_next_46 (by decide) ?_
          refine callVI (As := [.int (2 : Int32)]) (rest := []) C hG (c9_meets l D cy o q (2 : Int32) S6 _ h) 1 gX9_next_X9_meets rfl (by decide +kernel) ⟨⟨Nat.le_of_ble_eq_true rfl, Nat.le_of_ble_eq_true rfl⟩, rfl, rfl⟩ rfl rfl (Foc.all C.2.2.2.2.2.2.2.2.1) rfl hl.1 rfl (Nat.le_of_ble_eq_true rfl) dX9_next_47 ⟨Nat.zero_le _, Nat.zero_le _⟩ (fun r20 S21 H locs h hG => ?_)
          have hG : GW D A s (w9 o q cy S21) H locs := hG
          exact retI (w := (w9 o q cy)) (S := S21) C hG h dX9_next_50
      · replace h := h.2 c7
        refine lv_iload hx hb dX9_next_33 (lv_at hl 0 rfl) ?_
        exact retI (w := (w9 o q cy)) (S := S6) C hG h dX9_next_35
    · replace h := h.2 c4
      exact b9_next_b19 S C h hG (lv_sub hl [0] rfl)
-- X9_isFolded
theorem i9_isFolded_X9 : ∀ w ∈ wsX90, w ∈ wsX9_isFolded := fun w h => List.mem_cons_of_mem _ (inG_X9 w h)
theorem k9_isFolded_32 : Cond.fieldLink RX9 32 "PaperBodiesModel" "onCell" "[I" ∈ wsX9_isFolded := (List.mem_cons_of_mem _ mw_544)
theorem k9_isFolded_35 : Cond.fieldLink RX9 35 "PaperBodiesModel" "onTurn" "[I" ∈ wsX9_isFolded := (List.mem_cons_of_mem _ mw_545)
def w9_isFolded_b316 (x8 : Int32) (S : MS) (Q : Int32 → MS → Prop) : Prop :=
  narrow .boolean (.int x8) = .int x8 ∧ Q x8 S
set_option maxHeartbeats 4000000 in
set_option maxRecDepth 100000 in
theorem b9_isFolded_b316 {p : Program} {l : Launch} {e : Env} {s : State} {m : MethodId} {args : Array Value} {below : List Frame} {meth : Method} {c : Code} {D : va_G} {cy : Nat → ClassId} {A : Nat → Prop} {o : Nat} {q : Nat → Nat} (x8 : Int32) (S : MS) {Q : Int32 → MS → Prop} (C : Cx p s m args meth c cX9_isFolded 13 (some .boolean) wsX9_isFolded RX9 D cy nestWs A) (h : w9_isFolded_b316 x8 S Q) {H : Heap} {locs : List Loc} (hG : GW D A s (w9 o q cy S) H locs) {ls : Array Slot} (hl : lv_has ls 13 [(0, .ref o), (8, .int x8)]) : W p l e ({ frames := 4, cells := 0, slots := 0, locals := 86 } : Room) s m args below meth c H locs 0 0 (MQ below (va_Qi Q (B1 D (w9 o q cy) A) A) args s 0 0 A) (F0 m 316 ls []) := by
  have hx := C.1
  have hb := C.2.1
  unfold w9_isFolded_b316 at h
  refine lv_iload hx hb dX9_isFolded_316 (lv_at hl 1 rfl) ?_
  exact retZ (w := (w9 o q cy)) (S := S) C hG ⟨h.1, h.2⟩ dX9_isFolded_318
def w9_isFolded_b310 (K253 : Int32 → Int32 → Int32 → Prop) (x1 : Int64) (x8 : Int32) (x9 : Int32) (x10 : Int32) (S : MS) (Q : Int32 → MS → Prop) : Prop :=
  ∀ y1 : Int32, y1 = x10 + 1 → K253 x8 x9 y1
set_option maxHeartbeats 4000000 in
set_option maxRecDepth 100000 in
theorem b9_isFolded_b310 {p : Program} {l : Launch} {e : Env} {s : State} {m : MethodId} {args : Array Value} {below : List Frame} {meth : Method} {c : Code} {D : va_G} {cy : Nat → ClassId} {A : Nat → Prop} {o : Nat} {q : Nat → Nat} {K253 : Int32 → Int32 → Int32 → Prop} (x1 : Int64) (x8 : Int32) (x9 : Int32) (x10 : Int32) (S : MS) {Q : Int32 → MS → Prop} (C : Cx p s m args meth c cX9_isFolded 13 (some .boolean) wsX9_isFolded RX9 D cy nestWs A) (hK253 : ∀ (x8 : Int32) (x9 : Int32) (x10 : Int32) (H : Heap) (locs : List Loc) (ls : Array Slot), K253 x8 x9 x10 → GW D A s (w9 o q cy S) H locs → lv_has ls 13 [(0, .ref o), (1, .long x1), (8, .int x8), (9, .int x9), (10, .int x10)] → W p l e ({ frames := 4, cells := 0, slots := 0, locals := 86 } : Room) s m args below meth c H locs 0 0 (MQ below (va_Qi Q (B1 D (w9 o q cy) A) A) args s 0 0 A) (F0 m 253 ls [])) (h : w9_isFolded_b310 K253 x1 x8 x9 x10 S Q) {H : Heap} {locs : List Loc} (hG : GW D A s (w9 o q cy S) H locs) {ls : Array Slot} (hl : lv_has ls 13 [(0, .ref o), (1, .long x1), (8, .int x8), (9, .int x9), (10, .int x10)]) : W p l e ({ frames := 4, cells := 0, slots := 0, locals := 86 } : Room) s m args below meth c H locs 0 0 (MQ below (va_Qi Q (B1 D (w9 o q cy) A) A) args s 0 0 A) (F0 m 310 ls []) := by
  have hx := C.1
  have hb := C.2.1
  unfold w9_isFolded_b310 at h
  obtain ⟨y1, ey1⟩ : ∃ y : Int32, y = x10 + 1 := ⟨_, rfl⟩
  replace h := h y1 ey1
  refine lv_iinc (v := y1) (lv' := [(10, .int y1), (0, .ref o), (1, .long x1), (8, .int x8), (9, .int x9)]) hx hb dX9_isFolded_310 hl (k := 4) rfl (by rw [ey1]; rfl) (by decide) rfl (fun ls hl => ?_)
  refine lv_goto (tgt := 253) hx hb dX9_isFolded_313 (by decide) ?_
  exact hK253 x8 x9 y1 _ _ _ h hG (lv_sub hl [1, 2, 3, 4, 0] rfl)
def w9_isFolded_b294 (K253 : Int32 → Int32 → Int32 → Prop) (x1 : Int64) (x9 : Int32) (x10 : Int32) (t0 : Int32) (S : MS) (Q : Int32 → MS → Prop) : Prop :=
  vp_in x10 64 ∧ ∀ y2 : Int32, y2 = (x9 ||| ((1 : Int32) <<< ((rA S 12 x10) &&& 31))) → w9_isFolded_b310 K253 x1 t0 y2 x10 S Q
set_option maxHeartbeats 4000000 in
set_option maxRecDepth 100000 in
theorem b9_isFolded_b294 {p : Program} {l : Launch} {e : Env} {s : State} {m : MethodId} {args : Array Value} {below : List Frame} {meth : Method} {c : Code} {D : va_G} {cy : Nat → ClassId} {A : Nat → Prop} {o : Nat} {q : Nat → Nat} {K253 : Int32 → Int32 → Int32 → Prop} (x1 : Int64) (x9 : Int32) (x10 : Int32) (t0 : Int32) (S : MS) {Q : Int32 → MS → Prop} (C : Cx p s m args meth c cX9_isFolded 13 (some .boolean) wsX9_isFolded RX9 D cy nestWs A) (hK253 : ∀ (x8 : Int32) (x9 : Int32) (x10 : Int32) (H : Heap) (locs : List Loc) (ls : Array Slot), K253 x8 x9 x10 → GW D A s (w9 o q cy S) H locs → lv_has ls 13 [(0, .ref o), (1, .long x1), (8, .int x8), (9, .int x9), (10, .int x10)] → W p l e ({ frames := 4, cells := 0, slots := 0, locals := 86 } : Room) s m args below meth c H locs 0 0 (MQ below (va_Qi Q (B1 D (w9 o q cy) A) A) args s 0 0 A) (F0 m 253 ls [])) (h : w9_isFolded_b294 K253 x1 x9 x10 t0 S Q) {H : Heap} {locs : List Loc} (hG : GW D A s (w9 o q cy S) H locs) {ls : Array Slot} (hl : lv_has ls 13 [(0, .ref o), (1, .long x1), (9, .int x9), (10, .int x10)]) : W p l e ({ frames := 4, cells := 0, slots := 0, locals := 86 } : Room) s m args below meth c H locs 0 0 (MQ below (va_Qi Q (B1 D (w9 o q cy) A) A) args s 0 0 A) (F0 m 294 ls [.int t0]) := by
  have hx := C.1
  have hb := C.2.1
  unfold w9_isFolded_b294 at h
  refine lv_istore (lv' := [(8, .int t0), (0, .ref o), (1, .long x1), (9, .int x9), (10, .int x10)]) hx hb dX9_isFolded_294 hl (by decide) rfl (fun ls hl => ?_)
  refine lv_iload hx hb dX9_isFolded_296 (lv_at hl 3 rfl) ?_
  refine lv_iconst (v := 1) hx hb dX9_isFolded_298 (by decide) ?_
  refine lv_aload_n hx hb dX9_isFolded_299 rfl (lv_at hl 1 rfl) ?_
  refine x9g_12 C i9_isFolded_X9 k9_isFolded_32 hG dX9_isFolded_300 ?_
  refine lv_iload hx hb dX9_isFolded_303 (lv_at hl 4 rfl) ?_
  obtain ⟨hv1, h⟩ := h
  refine x9l_12 C hG hv1 dX9_isFolded_305 ?_
  refine lv_ishl hx hb dX9_isFolded_306 ?_
  refine lv_ior hx hb dX9_isFolded_307 ?_
  refine lv_topi (fun y2 ey2 => ?_)
  replace h := h y2 ey2
  refine lv_istore (lv' := [(9, .int y2), (8, .int t0), (0, .ref o), (1, .long x1), (10, .int x10)]) hx hb dX9_isFolded_308 hl (by decide) rfl (fun ls hl => ?_)
  exact b9_isFolded_b310 (K253 := K253) x1 t0 y2 x10 S C hK253 h hG (lv_sub hl [2, 3, 1, 0, 4] rfl)
def w9_isFolded_d253 (K253 : Int32 → Int32 → Int32 → Prop) (x1 : Int64) (x8 : Int32) (x9 : Int32) (x10 : Int32) (S : MS) (Q : Int32 → MS → Prop) : Prop :=
  (((64 : Int32) ≤ x10 → w9_isFolded_b316 x8 S Q) ∧ (¬ (64 : Int32) ≤ x10 → ((x8 = 0 → w9_isFolded_b316 x8 S Q) ∧ (¬ x8 = 0 → w9_has x1 x10 (fun r3 => ((r3 = 0 → w9_isFolded_b310 K253 x1 x8 x9 x10 S Q) ∧ (¬ r3 = 0 → vp_in x10 64 ∧ ((¬ ((x9 >>> ((rA S 12 x10) &&& 31)) &&& (1 : Int32)) = 0 → w9_isFolded_b294 K253 x1 x9 x10 (0 : Int32) S Q) ∧ (((x9 >>> ((rA S 12 x10) &&& 31)) &&& (1 : Int32)) = 0 → w9_isFolded_b294 K253 x1 x9 x10 (1 : Int32) S Q)))))))))
set_option maxHeartbeats 4000000 in
set_option maxRecDepth 100000 in
theorem b9_isFolded_d253 {p : Program} {l : Launch} {e : Env} {s : State} {m : MethodId} {args : Array Value} {below : List Frame} {meth : Method} {c : Code} {D : va_G} {cy : Nat → ClassId} {A : Nat → Prop} {o : Nat} {q : Nat → Nat} {K253 : Int32 → Int32 → Int32 → Prop} (x1 : Int64) (x8 : Int32) (x9 : Int32) (x10 : Int32) (S : MS) {Q : Int32 → MS → Prop} (C : Cx p s m args meth c cX9_isFolded 13 (some .boolean) wsX9_isFolded RX9 D cy nestWs A) (hK253 : ∀ (x8 : Int32) (x9 : Int32) (x10 : Int32) (H : Heap) (locs : List Loc) (ls : Array Slot), K253 x8 x9 x10 → GW D A s (w9 o q cy S) H locs → lv_has ls 13 [(0, .ref o), (1, .long x1), (8, .int x8), (9, .int x9), (10, .int x10)] → W p l e ({ frames := 4, cells := 0, slots := 0, locals := 86 } : Room) s m args below meth c H locs 0 0 (MQ below (va_Qi Q (B1 D (w9 o q cy) A) A) args s 0 0 A) (F0 m 253 ls [])) (h : w9_isFolded_d253 K253 x1 x8 x9 x10 S Q) {H : Heap} {locs : List Loc} (hG : GW D A s (w9 o q cy S) H locs) {ls : Array Slot} (hl : lv_has ls 13 [(0, .ref o), (1, .long x1), (8, .int x8), (9, .int x9), (10, .int x10)]) : W p l e ({ frames := 4, cells := 0, slots := 0, locals := 86 } : Room) s m args below meth c H locs 0 0 (MQ below (va_Qi Q (B1 D (w9 o q cy) A) A) args s 0 0 A) (F0 m 253 ls []) := by
  have hx := C.1
  have hb := C.2.1
  unfold w9_isFolded_d253 at h
  refine lv_iload hx hb dX9_isFolded_253 (lv_at hl 4 rfl) ?_
  refine lv_bipush (v := 64) hx hb dX9_isFolded_255 (by decide) ?_
  refine lv_icmp_ge (tgt := 316) hx hb dX9_isFolded_257 (by decide) (fun c1 => ?_) (fun c1 => ?_)
  · replace h := h.1 c1
    exact b9_isFolded_b316 x8 S C h hG (lv_sub hl [0, 2] rfl)
  · replace h := h.2 c1
    refine lv_iload hx hb dX9_isFolded_260 (lv_at hl 2 rfl) ?_
    refine lv_if_eq (tgt := 316) hx hb dX9_isFolded_262 (by decide) (fun c2 => ?_) (fun c2 => ?_)
    · replace h := h.1 c2
      exact b9_isFolded_b316 x8 S C h hG (lv_sub hl [0, 2] rfl)
    · replace h := h.2 c2
      refine lv_lload_n hx hb dX9_isFolded_265 rfl (lv_at hl 1 rfl) ?_
      refine lv_iload hx hb dX9_isFolded_266 (lv_at hl 4 rfl) ?_
      refine callSI (As := [.long x1, .int x10]) (rest := []) C hG (c9_has l D cy x1 x10 _ h) 2 gX9_isFolded_X9_has rfl (by decide +kernel) ⟨⟨Nat.le_of_ble_eq_true rfl, Nat.le_of_ble_eq_true rfl⟩, rfl, rfl⟩ (Foc.none C.2.2.2.2.2.2.2.2.1) rfl hl.1 rfl (Nat.le_of_ble_eq_true rfl) dX9_isFolded_268 ⟨Nat.zero_le _, Nat.zero_le _⟩ (fun r3 z H locs h hG => ?_)
      refine lv_if_eq (tgt := 310) hx hb dX9_isFolded_271 (by decide) (fun c4 => ?_) (fun c4 => ?_)
      · replace h := h.1 c4
        exact b9_isFolded_b310 (K253 := K253) x1 x8 x9 x10 S C hK253 h hG hl
      · replace h := h.2 c4
        refine lv_iload hx hb dX9_isFolded_274 (lv_at hl 3 rfl) ?_
        refine lv_aload_n hx hb dX9_isFolded_276 rfl (lv_at hl 0 rfl) ?_
        refine x9g_12 C i9_isFolded_X9 k9_isFolded_32 hG dX9_isFolded_277 ?_
        refine lv_iload hx hb dX9_isFolded_280 (lv_at hl 4 rfl) ?_
        obtain ⟨hv5, h⟩ := h
        refine x9l_12 C hG hv5 dX9_isFolded_282 ?_
        refine lv_ishr hx hb dX9_isFolded_283 ?_
        refine lv_iconst (v := 1) hx hb dX9_isFolded_284 (by decide) ?_
        refine lv_iand hx hb dX9_isFolded_285 ?_
        refine lv_if_ne (tgt := 293) hx hb dX9_isFolded_286 (by decide) (fun c6 => ?_) (fun c6 => ?_)
        · replace h := h.1 c6
          refine lv_iconst (v := 0) hx hb dX9_isFolded_293 (by decide) ?_
          exact b9_isFolded_b294 (K253 := K253) x1 x9 x10 (0 : Int32) S C hK253 h hG (lv_sub hl [0, 1, 3, 4] rfl)
        · replace h := h.2 c6
          refine lv_iconst (v := 1) hx hb dX9_isFolded_289 (by decide) ?_
          refine lv_goto (tgt := 294) hx hb dX9_isFolded_290 (by decide) ?_
          exact b9_isFolded_b294 (K253 := K253) x1 x9 x10 (1 : Int32) S C hK253 h hG (lv_sub hl [0, 1, 3, 4] rfl)
def w9_isFolded_F253 (x1 : Int64) (S : MS) (Q : Int32 → MS → Prop) (K : Int32 × Int32 × Int32 → Prop) (a : Int32 × Int32 × Int32) : Prop := w9_isFolded_d253 (fun y0 y1 y2 => K (y0, y1, y2)) x1 a.1 a.2.1 a.2.2 S Q
def w9_isFolded_b253 (x1 : Int64) (x8 : Int32) (x9 : Int32) (x10 : Int32) (S : MS) (Q : Int32 → MS → Prop) : Prop := lp (w9_isFolded_F253 x1 S Q) (x8, x9, x10)
set_option maxHeartbeats 4000000 in
set_option maxRecDepth 100000 in
theorem b9_isFolded_b253 {p : Program} {l : Launch} {e : Env} {s : State} {m : MethodId} {args : Array Value} {below : List Frame} {meth : Method} {c : Code} {D : va_G} {cy : Nat → ClassId} {A : Nat → Prop} {o : Nat} {q : Nat → Nat} (x1 : Int64) (x8 : Int32) (x9 : Int32) (x10 : Int32) (S : MS) {Q : Int32 → MS → Prop} (C : Cx p s m args meth c cX9_isFolded 13 (some .boolean) wsX9_isFolded RX9 D cy nestWs A) (h : w9_isFolded_b253 x1 x8 x9 x10 S Q) {H : Heap} {locs : List Loc} (hG : GW D A s (w9 o q cy S) H locs) {ls : Array Slot} (hl : lv_has ls 13 [(0, .ref o), (1, .long x1), (8, .int x8), (9, .int x9), (10, .int x10)]) : W p l e ({ frames := 4, cells := 0, slots := 0, locals := 86 } : Room) s m args below meth c H locs 0 0 (MQ below (va_Qi Q (B1 D (w9 o q cy) A) A) args s 0 0 A) (F0 m 253 ls []) := by
  obtain ⟨k, hn⟩ := h
  induction k generalizing x8 x9 x10 H locs ls with
  | zero => exact hn.elim
  | succ k ih => exact b9_isFolded_d253 (K253 := fun y0 y1 y2 => itr (w9_isFolded_F253 x1 S Q) k (y0, y1, y2)) x1 x8 x9 x10 S C (fun x8 x9 x10 H locs ls hk hG hl => ih x8 x9 x10 hG hl hk) hn hG hl
def w9_isFolded_b247 (x1 : Int64) (x8 : Int32) (S : MS) (Q : Int32 → MS → Prop) : Prop :=
  w9_isFolded_b253 x1 x8 (0 : Int32) (0 : Int32) S Q
set_option maxHeartbeats 4000000 in
set_option maxRecDepth 100000 in
theorem b9_isFolded_b247 {p : Program} {l : Launch} {e : Env} {s : State} {m : MethodId} {args : Array Value} {below : List Frame} {meth : Method} {c : Code} {D : va_G} {cy : Nat → ClassId} {A : Nat → Prop} {o : Nat} {q : Nat → Nat} (x1 : Int64) (x8 : Int32) (S : MS) {Q : Int32 → MS → Prop} (C : Cx p s m args meth c cX9_isFolded 13 (some .boolean) wsX9_isFolded RX9 D cy nestWs A) (h : w9_isFolded_b247 x1 x8 S Q) {H : Heap} {locs : List Loc} (hG : GW D A s (w9 o q cy S) H locs) {ls : Array Slot} (hl : lv_has ls 13 [(0, .ref o), (1, .long x1), (8, .int x8)]) : W p l e ({ frames := 4, cells := 0, slots := 0, locals := 86 } : Room) s m args below meth c H locs 0 0 (MQ below (va_Qi Q (B1 D (w9 o q cy) A) A) args s 0 0 A) (F0 m 247 ls []) := by
  have hx := C.1
  have hb := C.2.1
  unfold w9_isFolded_b247 at h
  refine lv_iconst (v := 0) hx hb dX9_isFolded_247 (by decide) ?_
  refine lv_istore (lv' := [(9, .int (0 : Int32)), (0, .ref o), (1, .long x1), (8, .int x8)]) hx hb dX9_isFolded_248 hl (by decide) rfl (fun ls hl => ?_)
  refine lv_iconst (v := 0) hx hb dX9_isFolded_250 (by decide) ?_
  refine lv_istore (lv' := [(10, .int (0 : Int32)), (9, .int (0 : Int32)), (0, .ref o), (1, .long x1), (8, .int x8)]) hx hb dX9_isFolded_251 hl (by decide) rfl (fun ls hl => ?_)
  exact b9_isFolded_b253 x1 x8 (0 : Int32) (0 : Int32) S C h hG (lv_sub hl [2, 3, 4, 1, 0] rfl)
def w9_isFolded_b238 (K71 : Int32 → Int32 → Int32 → MS → Prop) (x1 : Int64) (x3 : Int32) (x7 : Int32) (x8 : Int32) (x9 : Int32) (S : MS) (Q : Int32 → MS → Prop) : Prop :=
  ∀ y1 : Int32, y1 = x9 + 1 → K71 x7 x8 y1 S
set_option maxHeartbeats 4000000 in
set_option maxRecDepth 100000 in
theorem b9_isFolded_b238 {p : Program} {l : Launch} {e : Env} {s : State} {m : MethodId} {args : Array Value} {below : List Frame} {meth : Method} {c : Code} {D : va_G} {cy : Nat → ClassId} {A : Nat → Prop} {o : Nat} {q : Nat → Nat} {K71 : Int32 → Int32 → Int32 → MS → Prop} (x1 : Int64) (x3 : Int32) (x7 : Int32) (x8 : Int32) (x9 : Int32) (S : MS) {Q : Int32 → MS → Prop} (C : Cx p s m args meth c cX9_isFolded 13 (some .boolean) wsX9_isFolded RX9 D cy nestWs A) (hK71 : ∀ (x7 : Int32) (x8 : Int32) (x9 : Int32) (S : MS) (H : Heap) (locs : List Loc) (ls : Array Slot), K71 x7 x8 x9 S → GW D A s (w9 o q cy S) H locs → lv_has ls 13 [(0, .ref o), (1, .long x1), (3, .int x3), (7, .int x7), (8, .int x8), (9, .int x9)] → W p l e ({ frames := 4, cells := 0, slots := 0, locals := 86 } : Room) s m args below meth c H locs 0 0 (MQ below (va_Qi Q (B1 D (w9 o q cy) A) A) args s 0 0 A) (F0 m 71 ls [])) (h : w9_isFolded_b238 K71 x1 x3 x7 x8 x9 S Q) {H : Heap} {locs : List Loc} (hG : GW D A s (w9 o q cy S) H locs) {ls : Array Slot} (hl : lv_has ls 13 [(0, .ref o), (1, .long x1), (3, .int x3), (7, .int x7), (8, .int x8), (9, .int x9)]) : W p l e ({ frames := 4, cells := 0, slots := 0, locals := 86 } : Room) s m args below meth c H locs 0 0 (MQ below (va_Qi Q (B1 D (w9 o q cy) A) A) args s 0 0 A) (F0 m 238 ls []) := by
  have hx := C.1
  have hb := C.2.1
  unfold w9_isFolded_b238 at h
  obtain ⟨y1, ey1⟩ : ∃ y : Int32, y = x9 + 1 := ⟨_, rfl⟩
  replace h := h y1 ey1
  refine lv_iinc (v := y1) (lv' := [(9, .int y1), (0, .ref o), (1, .long x1), (3, .int x3), (7, .int x7), (8, .int x8)]) hx hb dX9_isFolded_238 hl (k := 5) rfl (by rw [ey1]; rfl) (by decide) rfl (fun ls hl => ?_)
  refine lv_goto (tgt := 71) hx hb dX9_isFolded_241 (by decide) ?_
  exact hK71 x7 x8 y1 S _ _ _ h hG (lv_sub hl [1, 2, 3, 4, 5, 0] rfl)
def w9_isFolded_b232 (K81 : Int32 → Int32 → Int32 → MS → Prop) (x1 : Int64) (x3 : Int32) (x7 : Int32) (x8 : Int32) (x9 : Int32) (x10 : Int32) (S : MS) (Q : Int32 → MS → Prop) : Prop :=
  ∀ y1 : Int32, y1 = x10 + 1 → K81 x7 x8 y1 S
set_option maxHeartbeats 4000000 in
set_option maxRecDepth 100000 in
theorem b9_isFolded_b232 {p : Program} {l : Launch} {e : Env} {s : State} {m : MethodId} {args : Array Value} {below : List Frame} {meth : Method} {c : Code} {D : va_G} {cy : Nat → ClassId} {A : Nat → Prop} {o : Nat} {q : Nat → Nat} {K81 : Int32 → Int32 → Int32 → MS → Prop} (x1 : Int64) (x3 : Int32) (x7 : Int32) (x8 : Int32) (x9 : Int32) (x10 : Int32) (S : MS) {Q : Int32 → MS → Prop} (C : Cx p s m args meth c cX9_isFolded 13 (some .boolean) wsX9_isFolded RX9 D cy nestWs A) (hK81 : ∀ (x7 : Int32) (x8 : Int32) (x10 : Int32) (S : MS) (H : Heap) (locs : List Loc) (ls : Array Slot), K81 x7 x8 x10 S → GW D A s (w9 o q cy S) H locs → lv_has ls 13 [(0, .ref o), (1, .long x1), (3, .int x3), (7, .int x7), (8, .int x8), (9, .int x9), (10, .int x10)] → W p l e ({ frames := 4, cells := 0, slots := 0, locals := 86 } : Room) s m args below meth c H locs 0 0 (MQ below (va_Qi Q (B1 D (w9 o q cy) A) A) args s 0 0 A) (F0 m 81 ls [])) (h : w9_isFolded_b232 K81 x1 x3 x7 x8 x9 x10 S Q) {H : Heap} {locs : List Loc} (hG : GW D A s (w9 o q cy S) H locs) {ls : Array Slot} (hl : lv_has ls 13 [(0, .ref o), (1, .long x1), (3, .int x3), (7, .int x7), (8, .int x8), (9, .int x9), (10, .int x10)]) : W p l e ({ frames := 4, cells := 0, slots := 0, locals := 86 } : Room) s m args below meth c H locs 0 0 (MQ below (va_Qi Q (B1 D (w9 o q cy) A) A) args s 0 0 A) (F0 m 232 ls []) := by
  have hx := C.1
  have hb := C.2.1
  unfold w9_isFolded_b232 at h
  obtain ⟨y1, ey1⟩ : ∃ y : Int32, y = x10 + 1 := ⟨_, rfl⟩
  replace h := h y1 ey1
  refine lv_iinc (v := y1) (lv' := [(10, .int y1), (0, .ref o), (1, .long x1), (3, .int x3), (7, .int x7), (8, .int x8), (9, .int x9)]) hx hb dX9_isFolded_232 hl (k := 6) rfl (by rw [ey1]; rfl) (by decide) rfl (fun ls hl => ?_)
  refine lv_goto (tgt := 81) hx hb dX9_isFolded_235 (by decide) ?_
  exact hK81 x7 x8 y1 S _ _ _ h hG (lv_sub hl [1, 2, 3, 4, 5, 6, 0] rfl)
def w9_isFolded_b230 (K81 : Int32 → Int32 → Int32 → MS → Prop) (x1 : Int64) (x3 : Int32) (x7 : Int32) (x9 : Int32) (x10 : Int32) (t0 : Int32) (S : MS) (Q : Int32 → MS → Prop) : Prop :=
  w9_isFolded_b232 K81 x1 x3 x7 t0 x9 x10 S Q
set_option maxHeartbeats 4000000 in
set_option maxRecDepth 100000 in
theorem b9_isFolded_b230 {p : Program} {l : Launch} {e : Env} {s : State} {m : MethodId} {args : Array Value} {below : List Frame} {meth : Method} {c : Code} {D : va_G} {cy : Nat → ClassId} {A : Nat → Prop} {o : Nat} {q : Nat → Nat} {K81 : Int32 → Int32 → Int32 → MS → Prop} (x1 : Int64) (x3 : Int32) (x7 : Int32) (x9 : Int32) (x10 : Int32) (t0 : Int32) (S : MS) {Q : Int32 → MS → Prop} (C : Cx p s m args meth c cX9_isFolded 13 (some .boolean) wsX9_isFolded RX9 D cy nestWs A) (hK81 : ∀ (x7 : Int32) (x8 : Int32) (x10 : Int32) (S : MS) (H : Heap) (locs : List Loc) (ls : Array Slot), K81 x7 x8 x10 S → GW D A s (w9 o q cy S) H locs → lv_has ls 13 [(0, .ref o), (1, .long x1), (3, .int x3), (7, .int x7), (8, .int x8), (9, .int x9), (10, .int x10)] → W p l e ({ frames := 4, cells := 0, slots := 0, locals := 86 } : Room) s m args below meth c H locs 0 0 (MQ below (va_Qi Q (B1 D (w9 o q cy) A) A) args s 0 0 A) (F0 m 81 ls [])) (h : w9_isFolded_b230 K81 x1 x3 x7 x9 x10 t0 S Q) {H : Heap} {locs : List Loc} (hG : GW D A s (w9 o q cy S) H locs) {ls : Array Slot} (hl : lv_has ls 13 [(0, .ref o), (1, .long x1), (3, .int x3), (7, .int x7), (9, .int x9), (10, .int x10)]) : W p l e ({ frames := 4, cells := 0, slots := 0, locals := 86 } : Room) s m args below meth c H locs 0 0 (MQ below (va_Qi Q (B1 D (w9 o q cy) A) A) args s 0 0 A) (F0 m 230 ls [.int t0]) := by
  have hx := C.1
  have hb := C.2.1
  unfold w9_isFolded_b230 at h
  refine lv_istore (lv' := [(8, .int t0), (0, .ref o), (1, .long x1), (3, .int x3), (7, .int x7), (9, .int x9), (10, .int x10)]) hx hb dX9_isFolded_230 hl (by decide) rfl (fun ls hl => ?_)
  exact b9_isFolded_b232 (K81 := K81) x1 x3 x7 t0 x9 x10 S C hK81 h hG (lv_sub hl [1, 2, 3, 4, 0, 5, 6] rfl)
def w9_isFolded_b229 (K81 : Int32 → Int32 → Int32 → MS → Prop) (x1 : Int64) (x3 : Int32) (x7 : Int32) (x9 : Int32) (x10 : Int32) (S : MS) (Q : Int32 → MS → Prop) : Prop :=
  w9_isFolded_b230 K81 x1 x3 x7 x9 x10 (0 : Int32) S Q
set_option maxHeartbeats 4000000 in
set_option maxRecDepth 100000 in
theorem b9_isFolded_b229 {p : Program} {l : Launch} {e : Env} {s : State} {m : MethodId} {args : Array Value} {below : List Frame} {meth : Method} {c : Code} {D : va_G} {cy : Nat → ClassId} {A : Nat → Prop} {o : Nat} {q : Nat → Nat} {K81 : Int32 → Int32 → Int32 → MS → Prop} (x1 : Int64) (x3 : Int32) (x7 : Int32) (x9 : Int32) (x10 : Int32) (S : MS) {Q : Int32 → MS → Prop} (C : Cx p s m args meth c cX9_isFolded 13 (some .boolean) wsX9_isFolded RX9 D cy nestWs A) (hK81 : ∀ (x7 : Int32) (x8 : Int32) (x10 : Int32) (S : MS) (H : Heap) (locs : List Loc) (ls : Array Slot), K81 x7 x8 x10 S → GW D A s (w9 o q cy S) H locs → lv_has ls 13 [(0, .ref o), (1, .long x1), (3, .int x3), (7, .int x7), (8, .int x8), (9, .int x9), (10, .int x10)] → W p l e ({ frames := 4, cells := 0, slots := 0, locals := 86 } : Room) s m args below meth c H locs 0 0 (MQ below (va_Qi Q (B1 D (w9 o q cy) A) A) args s 0 0 A) (F0 m 81 ls [])) (h : w9_isFolded_b229 K81 x1 x3 x7 x9 x10 S Q) {H : Heap} {locs : List Loc} (hG : GW D A s (w9 o q cy S) H locs) {ls : Array Slot} (hl : lv_has ls 13 [(0, .ref o), (1, .long x1), (3, .int x3), (7, .int x7), (9, .int x9), (10, .int x10)]) : W p l e ({ frames := 4, cells := 0, slots := 0, locals := 86 } : Room) s m args below meth c H locs 0 0 (MQ below (va_Qi Q (B1 D (w9 o q cy) A) A) args s 0 0 A) (F0 m 229 ls []) := by
  have hx := C.1
  have hb := C.2.1
  unfold w9_isFolded_b229 at h
  refine lv_iconst (v := 0) hx hb dX9_isFolded_229 (by decide) ?_
  exact b9_isFolded_b230 (K81 := K81) x1 x3 x7 x9 x10 (0 : Int32) S C hK81 h hG hl
def w9_isFolded_b194 (K81 : Int32 → Int32 → Int32 → MS → Prop) (x1 : Int64) (x3 : Int32) (x7 : Int32) (x8 : Int32) (x9 : Int32) (x10 : Int32) (x11 : Int32) (x12 : Int32) (S : MS) (Q : Int32 → MS → Prop) : Prop :=
  ((x8 = 0 → w9_isFolded_b229 K81 x1 x3 x7 x9 x10 S Q) ∧ (¬ x8 = 0 → vp_in x11 64 ∧ ((¬ (rA S 12 x11) = x12 → w9_isFolded_b229 K81 x1 x3 x7 x9 x10 S Q) ∧ ((rA S 12 x11) = x12 → w9_turnNow S (fun r4 => ((¬ (rA S 13 x11) = r4 → w9_isFolded_b229 K81 x1 x3 x7 x9 x10 S Q) ∧ ((rA S 13 x11) = r4 → w9_isFolded_b230 K81 x1 x3 x7 x9 x10 (1 : Int32) S Q)))))))
set_option maxHeartbeats 4000000 in
set_option maxRecDepth 100000 in
theorem b9_isFolded_b194 {p : Program} {l : Launch} {e : Env} {s : State} {m : MethodId} {args : Array Value} {below : List Frame} {meth : Method} {c : Code} {D : va_G} {cy : Nat → ClassId} {A : Nat → Prop} {o : Nat} {q : Nat → Nat} {K81 : Int32 → Int32 → Int32 → MS → Prop} (x1 : Int64) (x3 : Int32) (x7 : Int32) (x8 : Int32) (x9 : Int32) (x10 : Int32) (x11 : Int32) (x12 : Int32) (S : MS) {Q : Int32 → MS → Prop} (C : Cx p s m args meth c cX9_isFolded 13 (some .boolean) wsX9_isFolded RX9 D cy nestWs A) (hK81 : ∀ (x7 : Int32) (x8 : Int32) (x10 : Int32) (S : MS) (H : Heap) (locs : List Loc) (ls : Array Slot), K81 x7 x8 x10 S → GW D A s (w9 o q cy S) H locs → lv_has ls 13 [(0, .ref o), (1, .long x1), (3, .int x3), (7, .int x7), (8, .int x8), (9, .int x9), (10, .int x10)] → W p l e ({ frames := 4, cells := 0, slots := 0, locals := 86 } : Room) s m args below meth c H locs 0 0 (MQ below (va_Qi Q (B1 D (w9 o q cy) A) A) args s 0 0 A) (F0 m 81 ls [])) (h : w9_isFolded_b194 K81 x1 x3 x7 x8 x9 x10 x11 x12 S Q) {H : Heap} {locs : List Loc} (hG : GW D A s (w9 o q cy S) H locs) {ls : Array Slot} (hl : lv_has ls 13 [(0, .ref o), (1, .long x1), (3, .int x3), (7, .int x7), (8, .int x8), (9, .int x9), (10, .int x10), (11, .int x11), (12, .int x12)]) : W p l e ({ frames := 4, cells := 0, slots := 0, locals := 86 } : Room) s m args below meth c H locs 0 0 (MQ below (va_Qi Q (B1 D (w9 o q cy) A) A) args s 0 0 A) (F0 m 194 ls []) := by
  have hx := C.1
  have hb := C.2.1
  unfold w9_isFolded_b194 at h
  refine lv_iload hx hb dX9_isFolded_194 (lv_at hl 4 rfl) ?_
  refine lv_if_eq (tgt := 229) hx hb dX9_isFolded_196 (by decide) (fun c1 => ?_) (fun c1 => ?_)
  · replace h := h.1 c1
    exact b9_isFolded_b229 (K81 := K81) x1 x3 x7 x9 x10 S C hK81 h hG (lv_sub hl [0, 1, 2, 3, 5, 6] rfl)
  · replace h := h.2 c1
    refine lv_aload_n hx hb dX9_isFolded_199 rfl (lv_at hl 0 rfl) ?_
    refine x9g_12 C i9_isFolded_X9 k9_isFolded_32 hG dX9_isFolded_200 ?_
    refine lv_iload hx hb dX9_isFolded_203 (lv_at hl 7 rfl) ?_
    obtain ⟨hv2, h⟩ := h
    refine x9l_12 C hG hv2 dX9_isFolded_205 ?_
    refine lv_iload hx hb dX9_isFolded_206 (lv_at hl 8 rfl) ?_
    refine lv_icmp_ne (tgt := 229) hx hb dX9_isFolded_208 (by decide) (fun c3 => ?_) (fun c3 => ?_)
    · replace h := h.1 c3
      exact b9_isFolded_b229 (K81 := K81) x1 x3 x7 x9 x10 S C hK81 h hG (lv_sub hl [0, 1, 2, 3, 5, 6] rfl)
    · replace h := h.2 c3
      refine lv_aload_n hx hb dX9_isFolded_211 rfl (lv_at hl 0 rfl) ?_
      refine x9g_13 C i9_isFolded_X9 k9_isFolded_35 hG dX9_isFolded_212 ?_
      refine lv_iload hx hb dX9_isFolded_215 (lv_at hl 7 rfl) ?_
      refine x9l_13 C hG hv2 dX9_isFolded_217 ?_
      refine lv_aload_n hx hb dX9_isFolded_218 rfl (lv_at hl 0 rfl) ?_
      refine callVI (As := []) (rest := [.int (rA S 13 x11)]) C hG (c9_turnNow l D cy o q S _ h) 0 gX9_isFolded_X9_turnNow rfl (by decide +kernel) ⟨⟨Nat.le_of_ble_eq_true rfl, Nat.le_of_ble_eq_true rfl⟩, rfl, rfl⟩ rfl rfl (Foc.all C.2.2.2.2.2.2.2.2.1) rfl hl.1 rfl (Nat.le_of_ble_eq_true rfl) dX9_isFolded_219 ⟨Nat.zero_le _, Nat.zero_le _⟩ (fun r4 u5 H locs h hG => ?_)
      obtain ⟨eu5, h⟩ := h
      have eu5 : u5 = S := eu5
      subst u5
      have hG : GW D A s (w9 o q cy S) H locs := hG
      refine lv_icmp_ne (tgt := 229) hx hb dX9_isFolded_222 (by decide) (fun c6 => ?_) (fun c6 => ?_)
      · replace h := h.1 c6
        exact b9_isFolded_b229 (K81 := K81) x1 x3 x7 x9 x10 S C hK81 h hG (lv_sub hl [0, 1, 2, 3, 5, 6] rfl)
      · replace h := h.2 c6
        refine lv_iconst (v := 1) hx hb dX9_isFolded_225 (by decide) ?_
        refine lv_goto (tgt := 230) hx hb dX9_isFolded_226 (by decide) ?_
        exact b9_isFolded_b230 (K81 := K81) x1 x3 x7 x9 x10 (1 : Int32) S C hK81 h hG (lv_sub hl [0, 1, 2, 3, 5, 6] rfl)
def w9_isFolded_d81 (K71 : Int32 → Int32 → Int32 → MS → Prop) (K81 : Int32 → Int32 → Int32 → MS → Prop) (x1 : Int64) (x3 : Int32) (x7 : Int32) (x8 : Int32) (x9 : Int32) (x10 : Int32) (S : MS) (Q : Int32 → MS → Prop) : Prop :=
  (((4 : Int32) ≤ x10 → w9_isFolded_b238 K71 x1 x3 x7 x8 x9 S Q) ∧ (¬ (4 : Int32) ≤ x10 → w9_has x1 x9 (fun r2 => ((r2 = 0 → w9_isFolded_b238 K71 x1 x3 x7 x8 x9 S Q) ∧ (¬ r2 = 0 → vp_in x9 64 ∧ (((rA S 12 x9) < 0 → w9_isFolded_b238 K71 x1 x3 x7 x8 x9 S Q) ∧ (¬ (rA S 12 x9) < 0 → w9_beside x9 x10 (fun r6 => w9_has x1 r6 (fun r7 => ((r7 = 0 → w9_isFolded_b232 K81 x1 x3 x7 x8 x9 x10 S Q) ∧ (¬ r7 = 0 → w9_goTo x3 (rA S 12 x9) S (fun S9 => w9_setFrame (rA S9 13 x9) S9 (fun S10 => w9_go x3 x10 S10 (fun S11 => w9_cellNow x3 S11 (fun r12 => vp_in r6 64 ∧ ((0 ≤ (rA S11 12 r6) → w9_isFolded_b194 K81 x1 x3 x7 x8 x9 x10 r6 r12 S11 Q) ∧ (¬ 0 ≤ (rA S11 12 r6) → ∀ S16 : MS, S16 = sA S11 12 r6 r12 → w9_turnNow S16 (fun r17 => ∀ S19 : MS, S19 = sA S16 13 r6 r17 → w9_isFolded_b194 K81 x1 x3 (1 : Int32) x8 x9 x10 r6 r12 S19 Q))))))))))))))))))
set_option maxHeartbeats 4000000 in
set_option maxRecDepth 100000 in
theorem b9_isFolded_d81 {p : Program} {l : Launch} {e : Env} {s : State} {m : MethodId} {args : Array Value} {below : List Frame} {meth : Method} {c : Code} {D : va_G} {cy : Nat → ClassId} {A : Nat → Prop} {o : Nat} {q : Nat → Nat} {K71 : Int32 → Int32 → Int32 → MS → Prop} {K81 : Int32 → Int32 → Int32 → MS → Prop} (x1 : Int64) (x3 : Int32) (x7 : Int32) (x8 : Int32) (x9 : Int32) (x10 : Int32) (S : MS) {Q : Int32 → MS → Prop} (C : Cx p s m args meth c cX9_isFolded 13 (some .boolean) wsX9_isFolded RX9 D cy nestWs A) (hK71 : ∀ (x7 : Int32) (x8 : Int32) (x9 : Int32) (S : MS) (H : Heap) (locs : List Loc) (ls : Array Slot), K71 x7 x8 x9 S → GW D A s (w9 o q cy S) H locs → lv_has ls 13 [(0, .ref o), (1, .long x1), (3, .int x3), (7, .int x7), (8, .int x8), (9, .int x9)] → W p l e ({ frames := 4, cells := 0, slots := 0, locals := 86 } : Room) s m args below meth c H locs 0 0 (MQ below (va_Qi Q (B1 D (w9 o q cy) A) A) args s 0 0 A) (F0 m 71 ls [])) (hK81 : ∀ (x7 : Int32) (x8 : Int32) (x10 : Int32) (S : MS) (H : Heap) (locs : List Loc) (ls : Array Slot), K81 x7 x8 x10 S → GW D A s (w9 o q cy S) H locs → lv_has ls 13 [(0, .ref o), (1, .long x1), (3, .int x3), (7, .int x7), (8, .int x8), (9, .int x9), (10, .int x10)] → W p l e ({ frames := 4, cells := 0, slots := 0, locals := 86 } : Room) s m args below meth c H locs 0 0 (MQ below (va_Qi Q (B1 D (w9 o q cy) A) A) args s 0 0 A) (F0 m 81 ls [])) (h : w9_isFolded_d81 K71 K81 x1 x3 x7 x8 x9 x10 S Q) {H : Heap} {locs : List Loc} (hG : GW D A s (w9 o q cy S) H locs) {ls : Array Slot} (hl : lv_has ls 13 [(0, .ref o), (1, .long x1), (3, .int x3), (7, .int x7), (8, .int x8), (9, .int x9), (10, .int x10)]) : W p l e ({ frames := 4, cells := 0, slots := 0, locals := 86 } : Room) s m args below meth c H locs 0 0 (MQ below (va_Qi Q (B1 D (w9 o q cy) A) A) args s 0 0 A) (F0 m 81 ls []) := by
  have hx := C.1
  have hb := C.2.1
  unfold w9_isFolded_d81 at h
  refine lv_iload hx hb dX9_isFolded_81 (lv_at hl 6 rfl) ?_
  refine lv_iconst (v := 4) hx hb dX9_isFolded_83 (by decide) ?_
  refine lv_icmp_ge (tgt := 238) hx hb dX9_isFolded_84 (by decide) (fun c1 => ?_) (fun c1 => ?_)
  · replace h := h.1 c1
    exact b9_isFolded_b238 (K71 := K71) x1 x3 x7 x8 x9 S C hK71 h hG (lv_sub hl [0, 1, 2, 3, 4, 5] rfl)
  · replace h := h.2 c1
    refine lv_lload_n hx hb dX9_isFolded_87 rfl (lv_at hl 1 rfl) ?_
    refine lv_iload hx hb dX9_isFolded_88 (lv_at hl 5 rfl) ?_
    refine callSI (As := [.long x1, .int x9]) (rest := []) C hG (c9_has l D cy x1 x9 _ h) 2 gX9_isFolded_X9_has rfl (by decide +kernel) ⟨⟨Nat.le_of_ble_eq_true rfl, Nat.le_of_ble_eq_true rfl⟩, rfl, rfl⟩ (Foc.none C.2.2.2.2.2.2.2.2.1) rfl hl.1 rfl (Nat.le_of_ble_eq_true rfl) dX9_isFolded_90 ⟨Nat.zero_le _, Nat.zero_le _⟩ (fun r2 z H locs h hG => ?_)
    refine lv_if_eq (tgt := 238) hx hb dX9_isFolded_93 (by decide) (fun c3 => ?_) (fun c3 => ?_)
    · replace h := h.1 c3
      exact b9_isFolded_b238 (K71 := K71) x1 x3 x7 x8 x9 S C hK71 h hG (lv_sub hl [0, 1, 2, 3, 4, 5] rfl)
    · replace h := h.2 c3
      refine lv_aload_n hx hb dX9_isFolded_96 rfl (lv_at hl 0 rfl) ?_
      refine x9g_12 C i9_isFolded_X9 k9_isFolded_32 hG dX9_isFolded_97 ?_
      refine lv_iload hx hb dX9_isFolded_100 (lv_at hl 5 rfl) ?_
      obtain ⟨hv4, h⟩ := h
      refine x9l_12 C hG hv4 dX9_isFolded_102 ?_
      refine lv_if_lt (tgt := 238) hx hb dX9_isFolded_103 (by decide) (fun c5 => ?_) (fun c5 => ?_)
      · replace h := h.1 c5
        exact b9_isFolded_b238 (K71 := K71) x1 x3 x7 x8 x9 S C hK71 h hG (lv_sub hl [0, 1, 2, 3, 4, 5] rfl)
      · replace h := h.2 c5
        refine lv_iload hx hb dX9_isFolded_106 (lv_at hl 5 rfl) ?_
        refine lv_iload hx hb dX9_isFolded_108 (lv_at hl 6 rfl) ?_
        refine callSI (As := [.int x9, .int x10]) (rest := []) C hG (c9_beside l D cy x9 x10 _ h) 2 gX9_isFolded_X9_beside rfl (by decide +kernel) ⟨⟨Nat.le_of_ble_eq_true rfl, Nat.le_of_ble_eq_true rfl⟩, rfl, rfl⟩ (Foc.none C.2.2.2.2.2.2.2.2.1) rfl hl.1 rfl (Nat.le_of_ble_eq_true rfl) dX9_isFolded_110 ⟨Nat.zero_le _, Nat.zero_le _⟩ (fun r6 z H locs h hG => ?_)
        refine lv_istore (lv' := [(11, .int r6), (0, .ref o), (1, .long x1), (3, .int x3), (7, .int x7), (8, .int x8), (9, .int x9), (10, .int x10)]) hx hb dX9_isFolded_113 hl (by decide) rfl (fun ls hl => ?_)
        refine lv_lload_n hx hb dX9_isFolded_115 rfl (lv_at hl 2 rfl) ?_
        refine lv_iload hx hb dX9_isFolded_116 (lv_at hl 0 rfl) ?_
        refine callSI (As := [.long x1, .int r6]) (rest := []) C hG (c9_has l D cy x1 r6 _ h) 2 gX9_isFolded_X9_has rfl (by decide +kernel) ⟨⟨Nat.le_of_ble_eq_true rfl, Nat.le_of_ble_eq_true rfl⟩, rfl, rfl⟩ (Foc.none C.2.2.2.2.2.2.2.2.1) rfl hl.1 rfl (Nat.le_of_ble_eq_true rfl) dX9_isFolded_118 ⟨Nat.zero_le _, Nat.zero_le _⟩ (fun r7 z H locs h hG => ?_)
        refine lv_if_eq (tgt := 232) hx hb dX9_isFolded_121 (by decide) (fun c8 => ?_) (fun c8 => ?_)
        · replace h := h.1 c8
          exact b9_isFolded_b232 (K81 := K81) x1 x3 x7 x8 x9 x10 S C hK81 h hG (lv_sub hl [1, 2, 3, 4, 5, 6, 7] rfl)
        · replace h := h.2 c8
          refine lv_aload_n hx hb dX9_isFolded_124 rfl (lv_at hl 1 rfl) ?_
          refine lv_iload_n hx hb dX9_isFolded_125 rfl (lv_at hl 3 rfl) ?_
          refine lv_aload_n hx hb dX9_isFolded_126 rfl (lv_at hl 1 rfl) ?_
          refine x9g_12 C i9_isFolded_X9 k9_isFolded_32 hG dX9_isFolded_127 ?_
          refine lv_iload hx hb dX9_isFolded_130 (lv_at hl 6 rfl) ?_
          refine x9l_12 C hG hv4 dX9_isFolded_132 ?_
          refine callVV (As := [.int x3, .int (rA S 12 x9)]) (rest := []) C hG (c9_goTo l D cy o q x3 (rA S 12 x9) S _ h) 2 gX9_isFolded_X9_goTo rfl (by decide +kernel) ⟨⟨Nat.le_of_ble_eq_true rfl, Nat.le_of_ble_eq_true rfl⟩, rfl, rfl⟩ rfl rfl (Foc.all C.2.2.2.2.2.2.2.2.1) rfl hl.1 rfl (Nat.le_of_ble_eq_true rfl) dX9_isFolded_133 ⟨Nat.zero_le _, Nat.zero_le _⟩ (fun  S9 H locs h hG => ?_)
          have hG : GW D A s (w9 o q cy S9) H locs := hG
          refine lv_aload_n hx hb dX9_isFolded_136 rfl (lv_at hl 1 rfl) ?_
          refine lv_aload_n hx hb dX9_isFolded_137 rfl (lv_at hl 1 rfl) ?_
          refine x9g_13 C i9_isFolded_X9 k9_isFolded_35 hG dX9_isFolded_138 ?_
          refine lv_iload hx hb dX9_isFolded_141 (lv_at hl 6 rfl) ?_
          refine x9l_13 C hG hv4 dX9_isFolded_143 ?_
          refine callVV (As := [.int (rA S9 13 x9)]) (rest := []) C hG (c9_setFrame l D cy o q (rA S9 13 x9) S9 _ h) 1 gX9_isFolded_X9_setFrame rfl (by decide +kernel) ⟨⟨Nat.le_of_ble_eq_true rfl, Nat.le_of_ble_eq_true rfl⟩, rfl, rfl⟩ rfl rfl (Foc.all C.2.2.2.2.2.2.2.2.1) rfl hl.1 rfl (Nat.le_of_ble_eq_true rfl) dX9_isFolded_144 ⟨Nat.zero_le _, Nat.zero_le _⟩ (fun  S10 H locs h hG => ?_)
          have hG : GW D A s (w9 o q cy S10) H locs := hG
          refine lv_aload_n hx hb dX9_isFolded_147 rfl (lv_at hl 1 rfl) ?_
          refine lv_iload_n hx hb dX9_isFolded_148 rfl (lv_at hl 3 rfl) ?_
          refine lv_iload hx hb dX9_isFolded_149 (lv_at hl 7 rfl) ?_
          refine callVV (As := [.int x3, .int x10]) (rest := []) C hG (c9_go l D cy o q x3 x10 S10 _ h) 2 gX9_isFolded_X9_go rfl (by decide +kernel) ⟨⟨Nat.le_of_ble_eq_true rfl, Nat.le_of_ble_eq_true rfl⟩, rfl, rfl⟩ rfl rfl (Foc.all C.2.2.2.2.2.2.2.2.1) rfl hl.1 rfl (Nat.le_of_ble_eq_true rfl) dX9_isFolded_151 ⟨Nat.zero_le _, Nat.zero_le _⟩ (fun  S11 H locs h hG => ?_)
          have hG : GW D A s (w9 o q cy S11) H locs := hG
          refine lv_aload_n hx hb dX9_isFolded_154 rfl (lv_at hl 1 rfl) ?_
          refine lv_iload_n hx hb dX9_isFolded_155 rfl (lv_at hl 3 rfl) ?_
          refine callVI (As := [.int x3]) (rest := []) C hG (c9_cellNow l D cy o q x3 S11 _ h) 1 gX9_isFolded_X9_cellNow rfl (by decide +kernel) ⟨⟨Nat.le_of_ble_eq_true rfl, Nat.le_of_ble_eq_true rfl⟩, rfl, rfl⟩ rfl rfl (Foc.all C.2.2.2.2.2.2.2.2.1) rfl hl.1 rfl (Nat.le_of_ble_eq_true rfl) dX9_isFolded_156 ⟨Nat.zero_le _, Nat.zero_le _⟩ (fun r12 u13 H locs h hG => ?_)
          obtain ⟨eu13, h⟩ := h
          have eu13 : u13 = S11 := eu13
          subst u13
          have hG : GW D A s (w9 o q cy S11) H locs := hG
          refine lv_istore (lv' := [(12, .int r12), (11, .int r6), (0, .ref o), (1, .long x1), (3, .int x3), (7, .int x7), (8, .int x8), (9, .int x9), (10, .int x10)]) hx hb dX9_isFolded_159 hl (by decide) rfl (fun ls hl => ?_)
          refine lv_aload_n hx hb dX9_isFolded_161 rfl (lv_at hl 2 rfl) ?_
          refine x9g_12 C i9_isFolded_X9 k9_isFolded_32 hG dX9_isFolded_162 ?_
          refine lv_iload hx hb dX9_isFolded_165 (lv_at hl 1 rfl) ?_
          obtain ⟨hv14, h⟩ := h
          refine x9l_12 C hG hv14 dX9_isFolded_167 ?_
          refine lv_if_ge (tgt := 194) hx hb dX9_isFolded_168 (by decide) (fun c15 => ?_) (fun c15 => ?_)
          · replace h := h.1 c15
            exact b9_isFolded_b194 (K81 := K81) x1 x3 x7 x8 x9 x10 r6 r12 S11 C hK81 h hG (lv_sub hl [2, 3, 4, 5, 6, 7, 8, 1, 0] rfl)
          · replace h := h.2 c15
            refine lv_aload_n hx hb dX9_isFolded_171 rfl (lv_at hl 2 rfl) ?_
            refine x9g_12 C i9_isFolded_X9 k9_isFolded_32 hG dX9_isFolded_172 ?_
            refine lv_iload hx hb dX9_isFolded_175 (lv_at hl 1 rfl) ?_
            refine lv_iload hx hb dX9_isFolded_177 (lv_at hl 0 rfl) ?_
            refine x9s_12 C hG hv14 dX9_isFolded_179 (fun S16 eS16 H locs hG => ?_)
            replace h := h S16 eS16
            refine lv_aload_n hx hb dX9_isFolded_180 rfl (lv_at hl 2 rfl) ?_
            refine x9g_13 C i9_isFolded_X9 k9_isFolded_35 hG dX9_isFolded_181 ?_
            refine lv_iload hx hb dX9_isFolded_184 (lv_at hl 1 rfl) ?_
            refine lv_aload_n hx hb dX9_isFolded_186 rfl (lv_at hl 2 rfl) ?_
            refine callVI (As := []) (rest := [.int r6, .ref (q 13)]) C hG (c9_turnNow l D cy o q S16 _ h) 0 gX9_isFolded_X9_turnNow rfl (by decide +kernel) ⟨⟨Nat.le_of_ble_eq_true rfl, Nat.le_of_ble_eq_true rfl⟩, rfl, rfl⟩ rfl rfl (Foc.all C.2.2.2.2.2.2.2.2.1) rfl hl.1 rfl (Nat.le_of_ble_eq_true rfl) dX9_isFolded_187 ⟨Nat.zero_le _, Nat.zero_le _⟩ (fun r17 u18 H locs h hG => ?_)
            obtain ⟨eu18, h⟩ := h
            have eu18 : u18 = S16 := eu18
            subst u18
            have hG : GW D A s (w9 o q cy S16) H locs := hG
            refine x9s_13 C hG hv14 dX9_isFolded_190 (fun S19 eS19 H locs hG => ?_)
            replace h := h S19 eS19
            refine lv_iconst (v := 1) hx hb dX9_isFolded_191 (by decide) ?_
            refine lv_istore (lv' := [(7, .int (1 : Int32)), (12, .int r12), (11, .int r6), (0, .ref o), (1, .long x1), (3, .int x3), (8, .int x8), (9, .int x9), (10, .int x10)]) hx hb dX9_isFolded_192 hl (by decide) rfl (fun ls hl => ?_)
            exact b9_isFolded_b194 (K81 := K81) x1 x3 (1 : Int32) x8 x9 x10 r6 r12 S19 C hK81 h hG (lv_sub hl [3, 4, 5, 0, 6, 7, 8, 2, 1] rfl)
def w9_isFolded_F81 (K71 : Int32 → Int32 → Int32 → MS → Prop) (x1 : Int64) (x3 : Int32) (x9 : Int32) (Q : Int32 → MS → Prop) (K : Int32 × Int32 × Int32 × MS → Prop) (a : Int32 × Int32 × Int32 × MS) : Prop := w9_isFolded_d81 K71 (fun y0 y1 y2 y3 => K (y0, y1, y2, y3)) x1 x3 a.1 a.2.1 x9 a.2.2.1 a.2.2.2 Q
def w9_isFolded_b81 (K71 : Int32 → Int32 → Int32 → MS → Prop) (x1 : Int64) (x3 : Int32) (x7 : Int32) (x8 : Int32) (x9 : Int32) (x10 : Int32) (S : MS) (Q : Int32 → MS → Prop) : Prop := lp (w9_isFolded_F81 K71 x1 x3 x9 Q) (x7, x8, x10, S)
set_option maxHeartbeats 4000000 in
set_option maxRecDepth 100000 in
theorem b9_isFolded_b81 {p : Program} {l : Launch} {e : Env} {s : State} {m : MethodId} {args : Array Value} {below : List Frame} {meth : Method} {c : Code} {D : va_G} {cy : Nat → ClassId} {A : Nat → Prop} {o : Nat} {q : Nat → Nat} {K71 : Int32 → Int32 → Int32 → MS → Prop} (x1 : Int64) (x3 : Int32) (x7 : Int32) (x8 : Int32) (x9 : Int32) (x10 : Int32) (S : MS) {Q : Int32 → MS → Prop} (C : Cx p s m args meth c cX9_isFolded 13 (some .boolean) wsX9_isFolded RX9 D cy nestWs A) (hK71 : ∀ (x7 : Int32) (x8 : Int32) (x9 : Int32) (S : MS) (H : Heap) (locs : List Loc) (ls : Array Slot), K71 x7 x8 x9 S → GW D A s (w9 o q cy S) H locs → lv_has ls 13 [(0, .ref o), (1, .long x1), (3, .int x3), (7, .int x7), (8, .int x8), (9, .int x9)] → W p l e ({ frames := 4, cells := 0, slots := 0, locals := 86 } : Room) s m args below meth c H locs 0 0 (MQ below (va_Qi Q (B1 D (w9 o q cy) A) A) args s 0 0 A) (F0 m 71 ls [])) (h : w9_isFolded_b81 K71 x1 x3 x7 x8 x9 x10 S Q) {H : Heap} {locs : List Loc} (hG : GW D A s (w9 o q cy S) H locs) {ls : Array Slot} (hl : lv_has ls 13 [(0, .ref o), (1, .long x1), (3, .int x3), (7, .int x7), (8, .int x8), (9, .int x9), (10, .int x10)]) : W p l e ({ frames := 4, cells := 0, slots := 0, locals := 86 } : Room) s m args below meth c H locs 0 0 (MQ below (va_Qi Q (B1 D (w9 o q cy) A) A) args s 0 0 A) (F0 m 81 ls []) := by
  obtain ⟨k, hn⟩ := h
  induction k generalizing x7 x8 x10 S H locs ls with
  | zero => exact hn.elim
  | succ k ih => exact b9_isFolded_d81 (K71 := K71) (K81 := fun y0 y1 y2 y3 => itr (w9_isFolded_F81 K71 x1 x3 x9 Q) k (y0, y1, y2, y3)) x1 x3 x7 x8 x9 x10 S C hK71 (fun x7 x8 x10 S H locs ls hk hG hl => ih x7 x8 x10 S hG hl hk) hn hG hl
def w9_isFolded_d71 (K55 : Int32 → Int32 → MS → Prop) (K71 : Int32 → Int32 → Int32 → MS → Prop) (x1 : Int64) (x3 : Int32) (x7 : Int32) (x8 : Int32) (x9 : Int32) (S : MS) (Q : Int32 → MS → Prop) : Prop :=
  (((64 : Int32) ≤ x9 → K55 x7 x8 S) ∧ (¬ (64 : Int32) ≤ x9 → w9_isFolded_b81 K71 x1 x3 x7 x8 x9 (0 : Int32) S Q))
set_option maxHeartbeats 4000000 in
set_option maxRecDepth 100000 in
theorem b9_isFolded_d71 {p : Program} {l : Launch} {e : Env} {s : State} {m : MethodId} {args : Array Value} {below : List Frame} {meth : Method} {c : Code} {D : va_G} {cy : Nat → ClassId} {A : Nat → Prop} {o : Nat} {q : Nat → Nat} {K55 : Int32 → Int32 → MS → Prop} {K71 : Int32 → Int32 → Int32 → MS → Prop} (x1 : Int64) (x3 : Int32) (x7 : Int32) (x8 : Int32) (x9 : Int32) (S : MS) {Q : Int32 → MS → Prop} (C : Cx p s m args meth c cX9_isFolded 13 (some .boolean) wsX9_isFolded RX9 D cy nestWs A) (hK55 : ∀ (x7 : Int32) (x8 : Int32) (S : MS) (H : Heap) (locs : List Loc) (ls : Array Slot), K55 x7 x8 S → GW D A s (w9 o q cy S) H locs → lv_has ls 13 [(0, .ref o), (1, .long x1), (3, .int x3), (7, .int x7), (8, .int x8)] → W p l e ({ frames := 4, cells := 0, slots := 0, locals := 86 } : Room) s m args below meth c H locs 0 0 (MQ below (va_Qi Q (B1 D (w9 o q cy) A) A) args s 0 0 A) (F0 m 55 ls [])) (hK71 : ∀ (x7 : Int32) (x8 : Int32) (x9 : Int32) (S : MS) (H : Heap) (locs : List Loc) (ls : Array Slot), K71 x7 x8 x9 S → GW D A s (w9 o q cy S) H locs → lv_has ls 13 [(0, .ref o), (1, .long x1), (3, .int x3), (7, .int x7), (8, .int x8), (9, .int x9)] → W p l e ({ frames := 4, cells := 0, slots := 0, locals := 86 } : Room) s m args below meth c H locs 0 0 (MQ below (va_Qi Q (B1 D (w9 o q cy) A) A) args s 0 0 A) (F0 m 71 ls [])) (h : w9_isFolded_d71 K55 K71 x1 x3 x7 x8 x9 S Q) {H : Heap} {locs : List Loc} (hG : GW D A s (w9 o q cy S) H locs) {ls : Array Slot} (hl : lv_has ls 13 [(0, .ref o), (1, .long x1), (3, .int x3), (7, .int x7), (8, .int x8), (9, .int x9)]) : W p l e ({ frames := 4, cells := 0, slots := 0, locals := 86 } : Room) s m args below meth c H locs 0 0 (MQ below (va_Qi Q (B1 D (w9 o q cy) A) A) args s 0 0 A) (F0 m 71 ls []) := by
  have hx := C.1
  have hb := C.2.1
  unfold w9_isFolded_d71 at h
  refine lv_iload hx hb dX9_isFolded_71 (lv_at hl 5 rfl) ?_
  refine lv_bipush (v := 64) hx hb dX9_isFolded_73 (by decide) ?_
  refine lv_icmp_ge (tgt := 244) hx hb dX9_isFolded_75 (by decide) (fun c1 => ?_) (fun c1 => ?_)
  · replace h := h.1 c1
    refine lv_goto (tgt := 55) hx hb dX9_isFolded_244 (by decide) ?_
    exact hK55 x7 x8 S _ _ _ h hG (lv_sub hl [0, 1, 2, 3, 4] rfl)
  · replace h := h.2 c1
    refine lv_iconst (v := 0) hx hb dX9_isFolded_78 (by decide) ?_
    refine lv_istore (lv' := [(10, .int (0 : Int32)), (0, .ref o), (1, .long x1), (3, .int x3), (7, .int x7), (8, .int x8), (9, .int x9)]) hx hb dX9_isFolded_79 hl (by decide) rfl (fun ls hl => ?_)
    exact b9_isFolded_b81 (K71 := K71) x1 x3 x7 x8 x9 (0 : Int32) S C hK71 h hG (lv_sub hl [1, 2, 3, 4, 5, 6, 0] rfl)
def w9_isFolded_F71 (K55 : Int32 → Int32 → MS → Prop) (x1 : Int64) (x3 : Int32) (Q : Int32 → MS → Prop) (K : Int32 × Int32 × Int32 × MS → Prop) (a : Int32 × Int32 × Int32 × MS) : Prop := w9_isFolded_d71 K55 (fun y0 y1 y2 y3 => K (y0, y1, y2, y3)) x1 x3 a.1 a.2.1 a.2.2.1 a.2.2.2 Q
def w9_isFolded_b71 (K55 : Int32 → Int32 → MS → Prop) (x1 : Int64) (x3 : Int32) (x7 : Int32) (x8 : Int32) (x9 : Int32) (S : MS) (Q : Int32 → MS → Prop) : Prop := lp (w9_isFolded_F71 K55 x1 x3 Q) (x7, x8, x9, S)
set_option maxHeartbeats 4000000 in
set_option maxRecDepth 100000 in
theorem b9_isFolded_b71 {p : Program} {l : Launch} {e : Env} {s : State} {m : MethodId} {args : Array Value} {below : List Frame} {meth : Method} {c : Code} {D : va_G} {cy : Nat → ClassId} {A : Nat → Prop} {o : Nat} {q : Nat → Nat} {K55 : Int32 → Int32 → MS → Prop} (x1 : Int64) (x3 : Int32) (x7 : Int32) (x8 : Int32) (x9 : Int32) (S : MS) {Q : Int32 → MS → Prop} (C : Cx p s m args meth c cX9_isFolded 13 (some .boolean) wsX9_isFolded RX9 D cy nestWs A) (hK55 : ∀ (x7 : Int32) (x8 : Int32) (S : MS) (H : Heap) (locs : List Loc) (ls : Array Slot), K55 x7 x8 S → GW D A s (w9 o q cy S) H locs → lv_has ls 13 [(0, .ref o), (1, .long x1), (3, .int x3), (7, .int x7), (8, .int x8)] → W p l e ({ frames := 4, cells := 0, slots := 0, locals := 86 } : Room) s m args below meth c H locs 0 0 (MQ below (va_Qi Q (B1 D (w9 o q cy) A) A) args s 0 0 A) (F0 m 55 ls [])) (h : w9_isFolded_b71 K55 x1 x3 x7 x8 x9 S Q) {H : Heap} {locs : List Loc} (hG : GW D A s (w9 o q cy S) H locs) {ls : Array Slot} (hl : lv_has ls 13 [(0, .ref o), (1, .long x1), (3, .int x3), (7, .int x7), (8, .int x8), (9, .int x9)]) : W p l e ({ frames := 4, cells := 0, slots := 0, locals := 86 } : Room) s m args below meth c H locs 0 0 (MQ below (va_Qi Q (B1 D (w9 o q cy) A) A) args s 0 0 A) (F0 m 71 ls []) := by
  obtain ⟨k, hn⟩ := h
  induction k generalizing x7 x8 x9 S H locs ls with
  | zero => exact hn.elim
  | succ k ih => exact b9_isFolded_d71 (K55 := K55) (K71 := fun y0 y1 y2 y3 => itr (w9_isFolded_F71 K55 x1 x3 Q) k (y0, y1, y2, y3)) x1 x3 x7 x8 x9 S C hK55 (fun x7 x8 x9 S H locs ls hk hG hl => ih x7 x8 x9 S hG hl hk) hn hG hl
def w9_isFolded_d55 (K55 : Int32 → Int32 → MS → Prop) (x1 : Int64) (x3 : Int32) (x7 : Int32) (x8 : Int32) (S : MS) (Q : Int32 → MS → Prop) : Prop :=
  ((x7 = 0 → w9_isFolded_b247 x1 x8 S Q) ∧ (¬ x7 = 0 → ((x8 = 0 → w9_isFolded_b247 x1 x8 S Q) ∧ (¬ x8 = 0 → w9_isFolded_b71 K55 x1 x3 (0 : Int32) x8 (0 : Int32) S Q))))
set_option maxHeartbeats 4000000 in
set_option maxRecDepth 100000 in
theorem b9_isFolded_d55 {p : Program} {l : Launch} {e : Env} {s : State} {m : MethodId} {args : Array Value} {below : List Frame} {meth : Method} {c : Code} {D : va_G} {cy : Nat → ClassId} {A : Nat → Prop} {o : Nat} {q : Nat → Nat} {K55 : Int32 → Int32 → MS → Prop} (x1 : Int64) (x3 : Int32) (x7 : Int32) (x8 : Int32) (S : MS) {Q : Int32 → MS → Prop} (C : Cx p s m args meth c cX9_isFolded 13 (some .boolean) wsX9_isFolded RX9 D cy nestWs A) (hK55 : ∀ (x7 : Int32) (x8 : Int32) (S : MS) (H : Heap) (locs : List Loc) (ls : Array Slot), K55 x7 x8 S → GW D A s (w9 o q cy S) H locs → lv_has ls 13 [(0, .ref o), (1, .long x1), (3, .int x3), (7, .int x7), (8, .int x8)] → W p l e ({ frames := 4, cells := 0, slots := 0, locals := 86 } : Room) s m args below meth c H locs 0 0 (MQ below (va_Qi Q (B1 D (w9 o q cy) A) A) args s 0 0 A) (F0 m 55 ls [])) (h : w9_isFolded_d55 K55 x1 x3 x7 x8 S Q) {H : Heap} {locs : List Loc} (hG : GW D A s (w9 o q cy S) H locs) {ls : Array Slot} (hl : lv_has ls 13 [(0, .ref o), (1, .long x1), (3, .int x3), (7, .int x7), (8, .int x8)]) : W p l e ({ frames := 4, cells := 0, slots := 0, locals := 86 } : Room) s m args below meth c H locs 0 0 (MQ below (va_Qi Q (B1 D (w9 o q cy) A) A) args s 0 0 A) (F0 m 55 ls []) := by
  have hx := C.1
  have hb := C.2.1
  unfold w9_isFolded_d55 at h
  refine lv_iload hx hb dX9_isFolded_55 (lv_at hl 3 rfl) ?_
  refine lv_if_eq (tgt := 247) hx hb dX9_isFolded_57 (by decide) (fun c1 => ?_) (fun c1 => ?_)
  · replace h := h.1 c1
    exact b9_isFolded_b247 x1 x8 S C h hG (lv_sub hl [0, 1, 4] rfl)
  · replace h := h.2 c1
    refine lv_iload hx hb dX9_isFolded_60 (lv_at hl 4 rfl) ?_
    refine lv_if_eq (tgt := 247) hx hb dX9_isFolded_62 (by decide) (fun c2 => ?_) (fun c2 => ?_)
    · replace h := h.1 c2
      exact b9_isFolded_b247 x1 x8 S C h hG (lv_sub hl [0, 1, 4] rfl)
    · replace h := h.2 c2
      refine lv_iconst (v := 0) hx hb dX9_isFolded_65 (by decide) ?_
      refine lv_istore (lv' := [(7, .int (0 : Int32)), (0, .ref o), (1, .long x1), (3, .int x3), (8, .int x8)]) hx hb dX9_isFolded_66 hl (by decide) rfl (fun ls hl => ?_)
      refine lv_iconst (v := 0) hx hb dX9_isFolded_68 (by decide) ?_
      refine lv_istore (lv' := [(9, .int (0 : Int32)), (7, .int (0 : Int32)), (0, .ref o), (1, .long x1), (3, .int x3), (8, .int x8)]) hx hb dX9_isFolded_69 hl (by decide) rfl (fun ls hl => ?_)
      exact b9_isFolded_b71 (K55 := K55) x1 x3 (0 : Int32) x8 (0 : Int32) S C hK55 h hG (lv_sub hl [2, 3, 4, 1, 5, 0] rfl)
def w9_isFolded_F55 (x1 : Int64) (x3 : Int32) (Q : Int32 → MS → Prop) (K : Int32 × Int32 × MS → Prop) (a : Int32 × Int32 × MS) : Prop := w9_isFolded_d55 (fun y0 y1 y2 => K (y0, y1, y2)) x1 x3 a.1 a.2.1 a.2.2 Q
def w9_isFolded_b55 (x1 : Int64) (x3 : Int32) (x7 : Int32) (x8 : Int32) (S : MS) (Q : Int32 → MS → Prop) : Prop := lp (w9_isFolded_F55 x1 x3 Q) (x7, x8, S)
set_option maxHeartbeats 4000000 in
set_option maxRecDepth 100000 in
theorem b9_isFolded_b55 {p : Program} {l : Launch} {e : Env} {s : State} {m : MethodId} {args : Array Value} {below : List Frame} {meth : Method} {c : Code} {D : va_G} {cy : Nat → ClassId} {A : Nat → Prop} {o : Nat} {q : Nat → Nat} (x1 : Int64) (x3 : Int32) (x7 : Int32) (x8 : Int32) (S : MS) {Q : Int32 → MS → Prop} (C : Cx p s m args meth c cX9_isFolded 13 (some .boolean) wsX9_isFolded RX9 D cy nestWs A) (h : w9_isFolded_b55 x1 x3 x7 x8 S Q) {H : Heap} {locs : List Loc} (hG : GW D A s (w9 o q cy S) H locs) {ls : Array Slot} (hl : lv_has ls 13 [(0, .ref o), (1, .long x1), (3, .int x3), (7, .int x7), (8, .int x8)]) : W p l e ({ frames := 4, cells := 0, slots := 0, locals := 86 } : Room) s m args below meth c H locs 0 0 (MQ below (va_Qi Q (B1 D (w9 o q cy) A) A) args s 0 0 A) (F0 m 55 ls []) := by
  obtain ⟨k, hn⟩ := h
  induction k generalizing x7 x8 S H locs ls with
  | zero => exact hn.elim
  | succ k ih => exact b9_isFolded_d55 (K55 := fun y0 y1 y2 => itr (w9_isFolded_F55 x1 x3 Q) k (y0, y1, y2)) x1 x3 x7 x8 S C (fun x7 x8 S H locs ls hk hG hl => ih x7 x8 S hG hl hk) hn hG hl
def w9_isFolded_d3 (K3 : Int32 → MS → Prop) (x1 : Int64) (x3 : Int32) (x4 : Int32) (x5 : Int32) (x6 : Int32) (S : MS) (Q : Int32 → MS → Prop) : Prop :=
  (((64 : Int32) ≤ x6 → w9_leastOf x1 (fun r2 => vp_in r2 64 ∧ ∀ S4 : MS, S4 = sA S 12 r2 x4 → ∀ S5 : MS, S5 = sA S4 13 r2 x5 → w9_isFolded_b55 x1 x3 (1 : Int32) (1 : Int32) S5 Q)) ∧ (¬ (64 : Int32) ≤ x6 → vp_in x6 64 ∧ ∀ S7 : MS, S7 = sA S 12 x6 (-9 : Int32) → ∀ y8 : Int32, y8 = x6 + 1 → K3 y8 S7))
set_option maxHeartbeats 4000000 in
set_option maxRecDepth 100000 in
theorem b9_isFolded_d3 {p : Program} {l : Launch} {e : Env} {s : State} {m : MethodId} {args : Array Value} {below : List Frame} {meth : Method} {c : Code} {D : va_G} {cy : Nat → ClassId} {A : Nat → Prop} {o : Nat} {q : Nat → Nat} {K3 : Int32 → MS → Prop} (x1 : Int64) (x3 : Int32) (x4 : Int32) (x5 : Int32) (x6 : Int32) (S : MS) {Q : Int32 → MS → Prop} (C : Cx p s m args meth c cX9_isFolded 13 (some .boolean) wsX9_isFolded RX9 D cy nestWs A) (hK3 : ∀ (x6 : Int32) (S : MS) (H : Heap) (locs : List Loc) (ls : Array Slot), K3 x6 S → GW D A s (w9 o q cy S) H locs → lv_has ls 13 [(0, .ref o), (1, .long x1), (3, .int x3), (4, .int x4), (5, .int x5), (6, .int x6)] → W p l e ({ frames := 4, cells := 0, slots := 0, locals := 86 } : Room) s m args below meth c H locs 0 0 (MQ below (va_Qi Q (B1 D (w9 o q cy) A) A) args s 0 0 A) (F0 m 3 ls [])) (h : w9_isFolded_d3 K3 x1 x3 x4 x5 x6 S Q) {H : Heap} {locs : List Loc} (hG : GW D A s (w9 o q cy S) H locs) {ls : Array Slot} (hl : lv_has ls 13 [(0, .ref o), (1, .long x1), (3, .int x3), (4, .int x4), (5, .int x5), (6, .int x6)]) : W p l e ({ frames := 4, cells := 0, slots := 0, locals := 86 } : Room) s m args below meth c H locs 0 0 (MQ below (va_Qi Q (B1 D (w9 o q cy) A) A) args s 0 0 A) (F0 m 3 ls []) := by
  have hx := C.1
  have hb := C.2.1
  unfold w9_isFolded_d3 at h
  refine lv_iload hx hb dX9_isFolded_3 (lv_at hl 5 rfl) ?_
  refine lv_bipush (v := 64) hx hb dX9_isFolded_5 (by decide) ?_
  refine lv_icmp_ge (tgt := 25) hx hb dX9_isFolded_7 (by decide) (fun c1 => ?_) (fun c1 => ?_)
  · replace h := h.1 c1
    refine lv_lload_n hx hb dX9_isFolded_25 rfl (lv_at hl 1 rfl) ?_
    refine callSI (As := [.long x1]) (rest := []) C hG (c9_leastOf l D cy x1 _ h) 1 gX9_isFolded_X9_leastOf rfl (by decide +kernel) ⟨⟨Nat.le_of_ble_eq_true rfl, Nat.le_of_ble_eq_true rfl⟩, rfl, rfl⟩ (Foc.none C.2.2.2.2.2.2.2.2.1) rfl hl.1 rfl (Nat.le_of_ble_eq_true rfl) dX9_isFolded_26 ⟨Nat.zero_le _, Nat.zero_le _⟩ (fun r2 z H locs h hG => ?_)
    refine lv_istore (lv' := [(6, .int r2), (0, .ref o), (1, .long x1), (3, .int x3), (4, .int x4), (5, .int x5)]) hx hb dX9_isFolded_29 hl (by decide) rfl (fun ls hl => ?_)
    refine lv_aload_n hx hb dX9_isFolded_31 rfl (lv_at hl 1 rfl) ?_
    refine x9g_12 C i9_isFolded_X9 k9_isFolded_32 hG dX9_isFolded_32 ?_
    refine lv_iload hx hb dX9_isFolded_35 (lv_at hl 0 rfl) ?_
    refine lv_iload hx hb dX9_isFolded_37 (lv_at hl 4 rfl) ?_
    obtain ⟨hv3, h⟩ := h
    refine x9s_12 C hG hv3 dX9_isFolded_39 (fun S4 eS4 H locs hG => ?_)
    replace h := h S4 eS4
    refine lv_aload_n hx hb dX9_isFolded_40 rfl (lv_at hl 1 rfl) ?_
    refine x9g_13 C i9_isFolded_X9 k9_isFolded_35 hG dX9_isFolded_41 ?_
    refine lv_iload hx hb dX9_isFolded_44 (lv_at hl 0 rfl) ?_
    refine lv_iload hx hb dX9_isFolded_46 (lv_at hl 5 rfl) ?_
    refine x9s_13 C hG hv3 dX9_isFolded_48 (fun S5 eS5 H locs hG => ?_)
    replace h := h S5 eS5
    refine lv_iconst (v := 1) hx hb dX9_isFolded_49 (by decide) ?_
    refine lv_istore (lv' := [(7, .int (1 : Int32)), (6, .int r2), (0, .ref o), (1, .long x1), (3, .int x3), (4, .int x4), (5, .int x5)]) hx hb dX9_isFolded_50 hl (by decide) rfl (fun ls hl => ?_)
    refine lv_iconst (v := 1) hx hb dX9_isFolded_52 (by decide) ?_
    refine lv_istore (lv' := [(8, .int (1 : Int32)), (7, .int (1 : Int32)), (6, .int r2), (0, .ref o), (1, .long x1), (3, .int x3), (4, .int x4), (5, .int x5)]) hx hb dX9_isFolded_53 hl (by decide) rfl (fun ls hl => ?_)
    exact b9_isFolded_b55 x1 x3 (1 : Int32) (1 : Int32) S5 C h hG (lv_sub hl [3, 4, 5, 1, 0] rfl)
  · replace h := h.2 c1
    refine lv_aload_n hx hb dX9_isFolded_10 rfl (lv_at hl 0 rfl) ?_
    refine x9g_12 C i9_isFolded_X9 k9_isFolded_32 hG dX9_isFolded_11 ?_
    refine lv_iload hx hb dX9_isFolded_14 (lv_at hl 5 rfl) ?_
    refine lv_bipush (v := -9) hx hb dX9_isFolded_16 (by decide) ?_
    obtain ⟨hv6, h⟩ := h
    refine x9s_12 C hG hv6 dX9_isFolded_18 (fun S7 eS7 H locs hG => ?_)
    replace h := h S7 eS7
    obtain ⟨y8, ey8⟩ : ∃ y : Int32, y = x6 + 1 := ⟨_, rfl⟩
    replace h := h y8 ey8
    refine lv_iinc (v := y8) (lv' := [(6, .int y8), (0, .ref o), (1, .long x1), (3, .int x3), (4, .int x4), (5, .int x5)]) hx hb dX9_isFolded_19 hl (k := 5) rfl (by rw [ey8]; rfl) (by decide) rfl (fun ls hl => ?_)
    refine lv_goto (tgt := 3) hx hb dX9_isFolded_22 (by decide) ?_
    exact hK3 y8 S7 _ _ _ h hG (lv_sub hl [1, 2, 3, 4, 5, 0] rfl)
def w9_isFolded_F3 (x1 : Int64) (x3 : Int32) (x4 : Int32) (x5 : Int32) (Q : Int32 → MS → Prop) (K : Int32 × MS → Prop) (a : Int32 × MS) : Prop := w9_isFolded_d3 (fun y0 y1 => K (y0, y1)) x1 x3 x4 x5 a.1 a.2 Q
def w9_isFolded_b3 (x1 : Int64) (x3 : Int32) (x4 : Int32) (x5 : Int32) (x6 : Int32) (S : MS) (Q : Int32 → MS → Prop) : Prop := lp (w9_isFolded_F3 x1 x3 x4 x5 Q) (x6, S)
set_option maxHeartbeats 4000000 in
set_option maxRecDepth 100000 in
theorem b9_isFolded_b3 {p : Program} {l : Launch} {e : Env} {s : State} {m : MethodId} {args : Array Value} {below : List Frame} {meth : Method} {c : Code} {D : va_G} {cy : Nat → ClassId} {A : Nat → Prop} {o : Nat} {q : Nat → Nat} (x1 : Int64) (x3 : Int32) (x4 : Int32) (x5 : Int32) (x6 : Int32) (S : MS) {Q : Int32 → MS → Prop} (C : Cx p s m args meth c cX9_isFolded 13 (some .boolean) wsX9_isFolded RX9 D cy nestWs A) (h : w9_isFolded_b3 x1 x3 x4 x5 x6 S Q) {H : Heap} {locs : List Loc} (hG : GW D A s (w9 o q cy S) H locs) {ls : Array Slot} (hl : lv_has ls 13 [(0, .ref o), (1, .long x1), (3, .int x3), (4, .int x4), (5, .int x5), (6, .int x6)]) : W p l e ({ frames := 4, cells := 0, slots := 0, locals := 86 } : Room) s m args below meth c H locs 0 0 (MQ below (va_Qi Q (B1 D (w9 o q cy) A) A) args s 0 0 A) (F0 m 3 ls []) := by
  obtain ⟨k, hn⟩ := h
  induction k generalizing x6 S H locs ls with
  | zero => exact hn.elim
  | succ k ih => exact b9_isFolded_d3 (K3 := fun y0 y1 => itr (w9_isFolded_F3 x1 x3 x4 x5 Q) k (y0, y1)) x1 x3 x4 x5 x6 S C (fun x6 S H locs ls hk hG hl => ih x6 S hG hl hk) hn hG hl
def w9_isFolded (x1 : Int64) (x3 : Int32) (x4 : Int32) (x5 : Int32) (S : MS) (Q : Int32 → MS → Prop) : Prop :=
  w9_isFolded_b3 x1 x3 x4 x5 (0 : Int32) S Q
set_option maxHeartbeats 4000000 in
set_option maxRecDepth 100000 in
theorem c9_isFolded (l : Launch) (D : va_G) (cy : Nat → ClassId)  (o : Nat) (q : Nat → Nat) (x1 : Int64) (x3 : Int32) (x4 : Int32) (x5 : Int32) (S : MS) (Q : Int32 → MS → Prop) (h : w9_isFolded x1 x3 x4 x5 S Q) : MetI l yX9_isFolded wsX9_isFolded ({ frames := 4, cells := 0, slots := 0, locals := 86 } : Room) D cy nestWs (w9 o q cy) [.ref o, .long x1, .int x3, .int x4, .int x5] S Q := by
  refine MetI.mk RX9 cX9_isFolded 13 .boolean (by decide) rfl nestWs_ok rfl (Nat.le_of_ble_eq_true rfl) ?_
  intro p e s m below meth c A ls C hG hl
  have hl : lv_has ls 13 [(0, .ref o), (1, .long x1), (3, .int x3), (4, .int x4), (5, .int x5)] := hl
  have hx := C.1
  have hb := C.2.1
  unfold w9_isFolded at h
  refine lv_iconst (v := 0) hx hb dX9_isFolded_0 (by decide) ?_
  refine lv_istore (lv' := [(6, .int (0 : Int32)), (0, .ref o), (1, .long x1), (3, .int x3), (4, .int x4), (5, .int x5)]) hx hb dX9_isFolded_1 hl (by decide) rfl (fun ls hl => ?_)
  exact b9_isFolded_b3 x1 x3 x4 x5 (0 : Int32) S C h hG (lv_sub hl [1, 2, 3, 4, 5, 0] rfl)
-- X9_askedBoth
theorem i9_askedBoth_X9 : ∀ w ∈ wsX90, w ∈ wsX9_askedBoth := fun w h => List.mem_cons_of_mem _ (inG_X9 w h)
theorem k9_askedBoth_13 : Cond.fieldLink RX9 13 "PaperBodiesModel" "figures" "[J" ∈ wsX9_askedBoth := (List.mem_cons_of_mem _ mw_538)
theorem k9_askedBoth_26 : Cond.fieldLink RX9 26 "PaperBodiesModel" "dims" "[I" ∈ wsX9_askedBoth := (List.mem_cons_of_mem _ mw_542)
def w9_askedBoth_b47 (t0 : Int32) (S : MS) (Q : Int32 → MS → Prop) : Prop :=
  Q t0 S
set_option maxHeartbeats 4000000 in
set_option maxRecDepth 100000 in
theorem b9_askedBoth_b47 {p : Program} {l : Launch} {e : Env} {s : State} {m : MethodId} {args : Array Value} {below : List Frame} {meth : Method} {c : Code} {D : va_G} {cy : Nat → ClassId} {A : Nat → Prop} {o : Nat} {q : Nat → Nat} (t0 : Int32) (S : MS) {Q : Int32 → MS → Prop} (C : Cx p s m args meth c cX9_askedBoth 3 (some .int) wsX9_askedBoth RX9 D cy nestWs A) (h : w9_askedBoth_b47 t0 S Q) {H : Heap} {locs : List Loc} (hG : GW D A s (w9 o q cy S) H locs) {ls : Array Slot} (hl : lv_has ls 3 [(0, .ref o)]) : W p l e ({ frames := 2, cells := 0, slots := 0, locals := 42 } : Room) s m args below meth c H locs 0 0 (MQ below (va_Qi Q (B1 D (w9 o q cy) A) A) args s 0 0 A) (F0 m 47 ls [.int t0]) := by
  have hx := C.1
  have hb := C.2.1
  unfold w9_askedBoth_b47 at h
  exact retI (w := (w9 o q cy)) (S := S) C hG h dX9_askedBoth_47
def w9_askedBoth_b38 (S : MS) (Q : Int32 → MS → Prop) : Prop :=
  w9_meets (1 : Int32) S (fun r1 S2 => w9_askedBoth_b47 r1 S2 Q)
set_option maxHeartbeats 4000000 in
set_option maxRecDepth 100000 in
theorem b9_askedBoth_b38 {p : Program} {l : Launch} {e : Env} {s : State} {m : MethodId} {args : Array Value} {below : List Frame} {meth : Method} {c : Code} {D : va_G} {cy : Nat → ClassId} {A : Nat → Prop} {o : Nat} {q : Nat → Nat} (S : MS) {Q : Int32 → MS → Prop} (C : Cx p s m args meth c cX9_askedBoth 3 (some .int) wsX9_askedBoth RX9 D cy nestWs A) (h : w9_askedBoth_b38 S Q) {H : Heap} {locs : List Loc} (hG : GW D A s (w9 o q cy S) H locs) {ls : Array Slot} (hl : lv_has ls 3 [(0, .ref o)]) : W p l e ({ frames := 2, cells := 0, slots := 0, locals := 42 } : Room) s m args below meth c H locs 0 0 (MQ below (va_Qi Q (B1 D (w9 o q cy) A) A) args s 0 0 A) (F0 m 38 ls []) := by
  have hx := C.1
  have hb := C.2.1
  unfold w9_askedBoth_b38 at h
  refine lv_aload_n hx hb dX9_askedBoth_38 rfl (lv_at hl 0 rfl) ?_
  refine lv_iconst (v := 1) hx hb dX9_askedBoth_39 (by decide) ?_
  refine callVI (As := [.int (1 : Int32)]) (rest := []) C hG (c9_meets l D cy o q (1 : Int32) S _ h) 1 gX9_askedBoth_X9_meets rfl (by decide +kernel) ⟨⟨Nat.le_of_ble_eq_true rfl, Nat.le_of_ble_eq_true rfl⟩, rfl, rfl⟩ rfl rfl (Foc.all C.2.2.2.2.2.2.2.2.1) rfl hl.1 rfl (Nat.le_of_ble_eq_true rfl) dX9_askedBoth_40 ⟨Nat.zero_le _, Nat.zero_le _⟩ (fun r1 S2 H locs h hG => ?_)
  have hG : GW D A s (w9 o q cy S2) H locs := hG
  refine lv_goto (tgt := 47) hx hb dX9_askedBoth_43 (by decide) ?_
  exact b9_askedBoth_b47 r1 S2 C h hG hl
def w9_askedBoth_b14 (S : MS) (Q : Int32 → MS → Prop) : Prop :=
  Q (-1 : Int32) S
set_option maxHeartbeats 4000000 in
set_option maxRecDepth 100000 in
theorem b9_askedBoth_b14 {p : Program} {l : Launch} {e : Env} {s : State} {m : MethodId} {args : Array Value} {below : List Frame} {meth : Method} {c : Code} {D : va_G} {cy : Nat → ClassId} {A : Nat → Prop} {o : Nat} {q : Nat → Nat} (S : MS) {Q : Int32 → MS → Prop} (C : Cx p s m args meth c cX9_askedBoth 3 (some .int) wsX9_askedBoth RX9 D cy nestWs A) (h : w9_askedBoth_b14 S Q) {H : Heap} {locs : List Loc} (hG : GW D A s (w9 o q cy S) H locs) {ls : Array Slot} (hl : lv_has ls 3 [(0, .ref o)]) : W p l e ({ frames := 2, cells := 0, slots := 0, locals := 42 } : Room) s m args below meth c H locs 0 0 (MQ below (va_Qi Q (B1 D (w9 o q cy) A) A) args s 0 0 A) (F0 m 14 ls []) := by
  have hx := C.1
  have hb := C.2.1
  unfold w9_askedBoth_b14 at h
  refine lv_iconst (v := -1) hx hb dX9_askedBoth_14 (by decide) ?_
  exact retI (w := (w9 o q cy)) (S := S) C hG h dX9_askedBoth_15
def w9_askedBoth (x1 : Int32) (x2 : Int32) (S : MS) (Q : Int32 → MS → Prop) : Prop :=
  w9_isFigure x1 (fun r1 => ((r1 = 0 → w9_askedBoth_b14 S Q) ∧ (¬ r1 = 0 → w9_isBox x2 (fun r3 => ((¬ r3 = 0 → vp_in x1 6 ∧ (((lg_cmp (rL S 3 x1) (0 : Int64)) = 0 → w9_askedBoth_b38 S Q) ∧ (¬ (lg_cmp (rL S 3 x1) (0 : Int64)) = 0 → vp_in ((3 : Int32) * x2) 12 ∧ ((¬ (rA S 7 ((3 : Int32) * x2)) = 0 → w9_askedBoth_b47 (0 : Int32) S Q) ∧ ((rA S 7 ((3 : Int32) * x2)) = 0 → w9_askedBoth_b38 S Q))))) ∧ (r3 = 0 → w9_askedBoth_b14 S Q))))))
set_option maxHeartbeats 4000000 in
set_option maxRecDepth 100000 in
theorem c9_askedBoth (l : Launch) (D : va_G) (cy : Nat → ClassId)  (o : Nat) (q : Nat → Nat) (x1 : Int32) (x2 : Int32) (S : MS) (Q : Int32 → MS → Prop) (h : w9_askedBoth x1 x2 S Q) : MetI l yX9_askedBoth wsX9_askedBoth ({ frames := 2, cells := 0, slots := 0, locals := 42 } : Room) D cy nestWs (w9 o q cy) [.ref o, .int x1, .int x2] S Q := by
  refine MetI.mk RX9 cX9_askedBoth 3 .int (by decide) rfl nestWs_ok rfl (Nat.le_of_ble_eq_true rfl) ?_
  intro p e s m below meth c A ls C hG hl
  have hl : lv_has ls 3 [(0, .ref o), (1, .int x1), (2, .int x2)] := hl
  have hx := C.1
  have hb := C.2.1
  unfold w9_askedBoth at h
  refine lv_iload_n hx hb dX9_askedBoth_0 rfl (lv_at hl 1 rfl) ?_
  refine callSI (As := [.int x1]) (rest := []) C hG (c9_isFigure l D cy x1 _ h) 1 gX9_askedBoth_X9_isFigure rfl (by decide +kernel) ⟨⟨Nat.le_of_ble_eq_true rfl, Nat.le_of_ble_eq_true rfl⟩, rfl, rfl⟩ (Foc.none C.2.2.2.2.2.2.2.2.1) rfl hl.1 rfl (Nat.le_of_ble_eq_true rfl) dX9_askedBoth_1 ⟨Nat.zero_le _, Nat.zero_le _⟩ (fun r1 z H locs h hG => ?_)
  refine lv_if_eq (tgt := 14) hx hb dX9_askedBoth_4 (by decide) (fun c2 => ?_) (fun c2 => ?_)
  · replace h := h.1 c2
    exact b9_askedBoth_b14 S C h hG (lv_sub hl [0] rfl)
  · replace h := h.2 c2
    refine lv_iload_n hx hb dX9_askedBoth_7 rfl (lv_at hl 2 rfl) ?_
    refine callSI (As := [.int x2]) (rest := []) C hG (c9_isBox l D cy x2 _ h) 1 gX9_askedBoth_X9_isBox rfl (by decide +kernel) ⟨⟨Nat.le_of_ble_eq_true rfl, Nat.le_of_ble_eq_true rfl⟩, rfl, rfl⟩ (Foc.none C.2.2.2.2.2.2.2.2.1) rfl hl.1 rfl (Nat.le_of_ble_eq_true rfl) dX9_askedBoth_8 ⟨Nat.zero_le _, Nat.zero_le _⟩ (fun r3 z H locs h hG => ?_)
    refine lv_if_ne (tgt := 16) hx hb dX9_askedBoth_11 (by decide) (fun c4 => ?_) (fun c4 => ?_)
    · replace h := h.1 c4
      refine lv_aload_n hx hb dX9_askedBoth_16 rfl (lv_at hl 0 rfl) ?_
      refine x9g_3 C i9_askedBoth_X9 k9_askedBoth_13 hG dX9_askedBoth_17 ?_
      refine lv_iload_n hx hb dX9_askedBoth_20 rfl (lv_at hl 1 rfl) ?_
      obtain ⟨hv5, h⟩ := h
      refine x9l_3 C hG hv5 dX9_askedBoth_21 ?_
      refine lv_lconst (v := 0) hx hb dX9_askedBoth_22 (by decide) ?_
      refine W.lcmp hx hb dX9_askedBoth_23 ?_
      refine lv_if_eq (tgt := 38) hx hb dX9_askedBoth_24 (by decide) (fun c6 => ?_) (fun c6 => ?_)
      · replace h := h.1 c6
        exact b9_askedBoth_b38 S C h hG (lv_sub hl [0] rfl)
      · replace h := h.2 c6
        refine lv_aload_n hx hb dX9_askedBoth_27 rfl (lv_at hl 0 rfl) ?_
        refine x9g_7 C i9_askedBoth_X9 k9_askedBoth_26 hG dX9_askedBoth_28 ?_
        refine lv_iconst (v := 3) hx hb dX9_askedBoth_31 (by decide) ?_
        refine lv_iload_n hx hb dX9_askedBoth_32 rfl (lv_at hl 2 rfl) ?_
        refine lv_imul hx hb dX9_askedBoth_33 ?_
        obtain ⟨hv7, h⟩ := h
        refine x9l_7 C hG hv7 dX9_askedBoth_34 ?_
        refine lv_if_ne (tgt := 46) hx hb dX9_askedBoth_35 (by decide) (fun c8 => ?_) (fun c8 => ?_)
        · replace h := h.1 c8
          refine lv_iconst (v := 0) hx hb dX9_askedBoth_46 (by decide) ?_
          exact b9_askedBoth_b47 (0 : Int32) S C h hG (lv_sub hl [0] rfl)
        · replace h := h.2 c8
          exact b9_askedBoth_b38 S C h hG (lv_sub hl [0] rfl)
    · replace h := h.2 c4
      exact b9_askedBoth_b14 S C h hG (lv_sub hl [0] rfl)
-- X9_foldsTo
theorem i9_foldsTo_X9 : ∀ w ∈ wsX90, w ∈ wsX9_foldsTo := fun w h => List.mem_cons_of_mem _ (inG_X9 w h)
theorem k9_foldsTo_13 : Cond.fieldLink RX9 13 "PaperBodiesModel" "figures" "[J" ∈ wsX9_foldsTo := (List.mem_cons_of_mem _ mw_538)
def w9_foldsTo_b43 (t0 : Int32) (S : MS) (Q : Int32 → MS → Prop) : Prop :=
  Q t0 S
set_option maxHeartbeats 4000000 in
set_option maxRecDepth 100000 in
theorem b9_foldsTo_b43 {p : Program} {l : Launch} {e : Env} {s : State} {m : MethodId} {args : Array Value} {below : List Frame} {meth : Method} {c : Code} {D : va_G} {cy : Nat → ClassId} {A : Nat → Prop} {o : Nat} {q : Nat → Nat} (t0 : Int32) (S : MS) {Q : Int32 → MS → Prop} (C : Cx p s m args meth c cX9_foldsTo 5 (some .int) wsX9_foldsTo RX9 D cy nestWs A) (h : w9_foldsTo_b43 t0 S Q) {H : Heap} {locs : List Loc} (hG : GW D A s (w9 o q cy S) H locs) {ls : Array Slot} (hl : lv_has ls 5 [(0, .ref o)]) : W p l e ({ frames := 5, cells := 0, slots := 0, locals := 118 } : Room) s m args below meth c H locs 0 0 (MQ below (va_Qi Q (B1 D (w9 o q cy) A) A) args s 0 0 A) (F0 m 43 ls [.int t0]) := by
  have hx := C.1
  have hb := C.2.1
  unfold w9_foldsTo_b43 at h
  exact retI (w := (w9 o q cy)) (S := S) C hG h dX9_foldsTo_43
def w9_foldsTo (x1 : Int32) (x2 : Int32) (x3 : Int32) (x4 : Int32) (S : MS) (Q : Int32 → MS → Prop) : Prop :=
  vp_in x1 6 ∧ w9_isFolded (rL S 3 x1) x2 x3 x4 S (fun r2 S3 => ((¬ r2 = 0 → w9_bits (rL S3 3 x1) (fun r5 => w9_cells x2 S3 (fun r6 => ((¬ r5 = r6 → w9_foldsTo_b43 (1 : Int32) S3 Q) ∧ (r5 = r6 → w9_foldsTo_b43 (2 : Int32) S3 Q))))) ∧ (r2 = 0 → w9_foldsTo_b43 (0 : Int32) S3 Q)))
set_option maxHeartbeats 4000000 in
set_option maxRecDepth 100000 in
theorem c9_foldsTo (l : Launch) (D : va_G) (cy : Nat → ClassId)  (o : Nat) (q : Nat → Nat) (x1 : Int32) (x2 : Int32) (x3 : Int32) (x4 : Int32) (S : MS) (Q : Int32 → MS → Prop) (h : w9_foldsTo x1 x2 x3 x4 S Q) : MetI l yX9_foldsTo wsX9_foldsTo ({ frames := 5, cells := 0, slots := 0, locals := 118 } : Room) D cy nestWs (w9 o q cy) [.ref o, .int x1, .int x2, .int x3, .int x4] S Q := by
  refine MetI.mk RX9 cX9_foldsTo 5 .int (by decide) rfl nestWs_ok rfl (Nat.le_of_ble_eq_true rfl) ?_
  intro p e s m below meth c A ls C hG hl
  have hl : lv_has ls 5 [(0, .ref o), (1, .int x1), (2, .int x2), (3, .int x3), (4, .int x4)] := hl
  have hx := C.1
  have hb := C.2.1
  unfold w9_foldsTo at h
  refine lv_aload_n hx hb dX9_foldsTo_0 rfl (lv_at hl 0 rfl) ?_
  refine lv_aload_n hx hb dX9_foldsTo_1 rfl (lv_at hl 0 rfl) ?_
  refine x9g_3 C i9_foldsTo_X9 k9_foldsTo_13 hG dX9_foldsTo_2 ?_
  refine lv_iload_n hx hb dX9_foldsTo_5 rfl (lv_at hl 1 rfl) ?_
  obtain ⟨hv1, h⟩ := h
  refine x9l_3 C hG hv1 dX9_foldsTo_6 ?_
  refine lv_iload_n hx hb dX9_foldsTo_7 rfl (lv_at hl 2 rfl) ?_
  refine lv_iload_n hx hb dX9_foldsTo_8 rfl (lv_at hl 3 rfl) ?_
  refine lv_iload hx hb dX9_foldsTo_9 (lv_at hl 4 rfl) ?_
  refine callVI (As := [.long (rL S 3 x1), .int x2, .int x3, .int x4]) (rest := []) C hG (c9_isFolded l D cy o q (rL S 3 x1) x2 x3 x4 S _ h) 4 gX9_foldsTo_X9_isFolded rfl (by decide +kernel) ⟨⟨Nat.le_of_ble_eq_true rfl, Nat.le_of_ble_eq_true rfl⟩, rfl, rfl⟩ rfl rfl (Foc.all C.2.2.2.2.2.2.2.2.1) rfl hl.1 rfl (Nat.le_of_ble_eq_true rfl) dX9_foldsTo_11 ⟨Nat.zero_le _, Nat.zero_le _⟩ (fun r2 S3 H locs h hG => ?_)
  have hG : GW D A s (w9 o q cy S3) H locs := hG
  refine lv_if_ne (tgt := 21) hx hb dX9_foldsTo_14 (by decide) (fun c4 => ?_) (fun c4 => ?_)
  · replace h := h.1 c4
    refine lv_aload_n hx hb dX9_foldsTo_21 rfl (lv_at hl 0 rfl) ?_
    refine x9g_3 C i9_foldsTo_X9 k9_foldsTo_13 hG dX9_foldsTo_22 ?_
    refine lv_iload_n hx hb dX9_foldsTo_25 rfl (lv_at hl 1 rfl) ?_
    refine x9l_3 C hG hv1 dX9_foldsTo_26 ?_
    refine callSI (As := [.long (rL S3 3 x1)]) (rest := []) C hG (c9_bits l D cy (rL S3 3 x1) _ h) 1 gX9_foldsTo_X9_bits rfl (by decide +kernel) ⟨⟨Nat.le_of_ble_eq_true rfl, Nat.le_of_ble_eq_true rfl⟩, rfl, rfl⟩ (Foc.none C.2.2.2.2.2.2.2.2.1) rfl hl.1 rfl (Nat.le_of_ble_eq_true rfl) dX9_foldsTo_27 ⟨Nat.zero_le _, Nat.zero_le _⟩ (fun r5 z H locs h hG => ?_)
    refine lv_aload_n hx hb dX9_foldsTo_30 rfl (lv_at hl 0 rfl) ?_
    refine lv_iload_n hx hb dX9_foldsTo_31 rfl (lv_at hl 2 rfl) ?_
    refine callVI (As := [.int x2]) (rest := [.int r5]) C hG (c9_cells l D cy o q x2 S3 _ h) 1 gX9_foldsTo_X9_cells rfl (by decide +kernel) ⟨⟨Nat.le_of_ble_eq_true rfl, Nat.le_of_ble_eq_true rfl⟩, rfl, rfl⟩ rfl rfl (Foc.all C.2.2.2.2.2.2.2.2.1) rfl hl.1 rfl (Nat.le_of_ble_eq_true rfl) dX9_foldsTo_32 ⟨Nat.zero_le _, Nat.zero_le _⟩ (fun r6 u7 H locs h hG => ?_)
    obtain ⟨eu7, h⟩ := h
    have eu7 : u7 = S3 := eu7
    subst u7
    have hG : GW D A s (w9 o q cy S3) H locs := hG
    refine lv_icmp_ne (tgt := 42) hx hb dX9_foldsTo_35 (by decide) (fun c8 => ?_) (fun c8 => ?_)
    · replace h := h.1 c8
      refine lv_iconst (v := 1) hx hb dX9_foldsTo_42 (by decide) ?_
      exact b9_foldsTo_b43 (1 : Int32) S3 C h hG (lv_sub hl [0] rfl)
    · replace h := h.2 c8
      refine lv_iconst (v := 2) hx hb dX9_foldsTo_38 (by decide) ?_
      refine lv_goto (tgt := 43) hx hb dX9_foldsTo_39 (by decide) ?_
      exact b9_foldsTo_b43 (2 : Int32) S3 C h hG (lv_sub hl [0] rfl)
  · replace h := h.2 c4
    refine lv_iconst (v := 0) hx hb dX9_foldsTo_17 (by decide) ?_
    refine lv_goto (tgt := 43) hx hb dX9_foldsTo_18 (by decide) ?_
    exact b9_foldsTo_b43 (0 : Int32) S3 C h hG (lv_sub hl [0] rfl)
-- X9_folds
def w9_folds_b54 (t0 : Int32) (S : MS) (Q : Int32 → MS → Prop) : Prop :=
  Q t0 S
set_option maxHeartbeats 4000000 in
set_option maxRecDepth 100000 in
theorem b9_folds_b54 {p : Program} {l : Launch} {e : Env} {s : State} {m : MethodId} {args : Array Value} {below : List Frame} {meth : Method} {c : Code} {D : va_G} {cy : Nat → ClassId} {A : Nat → Prop} {o : Nat} {q : Nat → Nat} (t0 : Int32) (S : MS) {Q : Int32 → MS → Prop} (C : Cx p s m args meth c cX9_folds 6 (some .int) wsX9_folds RX9 D cy nestWs A) (h : w9_folds_b54 t0 S Q) {H : Heap} {locs : List Loc} (hG : GW D A s (w9 o q cy S) H locs) {ls : Array Slot} (hl : lv_has ls 6 [(0, .ref o)]) : W p l e ({ frames := 6, cells := 0, slots := 0, locals := 142 } : Room) s m args below meth c H locs 0 0 (MQ below (va_Qi Q (B1 D (w9 o q cy) A) A) args s 0 0 A) (F0 m 54 ls [.int t0]) := by
  have hx := C.1
  have hb := C.2.1
  unfold w9_folds_b54 at h
  exact retI (w := (w9 o q cy)) (S := S) C hG h dX9_folds_54
def w9_folds (x1 : Int32) (x2 : Int32) (x3 : Int32) (x4 : Int32) (S : MS) (Q : Int32 → MS → Prop) : Prop :=
  w9_in x4 (0 : Int32) (3 : Int32) (fun r1 => ((¬ r1 = 0 → w9_askedBoth x1 x2 S (fun r3 S4 => ((0 ≤ r3 → w9_isCell x2 x3 S4 (fun r6 => ((r6 = 0 → w9_meets (2 : Int32) S4 (fun r9 S10 => w9_folds_b54 r9 S10 Q)) ∧ (¬ r6 = 0 → w9_foldsTo x1 x2 x3 x4 S4 (fun r11 S12 => w9_folds_b54 r11 S12 Q))))) ∧ (¬ 0 ≤ r3 → Q r3 S4)))) ∧ (r1 = 0 → Q (-1 : Int32) S)))
set_option maxHeartbeats 4000000 in
set_option maxRecDepth 100000 in
theorem c9_folds (l : Launch) (D : va_G) (cy : Nat → ClassId)  (o : Nat) (q : Nat → Nat) (x1 : Int32) (x2 : Int32) (x3 : Int32) (x4 : Int32) (S : MS) (Q : Int32 → MS → Prop) (h : w9_folds x1 x2 x3 x4 S Q) : MetI l yX9_folds wsX9_folds ({ frames := 6, cells := 0, slots := 0, locals := 142 } : Room) D cy nestWs (w9 o q cy) [.ref o, .int x1, .int x2, .int x3, .int x4] S Q := by
  refine MetI.mk RX9 cX9_folds 6 .int (by decide) rfl nestWs_ok rfl (Nat.le_of_ble_eq_true rfl) ?_
  intro p e s m below meth c A ls C hG hl
  have hl : lv_has ls 6 [(0, .ref o), (1, .int x1), (2, .int x2), (3, .int x3), (4, .int x4)] := hl
  have hx := C.1
  have hb := C.2.1
  unfold w9_folds at h
  refine lv_iload hx hb dX9_folds_0 (lv_at hl 4 rfl) ?_
  refine lv_iconst (v := 0) hx hb dX9_folds_2 (by decide) ?_
  refine lv_iconst (v := 3) hx hb dX9_folds_3 (by decide) ?_
  refine callSI (As := [.int x4, .int (0 : Int32), .int (3 : Int32)]) (rest := []) C hG (c9_in l D cy x4 (0 : Int32) (3 : Int32) _ h) 3 gX9_folds_X9_in rfl (by decide +kernel) ⟨⟨Nat.le_of_ble_eq_true rfl, Nat.le_of_ble_eq_true rfl⟩, rfl, rfl⟩ (Foc.none C.2.2.2.2.2.2.2.2.1) rfl hl.1 rfl (Nat.le_of_ble_eq_true rfl) dX9_folds_4 ⟨Nat.zero_le _, Nat.zero_le _⟩ (fun r1 z H locs h hG => ?_)
  refine lv_if_ne (tgt := 12) hx hb dX9_folds_7 (by decide) (fun c2 => ?_) (fun c2 => ?_)
  · replace h := h.1 c2
    refine lv_aload_n hx hb dX9_folds_12 rfl (lv_at hl 0 rfl) ?_
    refine lv_iload_n hx hb dX9_folds_13 rfl (lv_at hl 1 rfl) ?_
    refine lv_iload_n hx hb dX9_folds_14 rfl (lv_at hl 2 rfl) ?_
    refine callVI (As := [.int x1, .int x2]) (rest := []) C hG (c9_askedBoth l D cy o q x1 x2 S _ h) 2 gX9_folds_X9_askedBoth rfl (by decide +kernel) ⟨⟨Nat.le_of_ble_eq_true rfl, Nat.le_of_ble_eq_true rfl⟩, rfl, rfl⟩ rfl rfl (Foc.all C.2.2.2.2.2.2.2.2.1) rfl hl.1 rfl (Nat.le_of_ble_eq_true rfl) dX9_folds_15 ⟨Nat.zero_le _, Nat.zero_le _⟩ (fun r3 S4 H locs h hG => ?_)
    have hG : GW D A s (w9 o q cy S4) H locs := hG
    refine lv_istore (lv' := [(5, .int r3), (0, .ref o), (1, .int x1), (2, .int x2), (3, .int x3), (4, .int x4)]) hx hb dX9_folds_18 hl (by decide) rfl (fun ls hl => ?_)
    refine lv_iload hx hb dX9_folds_20 (lv_at hl 0 rfl) ?_
    refine lv_if_ge (tgt := 28) hx hb dX9_folds_22 (by decide) (fun c5 => ?_) (fun c5 => ?_)
    · replace h := h.1 c5
      refine lv_aload_n hx hb dX9_folds_28 rfl (lv_at hl 1 rfl) ?_
      refine lv_iload_n hx hb dX9_folds_29 rfl (lv_at hl 3 rfl) ?_
      refine lv_iload_n hx hb dX9_folds_30 rfl (lv_at hl 4 rfl) ?_
      refine callVI (As := [.int x2, .int x3]) (rest := []) C hG (c9_isCell l D cy o q x2 x3 S4 _ h) 2 gX9_folds_X9_isCell rfl (by decide +kernel) ⟨⟨Nat.le_of_ble_eq_true rfl, Nat.le_of_ble_eq_true rfl⟩, rfl, rfl⟩ rfl rfl (Foc.all C.2.2.2.2.2.2.2.2.1) rfl hl.1 rfl (Nat.le_of_ble_eq_true rfl) dX9_folds_31 ⟨Nat.zero_le _, Nat.zero_le _⟩ (fun r6 u7 H locs h hG => ?_)
      obtain ⟨eu7, h⟩ := h
      have eu7 : u7 = S4 := eu7
      subst u7
      have hG : GW D A s (w9 o q cy S4) H locs := hG
      refine lv_if_eq (tgt := 49) hx hb dX9_folds_34 (by decide) (fun c8 => ?_) (fun c8 => ?_)
      · replace h := h.1 c8
        refine lv_aload_n hx hb dX9_folds_49 rfl (lv_at hl 1 rfl) ?_
        refine lv_iconst (v := 2) hx hb dX9_folds_50 (by decide) ?_
        refine callVI (As := [.int (2 : Int32)]) (rest := []) C hG (c9_meets l D cy o q (2 : Int32) S4 _ h) 1 gX9_folds_X9_meets rfl (by decide +kernel) ⟨⟨Nat.le_of_ble_eq_true rfl, Nat.le_of_ble_eq_true rfl⟩, rfl, rfl⟩ rfl rfl (Foc.all C.2.2.2.2.2.2.2.2.1) rfl hl.1 rfl (Nat.le_of_ble_eq_true rfl) dX9_folds_51 ⟨Nat.zero_le _, Nat.zero_le _⟩ (fun r9 S10 H locs h hG => ?_)
        have hG : GW D A s (w9 o q cy S10) H locs := hG
        exact b9_folds_b54 r9 S10 C h hG (lv_sub hl [1] rfl)
      · replace h := h.2 c8
        refine lv_aload_n hx hb dX9_folds_37 rfl (lv_at hl 1 rfl) ?_
        refine lv_iload_n hx hb dX9_folds_38 rfl (lv_at hl 2 rfl) ?_
        refine lv_iload_n hx hb dX9_folds_39 rfl (lv_at hl 3 rfl) ?_
        refine lv_iload_n hx hb dX9_folds_40 rfl (lv_at hl 4 rfl) ?_
        refine lv_iload hx hb dX9_folds_41 (lv_at hl 5 rfl) ?_
        refine callVI (As := [.int x1, .int x2, .int x3, .int x4]) (rest := []) C hG (c9_foldsTo l D cy o q x1 x2 x3 x4 S4 _ h) 4 gX9_folds_X9_foldsTo rfl (by decide +kernel) ⟨⟨Nat.le_of_ble_eq_true rfl, Nat.le_of_ble_eq_true rfl⟩, rfl, rfl⟩ rfl rfl (Foc.all C.2.2.2.2.2.2.2.2.1) rfl hl.1 rfl (Nat.le_of_ble_eq_true rfl) dX9_folds_43 ⟨Nat.zero_le _, Nat.zero_le _⟩ (fun r11 S12 H locs h hG => ?_)
        have hG : GW D A s (w9 o q cy S12) H locs := hG
        refine lv_goto (tgt := 54) hx hb dX9_folds_46 (by decide) ?_
        exact b9_folds_b54 r11 S12 C h hG (lv_sub hl [1] rfl)
    · replace h := h.2 c5
      refine lv_iload hx hb dX9_folds_25 (lv_at hl 0 rfl) ?_
      exact retI (w := (w9 o q cy)) (S := S4) C hG h dX9_folds_27
  · replace h := h.2 c2
    refine lv_iconst (v := -1) hx hb dX9_folds_10 (by decide) ?_
    exact retI (w := (w9 o q cy)) (S := S) C hG h dX9_folds_11
