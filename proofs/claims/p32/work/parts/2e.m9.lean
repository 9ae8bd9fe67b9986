-- X9_lies
theorem i9_lies_X9 : ∀ w ∈ wsX90, w ∈ wsX9_lies := fun w h => List.mem_cons_of_mem _ (inG_X9 w h)
theorem k9_lies_13 : Cond.fieldLink RX9 13 "PaperBodiesModel" "figures" "[J" ∈ wsX9_lies := (List.mem_cons_of_mem _ mw_538)
theorem k9_lies_32 : Cond.fieldLink RX9 32 "PaperBodiesModel" "onCell" "[I" ∈ wsX9_lies := (List.mem_cons_of_mem _ mw_544)
def w9_lies_b97 (t0 : Int32) (S : MS) (Q : Int32 → MS → Prop) : Prop :=
  Q t0 S
set_option maxHeartbeats 4000000 in
set_option maxRecDepth 100000 in
theorem b9_lies_b97 {p : Program} {l : Launch} {e : Env} {s : State} {m : MethodId} {args : Array Value} {below : List Frame} {meth : Method} {c : Code} {D : va_G} {cy : Nat → ClassId} {A : Nat → Prop} {o : Nat} {q : Nat → Nat} (t0 : Int32) (S : MS) {Q : Int32 → MS → Prop} (C : Cx p s m args meth c cX9_lies 7 (some .int) wsX9_lies RX9 D cy nestWs A) (h : w9_lies_b97 t0 S Q) {H : Heap} {locs : List Loc} (hG : GW D A s (w9 o q cy S) H locs) {ls : Array Slot} (hl : lv_has ls 7 [(0, .ref o)]) : W p l e ({ frames := 5, cells := 0, slots := 0, locals := 118 } : Room) s m args below meth c H locs 0 0 (MQ below (va_Qi Q (B1 D (w9 o q cy) A) A) args s 0 0 A) (F0 m 97 ls [.int t0]) := by
  have hx := C.1
  have hb := C.2.1
  unfold w9_lies_b97 at h
  exact retI (w := (w9 o q cy)) (S := S) C hG h dX9_lies_97
def w9_lies_b95 (S : MS) (Q : Int32 → MS → Prop) : Prop :=
  w9_lies_b97 (-9 : Int32) S Q
set_option maxHeartbeats 4000000 in
set_option maxRecDepth 100000 in
theorem b9_lies_b95 {p : Program} {l : Launch} {e : Env} {s : State} {m : MethodId} {args : Array Value} {below : List Frame} {meth : Method} {c : Code} {D : va_G} {cy : Nat → ClassId} {A : Nat → Prop} {o : Nat} {q : Nat → Nat} (S : MS) {Q : Int32 → MS → Prop} (C : Cx p s m args meth c cX9_lies 7 (some .int) wsX9_lies RX9 D cy nestWs A) (h : w9_lies_b95 S Q) {H : Heap} {locs : List Loc} (hG : GW D A s (w9 o q cy S) H locs) {ls : Array Slot} (hl : lv_has ls 7 [(0, .ref o)]) : W p l e ({ frames := 5, cells := 0, slots := 0, locals := 118 } : Room) s m args below meth c H locs 0 0 (MQ below (va_Qi Q (B1 D (w9 o q cy) A) A) args s 0 0 A) (F0 m 95 ls []) := by
  have hx := C.1
  have hb := C.2.1
  unfold w9_lies_b95 at h
  refine lv_bipush (v := -9) hx hb dX9_lies_95 (by decide) ?_
  exact b9_lies_b97 (-9 : Int32) S C h hG hl
def w9_lies_b21 (S : MS) (Q : Int32 → MS → Prop) : Prop :=
  Q (-1 : Int32) S
set_option maxHeartbeats 4000000 in
set_option maxRecDepth 100000 in
theorem b9_lies_b21 {p : Program} {l : Launch} {e : Env} {s : State} {m : MethodId} {args : Array Value} {below : List Frame} {meth : Method} {c : Code} {D : va_G} {cy : Nat → ClassId} {A : Nat → Prop} {o : Nat} {q : Nat → Nat} (S : MS) {Q : Int32 → MS → Prop} (C : Cx p s m args meth c cX9_lies 7 (some .int) wsX9_lies RX9 D cy nestWs A) (h : w9_lies_b21 S Q) {H : Heap} {locs : List Loc} (hG : GW D A s (w9 o q cy S) H locs) {ls : Array Slot} (hl : lv_has ls 7 [(0, .ref o)]) : W p l e ({ frames := 5, cells := 0, slots := 0, locals := 118 } : Room) s m args below meth c H locs 0 0 (MQ below (va_Qi Q (B1 D (w9 o q cy) A) A) args s 0 0 A) (F0 m 21 ls []) := by
  have hx := C.1
  have hb := C.2.1
  unfold w9_lies_b21 at h
  refine lv_iconst (v := -1) hx hb dX9_lies_21 (by decide) ?_
  exact retI (w := (w9 o q cy)) (S := S) C hG h dX9_lies_22
def w9_lies (x1 : Int32) (x2 : Int32) (x3 : Int32) (x4 : Int32) (x5 : Int32) (S : MS) (Q : Int32 → MS → Prop) : Prop :=
  w9_in x4 (0 : Int32) (3 : Int32) (fun r1 => ((r1 = 0 → w9_lies_b21 S Q) ∧ (¬ r1 = 0 → w9_in x5 (0 : Int32) (63 : Int32) (fun r3 => ((¬ r3 = 0 → w9_askedBoth x1 x2 S (fun r5 S6 => ((0 ≤ r5 → w9_isCell x2 x3 S6 (fun r8 => ((¬ r8 = 0 → vp_in x1 6 ∧ w9_isFolded (rL S6 3 x1) x2 x3 x4 S6 (fun r12 S13 => ((r12 = 0 → w9_lies_b95 S13 Q) ∧ (¬ r12 = 0 → w9_has (rL S13 3 x1) x5 (fun r15 => ((r15 = 0 → w9_lies_b95 S13 Q) ∧ (¬ r15 = 0 → vp_in x5 64 ∧ w9_lies_b97 (rA S13 12 x5) S13 Q))))))) ∧ (r8 = 0 → w9_meets (2 : Int32) S6 (fun r18 S19 => Q r18 S19))))) ∧ (¬ 0 ≤ r5 → Q r5 S6)))) ∧ (r3 = 0 → w9_lies_b21 S Q))))))
set_option maxHeartbeats 4000000 in
set_option maxRecDepth 100000 in
theorem c9_lies (l : Launch) (D : va_G) (cy : Nat → ClassId)  (o : Nat) (q : Nat → Nat) (x1 : Int32) (x2 : Int32) (x3 : Int32) (x4 : Int32) (x5 : Int32) (S : MS) (Q : Int32 → MS → Prop) (h : w9_lies x1 x2 x3 x4 x5 S Q) : MetI l yX9_lies wsX9_lies ({ frames := 5, cells := 0, slots := 0, locals := 118 } : Room) D cy nestWs (w9 o q cy) [.ref o, .int x1, .int x2, .int x3, .int x4, .int x5] S Q := by
  refine MetI.mk RX9 cX9_lies 7 .int (by decide) rfl nestWs_ok rfl (Nat.le_of_ble_eq_true rfl) ?_
  intro p e s m below meth c A ls C hG hl
  have hl : lv_has ls 7 [(0, .ref o), (1, .int x1), (2, .int x2), (3, .int x3), (4, .int x4), (5, .int x5)] := hl
  have hx := C.1
  have hb := C.2.1
  unfold w9_lies at h
  refine lv_iload hx hb dX9_lies_0 (lv_at hl 4 rfl) ?_
  refine lv_iconst (v := 0) hx hb dX9_lies_2 (by decide) ?_
  refine lv_iconst (v := 3) hx hb dX9_lies_3 (by decide) ?_
  refine callSI (As := [.int x4, .int (0 : Int32), .int (3 : Int32)]) (rest := []) C hG (c9_in l D cy x4 (0 : Int32) (3 : Int32) _ h) 3 gX9_lies_X9_in rfl (by decide +kernel) ⟨⟨Nat.le_of_ble_eq_true rfl, Nat.le_of_ble_eq_true rfl⟩, rfl, rfl⟩ (Foc.none C.2.2.2.2.2.2.2.2.1) rfl hl.1 rfl (Nat.le_of_ble_eq_true rfl) dX9_lies_4 ⟨Nat.zero_le _, Nat.zero_le _⟩ (fun r1 z H locs h hG => ?_)
  refine lv_if_eq (tgt := 21) hx hb dX9_lies_7 (by decide) (fun c2 => ?_) (fun c2 => ?_)
  · replace h := h.1 c2
    exact b9_lies_b21 S C h hG (lv_sub hl [0] rfl)
  · replace h := h.2 c2
    refine lv_iload hx hb dX9_lies_10 (lv_at hl 5 rfl) ?_
    refine lv_iconst (v := 0) hx hb dX9_lies_12 (by decide) ?_
    refine lv_bipush (v := 63) hx hb dX9_lies_13 (by decide) ?_
    refine callSI (As := [.int x5, .int (0 : Int32), .int (63 : Int32)]) (rest := []) C hG (c9_in l D cy x5 (0 : Int32) (63 : Int32) _ h) 3 gX9_lies_X9_in rfl (by decide +kernel) ⟨⟨Nat.le_of_ble_eq_true rfl, Nat.le_of_ble_eq_true rfl⟩, rfl, rfl⟩ (Foc.none C.2.2.2.2.2.2.2.2.1) rfl hl.1 rfl (Nat.le_of_ble_eq_true rfl) dX9_lies_15 ⟨Nat.zero_le _, Nat.zero_le _⟩ (fun r3 z H locs h hG => ?_)
    refine lv_if_ne (tgt := 23) hx hb dX9_lies_18 (by decide) (fun c4 => ?_) (fun c4 => ?_)
    · replace h := h.1 c4
      refine lv_aload_n hx hb dX9_lies_23 rfl (lv_at hl 0 rfl) ?_
      refine lv_iload_n hx hb dX9_lies_24 rfl (lv_at hl 1 rfl) ?_
      refine lv_iload_n hx hb dX9_lies_25 rfl (lv_at hl 2 rfl) ?_
      refine callVI (As := [.int x1, .int x2]) (rest := []) C hG (c9_askedBoth l D cy o q x1 x2 S _ h) 2 gX9_lies_X9_askedBoth rfl (by decide +kernel) ⟨⟨Nat.le_of_ble_eq_true rfl, Nat.le_of_ble_eq_true rfl⟩, rfl, rfl⟩ rfl rfl (Foc.all C.2.2.2.2.2.2.2.2.1) rfl hl.1 rfl (Nat.le_of_ble_eq_true rfl) dX9_lies_26 ⟨Nat.zero_le _, Nat.zero_le _⟩ (fun r5 S6 H locs h hG => ?_)
      have hG : GW D A s (w9 o q cy S6) H locs := hG
      refine lv_istore (lv' := [(6, .int r5), (0, .ref o), (1, .int x1), (2, .int x2), (3, .int x3), (4, .int x4), (5, .int x5)]) hx hb dX9_lies_29 hl (by decide) rfl (fun ls hl => ?_)
      refine lv_iload hx hb dX9_lies_31 (lv_at hl 0 rfl) ?_
      refine lv_if_ge (tgt := 39) hx hb dX9_lies_33 (by decide) (fun c7 => ?_) (fun c7 => ?_)
      · replace h := h.1 c7
        refine lv_aload_n hx hb dX9_lies_39 rfl (lv_at hl 1 rfl) ?_
        refine lv_iload_n hx hb dX9_lies_40 rfl (lv_at hl 3 rfl) ?_
        refine lv_iload_n hx hb dX9_lies_41 rfl (lv_at hl 4 rfl) ?_
        refine callVI (As := [.int x2, .int x3]) (rest := []) C hG (c9_isCell l D cy o q x2 x3 S6 _ h) 2 gX9_lies_X9_isCell rfl (by decide +kernel) ⟨⟨Nat.le_of_ble_eq_true rfl, Nat.le_of_ble_eq_true rfl⟩, rfl, rfl⟩ rfl rfl (Foc.all C.2.2.2.2.2.2.2.2.1) rfl hl.1 rfl (Nat.le_of_ble_eq_true rfl) dX9_lies_42 ⟨Nat.zero_le _, Nat.zero_le _⟩ (fun r8 u9 H locs h hG => ?_)
        obtain ⟨eu9, h⟩ := h
        have eu9 : u9 = S6 := eu9
        subst u9
        have hG : GW D A s (w9 o q cy S6) H locs := hG
        refine lv_if_ne (tgt := 54) hx hb dX9_lies_45 (by decide) (fun c10 => ?_) (fun c10 => ?_)
        · replace h := h.1 c10
          refine lv_aload_n hx hb dX9_lies_54 rfl (lv_at hl 1 rfl) ?_
          refine lv_aload_n hx hb dX9_lies_55 rfl (lv_at hl 1 rfl) ?_
          refine x9g_3 C i9_lies_X9 k9_lies_13 hG dX9_lies_56 ?_
          refine lv_iload_n hx hb dX9_lies_59 rfl (lv_at hl 2 rfl) ?_
          obtain ⟨hv11, h⟩ := h
          refine x9l_3 C hG hv11 dX9_lies_60 ?_
          refine lv_iload_n hx hb dX9_lies_61 rfl (lv_at hl 3 rfl) ?_
          refine lv_iload_n hx hb dX9_lies_62 rfl (lv_at hl 4 rfl) ?_
          refine lv_iload hx hb dX9_lies_63 (lv_at hl 5 rfl) ?_
          refine callVI (As := [.long (rL S6 3 x1), .int x2, .int x3, .int x4]) (rest := []) C hG (c9_isFolded l D cy o q (rL S6 3 x1) x2 x3 x4 S6 _ h) 4 gX9_lies_X9_isFolded rfl (by decide +kernel) ⟨⟨Nat.le_of_ble_eq_true rfl, Nat.le_of_ble_eq_true rfl⟩, rfl, rfl⟩ rfl rfl (Foc.all C.2.2.2.2.2.2.2.2.1) rfl hl.1 rfl (Nat.le_of_ble_eq_true rfl) dX9_lies_65 ⟨Nat.zero_le _, Nat.zero_le _⟩ (fun r12 S13 H locs h hG => ?_)
          have hG : GW D A s (w9 o q cy S13) H locs := hG
          refine lv_if_eq (tgt := 95) hx hb dX9_lies_68 (by decide) (fun c14 => ?_) (fun c14 => ?_)
          · replace h := h.1 c14
            exact b9_lies_b95 S13 C h hG (lv_sub hl [1] rfl)
          · replace h := h.2 c14
            refine lv_aload_n hx hb dX9_lies_71 rfl (lv_at hl 1 rfl) ?_
            refine x9g_3 C i9_lies_X9 k9_lies_13 hG dX9_lies_72 ?_
            refine lv_iload_n hx hb dX9_lies_75 rfl (lv_at hl 2 rfl) ?_
            refine x9l_3 C hG hv11 dX9_lies_76 ?_
            refine lv_iload hx hb dX9_lies_77 (lv_at hl 6 rfl) ?_
            refine callSI (As := [.long (rL S13 3 x1), .int x5]) (rest := []) C hG (c9_has l D cy (rL S13 3 x1) x5 _ h) 2 gX9_lies_X9_has rfl (by decide +kernel) ⟨⟨Nat.le_of_ble_eq_true rfl, Nat.le_of_ble_eq_true rfl⟩, rfl, rfl⟩ (Foc.none C.2.2.2.2.2.2.2.2.1) rfl hl.1 rfl (Nat.le_of_ble_eq_true rfl) dX9_lies_79 ⟨Nat.zero_le _, Nat.zero_le _⟩ (fun r15 z H locs h hG => ?_)
            refine lv_if_eq (tgt := 95) hx hb dX9_lies_82 (by decide) (fun c16 => ?_) (fun c16 => ?_)
            · replace h := h.1 c16
              exact b9_lies_b95 S13 C h hG (lv_sub hl [1] rfl)
            · replace h := h.2 c16
              refine lv_aload_n hx hb dX9_lies_85 rfl (lv_at hl 1 rfl) ?_
              refine x9g_12 C i9_lies_X9 k9_lies_32 hG dX9_lies_86 ?_
              refine lv_iload hx hb dX9_lies_89 (lv_at hl 6 rfl) ?_
              obtain ⟨hv17, h⟩ := h
              refine x9l_12 C hG hv17 dX9_lies_91 ?_
              refine lv_goto (tgt := 97) hx hb dX9_lies_92 (by decide) ?_
              exact b9_lies_b97 (rA S13 12 x5) S13 C h hG (lv_sub hl [1] rfl)
        · replace h := h.2 c10
          refine lv_aload_n hx hb dX9_lies_48 rfl (lv_at hl 1 rfl) ?_
          refine lv_iconst (v := 2) hx hb dX9_lies_49 (by decide) ?_
          refine callVI (As := [.int (2 : Int32)]) (rest := []) C hG (c9_meets l D cy o q (2 : Int32) S6 _ h) 1 gX9_lies_X9_meets rfl (by decide +kernel) ⟨⟨Nat.le_of_ble_eq_true rfl, Nat.le_of_ble_eq_true rfl⟩, rfl, rfl⟩ rfl rfl (Foc.all C.2.2.2.2.2.2.2.2.1) rfl hl.1 rfl (Nat.le_of_ble_eq_true rfl) dX9_lies_50 ⟨Nat.zero_le _, Nat.zero_le _⟩ (fun r18 S19 H locs h hG => ?_)
          have hG : GW D A s (w9 o q cy S19) H locs := hG
          exact retI (w := (w9 o q cy)) (S := S19) C hG h dX9_lies_53
      · replace h := h.2 c7
        refine lv_iload hx hb dX9_lies_36 (lv_at hl 0 rfl) ?_
        exact retI (w := (w9 o q cy)) (S := S6) C hG h dX9_lies_38
    · replace h := h.2 c4
      exact b9_lies_b21 S C h hG (lv_sub hl [0] rfl)
-- X9_wholes
theorem i9_wholes_X9 : ∀ w ∈ wsX90, w ∈ wsX9_wholes := fun w h => List.mem_cons_of_mem _ (inG_X9 w h)
theorem k9_wholes_117 : Cond.fieldLink RX9 117 "PaperBodiesModel" "asked" "J" ∈ wsX9_wholes := (List.mem_cons_of_mem _ mw_576)
def w9_wholes_b71 (K19 : Int32 → Int32 → MS → Prop) (x1 : Int32) (x2 : Int32) (x4 : Int32) (x5 : Int32) (S : MS) (Q : Int32 → MS → Prop) : Prop :=
  ∀ y1 : Int32, y1 = x5 + 1 → K19 x4 y1 S
set_option maxHeartbeats 4000000 in
set_option maxRecDepth 100000 in
theorem b9_wholes_b71 {p : Program} {l : Launch} {e : Env} {s : State} {m : MethodId} {args : Array Value} {below : List Frame} {meth : Method} {c : Code} {D : va_G} {cy : Nat → ClassId} {A : Nat → Prop} {o : Nat} {q : Nat → Nat} {K19 : Int32 → Int32 → MS → Prop} (x1 : Int32) (x2 : Int32) (x4 : Int32) (x5 : Int32) (S : MS) {Q : Int32 → MS → Prop} (C : Cx p s m args meth c cX9_wholes 6 (some .int) wsX9_wholes RX9 D cy nestWs A) (hK19 : ∀ (x4 : Int32) (x5 : Int32) (S : MS) (H : Heap) (locs : List Loc) (ls : Array Slot), K19 x4 x5 S → GW D A s (w9 o q cy S) H locs → lv_has ls 6 [(0, .ref o), (1, .int x1), (2, .int x2), (4, .int x4), (5, .int x5)] → W p l e ({ frames := 6, cells := 0, slots := 0, locals := 142 } : Room) s m args below meth c H locs 0 0 (MQ below (va_Qi Q (B1 D (w9 o q cy) A) A) args s 0 0 A) (F0 m 19 ls [])) (h : w9_wholes_b71 K19 x1 x2 x4 x5 S Q) {H : Heap} {locs : List Loc} (hG : GW D A s (w9 o q cy S) H locs) {ls : Array Slot} (hl : lv_has ls 6 [(0, .ref o), (1, .int x1), (2, .int x2), (4, .int x4), (5, .int x5)]) : W p l e ({ frames := 6, cells := 0, slots := 0, locals := 142 } : Room) s m args below meth c H locs 0 0 (MQ below (va_Qi Q (B1 D (w9 o q cy) A) A) args s 0 0 A) (F0 m 71 ls []) := by
  have hx := C.1
  have hb := C.2.1
  unfold w9_wholes_b71 at h
  obtain ⟨y1, ey1⟩ : ∃ y : Int32, y = x5 + 1 := ⟨_, rfl⟩
  replace h := h y1 ey1
  refine lv_iinc (v := y1) (lv' := [(5, .int y1), (0, .ref o), (1, .int x1), (2, .int x2), (4, .int x4)]) hx hb dX9_wholes_71 hl (k := 4) rfl (by rw [ey1]; rfl) (by decide) rfl (fun ls hl => ?_)
  refine lv_goto (tgt := 19) hx hb dX9_wholes_74 (by decide) ?_
  exact hK19 x4 y1 S _ _ _ h hG (lv_sub hl [1, 2, 3, 4, 0] rfl)
def w9_wholes_b65 (K19 : Int32 → Int32 → MS → Prop) (x1 : Int32) (x2 : Int32) (x4 : Int32) (x5 : Int32) (t1 : Int64) (S : MS) (Q : Int32 → MS → Prop) : Prop :=
  ∀ S1 : MS, S1 = sJ S 2 t1 → ∀ y2 : Int32, y2 = x4 + 1 → w9_wholes_b71 K19 x1 x2 y2 x5 S1 Q
set_option maxHeartbeats 4000000 in
set_option maxRecDepth 100000 in
theorem b9_wholes_b65 {p : Program} {l : Launch} {e : Env} {s : State} {m : MethodId} {args : Array Value} {below : List Frame} {meth : Method} {c : Code} {D : va_G} {cy : Nat → ClassId} {A : Nat → Prop} {o : Nat} {q : Nat → Nat} {K19 : Int32 → Int32 → MS → Prop} (x1 : Int32) (x2 : Int32) (x4 : Int32) (x5 : Int32) (t1 : Int64) (S : MS) {Q : Int32 → MS → Prop} (C : Cx p s m args meth c cX9_wholes 6 (some .int) wsX9_wholes RX9 D cy nestWs A) (hK19 : ∀ (x4 : Int32) (x5 : Int32) (S : MS) (H : Heap) (locs : List Loc) (ls : Array Slot), K19 x4 x5 S → GW D A s (w9 o q cy S) H locs → lv_has ls 6 [(0, .ref o), (1, .int x1), (2, .int x2), (4, .int x4), (5, .int x5)] → W p l e ({ frames := 6, cells := 0, slots := 0, locals := 142 } : Room) s m args below meth c H locs 0 0 (MQ below (va_Qi Q (B1 D (w9 o q cy) A) A) args s 0 0 A) (F0 m 19 ls [])) (h : w9_wholes_b65 K19 x1 x2 x4 x5 t1 S Q) {H : Heap} {locs : List Loc} (hG : GW D A s (w9 o q cy S) H locs) {ls : Array Slot} (hl : lv_has ls 6 [(0, .ref o), (1, .int x1), (2, .int x2), (4, .int x4), (5, .int x5)]) : W p l e ({ frames := 6, cells := 0, slots := 0, locals := 142 } : Room) s m args below meth c H locs 0 0 (MQ below (va_Qi Q (B1 D (w9 o q cy) A) A) args s 0 0 A) (F0 m 65 ls [.long t1, .ref o]) := by
  have hx := C.1
  have hb := C.2.1
  unfold w9_wholes_b65 at h
  refine x9p_2 C i9_wholes_X9 k9_wholes_117 hG dX9_wholes_65 (fun S1 eS1 H locs hG => ?_)
  replace h := h S1 eS1
  obtain ⟨y2, ey2⟩ : ∃ y : Int32, y = x4 + 1 := ⟨_, rfl⟩
  replace h := h y2 ey2
  refine lv_iinc (v := y2) (lv' := [(4, .int y2), (0, .ref o), (1, .int x1), (2, .int x2), (5, .int x5)]) hx hb dX9_wholes_68 hl (k := 3) rfl (by rw [ey2]; rfl) (by decide) rfl (fun ls hl => ?_)
  exact b9_wholes_b71 (K19 := K19) x1 x2 y2 x5 S1 C hK19 h hG (lv_sub hl [1, 2, 3, 0, 4] rfl)
def w9_wholes_d19 (K19 : Int32 → Int32 → MS → Prop) (x1 : Int32) (x2 : Int32) (x4 : Int32) (x5 : Int32) (S : MS) (Q : Int32 → MS → Prop) : Prop :=
  w9_cells x2 S (fun r1 => ((((4 : Int32) * r1) ≤ x5 → Q x4 S) ∧ (¬ ((4 : Int32) * r1) ≤ x5 → w9_foldsTo x1 x2 (x5 / (4 : Int32)) (x5 - x5 / (4 : Int32) * (4 : Int32)) S (fun r4 S5 => ((¬ r4 = (2 : Int32) → w9_wholes_b71 K19 x1 x2 x4 x5 S5 Q) ∧ (r4 = (2 : Int32) → ((¬ x4 = 0 → w9_wholes_b65 K19 x1 x2 x4 x5 (fJ S5 2) S5 Q) ∧ (x4 = 0 → w9_wholes_b65 K19 x1 x2 x4 x5 x5.toInt64 S5 Q))))))))
set_option maxHeartbeats 4000000 in
set_option maxRecDepth 100000 in
theorem b9_wholes_d19 {p : Program} {l : Launch} {e : Env} {s : State} {m : MethodId} {args : Array Value} {below : List Frame} {meth : Method} {c : Code} {D : va_G} {cy : Nat → ClassId} {A : Nat → Prop} {o : Nat} {q : Nat → Nat} {K19 : Int32 → Int32 → MS → Prop} (x1 : Int32) (x2 : Int32) (x4 : Int32) (x5 : Int32) (S : MS) {Q : Int32 → MS → Prop} (C : Cx p s m args meth c cX9_wholes 6 (some .int) wsX9_wholes RX9 D cy nestWs A) (hK19 : ∀ (x4 : Int32) (x5 : Int32) (S : MS) (H : Heap) (locs : List Loc) (ls : Array Slot), K19 x4 x5 S → GW D A s (w9 o q cy S) H locs → lv_has ls 6 [(0, .ref o), (1, .int x1), (2, .int x2), (4, .int x4), (5, .int x5)] → W p l e ({ frames := 6, cells := 0, slots := 0, locals := 142 } : Room) s m args below meth c H locs 0 0 (MQ below (va_Qi Q (B1 D (w9 o q cy) A) A) args s 0 0 A) (F0 m 19 ls [])) (h : w9_wholes_d19 K19 x1 x2 x4 x5 S Q) {H : Heap} {locs : List Loc} (hG : GW D A s (w9 o q cy S) H locs) {ls : Array Slot} (hl : lv_has ls 6 [(0, .ref o), (1, .int x1), (2, .int x2), (4, .int x4), (5, .int x5)]) : W p l e ({ frames := 6, cells := 0, slots := 0, locals := 142 } : Room) s m args below meth c H locs 0 0 (MQ below (va_Qi Q (B1 D (w9 o q cy) A) A) args s 0 0 A) (F0 m 19 ls []) := by
  have hx := C.1
  have hb := C.2.1
  unfold w9_wholes_d19 at h
  refine lv_iload hx hb dX9_wholes_19 (lv_at hl 4 rfl) ?_
  refine lv_iconst (v := 4) hx hb dX9_wholes_21 (by decide) ?_
  refine lv_aload_n hx hb dX9_wholes_22 rfl (lv_at hl 0 rfl) ?_
  refine lv_iload_n hx hb dX9_wholes_23 rfl (lv_at hl 2 rfl) ?_
  refine callVI (As := [.int x2]) (rest := [.int (4 : Int32), .int x5]) C hG (c9_cells l D cy o q x2 S _ h) 1 gX9_wholes_X9_cells rfl (by decide +kernel) ⟨⟨Nat.le_of_ble_eq_true rfl, Nat.le_of_ble_eq_true rfl⟩, rfl, rfl⟩ rfl rfl (Foc.all C.2.2.2.2.2.2.2.2.1) rfl hl.1 rfl (Nat.le_of_ble_eq_true rfl) dX9_wholes_24 ⟨Nat.zero_le _, Nat.zero_le _⟩ (fun r1 u2 H locs h hG => ?_)
  obtain ⟨eu2, h⟩ := h
  have eu2 : u2 = S := eu2
  subst u2
  have hG : GW D A s (w9 o q cy S) H locs := hG
  refine lv_imul hx hb dX9_wholes_27 ?_
  refine lv_icmp_ge (tgt := 77) hx hb dX9_wholes_28 (by decide) (fun c3 => ?_) (fun c3 => ?_)
  · replace h := h.1 c3
    refine lv_iload hx hb dX9_wholes_77 (lv_at hl 3 rfl) ?_
    exact retI (w := (w9 o q cy)) (S := S) C hG h dX9_wholes_79
  · replace h := h.2 c3
    refine lv_aload_n hx hb dX9_wholes_31 rfl (lv_at hl 0 rfl) ?_
    refine lv_iload_n hx hb dX9_wholes_32 rfl (lv_at hl 1 rfl) ?_
    refine lv_iload_n hx hb dX9_wholes_33 rfl (lv_at hl 2 rfl) ?_
    refine lv_iload hx hb dX9_wholes_34 (lv_at hl 4 rfl) ?_
    refine lv_iconst (v := 4) hx hb dX9_wholes_36 (by decide) ?_
    refine lv_idiv hx hb dX9_wholes_37 (by decide) ?_
    refine lv_iload hx hb dX9_wholes_38 (lv_at hl 4 rfl) ?_
    refine lv_iconst (v := 4) hx hb dX9_wholes_40 (by decide) ?_
    refine lv_irem hx hb dX9_wholes_41 (by decide) ?_
    refine callVI (As := [.int x1, .int x2, .int (x5 / (4 : Int32)), .int (x5 - x5 / (4 : Int32) * (4 : Int32))]) (rest := []) C hG (c9_foldsTo l D cy o q x1 x2 (x5 / (4 : Int32)) (x5 - x5 / (4 : Int32) * (4 : Int32)) S _ h) 4 gX9_wholes_X9_foldsTo rfl (by decide +kernel) ⟨⟨Nat.le_of_ble_eq_true rfl, Nat.le_of_ble_eq_true rfl⟩, rfl, rfl⟩ rfl rfl (Foc.all C.2.2.2.2.2.2.2.2.1) rfl hl.1 rfl (Nat.le_of_ble_eq_true rfl) dX9_wholes_42 ⟨Nat.zero_le _, Nat.zero_le _⟩ (fun r4 S5 H locs h hG => ?_)
    have hG : GW D A s (w9 o q cy S5) H locs := hG
    refine lv_iconst (v := 2) hx hb dX9_wholes_45 (by decide) ?_
    refine lv_icmp_ne (tgt := 71) hx hb dX9_wholes_46 (by decide) (fun c6 => ?_) (fun c6 => ?_)
    · replace h := h.1 c6
      exact b9_wholes_b71 (K19 := K19) x1 x2 x4 x5 S5 C hK19 h hG hl
    · replace h := h.2 c6
      refine lv_aload_n hx hb dX9_wholes_49 rfl (lv_at hl 0 rfl) ?_
      refine lv_iload hx hb dX9_wholes_50 (lv_at hl 3 rfl) ?_
      refine lv_if_ne (tgt := 61) hx hb dX9_wholes_52 (by decide) (fun c7 => ?_) (fun c7 => ?_)
      · replace h := h.1 c7
        refine lv_aload_n hx hb dX9_wholes_61 rfl (lv_at hl 0 rfl) ?_
        refine x9g_2 C i9_wholes_X9 k9_wholes_117 hG dX9_wholes_62 ?_
        exact b9_wholes_b65 (K19 := K19) x1 x2 x4 x5 (fJ S5 2) S5 C hK19 h hG hl
      · replace h := h.2 c7
        refine lv_iload hx hb dX9_wholes_55 (lv_at hl 4 rfl) ?_
        refine lv_i2l hx hb dX9_wholes_57 rfl ?_
        refine lv_goto (tgt := 65) hx hb dX9_wholes_58 (by decide) ?_
        exact b9_wholes_b65 (K19 := K19) x1 x2 x4 x5 x5.toInt64 S5 C hK19 h hG hl
def w9_wholes_F19 (x1 : Int32) (x2 : Int32) (Q : Int32 → MS → Prop) (K : Int32 × Int32 × MS → Prop) (a : Int32 × Int32 × MS) : Prop := w9_wholes_d19 (fun y0 y1 y2 => K (y0, y1, y2)) x1 x2 a.1 a.2.1 a.2.2 Q
def w9_wholes_b19 (x1 : Int32) (x2 : Int32) (x4 : Int32) (x5 : Int32) (S : MS) (Q : Int32 → MS → Prop) : Prop := lp (w9_wholes_F19 x1 x2 Q) (x4, x5, S)
set_option maxHeartbeats 4000000 in
set_option maxRecDepth 100000 in
theorem b9_wholes_b19 {p : Program} {l : Launch} {e : Env} {s : State} {m : MethodId} {args : Array Value} {below : List Frame} {meth : Method} {c : Code} {D : va_G} {cy : Nat → ClassId} {A : Nat → Prop} {o : Nat} {q : Nat → Nat} (x1 : Int32) (x2 : Int32) (x4 : Int32) (x5 : Int32) (S : MS) {Q : Int32 → MS → Prop} (C : Cx p s m args meth c cX9_wholes 6 (some .int) wsX9_wholes RX9 D cy nestWs A) (h : w9_wholes_b19 x1 x2 x4 x5 S Q) {H : Heap} {locs : List Loc} (hG : GW D A s (w9 o q cy S) H locs) {ls : Array Slot} (hl : lv_has ls 6 [(0, .ref o), (1, .int x1), (2, .int x2), (4, .int x4), (5, .int x5)]) : W p l e ({ frames := 6, cells := 0, slots := 0, locals := 142 } : Room) s m args below meth c H locs 0 0 (MQ below (va_Qi Q (B1 D (w9 o q cy) A) A) args s 0 0 A) (F0 m 19 ls []) := by
  obtain ⟨k, hn⟩ := h
  induction k generalizing x4 x5 S H locs ls with
  | zero => exact hn.elim
  | succ k ih => exact b9_wholes_d19 (K19 := fun y0 y1 y2 => itr (w9_wholes_F19 x1 x2 Q) k (y0, y1, y2)) x1 x2 x4 x5 S C (fun x4 x5 S H locs ls hk hG hl => ih x4 x5 S hG hl hk) hn hG hl
def w9_wholes (x1 : Int32) (x2 : Int32) (S : MS) (Q : Int32 → MS → Prop) : Prop :=
  w9_askedBoth x1 x2 S (fun r1 S2 => ((0 ≤ r1 → w9_wholes_b19 x1 x2 (0 : Int32) (0 : Int32) S2 Q) ∧ (¬ 0 ≤ r1 → Q r1 S2)))
set_option maxHeartbeats 4000000 in
set_option maxRecDepth 100000 in
theorem c9_wholes (l : Launch) (D : va_G) (cy : Nat → ClassId)  (o : Nat) (q : Nat → Nat) (x1 : Int32) (x2 : Int32) (S : MS) (Q : Int32 → MS → Prop) (h : w9_wholes x1 x2 S Q) : MetI l yX9_wholes wsX9_wholes ({ frames := 6, cells := 0, slots := 0, locals := 142 } : Room) D cy nestWs (w9 o q cy) [.ref o, .int x1, .int x2] S Q := by
  refine MetI.mk RX9 cX9_wholes 6 .int (by decide) rfl nestWs_ok rfl (Nat.le_of_ble_eq_true rfl) ?_
  intro p e s m below meth c A ls C hG hl
  have hl : lv_has ls 6 [(0, .ref o), (1, .int x1), (2, .int x2)] := hl
  have hx := C.1
  have hb := C.2.1
  unfold w9_wholes at h
  refine lv_aload_n hx hb dX9_wholes_0 rfl (lv_at hl 0 rfl) ?_
  refine lv_iload_n hx hb dX9_wholes_1 rfl (lv_at hl 1 rfl) ?_
  refine lv_iload_n hx hb dX9_wholes_2 rfl (lv_at hl 2 rfl) ?_
  refine callVI (As := [.int x1, .int x2]) (rest := []) C hG (c9_askedBoth l D cy o q x1 x2 S _ h) 2 gX9_wholes_X9_askedBoth rfl (by decide +kernel) ⟨⟨Nat.le_of_ble_eq_true rfl, Nat.le_of_ble_eq_true rfl⟩, rfl, rfl⟩ rfl rfl (Foc.all C.2.2.2.2.2.2.2.2.1) rfl hl.1 rfl (Nat.le_of_ble_eq_true rfl) dX9_wholes_3 ⟨Nat.zero_le _, Nat.zero_le _⟩ (fun r1 S2 H locs h hG => ?_)
  have hG : GW D A s (w9 o q cy S2) H locs := hG
  refine lv_istore_n (lv' := [(3, .int r1), (0, .ref o), (1, .int x1), (2, .int x2)]) hx hb dX9_wholes_6 rfl hl (by decide) rfl (fun ls hl => ?_)
  refine lv_iload_n hx hb dX9_wholes_7 rfl (lv_at hl 0 rfl) ?_
  refine lv_if_ge (tgt := 13) hx hb dX9_wholes_8 (by decide) (fun c3 => ?_) (fun c3 => ?_)
  · replace h := h.1 c3
    refine lv_iconst (v := 0) hx hb dX9_wholes_13 (by decide) ?_
    refine lv_istore (lv' := [(4, .int (0 : Int32)), (3, .int r1), (0, .ref o), (1, .int x1), (2, .int x2)]) hx hb dX9_wholes_14 hl (by decide) rfl (fun ls hl => ?_)
    refine lv_iconst (v := 0) hx hb dX9_wholes_16 (by decide) ?_
    refine lv_istore (lv' := [(5, .int (0 : Int32)), (4, .int (0 : Int32)), (3, .int r1), (0, .ref o), (1, .int x1), (2, .int x2)]) hx hb dX9_wholes_17 hl (by decide) rfl (fun ls hl => ?_)
    exact b9_wholes_b19 x1 x2 (0 : Int32) (0 : Int32) S2 C h hG (lv_sub hl [3, 4, 5, 1, 0] rfl)
  · replace h := h.2 c3
    refine lv_iload_n hx hb dX9_wholes_11 rfl (lv_at hl 0 rfl) ?_
    exact retI (w := (w9 o q cy)) (S := S2) C hG h dX9_wholes_12
-- X9_lays
theorem i9_lays_X9 : ∀ w ∈ wsX90, w ∈ wsX9_lays := fun w h => List.mem_cons_of_mem _ (inG_X9 w h)
theorem k9_lays_13 : Cond.fieldLink RX9 13 "PaperBodiesModel" "figures" "[J" ∈ wsX9_lays := (List.mem_cons_of_mem _ mw_538)
theorem k9_lays_17 : Cond.fieldLink RX9 17 "PaperBodiesModel" "kinds" "[I" ∈ wsX9_lays := (List.mem_cons_of_mem _ mw_539)
theorem k9_lays_20 : Cond.fieldLink RX9 20 "PaperBodiesModel" "marks" "[I" ∈ wsX9_lays := (List.mem_cons_of_mem _ mw_540)
theorem k9_lays_26 : Cond.fieldLink RX9 26 "PaperBodiesModel" "dims" "[I" ∈ wsX9_lays := (List.mem_cons_of_mem _ mw_542)
theorem k9_lays_38 : Cond.fieldLink RX9 38 "PaperBodiesModel" "queue" "[I" ∈ wsX9_lays := (List.mem_cons_of_mem _ mw_546)
theorem k9_lays_41 : Cond.fieldLink RX9 41 "PaperBodiesModel" "laidAt" "[I" ∈ wsX9_lays := (List.mem_cons_of_mem _ mw_547)
theorem k9_lays_44 : Cond.fieldLink RX9 44 "PaperBodiesModel" "laidTurn" "[I" ∈ wsX9_lays := (List.mem_cons_of_mem _ mw_548)
theorem k9_lays_104 : Cond.fieldLink RX9 104 "PaperBodiesModel" "sizes" "[I" ∈ wsX9_lays := (List.mem_cons_of_mem _ mw_568)
theorem k9_lays_107 : Cond.fieldLink RX9 107 "PaperBodiesModel" "rows" "[I" ∈ wsX9_lays := (List.mem_cons_of_mem _ mw_569)
def w9_lays_b411 (x1 : Int32) (x5 : Int32) (x9 : Int32) (t1 : Int32) (t2 : Int32) (S : MS) (Q : Int32 → MS → Prop) : Prop :=
  vp_in t1 6 ∧ ∀ S2 : MS, S2 = sA S 4 t1 t2 → vp_in ((3 : Int32) * x1) 12 ∧ vp_in x5 6 ∧ ∀ S5 : MS, S5 = sA S2 5 x5 (((100 : Int32) * (rA S2 7 ((3 : Int32) * x1))) + x9) → Q (2 : Int32) S5
set_option maxHeartbeats 4000000 in
set_option maxRecDepth 100000 in
theorem b9_lays_b411 {p : Program} {l : Launch} {e : Env} {s : State} {m : MethodId} {args : Array Value} {below : List Frame} {meth : Method} {c : Code} {D : va_G} {cy : Nat → ClassId} {A : Nat → Prop} {o : Nat} {q : Nat → Nat} (x1 : Int32) (x5 : Int32) (x9 : Int32) (t1 : Int32) (t2 : Int32) (S : MS) {Q : Int32 → MS → Prop} (C : Cx p s m args meth c cX9_lays 15 (some .int) wsX9_lays RX9 D cy nestWs A) (h : w9_lays_b411 x1 x5 x9 t1 t2 S Q) {H : Heap} {locs : List Loc} (hG : GW D A s (w9 o q cy S) H locs) {ls : Array Slot} (hl : lv_has ls 15 [(0, .ref o), (1, .int x1), (5, .int x5), (9, .int x9)]) : W p l e ({ frames := 5, cells := 0, slots := 0, locals := 118 } : Room) s m args below meth c H locs 0 0 (MQ below (va_Qi Q (B1 D (w9 o q cy) A) A) args s 0 0 A) (F0 m 411 ls [.int t2, .int t1, .ref (q 4)]) := by
  have hx := C.1
  have hb := C.2.1
  unfold w9_lays_b411 at h
  obtain ⟨hv1, h⟩ := h
  refine x9s_4 C hG hv1 dX9_lays_411 (fun S2 eS2 H locs hG => ?_)
  replace h := h S2 eS2
  refine lv_aload_n hx hb dX9_lays_412 rfl (lv_at hl 0 rfl) ?_
  refine x9g_5 C i9_lays_X9 k9_lays_20 hG dX9_lays_413 ?_
  refine lv_iload hx hb dX9_lays_416 (lv_at hl 2 rfl) ?_
  refine lv_bipush (v := 100) hx hb dX9_lays_418 (by decide) ?_
  refine lv_aload_n hx hb dX9_lays_420 rfl (lv_at hl 0 rfl) ?_
  refine x9g_7 C i9_lays_X9 k9_lays_26 hG dX9_lays_421 ?_
  refine lv_iconst (v := 3) hx hb dX9_lays_424 (by decide) ?_
  refine lv_iload_n hx hb dX9_lays_425 rfl (lv_at hl 1 rfl) ?_
  refine lv_imul hx hb dX9_lays_426 ?_
  obtain ⟨hv3, h⟩ := h
  refine x9l_7 C hG hv3 dX9_lays_427 ?_
  refine lv_imul hx hb dX9_lays_428 ?_
  refine lv_iload hx hb dX9_lays_429 (lv_at hl 3 rfl) ?_
  refine lv_iadd hx hb dX9_lays_431 ?_
  obtain ⟨hv4, h⟩ := h
  refine x9s_5 C hG hv4 dX9_lays_432 (fun S5 eS5 H locs hG => ?_)
  replace h := h S5 eS5
  refine lv_iconst (v := 2) hx hb dX9_lays_433 (by decide) ?_
  exact retI (w := (w9 o q cy)) (S := S5) C hG h dX9_lays_434
def w9_lays_b393 (x1 : Int32) (x5 : Int32) (x9 : Int32) (t0 : Int32) (S : MS) (Q : Int32 → MS → Prop) : Prop :=
  ((t0 = 0 → w9_lays_b411 x1 x5 x9 x5 (2 : Int32) S Q) ∧ (¬ t0 = 0 → w9_lays_b411 x1 x5 x9 x5 (3 : Int32) S Q))
set_option maxHeartbeats 4000000 in
set_option maxRecDepth 100000 in
theorem b9_lays_b393 {p : Program} {l : Launch} {e : Env} {s : State} {m : MethodId} {args : Array Value} {below : List Frame} {meth : Method} {c : Code} {D : va_G} {cy : Nat → ClassId} {A : Nat → Prop} {o : Nat} {q : Nat → Nat} (x1 : Int32) (x5 : Int32) (x9 : Int32) (t0 : Int32) (S : MS) {Q : Int32 → MS → Prop} (C : Cx p s m args meth c cX9_lays 15 (some .int) wsX9_lays RX9 D cy nestWs A) (h : w9_lays_b393 x1 x5 x9 t0 S Q) {H : Heap} {locs : List Loc} (hG : GW D A s (w9 o q cy S) H locs) {ls : Array Slot} (hl : lv_has ls 15 [(0, .ref o), (1, .int x1), (5, .int x5), (9, .int x9)]) : W p l e ({ frames := 5, cells := 0, slots := 0, locals := 118 } : Room) s m args below meth c H locs 0 0 (MQ below (va_Qi Q (B1 D (w9 o q cy) A) A) args s 0 0 A) (F0 m 393 ls [.int t0]) := by
  have hx := C.1
  have hb := C.2.1
  unfold w9_lays_b393 at h
  refine lv_istore (lv' := [(10, .int t0), (0, .ref o), (1, .int x1), (5, .int x5), (9, .int x9)]) hx hb dX9_lays_393 hl (by decide) rfl (fun ls hl => ?_)
  refine lv_aload_n hx hb dX9_lays_395 rfl (lv_at hl 1 rfl) ?_
  refine x9g_4 C i9_lays_X9 k9_lays_17 hG dX9_lays_396 ?_
  refine lv_iload hx hb dX9_lays_399 (lv_at hl 3 rfl) ?_
  refine lv_iload hx hb dX9_lays_401 (lv_at hl 0 rfl) ?_
  refine lv_if_eq (tgt := 410) hx hb dX9_lays_403 (by decide) (fun c1 => ?_) (fun c1 => ?_)
  · replace h := h.1 c1
    refine lv_iconst (v := 2) hx hb dX9_lays_410 (by decide) ?_
    exact b9_lays_b411 x1 x5 x9 x5 (2 : Int32) S C h hG (lv_sub hl [1, 2, 3, 4] rfl)
  · replace h := h.2 c1
    refine lv_iconst (v := 3) hx hb dX9_lays_406 (by decide) ?_
    refine lv_goto (tgt := 411) hx hb dX9_lays_407 (by decide) ?_
    exact b9_lays_b411 x1 x5 x9 x5 (3 : Int32) S C h hG (lv_sub hl [1, 2, 3, 4] rfl)
def w9_lays_b392 (x1 : Int32) (x5 : Int32) (x9 : Int32) (S : MS) (Q : Int32 → MS → Prop) : Prop :=
  w9_lays_b393 x1 x5 x9 (0 : Int32) S Q
set_option maxHeartbeats 4000000 in
set_option maxRecDepth 100000 in
theorem b9_lays_b392 {p : Program} {l : Launch} {e : Env} {s : State} {m : MethodId} {args : Array Value} {below : List Frame} {meth : Method} {c : Code} {D : va_G} {cy : Nat → ClassId} {A : Nat → Prop} {o : Nat} {q : Nat → Nat} (x1 : Int32) (x5 : Int32) (x9 : Int32) (S : MS) {Q : Int32 → MS → Prop} (C : Cx p s m args meth c cX9_lays 15 (some .int) wsX9_lays RX9 D cy nestWs A) (h : w9_lays_b392 x1 x5 x9 S Q) {H : Heap} {locs : List Loc} (hG : GW D A s (w9 o q cy S) H locs) {ls : Array Slot} (hl : lv_has ls 15 [(0, .ref o), (1, .int x1), (5, .int x5), (9, .int x9)]) : W p l e ({ frames := 5, cells := 0, slots := 0, locals := 118 } : Room) s m args below meth c H locs 0 0 (MQ below (va_Qi Q (B1 D (w9 o q cy) A) A) args s 0 0 A) (F0 m 392 ls []) := by
  have hx := C.1
  have hb := C.2.1
  unfold w9_lays_b392 at h
  refine lv_iconst (v := 0) hx hb dX9_lays_392 (by decide) ?_
  exact b9_lays_b393 x1 x5 x9 (0 : Int32) S C h hG hl
def w9_lays_b308 (K279 : Int32 → Int32 → Prop) (x1 : Int32) (x5 : Int32) (x6 : Int32) (x7 : Int64) (x10 : Int32) (t0 : Int32) (S : MS) (Q : Int32 → MS → Prop) : Prop :=
  ∀ y1 : Int32, y1 = x10 + 1 → K279 t0 y1
set_option maxHeartbeats 4000000 in
set_option maxRecDepth 100000 in
theorem b9_lays_b308 {p : Program} {l : Launch} {e : Env} {s : State} {m : MethodId} {args : Array Value} {below : List Frame} {meth : Method} {c : Code} {D : va_G} {cy : Nat → ClassId} {A : Nat → Prop} {o : Nat} {q : Nat → Nat} {K279 : Int32 → Int32 → Prop} (x1 : Int32) (x5 : Int32) (x6 : Int32) (x7 : Int64) (x10 : Int32) (t0 : Int32) (S : MS) {Q : Int32 → MS → Prop} (C : Cx p s m args meth c cX9_lays 15 (some .int) wsX9_lays RX9 D cy nestWs A) (hK279 : ∀ (x9 : Int32) (x10 : Int32) (H : Heap) (locs : List Loc) (ls : Array Slot), K279 x9 x10 → GW D A s (w9 o q cy S) H locs → lv_has ls 15 [(0, .ref o), (1, .int x1), (5, .int x5), (6, .int x6), (7, .long x7), (9, .int x9), (10, .int x10)] → W p l e ({ frames := 5, cells := 0, slots := 0, locals := 118 } : Room) s m args below meth c H locs 0 0 (MQ below (va_Qi Q (B1 D (w9 o q cy) A) A) args s 0 0 A) (F0 m 279 ls [])) (h : w9_lays_b308 K279 x1 x5 x6 x7 x10 t0 S Q) {H : Heap} {locs : List Loc} (hG : GW D A s (w9 o q cy S) H locs) {ls : Array Slot} (hl : lv_has ls 15 [(0, .ref o), (1, .int x1), (5, .int x5), (6, .int x6), (7, .long x7), (10, .int x10)]) : W p l e ({ frames := 5, cells := 0, slots := 0, locals := 118 } : Room) s m args below meth c H locs 0 0 (MQ below (va_Qi Q (B1 D (w9 o q cy) A) A) args s 0 0 A) (F0 m 308 ls [.int t0]) := by
  have hx := C.1
  have hb := C.2.1
  unfold w9_lays_b308 at h
  refine lv_istore (lv' := [(9, .int t0), (0, .ref o), (1, .int x1), (5, .int x5), (6, .int x6), (7, .long x7), (10, .int x10)]) hx hb dX9_lays_308 hl (by decide) rfl (fun ls hl => ?_)
  obtain ⟨y1, ey1⟩ : ∃ y : Int32, y = x10 + 1 := ⟨_, rfl⟩
  replace h := h y1 ey1
  refine lv_iinc (v := y1) (lv' := [(10, .int y1), (9, .int t0), (0, .ref o), (1, .int x1), (5, .int x5), (6, .int x6), (7, .long x7)]) hx hb dX9_lays_310 hl (k := 6) rfl (by rw [ey1]; rfl) (by decide) rfl (fun ls hl => ?_)
  refine lv_goto (tgt := 279) hx hb dX9_lays_313 (by decide) ?_
  exact hK279 t0 y1 _ _ _ h hG (lv_sub hl [2, 3, 4, 5, 6, 1, 0] rfl)
def w9_lays_d279 (K279 : Int32 → Int32 → Prop) (x1 : Int32) (x5 : Int32) (x6 : Int32) (x7 : Int64) (x9 : Int32) (x10 : Int32) (S : MS) (Q : Int32 → MS → Prop) : Prop :=
  ((x6 ≤ x10 → vp_in x9 24 ∧ w9_isFolded x7 x1 x9 (rA S 16 x9) S (fun r3 S4 => ((¬ r3 = 0 → vp_in x5 6 ∧ ∀ S7 : MS, S7 = sL S4 3 x5 x7 → vp_in ((3 : Int32) * x1) 12 ∧ vp_in (((3 : Int32) * x1) + (1 : Int32)) 12 ∧ ((¬ (rA S7 7 ((3 : Int32) * x1)) = (rA S7 7 (((3 : Int32) * x1) + (1 : Int32))) → w9_lays_b392 x1 x5 x9 S7 Q) ∧ ((rA S7 7 ((3 : Int32) * x1)) = (rA S7 7 (((3 : Int32) * x1) + (1 : Int32))) → vp_in (((3 : Int32) * x1) + (2 : Int32)) 12 ∧ ((¬ (rA S7 7 ((3 : Int32) * x1)) = (rA S7 7 (((3 : Int32) * x1) + (2 : Int32))) → w9_lays_b392 x1 x5 x9 S7 Q) ∧ ((rA S7 7 ((3 : Int32) * x1)) = (rA S7 7 (((3 : Int32) * x1) + (2 : Int32))) → w9_lays_b393 x1 x5 x9 (1 : Int32) S7 Q))))) ∧ (r3 = 0 → Q (1 : Int32) S4)))) ∧ (¬ x6 ≤ x10 → vp_in x10 24 ∧ w9_leastOf x7 (fun r14 => ((¬ (rA S 15 x10) = r14 → w9_lays_b308 K279 x1 x5 x6 x7 x10 x9 S Q) ∧ ((rA S 15 x10) = r14 → w9_lays_b308 K279 x1 x5 x6 x7 x10 x10 S Q)))))
set_option maxHeartbeats 4000000 in
set_option maxRecDepth 100000 in
theorem b9_lays_d279 {p : Program} {l : Launch} {e : Env} {s : State} {m : MethodId} {args : Array Value} {below : List Frame} {meth : Method} {c : Code} {D : va_G} {cy : Nat → ClassId} {A : Nat → Prop} {o : Nat} {q : Nat → Nat} {K279 : Int32 → Int32 → Prop} (x1 : Int32) (x5 : Int32) (x6 : Int32) (x7 : Int64) (x9 : Int32) (x10 : Int32) (S : MS) {Q : Int32 → MS → Prop} (C : Cx p s m args meth c cX9_lays 15 (some .int) wsX9_lays RX9 D cy nestWs A) (hK279 : ∀ (x9 : Int32) (x10 : Int32) (H : Heap) (locs : List Loc) (ls : Array Slot), K279 x9 x10 → GW D A s (w9 o q cy S) H locs → lv_has ls 15 [(0, .ref o), (1, .int x1), (5, .int x5), (6, .int x6), (7, .long x7), (9, .int x9), (10, .int x10)] → W p l e ({ frames := 5, cells := 0, slots := 0, locals := 118 } : Room) s m args below meth c H locs 0 0 (MQ below (va_Qi Q (B1 D (w9 o q cy) A) A) args s 0 0 A) (F0 m 279 ls [])) (h : w9_lays_d279 K279 x1 x5 x6 x7 x9 x10 S Q) {H : Heap} {locs : List Loc} (hG : GW D A s (w9 o q cy S) H locs) {ls : Array Slot} (hl : lv_has ls 15 [(0, .ref o), (1, .int x1), (5, .int x5), (6, .int x6), (7, .long x7), (9, .int x9), (10, .int x10)]) : W p l e ({ frames := 5, cells := 0, slots := 0, locals := 118 } : Room) s m args below meth c H locs 0 0 (MQ below (va_Qi Q (B1 D (w9 o q cy) A) A) args s 0 0 A) (F0 m 279 ls []) := by
  have hx := C.1
  have hb := C.2.1
  unfold w9_lays_d279 at h
  refine lv_iload hx hb dX9_lays_279 (lv_at hl 6 rfl) ?_
  refine lv_iload hx hb dX9_lays_281 (lv_at hl 3 rfl) ?_
  refine lv_icmp_ge (tgt := 316) hx hb dX9_lays_283 (by decide) (fun c1 => ?_) (fun c1 => ?_)
  · replace h := h.1 c1
    refine lv_aload_n hx hb dX9_lays_316 rfl (lv_at hl 0 rfl) ?_
    refine lv_lload hx hb dX9_lays_317 (lv_at hl 4 rfl) ?_
    refine lv_iload_n hx hb dX9_lays_319 rfl (lv_at hl 1 rfl) ?_
    refine lv_iload hx hb dX9_lays_320 (lv_at hl 5 rfl) ?_
    refine lv_aload_n hx hb dX9_lays_322 rfl (lv_at hl 0 rfl) ?_
    refine x9g_16 C i9_lays_X9 k9_lays_44 hG dX9_lays_323 ?_
    refine lv_iload hx hb dX9_lays_326 (lv_at hl 5 rfl) ?_
    obtain ⟨hv2, h⟩ := h
    refine x9l_16 C hG hv2 dX9_lays_328 ?_
    refine callVI (As := [.long x7, .int x1, .int x9, .int (rA S 16 x9)]) (rest := []) C hG (c9_isFolded l D cy o q x7 x1 x9 (rA S 16 x9) S _ h) 4 gX9_lays_X9_isFolded rfl (by decide +kernel) ⟨⟨Nat.le_of_ble_eq_true rfl, Nat.le_of_ble_eq_true rfl⟩, rfl, rfl⟩ rfl rfl (Foc.all C.2.2.2.2.2.2.2.2.1) rfl hl.1 rfl (Nat.le_of_ble_eq_true rfl) dX9_lays_329 ⟨Nat.zero_le _, Nat.zero_le _⟩ (fun r3 S4 H locs h hG => ?_)
    have hG : GW D A s (w9 o q cy S4) H locs := hG
    refine lv_if_ne (tgt := 337) hx hb dX9_lays_332 (by decide) (fun c5 => ?_) (fun c5 => ?_)
    · replace h := h.1 c5
      refine lv_aload_n hx hb dX9_lays_337 rfl (lv_at hl 0 rfl) ?_
      refine x9g_3 C i9_lays_X9 k9_lays_13 hG dX9_lays_338 ?_
      refine lv_iload hx hb dX9_lays_341 (lv_at hl 2 rfl) ?_
      refine lv_lload hx hb dX9_lays_343 (lv_at hl 4 rfl) ?_
      obtain ⟨hv6, h⟩ := h
      refine x9s_3 C hG hv6 dX9_lays_345 (fun S7 eS7 H locs hG => ?_)
      replace h := h S7 eS7
      refine lv_aload_n hx hb dX9_lays_346 rfl (lv_at hl 0 rfl) ?_
      refine x9g_7 C i9_lays_X9 k9_lays_26 hG dX9_lays_347 ?_
      refine lv_iconst (v := 3) hx hb dX9_lays_350 (by decide) ?_
      refine lv_iload_n hx hb dX9_lays_351 rfl (lv_at hl 1 rfl) ?_
      refine lv_imul hx hb dX9_lays_352 ?_
      obtain ⟨hv8, h⟩ := h
      refine x9l_7 C hG hv8 dX9_lays_353 ?_
      refine lv_aload_n hx hb dX9_lays_354 rfl (lv_at hl 0 rfl) ?_
      refine x9g_7 C i9_lays_X9 k9_lays_26 hG dX9_lays_355 ?_
      refine lv_iconst (v := 3) hx hb dX9_lays_358 (by decide) ?_
      refine lv_iload_n hx hb dX9_lays_359 rfl (lv_at hl 1 rfl) ?_
      refine lv_imul hx hb dX9_lays_360 ?_
      refine lv_iconst (v := 1) hx hb dX9_lays_361 (by decide) ?_
      refine lv_iadd hx hb dX9_lays_362 ?_
      obtain ⟨hv9, h⟩ := h
      refine x9l_7 C hG hv9 dX9_lays_363 ?_
      refine lv_icmp_ne (tgt := 392) hx hb dX9_lays_364 (by decide) (fun c10 => ?_) (fun c10 => ?_)
      · replace h := h.1 c10
        exact b9_lays_b392 x1 x5 x9 S7 C h hG (lv_sub hl [0, 1, 2, 5] rfl)
      · replace h := h.2 c10
        refine lv_aload_n hx hb dX9_lays_367 rfl (lv_at hl 0 rfl) ?_
        refine x9g_7 C i9_lays_X9 k9_lays_26 hG dX9_lays_368 ?_
        refine lv_iconst (v := 3) hx hb dX9_lays_371 (by decide) ?_
        refine lv_iload_n hx hb dX9_lays_372 rfl (lv_at hl 1 rfl) ?_
        refine lv_imul hx hb dX9_lays_373 ?_
        refine x9l_7 C hG hv8 dX9_lays_374 ?_
        refine lv_aload_n hx hb dX9_lays_375 rfl (lv_at hl 0 rfl) ?_
        refine x9g_7 C i9_lays_X9 k9_lays_26 hG dX9_lays_376 ?_
        refine lv_iconst (v := 3) hx hb dX9_lays_379 (by decide) ?_
        refine lv_iload_n hx hb dX9_lays_380 rfl (lv_at hl 1 rfl) ?_
        refine lv_imul hx hb dX9_lays_381 ?_
        refine lv_iconst (v := 2) hx hb dX9_lays_382 (by decide) ?_
        refine lv_iadd hx hb dX9_lays_383 ?_
        obtain ⟨hv11, h⟩ := h
        refine x9l_7 C hG hv11 dX9_lays_384 ?_
        refine lv_icmp_ne (tgt := 392) hx hb dX9_lays_385 (by decide) (fun c12 => ?_) (fun c12 => ?_)
        · replace h := h.1 c12
          exact b9_lays_b392 x1 x5 x9 S7 C h hG (lv_sub hl [0, 1, 2, 5] rfl)
        · replace h := h.2 c12
          refine lv_iconst (v := 1) hx hb dX9_lays_388 (by decide) ?_
          refine lv_goto (tgt := 393) hx hb dX9_lays_389 (by decide) ?_
          exact b9_lays_b393 x1 x5 x9 (1 : Int32) S7 C h hG (lv_sub hl [0, 1, 2, 5] rfl)
    · replace h := h.2 c5
      refine lv_iconst (v := 1) hx hb dX9_lays_335 (by decide) ?_
      exact retI (w := (w9 o q cy)) (S := S4) C hG h dX9_lays_336
  · replace h := h.2 c1
    refine lv_aload_n hx hb dX9_lays_286 rfl (lv_at hl 0 rfl) ?_
    refine x9g_15 C i9_lays_X9 k9_lays_41 hG dX9_lays_287 ?_
    refine lv_iload hx hb dX9_lays_290 (lv_at hl 6 rfl) ?_
    obtain ⟨hv13, h⟩ := h
    refine x9l_15 C hG hv13 dX9_lays_292 ?_
    refine lv_lload hx hb dX9_lays_293 (lv_at hl 4 rfl) ?_
    refine callSI (As := [.long x7]) (rest := [.int (rA S 15 x10)]) C hG (c9_leastOf l D cy x7 _ h) 1 gX9_lays_X9_leastOf rfl (by decide +kernel) ⟨⟨Nat.le_of_ble_eq_true rfl, Nat.le_of_ble_eq_true rfl⟩, rfl, rfl⟩ (Foc.none C.2.2.2.2.2.2.2.2.1) rfl hl.1 rfl (Nat.le_of_ble_eq_true rfl) dX9_lays_295 ⟨Nat.zero_le _, Nat.zero_le _⟩ (fun r14 z H locs h hG => ?_)
    refine lv_icmp_ne (tgt := 306) hx hb dX9_lays_298 (by decide) (fun c15 => ?_) (fun c15 => ?_)
    · replace h := h.1 c15
      refine lv_iload hx hb dX9_lays_306 (lv_at hl 5 rfl) ?_
      exact b9_lays_b308 (K279 := K279) x1 x5 x6 x7 x10 x9 S C hK279 h hG (lv_sub hl [0, 1, 2, 3, 4, 6] rfl)
    · replace h := h.2 c15
      refine lv_iload hx hb dX9_lays_301 (lv_at hl 6 rfl) ?_
      refine lv_goto (tgt := 308) hx hb dX9_lays_303 (by decide) ?_
      exact b9_lays_b308 (K279 := K279) x1 x5 x6 x7 x10 x10 S C hK279 h hG (lv_sub hl [0, 1, 2, 3, 4, 6] rfl)
def w9_lays_F279 (x1 : Int32) (x5 : Int32) (x6 : Int32) (x7 : Int64) (S : MS) (Q : Int32 → MS → Prop) (K : Int32 × Int32 → Prop) (a : Int32 × Int32) : Prop := w9_lays_d279 (fun y0 y1 => K (y0, y1)) x1 x5 x6 x7 a.1 a.2 S Q
def w9_lays_b279 (x1 : Int32) (x5 : Int32) (x6 : Int32) (x7 : Int64) (x9 : Int32) (x10 : Int32) (S : MS) (Q : Int32 → MS → Prop) : Prop := lp (w9_lays_F279 x1 x5 x6 x7 S Q) (x9, x10)
set_option maxHeartbeats 4000000 in
set_option maxRecDepth 100000 in
theorem b9_lays_b279 {p : Program} {l : Launch} {e : Env} {s : State} {m : MethodId} {args : Array Value} {below : List Frame} {meth : Method} {c : Code} {D : va_G} {cy : Nat → ClassId} {A : Nat → Prop} {o : Nat} {q : Nat → Nat} (x1 : Int32) (x5 : Int32) (x6 : Int32) (x7 : Int64) (x9 : Int32) (x10 : Int32) (S : MS) {Q : Int32 → MS → Prop} (C : Cx p s m args meth c cX9_lays 15 (some .int) wsX9_lays RX9 D cy nestWs A) (h : w9_lays_b279 x1 x5 x6 x7 x9 x10 S Q) {H : Heap} {locs : List Loc} (hG : GW D A s (w9 o q cy S) H locs) {ls : Array Slot} (hl : lv_has ls 15 [(0, .ref o), (1, .int x1), (5, .int x5), (6, .int x6), (7, .long x7), (9, .int x9), (10, .int x10)]) : W p l e ({ frames := 5, cells := 0, slots := 0, locals := 118 } : Room) s m args below meth c H locs 0 0 (MQ below (va_Qi Q (B1 D (w9 o q cy) A) A) args s 0 0 A) (F0 m 279 ls []) := by
  obtain ⟨k, hn⟩ := h
  induction k generalizing x9 x10 H locs ls with
  | zero => exact hn.elim
  | succ k ih => exact b9_lays_d279 (K279 := fun y0 y1 => itr (w9_lays_F279 x1 x5 x6 x7 S Q) k (y0, y1)) x1 x5 x6 x7 x9 x10 S C (fun x9 x10 H locs ls hk hG hl => ih x9 x10 hG hl hk) hn hG hl
def w9_lays_b248 (K113 : Int32 → Int64 → Int32 → MS → Prop) (x1 : Int32) (x4 : Int32) (x5 : Int32) (x6 : Int32) (x7 : Int64) (x9 : Int32) (x10 : Int32) (x11 : Int32) (x12 : Int32) (S : MS) (Q : Int32 → MS → Prop) : Prop :=
  ∀ y1 : Int32, y1 = x12 + 1 → K113 x6 x7 y1 S
set_option maxHeartbeats 4000000 in
set_option maxRecDepth 100000 in
theorem b9_lays_b248 {p : Program} {l : Launch} {e : Env} {s : State} {m : MethodId} {args : Array Value} {below : List Frame} {meth : Method} {c : Code} {D : va_G} {cy : Nat → ClassId} {A : Nat → Prop} {o : Nat} {q : Nat → Nat} {K113 : Int32 → Int64 → Int32 → MS → Prop} (x1 : Int32) (x4 : Int32) (x5 : Int32) (x6 : Int32) (x7 : Int64) (x9 : Int32) (x10 : Int32) (x11 : Int32) (x12 : Int32) (S : MS) {Q : Int32 → MS → Prop} (C : Cx p s m args meth c cX9_lays 15 (some .int) wsX9_lays RX9 D cy nestWs A) (hK113 : ∀ (x6 : Int32) (x7 : Int64) (x12 : Int32) (S : MS) (H : Heap) (locs : List Loc) (ls : Array Slot), K113 x6 x7 x12 S → GW D A s (w9 o q cy S) H locs → lv_has ls 15 [(0, .ref o), (1, .int x1), (4, .int x4), (5, .int x5), (6, .int x6), (7, .long x7), (9, .int x9), (10, .int x10), (11, .int x11), (12, .int x12)] → W p l e ({ frames := 5, cells := 0, slots := 0, locals := 118 } : Room) s m args below meth c H locs 0 0 (MQ below (va_Qi Q (B1 D (w9 o q cy) A) A) args s 0 0 A) (F0 m 113 ls [])) (h : w9_lays_b248 K113 x1 x4 x5 x6 x7 x9 x10 x11 x12 S Q) {H : Heap} {locs : List Loc} (hG : GW D A s (w9 o q cy S) H locs) {ls : Array Slot} (hl : lv_has ls 15 [(0, .ref o), (1, .int x1), (4, .int x4), (5, .int x5), (6, .int x6), (7, .long x7), (9, .int x9), (10, .int x10), (11, .int x11), (12, .int x12)]) : W p l e ({ frames := 5, cells := 0, slots := 0, locals := 118 } : Room) s m args below meth c H locs 0 0 (MQ below (va_Qi Q (B1 D (w9 o q cy) A) A) args s 0 0 A) (F0 m 248 ls []) := by
  have hx := C.1
  have hb := C.2.1
  unfold w9_lays_b248 at h
  obtain ⟨y1, ey1⟩ : ∃ y : Int32, y = x12 + 1 := ⟨_, rfl⟩
  replace h := h y1 ey1
  refine lv_iinc (v := y1) (lv' := [(12, .int y1), (0, .ref o), (1, .int x1), (4, .int x4), (5, .int x5), (6, .int x6), (7, .long x7), (9, .int x9), (10, .int x10), (11, .int x11)]) hx hb dX9_lays_248 hl (k := 9) rfl (by rw [ey1]; rfl) (by decide) rfl (fun ls hl => ?_)
  refine lv_goto (tgt := 113) hx hb dX9_lays_251 (by decide) ?_
  exact hK113 x6 x7 y1 S _ _ _ h hG (lv_sub hl [1, 2, 3, 4, 5, 6, 7, 8, 9, 0] rfl)
def w9_lays_b205 (S : MS) (Q : Int32 → MS → Prop) : Prop :=
  Q (0 : Int32) S
set_option maxHeartbeats 4000000 in
set_option maxRecDepth 100000 in
theorem b9_lays_b205 {p : Program} {l : Launch} {e : Env} {s : State} {m : MethodId} {args : Array Value} {below : List Frame} {meth : Method} {c : Code} {D : va_G} {cy : Nat → ClassId} {A : Nat → Prop} {o : Nat} {q : Nat → Nat} (S : MS) {Q : Int32 → MS → Prop} (C : Cx p s m args meth c cX9_lays 15 (some .int) wsX9_lays RX9 D cy nestWs A) (h : w9_lays_b205 S Q) {H : Heap} {locs : List Loc} (hG : GW D A s (w9 o q cy S) H locs) {ls : Array Slot} (hl : lv_has ls 15 [(0, .ref o)]) : W p l e ({ frames := 5, cells := 0, slots := 0, locals := 118 } : Room) s m args below meth c H locs 0 0 (MQ below (va_Qi Q (B1 D (w9 o q cy) A) A) args s 0 0 A) (F0 m 205 ls []) := by
  have hx := C.1
  have hb := C.2.1
  unfold w9_lays_b205 at h
  refine lv_iconst (v := 0) hx hb dX9_lays_205 (by decide) ?_
  exact retI (w := (w9 o q cy)) (S := S) C hG h dX9_lays_206
def w9_lays_d113 (K57 : Int32 → Int64 → Int32 → MS → Prop) (K113 : Int32 → Int64 → Int32 → MS → Prop) (x1 : Int32) (x4 : Int32) (x5 : Int32) (x6 : Int32) (x7 : Int64) (x9 : Int32) (x10 : Int32) (x11 : Int32) (x12 : Int32) (S : MS) (Q : Int32 → MS → Prop) : Prop :=
  (((4 : Int32) ≤ x12 → ∀ y2 : Int32, y2 = x9 + 1 → K57 x6 x7 y2 S) ∧ (¬ (4 : Int32) ≤ x12 → w9_goTo x1 x10 S (fun S3 => vp_in x10 24 ∧ w9_setFrame (rA S3 16 x10) S3 (fun S5 => w9_go x1 x12 S5 (fun S6 => w9_cellNow x1 S6 (fun r7 => ((¬ ((x11 >>> (x12 &&& 31)) &&& (1 : Int32)) = (1 : Int32) → w9_lays_b248 K113 x1 x4 x5 x6 x7 x9 x10 x11 x12 S6 Q) ∧ (((x11 >>> (x12 &&& 31)) &&& (1 : Int32)) = (1 : Int32) → vp_in r7 24 ∧ ((¬ (rA S6 15 r7) = (-9 : Int32) → w9_lays_b248 K113 x1 x4 x5 x6 x7 x9 x10 x11 x12 S6 Q) ∧ ((rA S6 15 r7) = (-9 : Int32) → w9_beside (rA S6 15 x10) x12 (fun r12 => ((r12 = (-9 : Int32) → w9_lays_b205 S6 Q) ∧ (¬ r12 = (-9 : Int32) → w9_has x7 r12 (fun r14 => ((r14 = 0 → ∀ S16 : MS, S16 = sA S6 15 r7 r12 → w9_turnNow S16 (fun r17 => ∀ S19 : MS, S19 = sA S16 16 r7 r17 → ∀ y20 : Int64, y20 = (x7 ||| ((1 : Int64) <<< (r12.toInt64 &&& 63))) → vp_in x6 24 ∧ ∀ S22 : MS, S22 = sA S19 14 x6 r7 → ∀ y23 : Int32, y23 = x6 + 1 → w9_lays_b248 K113 x1 x4 x5 y23 y20 x9 x10 x11 x12 S22 Q)) ∧ (¬ r14 = 0 → w9_lays_b205 S6 Q))))))))))))))))
set_option maxHeartbeats 4000000 in
set_option maxRecDepth 100000 in
theorem b9_lays_d113 {p : Program} {l : Launch} {e : Env} {s : State} {m : MethodId} {args : Array Value} {below : List Frame} {meth : Method} {c : Code} {D : va_G} {cy : Nat → ClassId} {A : Nat → Prop} {o : Nat} {q : Nat → Nat} {K57 : Int32 → Int64 → Int32 → MS → Prop} {K113 : Int32 → Int64 → Int32 → MS → Prop} (x1 : Int32) (x4 : Int32) (x5 : Int32) (x6 : Int32) (x7 : Int64) (x9 : Int32) (x10 : Int32) (x11 : Int32) (x12 : Int32) (S : MS) {Q : Int32 → MS → Prop} (C : Cx p s m args meth c cX9_lays 15 (some .int) wsX9_lays RX9 D cy nestWs A) (hK57 : ∀ (x6 : Int32) (x7 : Int64) (x9 : Int32) (S : MS) (H : Heap) (locs : List Loc) (ls : Array Slot), K57 x6 x7 x9 S → GW D A s (w9 o q cy S) H locs → lv_has ls 15 [(0, .ref o), (1, .int x1), (4, .int x4), (5, .int x5), (6, .int x6), (7, .long x7), (9, .int x9)] → W p l e ({ frames := 5, cells := 0, slots := 0, locals := 118 } : Room) s m args below meth c H locs 0 0 (MQ below (va_Qi Q (B1 D (w9 o q cy) A) A) args s 0 0 A) (F0 m 57 ls [])) (hK113 : ∀ (x6 : Int32) (x7 : Int64) (x12 : Int32) (S : MS) (H : Heap) (locs : List Loc) (ls : Array Slot), K113 x6 x7 x12 S → GW D A s (w9 o q cy S) H locs → lv_has ls 15 [(0, .ref o), (1, .int x1), (4, .int x4), (5, .int x5), (6, .int x6), (7, .long x7), (9, .int x9), (10, .int x10), (11, .int x11), (12, .int x12)] → W p l e ({ frames := 5, cells := 0, slots := 0, locals := 118 } : Room) s m args below meth c H locs 0 0 (MQ below (va_Qi Q (B1 D (w9 o q cy) A) A) args s 0 0 A) (F0 m 113 ls [])) (h : w9_lays_d113 K57 K113 x1 x4 x5 x6 x7 x9 x10 x11 x12 S Q) {H : Heap} {locs : List Loc} (hG : GW D A s (w9 o q cy S) H locs) {ls : Array Slot} (hl : lv_has ls 15 [(0, .ref o), (1, .int x1), (4, .int x4), (5, .int x5), (6, .int x6), (7, .long x7), (9, .int x9), (10, .int x10), (11, .int x11), (12, .int x12)]) : W p l e ({ frames := 5, cells := 0, slots := 0, locals := 118 } : Room) s m args below meth c H locs 0 0 (MQ below (va_Qi Q (B1 D (w9 o q cy) A) A) args s 0 0 A) (F0 m 113 ls []) := by
  have hx := C.1
  have hb := C.2.1
  unfold w9_lays_d113 at h
  refine lv_iload hx hb dX9_lays_113 (lv_at hl 9 rfl) ?_
  refine lv_iconst (v := 4) hx hb dX9_lays_115 (by decide) ?_
  refine lv_icmp_ge (tgt := 254) hx hb dX9_lays_116 (by decide) (fun c1 => ?_) (fun c1 => ?_)
  · replace h := h.1 c1
    obtain ⟨y2, ey2⟩ : ∃ y : Int32, y = x9 + 1 := ⟨_, rfl⟩
    replace h := h y2 ey2
    refine lv_iinc (v := y2) (lv' := [(9, .int y2), (0, .ref o), (1, .int x1), (4, .int x4), (5, .int x5), (6, .int x6), (7, .long x7), (10, .int x10), (11, .int x11), (12, .int x12)]) hx hb dX9_lays_254 hl (k := 6) rfl (by rw [ey2]; rfl) (by decide) rfl (fun ls hl => ?_)
    refine lv_goto (tgt := 57) hx hb dX9_lays_257 (by decide) ?_
    exact hK57 x6 x7 y2 S _ _ _ h hG (lv_sub hl [1, 2, 3, 4, 5, 6, 0] rfl)
  · replace h := h.2 c1
    refine lv_aload_n hx hb dX9_lays_119 rfl (lv_at hl 0 rfl) ?_
    refine lv_iload_n hx hb dX9_lays_120 rfl (lv_at hl 1 rfl) ?_
    refine lv_iload hx hb dX9_lays_121 (lv_at hl 7 rfl) ?_
    refine callVV (As := [.int x1, .int x10]) (rest := []) C hG (c9_goTo l D cy o q x1 x10 S _ h) 2 gX9_lays_X9_goTo rfl (by decide +kernel) ⟨⟨Nat.le_of_ble_eq_true rfl, Nat.le_of_ble_eq_true rfl⟩, rfl, rfl⟩ rfl rfl (Foc.all C.2.2.2.2.2.2.2.2.1) rfl hl.1 rfl (Nat.le_of_ble_eq_true rfl) dX9_lays_123 ⟨Nat.zero_le _, Nat.zero_le _⟩ (fun  S3 H locs h hG => ?_)
    have hG : GW D A s (w9 o q cy S3) H locs := hG
    refine lv_aload_n hx hb dX9_lays_126 rfl (lv_at hl 0 rfl) ?_
    refine lv_aload_n hx hb dX9_lays_127 rfl (lv_at hl 0 rfl) ?_
    refine x9g_16 C i9_lays_X9 k9_lays_44 hG dX9_lays_128 ?_
    refine lv_iload hx hb dX9_lays_131 (lv_at hl 7 rfl) ?_
    obtain ⟨hv4, h⟩ := h
    refine x9l_16 C hG hv4 dX9_lays_133 ?_
    refine callVV (As := [.int (rA S3 16 x10)]) (rest := []) C hG (c9_setFrame l D cy o q (rA S3 16 x10) S3 _ h) 1 gX9_lays_X9_setFrame rfl (by decide +kernel) ⟨⟨Nat.le_of_ble_eq_true rfl, Nat.le_of_ble_eq_true rfl⟩, rfl, rfl⟩ rfl rfl (Foc.all C.2.2.2.2.2.2.2.2.1) rfl hl.1 rfl (Nat.le_of_ble_eq_true rfl) dX9_lays_134 ⟨Nat.zero_le _, Nat.zero_le _⟩ (fun  S5 H locs h hG => ?_)
    have hG : GW D A s (w9 o q cy S5) H locs := hG
    refine lv_aload_n hx hb dX9_lays_137 rfl (lv_at hl 0 rfl) ?_
    refine lv_iload_n hx hb dX9_lays_138 rfl (lv_at hl 1 rfl) ?_
    refine lv_iload hx hb dX9_lays_139 (lv_at hl 9 rfl) ?_
    refine callVV (As := [.int x1, .int x12]) (rest := []) C hG (c9_go l D cy o q x1 x12 S5 _ h) 2 gX9_lays_X9_go rfl (by decide +kernel) ⟨⟨Nat.le_of_ble_eq_true rfl, Nat.le_of_ble_eq_true rfl⟩, rfl, rfl⟩ rfl rfl (Foc.all C.2.2.2.2.2.2.2.2.1) rfl hl.1 rfl (Nat.le_of_ble_eq_true rfl) dX9_lays_141 ⟨Nat.zero_le _, Nat.zero_le _⟩ (fun  S6 H locs h hG => ?_)
    have hG : GW D A s (w9 o q cy S6) H locs := hG
    refine lv_aload_n hx hb dX9_lays_144 rfl (lv_at hl 0 rfl) ?_
    refine lv_iload_n hx hb dX9_lays_145 rfl (lv_at hl 1 rfl) ?_
    refine callVI (As := [.int x1]) (rest := []) C hG (c9_cellNow l D cy o q x1 S6 _ h) 1 gX9_lays_X9_cellNow rfl (by decide +kernel) ⟨⟨Nat.le_of_ble_eq_true rfl, Nat.le_of_ble_eq_true rfl⟩, rfl, rfl⟩ rfl rfl (Foc.all C.2.2.2.2.2.2.2.2.1) rfl hl.1 rfl (Nat.le_of_ble_eq_true rfl) dX9_lays_146 ⟨Nat.zero_le _, Nat.zero_le _⟩ (fun r7 u8 H locs h hG => ?_)
    obtain ⟨eu8, h⟩ := h
    have eu8 : u8 = S6 := eu8
    subst u8
    have hG : GW D A s (w9 o q cy S6) H locs := hG
    refine lv_istore (lv' := [(13, .int r7), (0, .ref o), (1, .int x1), (4, .int x4), (5, .int x5), (6, .int x6), (7, .long x7), (9, .int x9), (10, .int x10), (11, .int x11), (12, .int x12)]) hx hb dX9_lays_149 hl (by decide) rfl (fun ls hl => ?_)
    refine lv_iload hx hb dX9_lays_151 (lv_at hl 9 rfl) ?_
    refine lv_iload hx hb dX9_lays_153 (lv_at hl 10 rfl) ?_
    refine lv_ishr hx hb dX9_lays_155 ?_
    refine lv_iconst (v := 1) hx hb dX9_lays_156 (by decide) ?_
    refine lv_iand hx hb dX9_lays_157 ?_
    refine lv_iconst (v := 1) hx hb dX9_lays_158 (by decide) ?_
    refine lv_icmp_ne (tgt := 248) hx hb dX9_lays_159 (by decide) (fun c9 => ?_) (fun c9 => ?_)
    · replace h := h.1 c9
      exact b9_lays_b248 (K113 := K113) x1 x4 x5 x6 x7 x9 x10 x11 x12 S6 C hK113 h hG (lv_sub hl [1, 2, 3, 4, 5, 6, 7, 8, 9, 10] rfl)
    · replace h := h.2 c9
      refine lv_aload_n hx hb dX9_lays_162 rfl (lv_at hl 1 rfl) ?_
      refine x9g_15 C i9_lays_X9 k9_lays_41 hG dX9_lays_163 ?_
      refine lv_iload hx hb dX9_lays_166 (lv_at hl 0 rfl) ?_
      obtain ⟨hv10, h⟩ := h
      refine x9l_15 C hG hv10 dX9_lays_168 ?_
      refine lv_bipush (v := -9) hx hb dX9_lays_169 (by decide) ?_
      refine lv_icmp_ne (tgt := 248) hx hb dX9_lays_171 (by decide) (fun c11 => ?_) (fun c11 => ?_)
      · replace h := h.1 c11
        exact b9_lays_b248 (K113 := K113) x1 x4 x5 x6 x7 x9 x10 x11 x12 S6 C hK113 h hG (lv_sub hl [1, 2, 3, 4, 5, 6, 7, 8, 9, 10] rfl)
      · replace h := h.2 c11
        refine lv_aload_n hx hb dX9_lays_174 rfl (lv_at hl 1 rfl) ?_
        refine x9g_15 C i9_lays_X9 k9_lays_41 hG dX9_lays_175 ?_
        refine lv_iload hx hb dX9_lays_178 (lv_at hl 8 rfl) ?_
        refine x9l_15 C hG hv4 dX9_lays_180 ?_
        refine lv_iload hx hb dX9_lays_181 (lv_at hl 10 rfl) ?_
        refine callSI (As := [.int (rA S6 15 x10), .int x12]) (rest := []) C hG (c9_beside l D cy (rA S6 15 x10) x12 _ h) 2 gX9_lays_X9_beside rfl (by decide +kernel) ⟨⟨Nat.le_of_ble_eq_true rfl, Nat.le_of_ble_eq_true rfl⟩, rfl, rfl⟩ (Foc.none C.2.2.2.2.2.2.2.2.1) rfl hl.1 rfl (Nat.le_of_ble_eq_true rfl) dX9_lays_183 ⟨Nat.zero_le _, Nat.zero_le _⟩ (fun r12 z H locs h hG => ?_)
        refine lv_istore (lv' := [(14, .int r12), (13, .int r7), (0, .ref o), (1, .int x1), (4, .int x4), (5, .int x5), (6, .int x6), (7, .long x7), (9, .int x9), (10, .int x10), (11, .int x11), (12, .int x12)]) hx hb dX9_lays_186 hl (by decide) rfl (fun ls hl => ?_)
        refine lv_iload hx hb dX9_lays_188 (lv_at hl 0 rfl) ?_
        refine lv_bipush (v := -9) hx hb dX9_lays_190 (by decide) ?_
        refine lv_icmp_eq (tgt := 205) hx hb dX9_lays_192 (by decide) (fun c13 => ?_) (fun c13 => ?_)
        · replace h := h.1 c13
          exact b9_lays_b205 S6 C h hG (lv_sub hl [2] rfl)
        · replace h := h.2 c13
          refine lv_lload hx hb dX9_lays_195 (lv_at hl 7 rfl) ?_
          refine lv_iload hx hb dX9_lays_197 (lv_at hl 0 rfl) ?_
          refine callSI (As := [.long x7, .int r12]) (rest := []) C hG (c9_has l D cy x7 r12 _ h) 2 gX9_lays_X9_has rfl (by decide +kernel) ⟨⟨Nat.le_of_ble_eq_true rfl, Nat.le_of_ble_eq_true rfl⟩, rfl, rfl⟩ (Foc.none C.2.2.2.2.2.2.2.2.1) rfl hl.1 rfl (Nat.le_of_ble_eq_true rfl) dX9_lays_199 ⟨Nat.zero_le _, Nat.zero_le _⟩ (fun r14 z H locs h hG => ?_)
          refine lv_if_eq (tgt := 207) hx hb dX9_lays_202 (by decide) (fun c15 => ?_) (fun c15 => ?_)
          · replace h := h.1 c15
            refine lv_aload_n hx hb dX9_lays_207 rfl (lv_at hl 2 rfl) ?_
            refine x9g_15 C i9_lays_X9 k9_lays_41 hG dX9_lays_208 ?_
            refine lv_iload hx hb dX9_lays_211 (lv_at hl 1 rfl) ?_
            refine lv_iload hx hb dX9_lays_213 (lv_at hl 0 rfl) ?_
            refine x9s_15 C hG hv10 dX9_lays_215 (fun S16 eS16 H locs hG => ?_)
            replace h := h S16 eS16
            refine lv_aload_n hx hb dX9_lays_216 rfl (lv_at hl 2 rfl) ?_
            refine x9g_16 C i9_lays_X9 k9_lays_44 hG dX9_lays_217 ?_
            refine lv_iload hx hb dX9_lays_220 (lv_at hl 1 rfl) ?_
            refine lv_aload_n hx hb dX9_lays_222 rfl (lv_at hl 2 rfl) ?_
            refine callVI (As := []) (rest := [.int r7, .ref (q 16)]) C hG (c9_turnNow l D cy o q S16 _ h) 0 gX9_lays_X9_turnNow rfl (by decide +kernel) ⟨⟨Nat.le_of_ble_eq_true rfl, Nat.le_of_ble_eq_true rfl⟩, rfl, rfl⟩ rfl rfl (Foc.all C.2.2.2.2.2.2.2.2.1) rfl hl.1 rfl (Nat.le_of_ble_eq_true rfl) dX9_lays_223 ⟨Nat.zero_le _, Nat.zero_le _⟩ (fun r17 u18 H locs h hG => ?_)
            obtain ⟨eu18, h⟩ := h
            have eu18 : u18 = S16 := eu18
            subst u18
            have hG : GW D A s (w9 o q cy S16) H locs := hG
            refine x9s_16 C hG hv10 dX9_lays_226 (fun S19 eS19 H locs hG => ?_)
            replace h := h S19 eS19
            refine lv_lload hx hb dX9_lays_227 (lv_at hl 7 rfl) ?_
            refine lv_lconst (v := 1) hx hb dX9_lays_229 (by decide) ?_
            refine lv_iload hx hb dX9_lays_230 (lv_at hl 0 rfl) ?_
            refine lv_lshl hx hb dX9_lays_232 rfl ?_
            refine lv_lor hx hb dX9_lays_233 ?_
            refine lv_topl (fun y20 ey20 => ?_)
            replace h := h y20 ey20
            refine lv_lstore (lv' := [(7, .long y20), (14, .int r12), (13, .int r7), (0, .ref o), (1, .int x1), (4, .int x4), (5, .int x5), (6, .int x6), (9, .int x9), (10, .int x10), (11, .int x11), (12, .int x12)]) hx hb dX9_lays_234 hl (by decide) rfl (fun ls hl => ?_)
            refine lv_aload_n hx hb dX9_lays_236 rfl (lv_at hl 3 rfl) ?_
            refine x9g_14 C i9_lays_X9 k9_lays_38 hG dX9_lays_237 ?_
            refine lv_iload hx hb dX9_lays_240 (lv_at hl 7 rfl) ?_
            refine lv_iload hx hb dX9_lays_242 (lv_at hl 2 rfl) ?_
            obtain ⟨hv21, h⟩ := h
            refine x9s_14 C hG hv21 dX9_lays_244 (fun S22 eS22 H locs hG => ?_)
            replace h := h S22 eS22
            obtain ⟨y23, ey23⟩ : ∃ y : Int32, y = x6 + 1 := ⟨_, rfl⟩
            replace h := h y23 ey23
            refine lv_iinc (v := y23) (lv' := [(6, .int y23), (7, .long y20), (14, .int r12), (13, .int r7), (0, .ref o), (1, .int x1), (4, .int x4), (5, .int x5), (9, .int x9), (10, .int x10), (11, .int x11), (12, .int x12)]) hx hb dX9_lays_245 hl (k := 7) rfl (by rw [ey23]; rfl) (by decide) rfl (fun ls hl => ?_)
            exact b9_lays_b248 (K113 := K113) x1 x4 x5 y23 y20 x9 x10 x11 x12 S22 C hK113 h hG (lv_sub hl [4, 5, 6, 7, 0, 1, 8, 9, 10, 11] rfl)
          · replace h := h.2 c15
            exact b9_lays_b205 S6 C h hG (lv_sub hl [2] rfl)
def w9_lays_F113 (K57 : Int32 → Int64 → Int32 → MS → Prop) (x1 : Int32) (x4 : Int32) (x5 : Int32) (x9 : Int32) (x10 : Int32) (x11 : Int32) (Q : Int32 → MS → Prop) (K : Int32 × Int64 × Int32 × MS → Prop) (a : Int32 × Int64 × Int32 × MS) : Prop := w9_lays_d113 K57 (fun y0 y1 y2 y3 => K (y0, y1, y2, y3)) x1 x4 x5 a.1 a.2.1 x9 x10 x11 a.2.2.1 a.2.2.2 Q
def w9_lays_b113 (K57 : Int32 → Int64 → Int32 → MS → Prop) (x1 : Int32) (x4 : Int32) (x5 : Int32) (x6 : Int32) (x7 : Int64) (x9 : Int32) (x10 : Int32) (x11 : Int32) (x12 : Int32) (S : MS) (Q : Int32 → MS → Prop) : Prop := lp (w9_lays_F113 K57 x1 x4 x5 x9 x10 x11 Q) (x6, x7, x12, S)
set_option maxHeartbeats 4000000 in
set_option maxRecDepth 100000 in
theorem b9_lays_b113 {p : Program} {l : Launch} {e : Env} {s : State} {m : MethodId} {args : Array Value} {below : List Frame} {meth : Method} {c : Code} {D : va_G} {cy : Nat → ClassId} {A : Nat → Prop} {o : Nat} {q : Nat → Nat} {K57 : Int32 → Int64 → Int32 → MS → Prop} (x1 : Int32) (x4 : Int32) (x5 : Int32) (x6 : Int32) (x7 : Int64) (x9 : Int32) (x10 : Int32) (x11 : Int32) (x12 : Int32) (S : MS) {Q : Int32 → MS → Prop} (C : Cx p s m args meth c cX9_lays 15 (some .int) wsX9_lays RX9 D cy nestWs A) (hK57 : ∀ (x6 : Int32) (x7 : Int64) (x9 : Int32) (S : MS) (H : Heap) (locs : List Loc) (ls : Array Slot), K57 x6 x7 x9 S → GW D A s (w9 o q cy S) H locs → lv_has ls 15 [(0, .ref o), (1, .int x1), (4, .int x4), (5, .int x5), (6, .int x6), (7, .long x7), (9, .int x9)] → W p l e ({ frames := 5, cells := 0, slots := 0, locals := 118 } : Room) s m args below meth c H locs 0 0 (MQ below (va_Qi Q (B1 D (w9 o q cy) A) A) args s 0 0 A) (F0 m 57 ls [])) (h : w9_lays_b113 K57 x1 x4 x5 x6 x7 x9 x10 x11 x12 S Q) {H : Heap} {locs : List Loc} (hG : GW D A s (w9 o q cy S) H locs) {ls : Array Slot} (hl : lv_has ls 15 [(0, .ref o), (1, .int x1), (4, .int x4), (5, .int x5), (6, .int x6), (7, .long x7), (9, .int x9), (10, .int x10), (11, .int x11), (12, .int x12)]) : W p l e ({ frames := 5, cells := 0, slots := 0, locals := 118 } : Room) s m args below meth c H locs 0 0 (MQ below (va_Qi Q (B1 D (w9 o q cy) A) A) args s 0 0 A) (F0 m 113 ls []) := by
  obtain ⟨k, hn⟩ := h
  induction k generalizing x6 x7 x12 S H locs ls with
  | zero => exact hn.elim
  | succ k ih => exact b9_lays_d113 (K57 := K57) (K113 := fun y0 y1 y2 y3 => itr (w9_lays_F113 K57 x1 x4 x5 x9 x10 x11 Q) k (y0, y1, y2, y3)) x1 x4 x5 x6 x7 x9 x10 x11 x12 S C hK57 (fun x6 x7 x12 S H locs ls hk hG hl => ih x6 x7 x12 S hG hl hk) hn hG hl
def w9_lays_b108 (K57 : Int32 → Int64 → Int32 → MS → Prop) (x1 : Int32) (x4 : Int32) (x5 : Int32) (x6 : Int32) (x7 : Int64) (x9 : Int32) (x10 : Int32) (t0 : Int32) (S : MS) (Q : Int32 → MS → Prop) : Prop :=
  w9_lays_b113 K57 x1 x4 x5 x6 x7 x9 x10 t0 (0 : Int32) S Q
set_option maxHeartbeats 4000000 in
set_option maxRecDepth 100000 in
theorem b9_lays_b108 {p : Program} {l : Launch} {e : Env} {s : State} {m : MethodId} {args : Array Value} {below : List Frame} {meth : Method} {c : Code} {D : va_G} {cy : Nat → ClassId} {A : Nat → Prop} {o : Nat} {q : Nat → Nat} {K57 : Int32 → Int64 → Int32 → MS → Prop} (x1 : Int32) (x4 : Int32) (x5 : Int32) (x6 : Int32) (x7 : Int64) (x9 : Int32) (x10 : Int32) (t0 : Int32) (S : MS) {Q : Int32 → MS → Prop} (C : Cx p s m args meth c cX9_lays 15 (some .int) wsX9_lays RX9 D cy nestWs A) (hK57 : ∀ (x6 : Int32) (x7 : Int64) (x9 : Int32) (S : MS) (H : Heap) (locs : List Loc) (ls : Array Slot), K57 x6 x7 x9 S → GW D A s (w9 o q cy S) H locs → lv_has ls 15 [(0, .ref o), (1, .int x1), (4, .int x4), (5, .int x5), (6, .int x6), (7, .long x7), (9, .int x9)] → W p l e ({ frames := 5, cells := 0, slots := 0, locals := 118 } : Room) s m args below meth c H locs 0 0 (MQ below (va_Qi Q (B1 D (w9 o q cy) A) A) args s 0 0 A) (F0 m 57 ls [])) (h : w9_lays_b108 K57 x1 x4 x5 x6 x7 x9 x10 t0 S Q) {H : Heap} {locs : List Loc} (hG : GW D A s (w9 o q cy S) H locs) {ls : Array Slot} (hl : lv_has ls 15 [(0, .ref o), (1, .int x1), (4, .int x4), (5, .int x5), (6, .int x6), (7, .long x7), (9, .int x9), (10, .int x10)]) : W p l e ({ frames := 5, cells := 0, slots := 0, locals := 118 } : Room) s m args below meth c H locs 0 0 (MQ below (va_Qi Q (B1 D (w9 o q cy) A) A) args s 0 0 A) (F0 m 108 ls [.int t0]) := by
  have hx := C.1
  have hb := C.2.1
  unfold w9_lays_b108 at h
  refine lv_istore (lv' := [(11, .int t0), (0, .ref o), (1, .int x1), (4, .int x4), (5, .int x5), (6, .int x6), (7, .long x7), (9, .int x9), (10, .int x10)]) hx hb dX9_lays_108 hl (by decide) rfl (fun ls hl => ?_)
  refine lv_iconst (v := 0) hx hb dX9_lays_110 (by decide) ?_
  refine lv_istore (lv' := [(12, .int (0 : Int32)), (11, .int t0), (0, .ref o), (1, .int x1), (4, .int x4), (5, .int x5), (6, .int x6), (7, .long x7), (9, .int x9), (10, .int x10)]) hx hb dX9_lays_111 hl (by decide) rfl (fun ls hl => ?_)
  exact b9_lays_b113 (K57 := K57) x1 x4 x5 x6 x7 x9 x10 t0 (0 : Int32) S C hK57 h hG (lv_sub hl [2, 3, 4, 5, 6, 7, 8, 9, 1, 0] rfl)
def w9_lays_b106 (K57 : Int32 → Int64 → Int32 → MS → Prop) (x1 : Int32) (x4 : Int32) (x5 : Int32) (x6 : Int32) (x7 : Int64) (x9 : Int32) (x10 : Int32) (S : MS) (Q : Int32 → MS → Prop) : Prop :=
  w9_lays_b108 K57 x1 x4 x5 x6 x7 x9 x10 (15 : Int32) S Q
set_option maxHeartbeats 4000000 in
set_option maxRecDepth 100000 in
theorem b9_lays_b106 {p : Program} {l : Launch} {e : Env} {s : State} {m : MethodId} {args : Array Value} {below : List Frame} {meth : Method} {c : Code} {D : va_G} {cy : Nat → ClassId} {A : Nat → Prop} {o : Nat} {q : Nat → Nat} {K57 : Int32 → Int64 → Int32 → MS → Prop} (x1 : Int32) (x4 : Int32) (x5 : Int32) (x6 : Int32) (x7 : Int64) (x9 : Int32) (x10 : Int32) (S : MS) {Q : Int32 → MS → Prop} (C : Cx p s m args meth c cX9_lays 15 (some .int) wsX9_lays RX9 D cy nestWs A) (hK57 : ∀ (x6 : Int32) (x7 : Int64) (x9 : Int32) (S : MS) (H : Heap) (locs : List Loc) (ls : Array Slot), K57 x6 x7 x9 S → GW D A s (w9 o q cy S) H locs → lv_has ls 15 [(0, .ref o), (1, .int x1), (4, .int x4), (5, .int x5), (6, .int x6), (7, .long x7), (9, .int x9)] → W p l e ({ frames := 5, cells := 0, slots := 0, locals := 118 } : Room) s m args below meth c H locs 0 0 (MQ below (va_Qi Q (B1 D (w9 o q cy) A) A) args s 0 0 A) (F0 m 57 ls [])) (h : w9_lays_b106 K57 x1 x4 x5 x6 x7 x9 x10 S Q) {H : Heap} {locs : List Loc} (hG : GW D A s (w9 o q cy S) H locs) {ls : Array Slot} (hl : lv_has ls 15 [(0, .ref o), (1, .int x1), (4, .int x4), (5, .int x5), (6, .int x6), (7, .long x7), (9, .int x9), (10, .int x10)]) : W p l e ({ frames := 5, cells := 0, slots := 0, locals := 118 } : Room) s m args below meth c H locs 0 0 (MQ below (va_Qi Q (B1 D (w9 o q cy) A) A) args s 0 0 A) (F0 m 106 ls []) := by
  have hx := C.1
  have hb := C.2.1
  unfold w9_lays_b106 at h
  refine lv_bipush (v := 15) hx hb dX9_lays_106 (by decide) ?_
  exact b9_lays_b108 (K57 := K57) x1 x4 x5 x6 x7 x9 x10 (15 : Int32) S C hK57 h hG hl
def w9_lays_d57 (K57 : Int32 → Int64 → Int32 → MS → Prop) (x1 : Int32) (x4 : Int32) (x5 : Int32) (x6 : Int32) (x7 : Int64) (x9 : Int32) (S : MS) (Q : Int32 → MS → Prop) : Prop :=
  ((x6 ≤ x9 → w9_cells x1 S (fun r2 => ((r2 ≤ x6 → w9_lays_b279 x1 x5 x6 x7 (-9 : Int32) (0 : Int32) S Q) ∧ (¬ r2 ≤ x6 → Q (0 : Int32) S)))) ∧ (¬ x6 ≤ x9 → vp_in x9 24 ∧ ∀ y6 : Int32, y6 = (rA S 14 x9) → ((x4 < 0 → w9_lays_b106 K57 x1 x4 x5 x6 x7 x9 y6 S Q) ∧ (¬ x4 < 0 → vp_in x4 4 ∧ (((rA S 40 x4) ≤ y6 → w9_lays_b106 K57 x1 x4 x5 x6 x7 x9 y6 S Q) ∧ (¬ (rA S 40 x4) ≤ y6 → vp_in (((24 : Int32) * x4) + y6) 96 ∧ w9_lays_b108 K57 x1 x4 x5 x6 x7 x9 y6 (rA S 41 (((24 : Int32) * x4) + y6)) S Q))))))
set_option maxHeartbeats 4000000 in
set_option maxRecDepth 100000 in
theorem b9_lays_d57 {p : Program} {l : Launch} {e : Env} {s : State} {m : MethodId} {args : Array Value} {below : List Frame} {meth : Method} {c : Code} {D : va_G} {cy : Nat → ClassId} {A : Nat → Prop} {o : Nat} {q : Nat → Nat} {K57 : Int32 → Int64 → Int32 → MS → Prop} (x1 : Int32) (x4 : Int32) (x5 : Int32) (x6 : Int32) (x7 : Int64) (x9 : Int32) (S : MS) {Q : Int32 → MS → Prop} (C : Cx p s m args meth c cX9_lays 15 (some .int) wsX9_lays RX9 D cy nestWs A) (hK57 : ∀ (x6 : Int32) (x7 : Int64) (x9 : Int32) (S : MS) (H : Heap) (locs : List Loc) (ls : Array Slot), K57 x6 x7 x9 S → GW D A s (w9 o q cy S) H locs → lv_has ls 15 [(0, .ref o), (1, .int x1), (4, .int x4), (5, .int x5), (6, .int x6), (7, .long x7), (9, .int x9)] → W p l e ({ frames := 5, cells := 0, slots := 0, locals := 118 } : Room) s m args below meth c H locs 0 0 (MQ below (va_Qi Q (B1 D (w9 o q cy) A) A) args s 0 0 A) (F0 m 57 ls [])) (h : w9_lays_d57 K57 x1 x4 x5 x6 x7 x9 S Q) {H : Heap} {locs : List Loc} (hG : GW D A s (w9 o q cy S) H locs) {ls : Array Slot} (hl : lv_has ls 15 [(0, .ref o), (1, .int x1), (4, .int x4), (5, .int x5), (6, .int x6), (7, .long x7), (9, .int x9)]) : W p l e ({ frames := 5, cells := 0, slots := 0, locals := 118 } : Room) s m args below meth c H locs 0 0 (MQ below (va_Qi Q (B1 D (w9 o q cy) A) A) args s 0 0 A) (F0 m 57 ls []) := by
  have hx := C.1
  have hb := C.2.1
  unfold w9_lays_d57 at h
  refine lv_iload hx hb dX9_lays_57 (lv_at hl 6 rfl) ?_
  refine lv_iload hx hb dX9_lays_59 (lv_at hl 4 rfl) ?_
  refine lv_icmp_ge (tgt := 260) hx hb dX9_lays_61 (by decide) (fun c1 => ?_) (fun c1 => ?_)
  · replace h := h.1 c1
    refine lv_iload hx hb dX9_lays_260 (lv_at hl 4 rfl) ?_
    refine lv_aload_n hx hb dX9_lays_262 rfl (lv_at hl 0 rfl) ?_
    refine lv_iload_n hx hb dX9_lays_263 rfl (lv_at hl 1 rfl) ?_
    refine callVI (As := [.int x1]) (rest := [.int x6]) C hG (c9_cells l D cy o q x1 S _ h) 1 gX9_lays_X9_cells rfl (by decide +kernel) ⟨⟨Nat.le_of_ble_eq_true rfl, Nat.le_of_ble_eq_true rfl⟩, rfl, rfl⟩ rfl rfl (Foc.all C.2.2.2.2.2.2.2.2.1) rfl hl.1 rfl (Nat.le_of_ble_eq_true rfl) dX9_lays_264 ⟨Nat.zero_le _, Nat.zero_le _⟩ (fun r2 u3 H locs h hG => ?_)
    obtain ⟨eu3, h⟩ := h
    have eu3 : u3 = S := eu3
    subst u3
    have hG : GW D A s (w9 o q cy S) H locs := hG
    refine lv_icmp_ge (tgt := 272) hx hb dX9_lays_267 (by decide) (fun c4 => ?_) (fun c4 => ?_)
    · replace h := h.1 c4
      refine lv_bipush (v := -9) hx hb dX9_lays_272 (by decide) ?_
      refine lv_istore (lv' := [(9, .int (-9 : Int32)), (0, .ref o), (1, .int x1), (4, .int x4), (5, .int x5), (6, .int x6), (7, .long x7)]) hx hb dX9_lays_274 hl (by decide) rfl (fun ls hl => ?_)
      refine lv_iconst (v := 0) hx hb dX9_lays_276 (by decide) ?_
      refine lv_istore (lv' := [(10, .int (0 : Int32)), (9, .int (-9 : Int32)), (0, .ref o), (1, .int x1), (4, .int x4), (5, .int x5), (6, .int x6), (7, .long x7)]) hx hb dX9_lays_277 hl (by decide) rfl (fun ls hl => ?_)
      exact b9_lays_b279 x1 x5 x6 x7 (-9 : Int32) (0 : Int32) S C h hG (lv_sub hl [2, 3, 5, 6, 7, 1, 0] rfl)
    · replace h := h.2 c4
      refine lv_iconst (v := 0) hx hb dX9_lays_270 (by decide) ?_
      exact retI (w := (w9 o q cy)) (S := S) C hG h dX9_lays_271
  · replace h := h.2 c1
    refine lv_aload_n hx hb dX9_lays_64 rfl (lv_at hl 0 rfl) ?_
    refine x9g_14 C i9_lays_X9 k9_lays_38 hG dX9_lays_65 ?_
    refine lv_iload hx hb dX9_lays_68 (lv_at hl 6 rfl) ?_
    obtain ⟨hv5, h⟩ := h
    refine x9l_14 C hG hv5 dX9_lays_70 ?_
    refine lv_topi (fun y6 ey6 => ?_)
    replace h := h y6 ey6
    refine lv_istore (lv' := [(10, .int y6), (0, .ref o), (1, .int x1), (4, .int x4), (5, .int x5), (6, .int x6), (7, .long x7), (9, .int x9)]) hx hb dX9_lays_71 hl (by decide) rfl (fun ls hl => ?_)
    refine lv_iload hx hb dX9_lays_73 (lv_at hl 3 rfl) ?_
    refine lv_if_lt (tgt := 106) hx hb dX9_lays_75 (by decide) (fun c7 => ?_) (fun c7 => ?_)
    · replace h := h.1 c7
      exact b9_lays_b106 (K57 := K57) x1 x4 x5 x6 x7 x9 y6 S C hK57 h hG (lv_sub hl [1, 2, 3, 4, 5, 6, 7, 0] rfl)
    · replace h := h.2 c7
      refine lv_iload hx hb dX9_lays_78 (lv_at hl 0 rfl) ?_
      refine lv_aload_n hx hb dX9_lays_80 rfl (lv_at hl 1 rfl) ?_
      refine x9g_40 C i9_lays_X9 k9_lays_104 hG dX9_lays_81 ?_
      refine lv_iload hx hb dX9_lays_84 (lv_at hl 3 rfl) ?_
      obtain ⟨hv8, h⟩ := h
      refine x9l_40 C hG hv8 dX9_lays_86 ?_
      refine lv_icmp_ge (tgt := 106) hx hb dX9_lays_87 (by decide) (fun c9 => ?_) (fun c9 => ?_)
      · replace h := h.1 c9
        exact b9_lays_b106 (K57 := K57) x1 x4 x5 x6 x7 x9 y6 S C hK57 h hG (lv_sub hl [1, 2, 3, 4, 5, 6, 7, 0] rfl)
      · replace h := h.2 c9
        refine lv_aload_n hx hb dX9_lays_90 rfl (lv_at hl 1 rfl) ?_
        refine x9g_41 C i9_lays_X9 k9_lays_107 hG dX9_lays_91 ?_
        refine lv_bipush (v := 24) hx hb dX9_lays_94 (by decide) ?_
        refine lv_iload hx hb dX9_lays_96 (lv_at hl 3 rfl) ?_
        refine lv_imul hx hb dX9_lays_98 ?_
        refine lv_iload hx hb dX9_lays_99 (lv_at hl 0 rfl) ?_
        refine lv_iadd hx hb dX9_lays_101 ?_
        obtain ⟨hv10, h⟩ := h
        refine x9l_41 C hG hv10 dX9_lays_102 ?_
        refine lv_goto (tgt := 108) hx hb dX9_lays_103 (by decide) ?_
        exact b9_lays_b108 (K57 := K57) x1 x4 x5 x6 x7 x9 y6 (rA S 41 (((24 : Int32) * x4) + y6)) S C hK57 h hG (lv_sub hl [1, 2, 3, 4, 5, 6, 7, 0] rfl)
def w9_lays_F57 (x1 : Int32) (x4 : Int32) (x5 : Int32) (Q : Int32 → MS → Prop) (K : Int32 × Int64 × Int32 × MS → Prop) (a : Int32 × Int64 × Int32 × MS) : Prop := w9_lays_d57 (fun y0 y1 y2 y3 => K (y0, y1, y2, y3)) x1 x4 x5 a.1 a.2.1 a.2.2.1 a.2.2.2 Q
def w9_lays_b57 (x1 : Int32) (x4 : Int32) (x5 : Int32) (x6 : Int32) (x7 : Int64) (x9 : Int32) (S : MS) (Q : Int32 → MS → Prop) : Prop := lp (w9_lays_F57 x1 x4 x5 Q) (x6, x7, x9, S)
set_option maxHeartbeats 4000000 in
set_option maxRecDepth 100000 in
theorem b9_lays_b57 {p : Program} {l : Launch} {e : Env} {s : State} {m : MethodId} {args : Array Value} {below : List Frame} {meth : Method} {c : Code} {D : va_G} {cy : Nat → ClassId} {A : Nat → Prop} {o : Nat} {q : Nat → Nat} (x1 : Int32) (x4 : Int32) (x5 : Int32) (x6 : Int32) (x7 : Int64) (x9 : Int32) (S : MS) {Q : Int32 → MS → Prop} (C : Cx p s m args meth c cX9_lays 15 (some .int) wsX9_lays RX9 D cy nestWs A) (h : w9_lays_b57 x1 x4 x5 x6 x7 x9 S Q) {H : Heap} {locs : List Loc} (hG : GW D A s (w9 o q cy S) H locs) {ls : Array Slot} (hl : lv_has ls 15 [(0, .ref o), (1, .int x1), (4, .int x4), (5, .int x5), (6, .int x6), (7, .long x7), (9, .int x9)]) : W p l e ({ frames := 5, cells := 0, slots := 0, locals := 118 } : Room) s m args below meth c H locs 0 0 (MQ below (va_Qi Q (B1 D (w9 o q cy) A) A) args s 0 0 A) (F0 m 57 ls []) := by
  obtain ⟨k, hn⟩ := h
  induction k generalizing x6 x7 x9 S H locs ls with
  | zero => exact hn.elim
  | succ k ih => exact b9_lays_d57 (K57 := fun y0 y1 y2 y3 => itr (w9_lays_F57 x1 x4 x5 Q) k (y0, y1, y2, y3)) x1 x4 x5 x6 x7 x9 S C (fun x6 x7 x9 S H locs ls hk hG hl => ih x6 x7 x9 S hG hl hk) hn hG hl
def w9_lays_d3 (K3 : Int32 → MS → Prop) (x1 : Int32) (x2 : Int32) (x3 : Int32) (x4 : Int32) (x5 : Int32) (x6 : Int32) (S : MS) (Q : Int32 → MS → Prop) : Prop :=
  (((24 : Int32) ≤ x6 → ∀ S2 : MS, S2 = sA S 14 (0 : Int32) x2 → vp_in x2 24 ∧ ∀ S4 : MS, S4 = sA S2 15 x2 x3 → ∀ S5 : MS, S5 = sA S4 16 x2 (0 : Int32) → ∀ y6 : Int64, y6 = ((1 : Int64) <<< (x3.toInt64 &&& 63)) → w9_lays_b57 x1 x4 x5 (1 : Int32) y6 (0 : Int32) S5 Q) ∧ (¬ (24 : Int32) ≤ x6 → vp_in x6 24 ∧ ∀ S8 : MS, S8 = sA S 15 x6 (-9 : Int32) → ∀ y9 : Int32, y9 = x6 + 1 → K3 y9 S8))
set_option maxHeartbeats 4000000 in
set_option maxRecDepth 100000 in
theorem b9_lays_d3 {p : Program} {l : Launch} {e : Env} {s : State} {m : MethodId} {args : Array Value} {below : List Frame} {meth : Method} {c : Code} {D : va_G} {cy : Nat → ClassId} {A : Nat → Prop} {o : Nat} {q : Nat → Nat} {K3 : Int32 → MS → Prop} (x1 : Int32) (x2 : Int32) (x3 : Int32) (x4 : Int32) (x5 : Int32) (x6 : Int32) (S : MS) {Q : Int32 → MS → Prop} (C : Cx p s m args meth c cX9_lays 15 (some .int) wsX9_lays RX9 D cy nestWs A) (hK3 : ∀ (x6 : Int32) (S : MS) (H : Heap) (locs : List Loc) (ls : Array Slot), K3 x6 S → GW D A s (w9 o q cy S) H locs → lv_has ls 15 [(0, .ref o), (1, .int x1), (2, .int x2), (3, .int x3), (4, .int x4), (5, .int x5), (6, .int x6)] → W p l e ({ frames := 5, cells := 0, slots := 0, locals := 118 } : Room) s m args below meth c H locs 0 0 (MQ below (va_Qi Q (B1 D (w9 o q cy) A) A) args s 0 0 A) (F0 m 3 ls [])) (h : w9_lays_d3 K3 x1 x2 x3 x4 x5 x6 S Q) {H : Heap} {locs : List Loc} (hG : GW D A s (w9 o q cy S) H locs) {ls : Array Slot} (hl : lv_has ls 15 [(0, .ref o), (1, .int x1), (2, .int x2), (3, .int x3), (4, .int x4), (5, .int x5), (6, .int x6)]) : W p l e ({ frames := 5, cells := 0, slots := 0, locals := 118 } : Room) s m args below meth c H locs 0 0 (MQ below (va_Qi Q (B1 D (w9 o q cy) A) A) args s 0 0 A) (F0 m 3 ls []) := by
  have hx := C.1
  have hb := C.2.1
  unfold w9_lays_d3 at h
  refine lv_iload hx hb dX9_lays_3 (lv_at hl 6 rfl) ?_
  refine lv_bipush (v := 24) hx hb dX9_lays_5 (by decide) ?_
  refine lv_icmp_ge (tgt := 25) hx hb dX9_lays_7 (by decide) (fun c1 => ?_) (fun c1 => ?_)
  · replace h := h.1 c1
    refine lv_aload_n hx hb dX9_lays_25 rfl (lv_at hl 0 rfl) ?_
    refine x9g_14 C i9_lays_X9 k9_lays_38 hG dX9_lays_26 ?_
    refine lv_iconst (v := 0) hx hb dX9_lays_29 (by decide) ?_
    refine lv_iload_n hx hb dX9_lays_30 rfl (lv_at hl 2 rfl) ?_
    refine x9s_14 C hG (by unfold vp_in; decide) dX9_lays_31 (fun S2 eS2 H locs hG => ?_)
    replace h := h S2 eS2
    refine lv_aload_n hx hb dX9_lays_32 rfl (lv_at hl 0 rfl) ?_
    refine x9g_15 C i9_lays_X9 k9_lays_41 hG dX9_lays_33 ?_
    refine lv_iload_n hx hb dX9_lays_36 rfl (lv_at hl 2 rfl) ?_
    refine lv_iload_n hx hb dX9_lays_37 rfl (lv_at hl 3 rfl) ?_
    obtain ⟨hv3, h⟩ := h
    refine x9s_15 C hG hv3 dX9_lays_38 (fun S4 eS4 H locs hG => ?_)
    replace h := h S4 eS4
    refine lv_aload_n hx hb dX9_lays_39 rfl (lv_at hl 0 rfl) ?_
    refine x9g_16 C i9_lays_X9 k9_lays_44 hG dX9_lays_40 ?_
    refine lv_iload_n hx hb dX9_lays_43 rfl (lv_at hl 2 rfl) ?_
    refine lv_iconst (v := 0) hx hb dX9_lays_44 (by decide) ?_
    refine x9s_16 C hG hv3 dX9_lays_45 (fun S5 eS5 H locs hG => ?_)
    replace h := h S5 eS5
    refine lv_iconst (v := 1) hx hb dX9_lays_46 (by decide) ?_
    refine lv_istore (lv' := [(6, .int (1 : Int32)), (0, .ref o), (1, .int x1), (2, .int x2), (3, .int x3), (4, .int x4), (5, .int x5)]) hx hb dX9_lays_47 hl (by decide) rfl (fun ls hl => ?_)
    refine lv_lconst (v := 1) hx hb dX9_lays_49 (by decide) ?_
    refine lv_iload_n hx hb dX9_lays_50 rfl (lv_at hl 4 rfl) ?_
    refine lv_lshl hx hb dX9_lays_51 rfl ?_
    refine lv_topl (fun y6 ey6 => ?_)
    replace h := h y6 ey6
    refine lv_lstore (lv' := [(7, .long y6), (6, .int (1 : Int32)), (0, .ref o), (1, .int x1), (2, .int x2), (3, .int x3), (4, .int x4), (5, .int x5)]) hx hb dX9_lays_52 hl (by decide) rfl (fun ls hl => ?_)
    refine lv_iconst (v := 0) hx hb dX9_lays_54 (by decide) ?_
    refine lv_istore (lv' := [(9, .int (0 : Int32)), (7, .long y6), (6, .int (1 : Int32)), (0, .ref o), (1, .int x1), (2, .int x2), (3, .int x3), (4, .int x4), (5, .int x5)]) hx hb dX9_lays_55 hl (by decide) rfl (fun ls hl => ?_)
    exact b9_lays_b57 x1 x4 x5 (1 : Int32) y6 (0 : Int32) S5 C h hG (lv_sub hl [3, 4, 7, 8, 2, 1, 0] rfl)
  · replace h := h.2 c1
    refine lv_aload_n hx hb dX9_lays_10 rfl (lv_at hl 0 rfl) ?_
    refine x9g_15 C i9_lays_X9 k9_lays_41 hG dX9_lays_11 ?_
    refine lv_iload hx hb dX9_lays_14 (lv_at hl 6 rfl) ?_
    refine lv_bipush (v := -9) hx hb dX9_lays_16 (by decide) ?_
    obtain ⟨hv7, h⟩ := h
    refine x9s_15 C hG hv7 dX9_lays_18 (fun S8 eS8 H locs hG => ?_)
    replace h := h S8 eS8
    obtain ⟨y9, ey9⟩ : ∃ y : Int32, y = x6 + 1 := ⟨_, rfl⟩
    replace h := h y9 ey9
    refine lv_iinc (v := y9) (lv' := [(6, .int y9), (0, .ref o), (1, .int x1), (2, .int x2), (3, .int x3), (4, .int x4), (5, .int x5)]) hx hb dX9_lays_19 hl (k := 6) rfl (by rw [ey9]; rfl) (by decide) rfl (fun ls hl => ?_)
    refine lv_goto (tgt := 3) hx hb dX9_lays_22 (by decide) ?_
    exact hK3 y9 S8 _ _ _ h hG (lv_sub hl [1, 2, 3, 4, 5, 6, 0] rfl)
def w9_lays_F3 (x1 : Int32) (x2 : Int32) (x3 : Int32) (x4 : Int32) (x5 : Int32) (Q : Int32 → MS → Prop) (K : Int32 × MS → Prop) (a : Int32 × MS) : Prop := w9_lays_d3 (fun y0 y1 => K (y0, y1)) x1 x2 x3 x4 x5 a.1 a.2 Q
def w9_lays_b3 (x1 : Int32) (x2 : Int32) (x3 : Int32) (x4 : Int32) (x5 : Int32) (x6 : Int32) (S : MS) (Q : Int32 → MS → Prop) : Prop := lp (w9_lays_F3 x1 x2 x3 x4 x5 Q) (x6, S)
set_option maxHeartbeats 4000000 in
set_option maxRecDepth 100000 in
theorem b9_lays_b3 {p : Program} {l : Launch} {e : Env} {s : State} {m : MethodId} {args : Array Value} {below : List Frame} {meth : Method} {c : Code} {D : va_G} {cy : Nat → ClassId} {A : Nat → Prop} {o : Nat} {q : Nat → Nat} (x1 : Int32) (x2 : Int32) (x3 : Int32) (x4 : Int32) (x5 : Int32) (x6 : Int32) (S : MS) {Q : Int32 → MS → Prop} (C : Cx p s m args meth c cX9_lays 15 (some .int) wsX9_lays RX9 D cy nestWs A) (h : w9_lays_b3 x1 x2 x3 x4 x5 x6 S Q) {H : Heap} {locs : List Loc} (hG : GW D A s (w9 o q cy S) H locs) {ls : Array Slot} (hl : lv_has ls 15 [(0, .ref o), (1, .int x1), (2, .int x2), (3, .int x3), (4, .int x4), (5, .int x5), (6, .int x6)]) : W p l e ({ frames := 5, cells := 0, slots := 0, locals := 118 } : Room) s m args below meth c H locs 0 0 (MQ below (va_Qi Q (B1 D (w9 o q cy) A) A) args s 0 0 A) (F0 m 3 ls []) := by
  obtain ⟨k, hn⟩ := h
  induction k generalizing x6 S H locs ls with
  | zero => exact hn.elim
  | succ k ih => exact b9_lays_d3 (K3 := fun y0 y1 => itr (w9_lays_F3 x1 x2 x3 x4 x5 Q) k (y0, y1)) x1 x2 x3 x4 x5 x6 S C (fun x6 S H locs ls hk hG hl => ih x6 S hG hl hk) hn hG hl
def w9_lays (x1 : Int32) (x2 : Int32) (x3 : Int32) (x4 : Int32) (x5 : Int32) (S : MS) (Q : Int32 → MS → Prop) : Prop :=
  w9_lays_b3 x1 x2 x3 x4 x5 (0 : Int32) S Q
set_option maxHeartbeats 4000000 in
set_option maxRecDepth 100000 in
theorem c9_lays (l : Launch) (D : va_G) (cy : Nat → ClassId)  (o : Nat) (q : Nat → Nat) (x1 : Int32) (x2 : Int32) (x3 : Int32) (x4 : Int32) (x5 : Int32) (S : MS) (Q : Int32 → MS → Prop) (h : w9_lays x1 x2 x3 x4 x5 S Q) : MetI l yX9_lays wsX9_lays ({ frames := 5, cells := 0, slots := 0, locals := 118 } : Room) D cy nestWs (w9 o q cy) [.ref o, .int x1, .int x2, .int x3, .int x4, .int x5] S Q := by
  refine MetI.mk RX9 cX9_lays 15 .int (by decide) rfl nestWs_ok rfl (Nat.le_of_ble_eq_true rfl) ?_
  intro p e s m below meth c A ls C hG hl
  have hl : lv_has ls 15 [(0, .ref o), (1, .int x1), (2, .int x2), (3, .int x3), (4, .int x4), (5, .int x5)] := hl
  have hx := C.1
  have hb := C.2.1
  unfold w9_lays at h
  refine lv_iconst (v := 0) hx hb dX9_lays_0 (by decide) ?_
  refine lv_istore (lv' := [(6, .int (0 : Int32)), (0, .ref o), (1, .int x1), (2, .int x2), (3, .int x3), (4, .int x4), (5, .int x5)]) hx hb dX9_lays_1 hl (by decide) rfl (fun ls hl => ?_)
  exact b9_lays_b3 x1 x2 x3 x4 x5 (0 : Int32) S C h hG (lv_sub hl [1, 2, 3, 4, 5, 6, 0] rfl)
-- X9_layOut
def w9_layOut_b63 (t0 : Int32) (S : MS) (Q : Int32 → MS → Prop) : Prop :=
  Q t0 S
set_option maxHeartbeats 4000000 in
set_option maxRecDepth 100000 in
theorem b9_layOut_b63 {p : Program} {l : Launch} {e : Env} {s : State} {m : MethodId} {args : Array Value} {below : List Frame} {meth : Method} {c : Code} {D : va_G} {cy : Nat → ClassId} {A : Nat → Prop} {o : Nat} {q : Nat → Nat} (t0 : Int32) (S : MS) {Q : Int32 → MS → Prop} (C : Cx p s m args meth c cX9_layOut 6 (some .int) wsX9_layOut RX9 D cy nestWs A) (h : w9_layOut_b63 t0 S Q) {H : Heap} {locs : List Loc} (hG : GW D A s (w9 o q cy S) H locs) {ls : Array Slot} (hl : lv_has ls 6 [(0, .ref o)]) : W p l e ({ frames := 6, cells := 0, slots := 0, locals := 152 } : Room) s m args below meth c H locs 0 0 (MQ below (va_Qi Q (B1 D (w9 o q cy) A) A) args s 0 0 A) (F0 m 63 ls [.int t0]) := by
  have hx := C.1
  have hb := C.2.1
  unfold w9_layOut_b63 at h
  exact retI (w := (w9 o q cy)) (S := S) C hG h dX9_layOut_63
def w9_layOut_b18 (S : MS) (Q : Int32 → MS → Prop) : Prop :=
  Q (-1 : Int32) S
set_option maxHeartbeats 4000000 in
set_option maxRecDepth 100000 in
theorem b9_layOut_b18 {p : Program} {l : Launch} {e : Env} {s : State} {m : MethodId} {args : Array Value} {below : List Frame} {meth : Method} {c : Code} {D : va_G} {cy : Nat → ClassId} {A : Nat → Prop} {o : Nat} {q : Nat → Nat} (S : MS) {Q : Int32 → MS → Prop} (C : Cx p s m args meth c cX9_layOut 6 (some .int) wsX9_layOut RX9 D cy nestWs A) (h : w9_layOut_b18 S Q) {H : Heap} {locs : List Loc} (hG : GW D A s (w9 o q cy S) H locs) {ls : Array Slot} (hl : lv_has ls 6 [(0, .ref o)]) : W p l e ({ frames := 6, cells := 0, slots := 0, locals := 152 } : Room) s m args below meth c H locs 0 0 (MQ below (va_Qi Q (B1 D (w9 o q cy) A) A) args s 0 0 A) (F0 m 18 ls []) := by
  have hx := C.1
  have hb := C.2.1
  unfold w9_layOut_b18 at h
  refine lv_iconst (v := -1) hx hb dX9_layOut_18 (by decide) ?_
  exact retI (w := (w9 o q cy)) (S := S) C hG h dX9_layOut_19
def w9_layOut (x1 : Int32) (x2 : Int32) (x3 : Int32) (x4 : Int32) (S : MS) (Q : Int32 → MS → Prop) : Prop :=
  w9_in x3 (0 : Int32) (63 : Int32) (fun r1 => ((r1 = 0 → w9_layOut_b18 S Q) ∧ (¬ r1 = 0 → w9_isFigure x4 (fun r3 => ((¬ r3 = 0 → w9_lookedBox x1 S (fun r5 S6 => ((0 ≤ r5 → w9_isCell x1 x2 S6 (fun r8 => ((r8 = 0 → w9_meets (2 : Int32) S6 (fun r11 S12 => w9_layOut_b63 r11 S12 Q)) ∧ (¬ r8 = 0 → w9_lays x1 x2 x3 (-9 : Int32) x4 S6 (fun r13 S14 => w9_layOut_b63 r13 S14 Q))))) ∧ (¬ 0 ≤ r5 → Q r5 S6)))) ∧ (r3 = 0 → w9_layOut_b18 S Q))))))
set_option maxHeartbeats 4000000 in
set_option maxRecDepth 100000 in
theorem c9_layOut (l : Launch) (D : va_G) (cy : Nat → ClassId)  (o : Nat) (q : Nat → Nat) (x1 : Int32) (x2 : Int32) (x3 : Int32) (x4 : Int32) (S : MS) (Q : Int32 → MS → Prop) (h : w9_layOut x1 x2 x3 x4 S Q) : MetI l yX9_layOut wsX9_layOut ({ frames := 6, cells := 0, slots := 0, locals := 152 } : Room) D cy nestWs (w9 o q cy) [.ref o, .int x1, .int x2, .int x3, .int x4] S Q := by
  refine MetI.mk RX9 cX9_layOut 6 .int (by decide) rfl nestWs_ok rfl (Nat.le_of_ble_eq_true rfl) ?_
  intro p e s m below meth c A ls C hG hl
  have hl : lv_has ls 6 [(0, .ref o), (1, .int x1), (2, .int x2), (3, .int x3), (4, .int x4)] := hl
  have hx := C.1
  have hb := C.2.1
  unfold w9_layOut at h
  refine lv_iload_n hx hb dX9_layOut_0 rfl (lv_at hl 3 rfl) ?_
  refine lv_iconst (v := 0) hx hb dX9_layOut_1 (by decide) ?_
  refine lv_bipush (v := 63) hx hb dX9_layOut_2 (by decide) ?_
  refine callSI (As := [.int x3, .int (0 : Int32), .int (63 : Int32)]) (rest := []) C hG (c9_in l D cy x3 (0 : Int32) (63 : Int32) _ h) 3 gX9_layOut_X9_in rfl (by decide +kernel) ⟨⟨Nat.le_of_ble_eq_true rfl, Nat.le_of_ble_eq_true rfl⟩, rfl, rfl⟩ (Foc.none C.2.2.2.2.2.2.2.2.1) rfl hl.1 rfl (Nat.le_of_ble_eq_true rfl) dX9_layOut_4 ⟨Nat.zero_le _, Nat.zero_le _⟩ (fun r1 z H locs h hG => ?_)
  refine lv_if_eq (tgt := 18) hx hb dX9_layOut_7 (by decide) (fun c2 => ?_) (fun c2 => ?_)
  · replace h := h.1 c2
    exact b9_layOut_b18 S C h hG (lv_sub hl [0] rfl)
  · replace h := h.2 c2
    refine lv_iload hx hb dX9_layOut_10 (lv_at hl 4 rfl) ?_
    refine callSI (As := [.int x4]) (rest := []) C hG (c9_isFigure l D cy x4 _ h) 1 gX9_layOut_X9_isFigure rfl (by decide +kernel) ⟨⟨Nat.le_of_ble_eq_true rfl, Nat.le_of_ble_eq_true rfl⟩, rfl, rfl⟩ (Foc.none C.2.2.2.2.2.2.2.2.1) rfl hl.1 rfl (Nat.le_of_ble_eq_true rfl) dX9_layOut_12 ⟨Nat.zero_le _, Nat.zero_le _⟩ (fun r3 z H locs h hG => ?_)
    refine lv_if_ne (tgt := 20) hx hb dX9_layOut_15 (by decide) (fun c4 => ?_) (fun c4 => ?_)
    · replace h := h.1 c4
      refine lv_aload_n hx hb dX9_layOut_20 rfl (lv_at hl 0 rfl) ?_
      refine lv_iload_n hx hb dX9_layOut_21 rfl (lv_at hl 1 rfl) ?_
      refine callVI (As := [.int x1]) (rest := []) C hG (c9_lookedBox l D cy o q x1 S _ h) 1 gX9_layOut_X9_lookedBox rfl (by decide +kernel) ⟨⟨Nat.le_of_ble_eq_true rfl, Nat.le_of_ble_eq_true rfl⟩, rfl, rfl⟩ rfl rfl (Foc.all C.2.2.2.2.2.2.2.2.1) rfl hl.1 rfl (Nat.le_of_ble_eq_true rfl) dX9_layOut_22 ⟨Nat.zero_le _, Nat.zero_le _⟩ (fun r5 S6 H locs h hG => ?_)
      have hG : GW D A s (w9 o q cy S6) H locs := hG
      refine lv_istore (lv' := [(5, .int r5), (0, .ref o), (1, .int x1), (2, .int x2), (3, .int x3), (4, .int x4)]) hx hb dX9_layOut_25 hl (by decide) rfl (fun ls hl => ?_)
      refine lv_iload hx hb dX9_layOut_27 (lv_at hl 0 rfl) ?_
      refine lv_if_ge (tgt := 35) hx hb dX9_layOut_29 (by decide) (fun c7 => ?_) (fun c7 => ?_)
      · replace h := h.1 c7
        refine lv_aload_n hx hb dX9_layOut_35 rfl (lv_at hl 1 rfl) ?_
        refine lv_iload_n hx hb dX9_layOut_36 rfl (lv_at hl 2 rfl) ?_
        refine lv_iload_n hx hb dX9_layOut_37 rfl (lv_at hl 3 rfl) ?_
        refine callVI (As := [.int x1, .int x2]) (rest := []) C hG (c9_isCell l D cy o q x1 x2 S6 _ h) 2 gX9_layOut_X9_isCell rfl (by decide +kernel) ⟨⟨Nat.le_of_ble_eq_true rfl, Nat.le_of_ble_eq_true rfl⟩, rfl, rfl⟩ rfl rfl (Foc.all C.2.2.2.2.2.2.2.2.1) rfl hl.1 rfl (Nat.le_of_ble_eq_true rfl) dX9_layOut_38 ⟨Nat.zero_le _, Nat.zero_le _⟩ (fun r8 u9 H locs h hG => ?_)
        obtain ⟨eu9, h⟩ := h
        have eu9 : u9 = S6 := eu9
        subst u9
        have hG : GW D A s (w9 o q cy S6) H locs := hG
        refine lv_if_eq (tgt := 58) hx hb dX9_layOut_41 (by decide) (fun c10 => ?_) (fun c10 => ?_)
        · replace h := h.1 c10
          refine lv_aload_n hx hb dX9_layOut_58 rfl (lv_at hl 1 rfl) ?_
          refine lv_iconst (v := 2) hx hb dX9_layOut_59 (by decide) ?_
          refine callVI (As := [.int (2 : Int32)]) (rest := []) C hG (c9_meets l D cy o q (2 : Int32) S6 _ h) 1 gX9_layOut_X9_meets rfl (by decide +kernel) ⟨⟨Nat.le_of_ble_eq_true rfl, Nat.le_of_ble_eq_true rfl⟩, rfl, rfl⟩ rfl rfl (Foc.all C.2.2.2.2.2.2.2.2.1) rfl hl.1 rfl (Nat.le_of_ble_eq_true rfl) dX9_layOut_60 ⟨Nat.zero_le _, Nat.zero_le _⟩ (fun r11 S12 H locs h hG => ?_)
          have hG : GW D A s (w9 o q cy S12) H locs := hG
          exact b9_layOut_b63 r11 S12 C h hG (lv_sub hl [1] rfl)
        · replace h := h.2 c10
          refine lv_aload_n hx hb dX9_layOut_44 rfl (lv_at hl 1 rfl) ?_
          refine lv_iload_n hx hb dX9_layOut_45 rfl (lv_at hl 2 rfl) ?_
          refine lv_iload_n hx hb dX9_layOut_46 rfl (lv_at hl 3 rfl) ?_
          refine lv_iload_n hx hb dX9_layOut_47 rfl (lv_at hl 4 rfl) ?_
          refine lv_bipush (v := -9) hx hb dX9_layOut_48 (by decide) ?_
          refine lv_iload hx hb dX9_layOut_50 (lv_at hl 5 rfl) ?_
          refine callVI (As := [.int x1, .int x2, .int x3, .int (-9 : Int32), .int x4]) (rest := []) C hG (c9_lays l D cy o q x1 x2 x3 (-9 : Int32) x4 S6 _ h) 5 gX9_layOut_X9_lays rfl (by decide +kernel) ⟨⟨Nat.le_of_ble_eq_true rfl, Nat.le_of_ble_eq_true rfl⟩, rfl, rfl⟩ rfl rfl (Foc.all C.2.2.2.2.2.2.2.2.1) rfl hl.1 rfl (Nat.le_of_ble_eq_true rfl) dX9_layOut_52 ⟨Nat.zero_le _, Nat.zero_le _⟩ (fun r13 S14 H locs h hG => ?_)
          have hG : GW D A s (w9 o q cy S14) H locs := hG
          refine lv_goto (tgt := 63) hx hb dX9_layOut_55 (by decide) ?_
          exact b9_layOut_b63 r13 S14 C h hG (lv_sub hl [1] rfl)
      · replace h := h.2 c7
        refine lv_iload hx hb dX9_layOut_32 (lv_at hl 0 rfl) ?_
        exact retI (w := (w9 o q cy)) (S := S6) C hG h dX9_layOut_34
    · replace h := h.2 c4
      exact b9_layOut_b18 S C h hG (lv_sub hl [0] rfl)
-- X9_isRow
def w9_isRow (x0 : Int32) (Q : Int32 → Prop) : Prop :=
  w9_in x0 (0 : Int32) (3 : Int32) (fun r1 => narrow .boolean (.int r1) = .int r1 ∧ Q r1)
set_option maxHeartbeats 4000000 in
set_option maxRecDepth 100000 in
theorem c9_isRow (l : Launch) (D : va_G) (cy : Nat → ClassId)  (x0 : Int32) (Q : Int32 → Prop) (h : w9_isRow x0 Q) : MetI l yX9_isRow wsX9_isRow ({ frames := 1, cells := 0, slots := 0, locals := 22 } : Room) D cy nestWs (fun _ : Unit => ([] : va_W)) [.int x0] () (fun r _ => Q r) := by
  refine MetI.mk RX9 cX9_isRow 1 .boolean (by decide) rfl nestWs_ok rfl (Nat.le_of_ble_eq_true rfl) ?_
  intro p e s m below meth c A ls C hG hl
  have hl : lv_has ls 1 [(0, .int x0)] := hl
  have hx := C.1
  have hb := C.2.1
  unfold w9_isRow at h
  refine lv_iload_n hx hb dX9_isRow_0 rfl (lv_at hl 0 rfl) ?_
  refine lv_iconst (v := 0) hx hb dX9_isRow_1 (by decide) ?_
  refine lv_iconst (v := 3) hx hb dX9_isRow_2 (by decide) ?_
  refine callSI (As := [.int x0, .int (0 : Int32), .int (3 : Int32)]) (rest := []) C hG (c9_in l D cy x0 (0 : Int32) (3 : Int32) _ h) 3 gX9_isRow_X9_in rfl (by decide +kernel) ⟨⟨Nat.le_of_ble_eq_true rfl, Nat.le_of_ble_eq_true rfl⟩, rfl, rfl⟩ (Foc.none C.2.2.2.2.2.2.2.2.1) rfl hl.1 rfl (Nat.le_of_ble_eq_true rfl) dX9_isRow_3 ⟨Nat.zero_le _, Nat.zero_le _⟩ (fun r1 z H locs h hG => ?_)
  exact retZ (w := (fun _ : Unit => ([] : va_W))) (S := ()) C hG ⟨h.1, h.2⟩ dX9_isRow_6
-- X9_layOutBy
theorem i9_layOutBy_X9 : ∀ w ∈ wsX90, w ∈ wsX9_layOutBy := fun w h => List.mem_cons_of_mem _ (inG_X9 w h)
theorem k9_layOutBy_26 : Cond.fieldLink RX9 26 "PaperBodiesModel" "dims" "[I" ∈ wsX9_layOutBy := (List.mem_cons_of_mem _ mw_542)
theorem k9_layOutBy_104 : Cond.fieldLink RX9 104 "PaperBodiesModel" "sizes" "[I" ∈ wsX9_layOutBy := (List.mem_cons_of_mem _ mw_568)
def w9_layOutBy_b90 (t0 : Int32) (S : MS) (Q : Int32 → MS → Prop) : Prop :=
  Q t0 S
set_option maxHeartbeats 4000000 in
set_option maxRecDepth 100000 in
theorem b9_layOutBy_b90 {p : Program} {l : Launch} {e : Env} {s : State} {m : MethodId} {args : Array Value} {below : List Frame} {meth : Method} {c : Code} {D : va_G} {cy : Nat → ClassId} {A : Nat → Prop} {o : Nat} {q : Nat → Nat} (t0 : Int32) (S : MS) {Q : Int32 → MS → Prop} (C : Cx p s m args meth c cX9_layOutBy 6 (some .int) wsX9_layOutBy RX9 D cy nestWs A) (h : w9_layOutBy_b90 t0 S Q) {H : Heap} {locs : List Loc} (hG : GW D A s (w9 o q cy S) H locs) {ls : Array Slot} (hl : lv_has ls 6 [(0, .ref o)]) : W p l e ({ frames := 6, cells := 0, slots := 0, locals := 152 } : Room) s m args below meth c H locs 0 0 (MQ below (va_Qi Q (B1 D (w9 o q cy) A) A) args s 0 0 A) (F0 m 90 ls [.int t0]) := by
  have hx := C.1
  have hb := C.2.1
  unfold w9_layOutBy_b90 at h
  exact retI (w := (w9 o q cy)) (S := S) C hG h dX9_layOutBy_90
def w9_layOutBy_b56 (S : MS) (Q : Int32 → MS → Prop) : Prop :=
  w9_meets (1 : Int32) S (fun r1 S2 => Q r1 S2)
set_option maxHeartbeats 4000000 in
set_option maxRecDepth 100000 in
theorem b9_layOutBy_b56 {p : Program} {l : Launch} {e : Env} {s : State} {m : MethodId} {args : Array Value} {below : List Frame} {meth : Method} {c : Code} {D : va_G} {cy : Nat → ClassId} {A : Nat → Prop} {o : Nat} {q : Nat → Nat} (S : MS) {Q : Int32 → MS → Prop} (C : Cx p s m args meth c cX9_layOutBy 6 (some .int) wsX9_layOutBy RX9 D cy nestWs A) (h : w9_layOutBy_b56 S Q) {H : Heap} {locs : List Loc} (hG : GW D A s (w9 o q cy S) H locs) {ls : Array Slot} (hl : lv_has ls 6 [(0, .ref o)]) : W p l e ({ frames := 6, cells := 0, slots := 0, locals := 152 } : Room) s m args below meth c H locs 0 0 (MQ below (va_Qi Q (B1 D (w9 o q cy) A) A) args s 0 0 A) (F0 m 56 ls []) := by
  have hx := C.1
  have hb := C.2.1
  unfold w9_layOutBy_b56 at h
  refine lv_aload_n hx hb dX9_layOutBy_56 rfl (lv_at hl 0 rfl) ?_
  refine lv_iconst (v := 1) hx hb dX9_layOutBy_57 (by decide) ?_
  refine callVI (As := [.int (1 : Int32)]) (rest := []) C hG (c9_meets l D cy o q (1 : Int32) S _ h) 1 gX9_layOutBy_X9_meets rfl (by decide +kernel) ⟨⟨Nat.le_of_ble_eq_true rfl, Nat.le_of_ble_eq_true rfl⟩, rfl, rfl⟩ rfl rfl (Foc.all C.2.2.2.2.2.2.2.2.1) rfl hl.1 rfl (Nat.le_of_ble_eq_true rfl) dX9_layOutBy_58 ⟨Nat.zero_le _, Nat.zero_le _⟩ (fun r1 S2 H locs h hG => ?_)
  have hG : GW D A s (w9 o q cy S2) H locs := hG
  exact retI (w := (w9 o q cy)) (S := S2) C hG h dX9_layOutBy_61
def w9_layOutBy_b33 (S : MS) (Q : Int32 → MS → Prop) : Prop :=
  Q (-1 : Int32) S
set_option maxHeartbeats 4000000 in
set_option maxRecDepth 100000 in
theorem b9_layOutBy_b33 {p : Program} {l : Launch} {e : Env} {s : State} {m : MethodId} {args : Array Value} {below : List Frame} {meth : Method} {c : Code} {D : va_G} {cy : Nat → ClassId} {A : Nat → Prop} {o : Nat} {q : Nat → Nat} (S : MS) {Q : Int32 → MS → Prop} (C : Cx p s m args meth c cX9_layOutBy 6 (some .int) wsX9_layOutBy RX9 D cy nestWs A) (h : w9_layOutBy_b33 S Q) {H : Heap} {locs : List Loc} (hG : GW D A s (w9 o q cy S) H locs) {ls : Array Slot} (hl : lv_has ls 6 [(0, .ref o)]) : W p l e ({ frames := 6, cells := 0, slots := 0, locals := 152 } : Room) s m args below meth c H locs 0 0 (MQ below (va_Qi Q (B1 D (w9 o q cy) A) A) args s 0 0 A) (F0 m 33 ls []) := by
  have hx := C.1
  have hb := C.2.1
  unfold w9_layOutBy_b33 at h
  refine lv_iconst (v := -1) hx hb dX9_layOutBy_33 (by decide) ?_
  exact retI (w := (w9 o q cy)) (S := S) C hG h dX9_layOutBy_34
def w9_layOutBy (x1 : Int32) (x2 : Int32) (x3 : Int32) (x4 : Int32) (x5 : Int32) (S : MS) (Q : Int32 → MS → Prop) : Prop :=
  w9_isBox x1 (fun r1 => ((r1 = 0 → w9_layOutBy_b33 S Q) ∧ (¬ r1 = 0 → w9_in x3 (0 : Int32) (63 : Int32) (fun r3 => ((r3 = 0 → w9_layOutBy_b33 S Q) ∧ (¬ r3 = 0 → w9_isFigure x5 (fun r5 => ((r5 = 0 → w9_layOutBy_b33 S Q) ∧ (¬ r5 = 0 → w9_isRow x4 (fun r7 => ((¬ r7 = 0 → vp_in ((3 : Int32) * x1) 12 ∧ (((rA S 7 ((3 : Int32) * x1)) = 0 → w9_layOutBy_b56 S Q) ∧ (¬ (rA S 7 ((3 : Int32) * x1)) = 0 → vp_in x4 4 ∧ ((0 ≤ (rA S 40 x4) → w9_isCell x1 x2 S (fun r13 => ((r13 = 0 → w9_meets (2 : Int32) S (fun r16 S17 => w9_layOutBy_b90 r16 S17 Q)) ∧ (¬ r13 = 0 → w9_lays x1 x2 x3 x4 x5 S (fun r18 S19 => w9_layOutBy_b90 r18 S19 Q))))) ∧ (¬ 0 ≤ (rA S 40 x4) → w9_layOutBy_b56 S Q))))) ∧ (r7 = 0 → w9_layOutBy_b33 S Q))))))))))))
set_option maxHeartbeats 4000000 in
set_option maxRecDepth 100000 in
theorem c9_layOutBy (l : Launch) (D : va_G) (cy : Nat → ClassId)  (o : Nat) (q : Nat → Nat) (x1 : Int32) (x2 : Int32) (x3 : Int32) (x4 : Int32) (x5 : Int32) (S : MS) (Q : Int32 → MS → Prop) (h : w9_layOutBy x1 x2 x3 x4 x5 S Q) : MetI l yX9_layOutBy wsX9_layOutBy ({ frames := 6, cells := 0, slots := 0, locals := 152 } : Room) D cy nestWs (w9 o q cy) [.ref o, .int x1, .int x2, .int x3, .int x4, .int x5] S Q := by
  refine MetI.mk RX9 cX9_layOutBy 6 .int (by decide) rfl nestWs_ok rfl (Nat.le_of_ble_eq_true rfl) ?_
  intro p e s m below meth c A ls C hG hl
  have hl : lv_has ls 6 [(0, .ref o), (1, .int x1), (2, .int x2), (3, .int x3), (4, .int x4), (5, .int x5)] := hl
  have hx := C.1
  have hb := C.2.1
  unfold w9_layOutBy at h
  refine lv_iload_n hx hb dX9_layOutBy_0 rfl (lv_at hl 1 rfl) ?_
  refine callSI (As := [.int x1]) (rest := []) C hG (c9_isBox l D cy x1 _ h) 1 gX9_layOutBy_X9_isBox rfl (by decide +kernel) ⟨⟨Nat.le_of_ble_eq_true rfl, Nat.le_of_ble_eq_true rfl⟩, rfl, rfl⟩ (Foc.none C.2.2.2.2.2.2.2.2.1) rfl hl.1 rfl (Nat.le_of_ble_eq_true rfl) dX9_layOutBy_1 ⟨Nat.zero_le _, Nat.zero_le _⟩ (fun r1 z H locs h hG => ?_)
  refine lv_if_eq (tgt := 33) hx hb dX9_layOutBy_4 (by decide) (fun c2 => ?_) (fun c2 => ?_)
  · replace h := h.1 c2
    exact b9_layOutBy_b33 S C h hG (lv_sub hl [0] rfl)
  · replace h := h.2 c2
    refine lv_iload_n hx hb dX9_layOutBy_7 rfl (lv_at hl 3 rfl) ?_
    refine lv_iconst (v := 0) hx hb dX9_layOutBy_8 (by decide) ?_
    refine lv_bipush (v := 63) hx hb dX9_layOutBy_9 (by decide) ?_
    refine callSI (As := [.int x3, .int (0 : Int32), .int (63 : Int32)]) (rest := []) C hG (c9_in l D cy x3 (0 : Int32) (63 : Int32) _ h) 3 gX9_layOutBy_X9_in rfl (by decide +kernel) ⟨⟨Nat.le_of_ble_eq_true rfl, Nat.le_of_ble_eq_true rfl⟩, rfl, rfl⟩ (Foc.none C.2.2.2.2.2.2.2.2.1) rfl hl.1 rfl (Nat.le_of_ble_eq_true rfl) dX9_layOutBy_11 ⟨Nat.zero_le _, Nat.zero_le _⟩ (fun r3 z H locs h hG => ?_)
    refine lv_if_eq (tgt := 33) hx hb dX9_layOutBy_14 (by decide) (fun c4 => ?_) (fun c4 => ?_)
    · replace h := h.1 c4
      exact b9_layOutBy_b33 S C h hG (lv_sub hl [0] rfl)
    · replace h := h.2 c4
      refine lv_iload hx hb dX9_layOutBy_17 (lv_at hl 5 rfl) ?_
      refine callSI (As := [.int x5]) (rest := []) C hG (c9_isFigure l D cy x5 _ h) 1 gX9_layOutBy_X9_isFigure rfl (by decide +kernel) ⟨⟨Nat.le_of_ble_eq_true rfl, Nat.le_of_ble_eq_true rfl⟩, rfl, rfl⟩ (Foc.none C.2.2.2.2.2.2.2.2.1) rfl hl.1 rfl (Nat.le_of_ble_eq_true rfl) dX9_layOutBy_19 ⟨Nat.zero_le _, Nat.zero_le _⟩ (fun r5 z H locs h hG => ?_)
      refine lv_if_eq (tgt := 33) hx hb dX9_layOutBy_22 (by decide) (fun c6 => ?_) (fun c6 => ?_)
      · replace h := h.1 c6
        exact b9_layOutBy_b33 S C h hG (lv_sub hl [0] rfl)
      · replace h := h.2 c6
        refine lv_iload hx hb dX9_layOutBy_25 (lv_at hl 4 rfl) ?_
        refine callSI (As := [.int x4]) (rest := []) C hG (c9_isRow l D cy x4 _ h) 1 gX9_layOutBy_X9_isRow rfl (by decide +kernel) ⟨⟨Nat.le_of_ble_eq_true rfl, Nat.le_of_ble_eq_true rfl⟩, rfl, rfl⟩ (Foc.none C.2.2.2.2.2.2.2.2.1) rfl hl.1 rfl (Nat.le_of_ble_eq_true rfl) dX9_layOutBy_27 ⟨Nat.zero_le _, Nat.zero_le _⟩ (fun r7 z H locs h hG => ?_)
        refine lv_if_ne (tgt := 35) hx hb dX9_layOutBy_30 (by decide) (fun c8 => ?_) (fun c8 => ?_)
        · replace h := h.1 c8
          refine lv_aload_n hx hb dX9_layOutBy_35 rfl (lv_at hl 0 rfl) ?_
          refine x9g_7 C i9_layOutBy_X9 k9_layOutBy_26 hG dX9_layOutBy_36 ?_
          refine lv_iconst (v := 3) hx hb dX9_layOutBy_39 (by decide) ?_
          refine lv_iload_n hx hb dX9_layOutBy_40 rfl (lv_at hl 1 rfl) ?_
          refine lv_imul hx hb dX9_layOutBy_41 ?_
          obtain ⟨hv9, h⟩ := h
          refine x9l_7 C hG hv9 dX9_layOutBy_42 ?_
          refine lv_if_eq (tgt := 56) hx hb dX9_layOutBy_43 (by decide) (fun c10 => ?_) (fun c10 => ?_)
          · replace h := h.1 c10
            exact b9_layOutBy_b56 S C h hG (lv_sub hl [0] rfl)
          · replace h := h.2 c10
            refine lv_aload_n hx hb dX9_layOutBy_46 rfl (lv_at hl 0 rfl) ?_
            refine x9g_40 C i9_layOutBy_X9 k9_layOutBy_104 hG dX9_layOutBy_47 ?_
            refine lv_iload hx hb dX9_layOutBy_50 (lv_at hl 4 rfl) ?_
            obtain ⟨hv11, h⟩ := h
            refine x9l_40 C hG hv11 dX9_layOutBy_52 ?_
            refine lv_if_ge (tgt := 62) hx hb dX9_layOutBy_53 (by decide) (fun c12 => ?_) (fun c12 => ?_)
            · replace h := h.1 c12
              refine lv_aload_n hx hb dX9_layOutBy_62 rfl (lv_at hl 0 rfl) ?_
              refine lv_iload_n hx hb dX9_layOutBy_63 rfl (lv_at hl 1 rfl) ?_
              refine lv_iload_n hx hb dX9_layOutBy_64 rfl (lv_at hl 2 rfl) ?_
              refine callVI (As := [.int x1, .int x2]) (rest := []) C hG (c9_isCell l D cy o q x1 x2 S _ h) 2 gX9_layOutBy_X9_isCell rfl (by decide +kernel) ⟨⟨Nat.le_of_ble_eq_true rfl, Nat.le_of_ble_eq_true rfl⟩, rfl, rfl⟩ rfl rfl (Foc.all C.2.2.2.2.2.2.2.2.1) rfl hl.1 rfl (Nat.le_of_ble_eq_true rfl) dX9_layOutBy_65 ⟨Nat.zero_le _, Nat.zero_le _⟩ (fun r13 u14 H locs h hG => ?_)
              obtain ⟨eu14, h⟩ := h
              have eu14 : u14 = S := eu14
              subst u14
              have hG : GW D A s (w9 o q cy S) H locs := hG
              refine lv_if_eq (tgt := 85) hx hb dX9_layOutBy_68 (by decide) (fun c15 => ?_) (fun c15 => ?_)
              · replace h := h.1 c15
                refine lv_aload_n hx hb dX9_layOutBy_85 rfl (lv_at hl 0 rfl) ?_
                refine lv_iconst (v := 2) hx hb dX9_layOutBy_86 (by decide) ?_
                refine callVI (As := [.int (2 : Int32)]) (rest := []) C hG (c9_meets l D cy o q (2 : Int32) S _ h) 1 gX9_layOutBy_X9_meets rfl (by decide +kernel) ⟨⟨Nat.le_of_ble_eq_true rfl, Nat.le_of_ble_eq_true rfl⟩, rfl, rfl⟩ rfl rfl (Foc.all C.2.2.2.2.2.2.2.2.1) rfl hl.1 rfl (Nat.le_of_ble_eq_true rfl) dX9_layOutBy_87 ⟨Nat.zero_le _, Nat.zero_le _⟩ (fun r16 S17 H locs h hG => ?_)
                have hG : GW D A s (w9 o q cy S17) H locs := hG
                exact b9_layOutBy_b90 r16 S17 C h hG (lv_sub hl [0] rfl)
              · replace h := h.2 c15
                refine lv_aload_n hx hb dX9_layOutBy_71 rfl (lv_at hl 0 rfl) ?_
                refine lv_iload_n hx hb dX9_layOutBy_72 rfl (lv_at hl 1 rfl) ?_
                refine lv_iload_n hx hb dX9_layOutBy_73 rfl (lv_at hl 2 rfl) ?_
                refine lv_iload_n hx hb dX9_layOutBy_74 rfl (lv_at hl 3 rfl) ?_
                refine lv_iload hx hb dX9_layOutBy_75 (lv_at hl 4 rfl) ?_
                refine lv_iload hx hb dX9_layOutBy_77 (lv_at hl 5 rfl) ?_
                refine callVI (As := [.int x1, .int x2, .int x3, .int x4, .int x5]) (rest := []) C hG (c9_lays l D cy o q x1 x2 x3 x4 x5 S _ h) 5 gX9_layOutBy_X9_lays rfl (by decide +kernel) ⟨⟨Nat.le_of_ble_eq_true rfl, Nat.le_of_ble_eq_true rfl⟩, rfl, rfl⟩ rfl rfl (Foc.all C.2.2.2.2.2.2.2.2.1) rfl hl.1 rfl (Nat.le_of_ble_eq_true rfl) dX9_layOutBy_79 ⟨Nat.zero_le _, Nat.zero_le _⟩ (fun r18 S19 H locs h hG => ?_)
                have hG : GW D A s (w9 o q cy S19) H locs := hG
                refine lv_goto (tgt := 90) hx hb dX9_layOutBy_82 (by decide) ?_
                exact b9_layOutBy_b90 r18 S19 C h hG (lv_sub hl [0] rfl)
            · replace h := h.2 c12
              exact b9_layOutBy_b56 S C h hG (lv_sub hl [0] rfl)
        · replace h := h.2 c8
          exact b9_layOutBy_b33 S C h hG (lv_sub hl [0] rfl)
