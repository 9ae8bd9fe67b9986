-- X9_farthest
def w9_farthest_b73 (K23 : Int32 → Int32 → Int32 → MS → Prop) (x1 : Int32) (x2 : Int32) (x4 : Int32) (x6 : Int32) (t0 : Int32) (S : MS) (Q : Int32 → MS → Prop) : Prop :=
  ∀ y1 : Int32, y1 = x6 + 1 → K23 x4 t0 y1 S
set_option maxHeartbeats 4000000 in
set_option maxRecDepth 100000 in
theorem b9_farthest_b73 {p : Program} {l : Launch} {e : Env} {s : State} {m : MethodId} {args : Array Value} {below : List Frame} {meth : Method} {c : Code} {D : va_G} {cy : Nat → ClassId} {A : Nat → Prop} {o : Nat} {q : Nat → Nat} {K23 : Int32 → Int32 → Int32 → MS → Prop} (x1 : Int32) (x2 : Int32) (x4 : Int32) (x6 : Int32) (t0 : Int32) (S : MS) {Q : Int32 → MS → Prop} (C : Cx p s m args meth c cX9_farthest 8 (some .int) wsX9_farthest RX9 D cy nestWs A) (hK23 : ∀ (x4 : Int32) (x5 : Int32) (x6 : Int32) (S : MS) (H : Heap) (locs : List Loc) (ls : Array Slot), K23 x4 x5 x6 S → GW D A s (w9 o q cy S) H locs → lv_has ls 8 [(0, .ref o), (1, .int x1), (2, .int x2), (4, .int x4), (5, .int x5), (6, .int x6)] → W p l e ({ frames := 5, cells := 0, slots := 0, locals := 113 } : Room) s m args below meth c H locs 0 0 (MQ below (va_Qi Q (B1 D (w9 o q cy) A) A) args s 0 0 A) (F0 m 23 ls [])) (h : w9_farthest_b73 K23 x1 x2 x4 x6 t0 S Q) {H : Heap} {locs : List Loc} (hG : GW D A s (w9 o q cy S) H locs) {ls : Array Slot} (hl : lv_has ls 8 [(0, .ref o), (1, .int x1), (2, .int x2), (4, .int x4), (6, .int x6)]) : W p l e ({ frames := 5, cells := 0, slots := 0, locals := 113 } : Room) s m args below meth c H locs 0 0 (MQ below (va_Qi Q (B1 D (w9 o q cy) A) A) args s 0 0 A) (F0 m 73 ls [.int t0]) := by
  have hx := C.1
  have hb := C.2.1
  unfold w9_farthest_b73 at h
  refine lv_istore (lv' := [(5, .int t0), (0, .ref o), (1, .int x1), (2, .int x2), (4, .int x4), (6, .int x6)]) hx hb dX9_farthest_73 hl (by decide) rfl (fun ls hl => ?_)
  obtain ⟨y1, ey1⟩ : ∃ y : Int32, y = x6 + 1 := ⟨_, rfl⟩
  replace h := h y1 ey1
  refine lv_iinc (v := y1) (lv' := [(6, .int y1), (5, .int t0), (0, .ref o), (1, .int x1), (2, .int x2), (4, .int x4)]) hx hb dX9_farthest_75 hl (k := 5) rfl (by rw [ey1]; rfl) (by decide) rfl (fun ls hl => ?_)
  refine lv_goto (tgt := 23) hx hb dX9_farthest_78 (by decide) ?_
  exact hK23 x4 t0 y1 S _ _ _ h hG (lv_sub hl [2, 3, 4, 5, 1, 0] rfl)
def w9_farthest_b57 (K23 : Int32 → Int32 → Int32 → MS → Prop) (x1 : Int32) (x2 : Int32) (x5 : Int32) (x6 : Int32) (x7 : Int32) (t0 : Int32) (S : MS) (Q : Int32 → MS → Prop) : Prop :=
  ((x7 ≤ x5 → w9_farthest_b73 K23 x1 x2 t0 x6 x5 S Q) ∧ (¬ x7 ≤ x5 → w9_farthest_b73 K23 x1 x2 t0 x6 x7 S Q))
set_option maxHeartbeats 4000000 in
set_option maxRecDepth 100000 in
theorem b9_farthest_b57 {p : Program} {l : Launch} {e : Env} {s : State} {m : MethodId} {args : Array Value} {below : List Frame} {meth : Method} {c : Code} {D : va_G} {cy : Nat → ClassId} {A : Nat → Prop} {o : Nat} {q : Nat → Nat} {K23 : Int32 → Int32 → Int32 → MS → Prop} (x1 : Int32) (x2 : Int32) (x5 : Int32) (x6 : Int32) (x7 : Int32) (t0 : Int32) (S : MS) {Q : Int32 → MS → Prop} (C : Cx p s m args meth c cX9_farthest 8 (some .int) wsX9_farthest RX9 D cy nestWs A) (hK23 : ∀ (x4 : Int32) (x5 : Int32) (x6 : Int32) (S : MS) (H : Heap) (locs : List Loc) (ls : Array Slot), K23 x4 x5 x6 S → GW D A s (w9 o q cy S) H locs → lv_has ls 8 [(0, .ref o), (1, .int x1), (2, .int x2), (4, .int x4), (5, .int x5), (6, .int x6)] → W p l e ({ frames := 5, cells := 0, slots := 0, locals := 113 } : Room) s m args below meth c H locs 0 0 (MQ below (va_Qi Q (B1 D (w9 o q cy) A) A) args s 0 0 A) (F0 m 23 ls [])) (h : w9_farthest_b57 K23 x1 x2 x5 x6 x7 t0 S Q) {H : Heap} {locs : List Loc} (hG : GW D A s (w9 o q cy S) H locs) {ls : Array Slot} (hl : lv_has ls 8 [(0, .ref o), (1, .int x1), (2, .int x2), (5, .int x5), (6, .int x6), (7, .int x7)]) : W p l e ({ frames := 5, cells := 0, slots := 0, locals := 113 } : Room) s m args below meth c H locs 0 0 (MQ below (va_Qi Q (B1 D (w9 o q cy) A) A) args s 0 0 A) (F0 m 57 ls [.int t0]) := by
  have hx := C.1
  have hb := C.2.1
  unfold w9_farthest_b57 at h
  refine lv_istore (lv' := [(4, .int t0), (0, .ref o), (1, .int x1), (2, .int x2), (5, .int x5), (6, .int x6), (7, .int x7)]) hx hb dX9_farthest_57 hl (by decide) rfl (fun ls hl => ?_)
  refine lv_iload hx hb dX9_farthest_59 (lv_at hl 6 rfl) ?_
  refine lv_iload hx hb dX9_farthest_61 (lv_at hl 4 rfl) ?_
  refine lv_icmp_le (tgt := 71) hx hb dX9_farthest_63 (by decide) (fun c1 => ?_) (fun c1 => ?_)
  · replace h := h.1 c1
    refine lv_iload hx hb dX9_farthest_71 (lv_at hl 4 rfl) ?_
    exact b9_farthest_b73 (K23 := K23) x1 x2 t0 x6 x5 S C hK23 h hG (lv_sub hl [1, 2, 3, 0, 5] rfl)
  · replace h := h.2 c1
    refine lv_iload hx hb dX9_farthest_66 (lv_at hl 6 rfl) ?_
    refine lv_goto (tgt := 73) hx hb dX9_farthest_68 (by decide) ?_
    exact b9_farthest_b73 (K23 := K23) x1 x2 t0 x6 x7 S C hK23 h hG (lv_sub hl [1, 2, 3, 0, 5] rfl)
def w9_farthest_d23 (K23 : Int32 → Int32 → Int32 → MS → Prop) (x1 : Int32) (x2 : Int32) (x4 : Int32) (x5 : Int32) (x6 : Int32) (S : MS) (Q : Int32 → MS → Prop) : Prop :=
  w9_cells x1 S (fun r1 => ((r1 ≤ x6 → w9_ask x5.toInt64 x4 S (fun r4 S5 => Q r4 S5)) ∧ (¬ r1 ≤ x6 → w9_shortOf x1 x2 x6 S (fun r6 S7 => ((r6 ≤ x5 → w9_farthest_b57 K23 x1 x2 x5 x6 r6 x4 S7 Q) ∧ (¬ r6 ≤ x5 → w9_farthest_b57 K23 x1 x2 x5 x6 r6 x6 S7 Q))))))
set_option maxHeartbeats 4000000 in
set_option maxRecDepth 100000 in
theorem b9_farthest_d23 {p : Program} {l : Launch} {e : Env} {s : State} {m : MethodId} {args : Array Value} {below : List Frame} {meth : Method} {c : Code} {D : va_G} {cy : Nat → ClassId} {A : Nat → Prop} {o : Nat} {q : Nat → Nat} {K23 : Int32 → Int32 → Int32 → MS → Prop} (x1 : Int32) (x2 : Int32) (x4 : Int32) (x5 : Int32) (x6 : Int32) (S : MS) {Q : Int32 → MS → Prop} (C : Cx p s m args meth c cX9_farthest 8 (some .int) wsX9_farthest RX9 D cy nestWs A) (hK23 : ∀ (x4 : Int32) (x5 : Int32) (x6 : Int32) (S : MS) (H : Heap) (locs : List Loc) (ls : Array Slot), K23 x4 x5 x6 S → GW D A s (w9 o q cy S) H locs → lv_has ls 8 [(0, .ref o), (1, .int x1), (2, .int x2), (4, .int x4), (5, .int x5), (6, .int x6)] → W p l e ({ frames := 5, cells := 0, slots := 0, locals := 113 } : Room) s m args below meth c H locs 0 0 (MQ below (va_Qi Q (B1 D (w9 o q cy) A) A) args s 0 0 A) (F0 m 23 ls [])) (h : w9_farthest_d23 K23 x1 x2 x4 x5 x6 S Q) {H : Heap} {locs : List Loc} (hG : GW D A s (w9 o q cy S) H locs) {ls : Array Slot} (hl : lv_has ls 8 [(0, .ref o), (1, .int x1), (2, .int x2), (4, .int x4), (5, .int x5), (6, .int x6)]) : W p l e ({ frames := 5, cells := 0, slots := 0, locals := 113 } : Room) s m args below meth c H locs 0 0 (MQ below (va_Qi Q (B1 D (w9 o q cy) A) A) args s 0 0 A) (F0 m 23 ls []) := by
  have hx := C.1
  have hb := C.2.1
  unfold w9_farthest_d23 at h
  refine lv_iload hx hb dX9_farthest_23 (lv_at hl 5 rfl) ?_
  refine lv_aload_n hx hb dX9_farthest_25 rfl (lv_at hl 0 rfl) ?_
  refine lv_iload_n hx hb dX9_farthest_26 rfl (lv_at hl 1 rfl) ?_
  refine callVI (As := [.int x1]) (rest := [.int x6]) C hG (c9_cells l D cy o q x1 S _ h) 1 gX9_farthest_X9_cells rfl (by decide +kernel) ⟨⟨Nat.le_of_ble_eq_true rfl, Nat.le_of_ble_eq_true rfl⟩, rfl, rfl⟩ rfl rfl (Foc.all C.2.2.2.2.2.2.2.2.1) rfl hl.1 rfl (Nat.le_of_ble_eq_true rfl) dX9_farthest_27 ⟨Nat.zero_le _, Nat.zero_le _⟩ (fun r1 u2 H locs h hG => ?_)
  obtain ⟨eu2, h⟩ := h
  have eu2 : u2 = S := eu2
  subst u2
  have hG : GW D A s (w9 o q cy S) H locs := hG
  refine lv_icmp_ge (tgt := 81) hx hb dX9_farthest_30 (by decide) (fun c3 => ?_) (fun c3 => ?_)
  · replace h := h.1 c3
    refine lv_aload_n hx hb dX9_farthest_81 rfl (lv_at hl 0 rfl) ?_
    refine lv_iload hx hb dX9_farthest_82 (lv_at hl 4 rfl) ?_
    refine lv_i2l hx hb dX9_farthest_84 rfl ?_
    refine lv_iload hx hb dX9_farthest_85 (lv_at hl 3 rfl) ?_
    refine callVI (As := [.long x5.toInt64, .int x4]) (rest := []) C hG (c9_ask l D cy o q x5.toInt64 x4 S _ h) 2 gX9_farthest_X9_ask rfl (by decide +kernel) ⟨⟨Nat.le_of_ble_eq_true rfl, Nat.le_of_ble_eq_true rfl⟩, rfl, rfl⟩ rfl rfl (Foc.all C.2.2.2.2.2.2.2.2.1) rfl hl.1 rfl (Nat.le_of_ble_eq_true rfl) dX9_farthest_87 ⟨Nat.zero_le _, Nat.zero_le _⟩ (fun r4 S5 H locs h hG => ?_)
    have hG : GW D A s (w9 o q cy S5) H locs := hG
    exact retI (w := (w9 o q cy)) (S := S5) C hG h dX9_farthest_90
  · replace h := h.2 c3
    refine lv_aload_n hx hb dX9_farthest_33 rfl (lv_at hl 0 rfl) ?_
    refine lv_iload_n hx hb dX9_farthest_34 rfl (lv_at hl 1 rfl) ?_
    refine lv_iload_n hx hb dX9_farthest_35 rfl (lv_at hl 2 rfl) ?_
    refine lv_iload hx hb dX9_farthest_36 (lv_at hl 5 rfl) ?_
    refine callVI (As := [.int x1, .int x2, .int x6]) (rest := []) C hG (c9_shortOf l D cy o q x1 x2 x6 S _ h) 3 gX9_farthest_X9_shortOf rfl (by decide +kernel) ⟨⟨Nat.le_of_ble_eq_true rfl, Nat.le_of_ble_eq_true rfl⟩, rfl, rfl⟩ rfl rfl (Foc.all C.2.2.2.2.2.2.2.2.1) rfl hl.1 rfl (Nat.le_of_ble_eq_true rfl) dX9_farthest_38 ⟨Nat.zero_le _, Nat.zero_le _⟩ (fun r6 S7 H locs h hG => ?_)
    have hG : GW D A s (w9 o q cy S7) H locs := hG
    refine lv_istore (lv' := [(7, .int r6), (0, .ref o), (1, .int x1), (2, .int x2), (4, .int x4), (5, .int x5), (6, .int x6)]) hx hb dX9_farthest_41 hl (by decide) rfl (fun ls hl => ?_)
    refine lv_iload hx hb dX9_farthest_43 (lv_at hl 0 rfl) ?_
    refine lv_iload hx hb dX9_farthest_45 (lv_at hl 5 rfl) ?_
    refine lv_icmp_le (tgt := 55) hx hb dX9_farthest_47 (by decide) (fun c8 => ?_) (fun c8 => ?_)
    · replace h := h.1 c8
      refine lv_iload hx hb dX9_farthest_55 (lv_at hl 4 rfl) ?_
      exact b9_farthest_b57 (K23 := K23) x1 x2 x5 x6 r6 x4 S7 C hK23 h hG (lv_sub hl [1, 2, 3, 5, 6, 0] rfl)
    · replace h := h.2 c8
      refine lv_iload hx hb dX9_farthest_50 (lv_at hl 6 rfl) ?_
      refine lv_goto (tgt := 57) hx hb dX9_farthest_52 (by decide) ?_
      exact b9_farthest_b57 (K23 := K23) x1 x2 x5 x6 r6 x6 S7 C hK23 h hG (lv_sub hl [1, 2, 3, 5, 6, 0] rfl)
def w9_farthest_F23 (x1 : Int32) (x2 : Int32) (Q : Int32 → MS → Prop) (K : Int32 × Int32 × Int32 × MS → Prop) (a : Int32 × Int32 × Int32 × MS) : Prop := w9_farthest_d23 (fun y0 y1 y2 y3 => K (y0, y1, y2, y3)) x1 x2 a.1 a.2.1 a.2.2.1 a.2.2.2 Q
def w9_farthest_b23 (x1 : Int32) (x2 : Int32) (x4 : Int32) (x5 : Int32) (x6 : Int32) (S : MS) (Q : Int32 → MS → Prop) : Prop := lp (w9_farthest_F23 x1 x2 Q) (x4, x5, x6, S)
set_option maxHeartbeats 4000000 in
set_option maxRecDepth 100000 in
theorem b9_farthest_b23 {p : Program} {l : Launch} {e : Env} {s : State} {m : MethodId} {args : Array Value} {below : List Frame} {meth : Method} {c : Code} {D : va_G} {cy : Nat → ClassId} {A : Nat → Prop} {o : Nat} {q : Nat → Nat} (x1 : Int32) (x2 : Int32) (x4 : Int32) (x5 : Int32) (x6 : Int32) (S : MS) {Q : Int32 → MS → Prop} (C : Cx p s m args meth c cX9_farthest 8 (some .int) wsX9_farthest RX9 D cy nestWs A) (h : w9_farthest_b23 x1 x2 x4 x5 x6 S Q) {H : Heap} {locs : List Loc} (hG : GW D A s (w9 o q cy S) H locs) {ls : Array Slot} (hl : lv_has ls 8 [(0, .ref o), (1, .int x1), (2, .int x2), (4, .int x4), (5, .int x5), (6, .int x6)]) : W p l e ({ frames := 5, cells := 0, slots := 0, locals := 113 } : Room) s m args below meth c H locs 0 0 (MQ below (va_Qi Q (B1 D (w9 o q cy) A) A) args s 0 0 A) (F0 m 23 ls []) := by
  obtain ⟨k, hn⟩ := h
  induction k generalizing x4 x5 x6 S H locs ls with
  | zero => exact hn.elim
  | succ k ih => exact b9_farthest_d23 (K23 := fun y0 y1 y2 y3 => itr (w9_farthest_F23 x1 x2 Q) k (y0, y1, y2, y3)) x1 x2 x4 x5 x6 S C (fun x4 x5 x6 S H locs ls hk hG hl => ih x4 x5 x6 S hG hl hk) hn hG hl
def w9_farthest (x1 : Int32) (x2 : Int32) (S : MS) (Q : Int32 → MS → Prop) : Prop :=
  w9_askedCells x1 x2 x2 S (fun r1 S2 => ((0 ≤ r1 → w9_farthest_b23 x1 x2 (0 : Int32) (-1 : Int32) (0 : Int32) S2 Q) ∧ (¬ 0 ≤ r1 → Q r1 S2)))
set_option maxHeartbeats 4000000 in
set_option maxRecDepth 100000 in
theorem c9_farthest (l : Launch) (D : va_G) (cy : Nat → ClassId)  (o : Nat) (q : Nat → Nat) (x1 : Int32) (x2 : Int32) (S : MS) (Q : Int32 → MS → Prop) (h : w9_farthest x1 x2 S Q) : MetI l yX9_farthest wsX9_farthest ({ frames := 5, cells := 0, slots := 0, locals := 113 } : Room) D cy nestWs (w9 o q cy) [.ref o, .int x1, .int x2] S Q := by
  refine MetI.mk RX9 cX9_farthest 8 .int (by decide) rfl nestWs_ok rfl (Nat.le_of_ble_eq_true rfl) ?_
  intro p e s m below meth c A ls C hG hl
  have hl : lv_has ls 8 [(0, .ref o), (1, .int x1), (2, .int x2)] := hl
  have hx := C.1
  have hb := C.2.1
  unfold w9_farthest at h
  refine lv_aload_n hx hb dX9_farthest_0 rfl (lv_at hl 0 rfl) ?_
  refine lv_iload_n hx hb dX9_farthest_1 rfl (lv_at hl 1 rfl) ?_
  refine lv_iload_n hx hb dX9_farthest_2 rfl (lv_at hl 2 rfl) ?_
  refine lv_iload_n hx hb dX9_farthest_3 rfl (lv_at hl 2 rfl) ?_
  refine callVI (As := [.int x1, .int x2, .int x2]) (rest := []) C hG (c9_askedCells l D cy o q x1 x2 x2 S _ h) 3 gX9_farthest_X9_askedCells rfl (by decide +kernel) ⟨⟨Nat.le_of_ble_eq_true rfl, Nat.le_of_ble_eq_true rfl⟩, rfl, rfl⟩ rfl rfl (Foc.all C.2.2.2.2.2.2.2.2.1) rfl hl.1 rfl (Nat.le_of_ble_eq_true rfl) dX9_farthest_4 ⟨Nat.zero_le _, Nat.zero_le _⟩ (fun r1 S2 H locs h hG => ?_)
  have hG : GW D A s (w9 o q cy S2) H locs := hG
  refine lv_istore_n (lv' := [(3, .int r1), (0, .ref o), (1, .int x1), (2, .int x2)]) hx hb dX9_farthest_7 rfl hl (by decide) rfl (fun ls hl => ?_)
  refine lv_iload_n hx hb dX9_farthest_8 rfl (lv_at hl 0 rfl) ?_
  refine lv_if_ge (tgt := 14) hx hb dX9_farthest_9 (by decide) (fun c3 => ?_) (fun c3 => ?_)
  · replace h := h.1 c3
    refine lv_iconst (v := 0) hx hb dX9_farthest_14 (by decide) ?_
    refine lv_istore (lv' := [(4, .int (0 : Int32)), (3, .int r1), (0, .ref o), (1, .int x1), (2, .int x2)]) hx hb dX9_farthest_15 hl (by decide) rfl (fun ls hl => ?_)
    refine lv_iconst (v := -1) hx hb dX9_farthest_17 (by decide) ?_
    refine lv_istore (lv' := [(5, .int (-1 : Int32)), (4, .int (0 : Int32)), (3, .int r1), (0, .ref o), (1, .int x1), (2, .int x2)]) hx hb dX9_farthest_18 hl (by decide) rfl (fun ls hl => ?_)
    refine lv_iconst (v := 0) hx hb dX9_farthest_20 (by decide) ?_
    refine lv_istore (lv' := [(6, .int (0 : Int32)), (5, .int (-1 : Int32)), (4, .int (0 : Int32)), (3, .int r1), (0, .ref o), (1, .int x1), (2, .int x2)]) hx hb dX9_farthest_21 hl (by decide) rfl (fun ls hl => ?_)
    exact b9_farthest_b23 x1 x2 (0 : Int32) (-1 : Int32) (0 : Int32) S2 C h hG (lv_sub hl [4, 5, 6, 2, 1, 0] rfl)
  · replace h := h.2 c3
    refine lv_iload_n hx hb dX9_farthest_12 rfl (lv_at hl 0 rfl) ?_
    exact retI (w := (w9 o q cy)) (S := S2) C hG h dX9_farthest_13
-- X9_mean
def w9_mean_d20 (K20 : Int32 → Int32 → MS → Prop) (x1 : Int32) (x2 : Int32) (x4 : Int32) (x5 : Int32) (S : MS) (Q : Int32 → MS → Prop) : Prop :=
  w9_cells x1 S (fun r1 => ((r1 ≤ x5 → w9_cells x1 S (fun r4 => ¬ (r4 - (1 : Int32)) = 0 ∧ Q (x4 / (r4 - (1 : Int32))) S)) ∧ (¬ r1 ≤ x5 → w9_shortOf x1 x2 x5 S (fun r7 S8 => ∀ y9 : Int32, y9 = (x4 + r7) → ∀ y10 : Int32, y10 = x5 + 1 → K20 y9 y10 S8))))
set_option maxHeartbeats 4000000 in
set_option maxRecDepth 100000 in
theorem b9_mean_d20 {p : Program} {l : Launch} {e : Env} {s : State} {m : MethodId} {args : Array Value} {below : List Frame} {meth : Method} {c : Code} {D : va_G} {cy : Nat → ClassId} {A : Nat → Prop} {o : Nat} {q : Nat → Nat} {K20 : Int32 → Int32 → MS → Prop} (x1 : Int32) (x2 : Int32) (x4 : Int32) (x5 : Int32) (S : MS) {Q : Int32 → MS → Prop} (C : Cx p s m args meth c cX9_mean 6 (some .int) wsX9_mean RX9 D cy nestWs A) (hK20 : ∀ (x4 : Int32) (x5 : Int32) (S : MS) (H : Heap) (locs : List Loc) (ls : Array Slot), K20 x4 x5 S → GW D A s (w9 o q cy S) H locs → lv_has ls 6 [(0, .ref o), (1, .int x1), (2, .int x2), (4, .int x4), (5, .int x5)] → W p l e ({ frames := 5, cells := 0, slots := 0, locals := 113 } : Room) s m args below meth c H locs 0 0 (MQ below (va_Qi Q (B1 D (w9 o q cy) A) A) args s 0 0 A) (F0 m 20 ls [])) (h : w9_mean_d20 K20 x1 x2 x4 x5 S Q) {H : Heap} {locs : List Loc} (hG : GW D A s (w9 o q cy S) H locs) {ls : Array Slot} (hl : lv_has ls 6 [(0, .ref o), (1, .int x1), (2, .int x2), (4, .int x4), (5, .int x5)]) : W p l e ({ frames := 5, cells := 0, slots := 0, locals := 113 } : Room) s m args below meth c H locs 0 0 (MQ below (va_Qi Q (B1 D (w9 o q cy) A) A) args s 0 0 A) (F0 m 20 ls []) := by
  have hx := C.1
  have hb := C.2.1
  unfold w9_mean_d20 at h
  refine lv_iload hx hb dX9_mean_20 (lv_at hl 4 rfl) ?_
  refine lv_aload_n hx hb dX9_mean_22 rfl (lv_at hl 0 rfl) ?_
  refine lv_iload_n hx hb dX9_mean_23 rfl (lv_at hl 1 rfl) ?_
  refine callVI (As := [.int x1]) (rest := [.int x5]) C hG (c9_cells l D cy o q x1 S _ h) 1 gX9_mean_X9_cells rfl (by decide +kernel) ⟨⟨Nat.le_of_ble_eq_true rfl, Nat.le_of_ble_eq_true rfl⟩, rfl, rfl⟩ rfl rfl (Foc.all C.2.2.2.2.2.2.2.2.1) rfl hl.1 rfl (Nat.le_of_ble_eq_true rfl) dX9_mean_24 ⟨Nat.zero_le _, Nat.zero_le _⟩ (fun r1 u2 H locs h hG => ?_)
  obtain ⟨eu2, h⟩ := h
  have eu2 : u2 = S := eu2
  subst u2
  have hG : GW D A s (w9 o q cy S) H locs := hG
  refine lv_icmp_ge (tgt := 49) hx hb dX9_mean_27 (by decide) (fun c3 => ?_) (fun c3 => ?_)
  · replace h := h.1 c3
    refine lv_iload hx hb dX9_mean_49 (lv_at hl 3 rfl) ?_
    refine lv_aload_n hx hb dX9_mean_51 rfl (lv_at hl 0 rfl) ?_
    refine lv_iload_n hx hb dX9_mean_52 rfl (lv_at hl 1 rfl) ?_
    refine callVI (As := [.int x1]) (rest := [.int x4]) C hG (c9_cells l D cy o q x1 S _ h) 1 gX9_mean_X9_cells rfl (by decide +kernel) ⟨⟨Nat.le_of_ble_eq_true rfl, Nat.le_of_ble_eq_true rfl⟩, rfl, rfl⟩ rfl rfl (Foc.all C.2.2.2.2.2.2.2.2.1) rfl hl.1 rfl (Nat.le_of_ble_eq_true rfl) dX9_mean_53 ⟨Nat.zero_le _, Nat.zero_le _⟩ (fun r4 u5 H locs h hG => ?_)
    obtain ⟨eu5, h⟩ := h
    have eu5 : u5 = S := eu5
    subst u5
    have hG : GW D A s (w9 o q cy S) H locs := hG
    refine lv_iconst (v := 1) hx hb dX9_mean_56 (by decide) ?_
    refine lv_isub hx hb dX9_mean_57 ?_
    obtain ⟨hz6, h⟩ := h
    refine lv_idiv hx hb dX9_mean_58 hz6 ?_
    exact retI (w := (w9 o q cy)) (S := S) C hG h dX9_mean_59
  · replace h := h.2 c3
    refine lv_iload hx hb dX9_mean_30 (lv_at hl 3 rfl) ?_
    refine lv_aload_n hx hb dX9_mean_32 rfl (lv_at hl 0 rfl) ?_
    refine lv_iload_n hx hb dX9_mean_33 rfl (lv_at hl 1 rfl) ?_
    refine lv_iload_n hx hb dX9_mean_34 rfl (lv_at hl 2 rfl) ?_
    refine lv_iload hx hb dX9_mean_35 (lv_at hl 4 rfl) ?_
    refine callVI (As := [.int x1, .int x2, .int x5]) (rest := [.int x4]) C hG (c9_shortOf l D cy o q x1 x2 x5 S _ h) 3 gX9_mean_X9_shortOf rfl (by decide +kernel) ⟨⟨Nat.le_of_ble_eq_true rfl, Nat.le_of_ble_eq_true rfl⟩, rfl, rfl⟩ rfl rfl (Foc.all C.2.2.2.2.2.2.2.2.1) rfl hl.1 rfl (Nat.le_of_ble_eq_true rfl) dX9_mean_37 ⟨Nat.zero_le _, Nat.zero_le _⟩ (fun r7 S8 H locs h hG => ?_)
    have hG : GW D A s (w9 o q cy S8) H locs := hG
    refine lv_iadd hx hb dX9_mean_40 ?_
    refine lv_topi (fun y9 ey9 => ?_)
    replace h := h y9 ey9
    refine lv_istore (lv' := [(4, .int y9), (0, .ref o), (1, .int x1), (2, .int x2), (5, .int x5)]) hx hb dX9_mean_41 hl (by decide) rfl (fun ls hl => ?_)
    obtain ⟨y10, ey10⟩ : ∃ y : Int32, y = x5 + 1 := ⟨_, rfl⟩
    replace h := h y10 ey10
    refine lv_iinc (v := y10) (lv' := [(5, .int y10), (4, .int y9), (0, .ref o), (1, .int x1), (2, .int x2)]) hx hb dX9_mean_43 hl (k := 4) rfl (by rw [ey10]; rfl) (by decide) rfl (fun ls hl => ?_)
    refine lv_goto (tgt := 20) hx hb dX9_mean_46 (by decide) ?_
    exact hK20 y9 y10 S8 _ _ _ h hG (lv_sub hl [2, 3, 4, 1, 0] rfl)
def w9_mean_F20 (x1 : Int32) (x2 : Int32) (Q : Int32 → MS → Prop) (K : Int32 × Int32 × MS → Prop) (a : Int32 × Int32 × MS) : Prop := w9_mean_d20 (fun y0 y1 y2 => K (y0, y1, y2)) x1 x2 a.1 a.2.1 a.2.2 Q
def w9_mean_b20 (x1 : Int32) (x2 : Int32) (x4 : Int32) (x5 : Int32) (S : MS) (Q : Int32 → MS → Prop) : Prop := lp (w9_mean_F20 x1 x2 Q) (x4, x5, S)
set_option maxHeartbeats 4000000 in
set_option maxRecDepth 100000 in
theorem b9_mean_b20 {p : Program} {l : Launch} {e : Env} {s : State} {m : MethodId} {args : Array Value} {below : List Frame} {meth : Method} {c : Code} {D : va_G} {cy : Nat → ClassId} {A : Nat → Prop} {o : Nat} {q : Nat → Nat} (x1 : Int32) (x2 : Int32) (x4 : Int32) (x5 : Int32) (S : MS) {Q : Int32 → MS → Prop} (C : Cx p s m args meth c cX9_mean 6 (some .int) wsX9_mean RX9 D cy nestWs A) (h : w9_mean_b20 x1 x2 x4 x5 S Q) {H : Heap} {locs : List Loc} (hG : GW D A s (w9 o q cy S) H locs) {ls : Array Slot} (hl : lv_has ls 6 [(0, .ref o), (1, .int x1), (2, .int x2), (4, .int x4), (5, .int x5)]) : W p l e ({ frames := 5, cells := 0, slots := 0, locals := 113 } : Room) s m args below meth c H locs 0 0 (MQ below (va_Qi Q (B1 D (w9 o q cy) A) A) args s 0 0 A) (F0 m 20 ls []) := by
  obtain ⟨k, hn⟩ := h
  induction k generalizing x4 x5 S H locs ls with
  | zero => exact hn.elim
  | succ k ih => exact b9_mean_d20 (K20 := fun y0 y1 y2 => itr (w9_mean_F20 x1 x2 Q) k (y0, y1, y2)) x1 x2 x4 x5 S C (fun x4 x5 S H locs ls hk hG hl => ih x4 x5 S hG hl hk) hn hG hl
def w9_mean (x1 : Int32) (x2 : Int32) (S : MS) (Q : Int32 → MS → Prop) : Prop :=
  w9_askedCells x1 x2 x2 S (fun r1 S2 => ((0 ≤ r1 → w9_mean_b20 x1 x2 (0 : Int32) (0 : Int32) S2 Q) ∧ (¬ 0 ≤ r1 → Q r1 S2)))
set_option maxHeartbeats 4000000 in
set_option maxRecDepth 100000 in
theorem c9_mean (l : Launch) (D : va_G) (cy : Nat → ClassId)  (o : Nat) (q : Nat → Nat) (x1 : Int32) (x2 : Int32) (S : MS) (Q : Int32 → MS → Prop) (h : w9_mean x1 x2 S Q) : MetI l yX9_mean wsX9_mean ({ frames := 5, cells := 0, slots := 0, locals := 113 } : Room) D cy nestWs (w9 o q cy) [.ref o, .int x1, .int x2] S Q := by
  refine MetI.mk RX9 cX9_mean 6 .int (by decide) rfl nestWs_ok rfl (Nat.le_of_ble_eq_true rfl) ?_
  intro p e s m below meth c A ls C hG hl
  have hl : lv_has ls 6 [(0, .ref o), (1, .int x1), (2, .int x2)] := hl
  have hx := C.1
  have hb := C.2.1
  unfold w9_mean at h
  refine lv_aload_n hx hb dX9_mean_0 rfl (lv_at hl 0 rfl) ?_
  refine lv_iload_n hx hb dX9_mean_1 rfl (lv_at hl 1 rfl) ?_
  refine lv_iload_n hx hb dX9_mean_2 rfl (lv_at hl 2 rfl) ?_
  refine lv_iload_n hx hb dX9_mean_3 rfl (lv_at hl 2 rfl) ?_
  refine callVI (As := [.int x1, .int x2, .int x2]) (rest := []) C hG (c9_askedCells l D cy o q x1 x2 x2 S _ h) 3 gX9_mean_X9_askedCells rfl (by decide +kernel) ⟨⟨Nat.le_of_ble_eq_true rfl, Nat.le_of_ble_eq_true rfl⟩, rfl, rfl⟩ rfl rfl (Foc.all C.2.2.2.2.2.2.2.2.1) rfl hl.1 rfl (Nat.le_of_ble_eq_true rfl) dX9_mean_4 ⟨Nat.zero_le _, Nat.zero_le _⟩ (fun r1 S2 H locs h hG => ?_)
  have hG : GW D A s (w9 o q cy S2) H locs := hG
  refine lv_istore_n (lv' := [(3, .int r1), (0, .ref o), (1, .int x1), (2, .int x2)]) hx hb dX9_mean_7 rfl hl (by decide) rfl (fun ls hl => ?_)
  refine lv_iload_n hx hb dX9_mean_8 rfl (lv_at hl 0 rfl) ?_
  refine lv_if_ge (tgt := 14) hx hb dX9_mean_9 (by decide) (fun c3 => ?_) (fun c3 => ?_)
  · replace h := h.1 c3
    refine lv_iconst (v := 0) hx hb dX9_mean_14 (by decide) ?_
    refine lv_istore (lv' := [(4, .int (0 : Int32)), (3, .int r1), (0, .ref o), (1, .int x1), (2, .int x2)]) hx hb dX9_mean_15 hl (by decide) rfl (fun ls hl => ?_)
    refine lv_iconst (v := 0) hx hb dX9_mean_17 (by decide) ?_
    refine lv_istore (lv' := [(5, .int (0 : Int32)), (4, .int (0 : Int32)), (3, .int r1), (0, .ref o), (1, .int x1), (2, .int x2)]) hx hb dX9_mean_18 hl (by decide) rfl (fun ls hl => ?_)
    exact b9_mean_b20 x1 x2 (0 : Int32) (0 : Int32) S2 C h hG (lv_sub hl [3, 4, 5, 1, 0] rfl)
  · replace h := h.2 c3
    refine lv_iload_n hx hb dX9_mean_12 rfl (lv_at hl 0 rfl) ?_
    exact retI (w := (w9 o q cy)) (S := S2) C hG h dX9_mean_13
-- X9_isWalked
theorem i9_isWalked_X9 : ∀ w ∈ wsX90, w ∈ wsX9_isWalked := fun w h => List.mem_cons_of_mem _ (inG_X9 w h)
theorem k9_isWalked_71 : Cond.fieldLink RX9 71 "PaperBodiesModel" "edgeWay" "[I" ∈ wsX9_isWalked := (List.mem_cons_of_mem _ mw_557)
theorem k9_isWalked_74 : Cond.fieldLink RX9 74 "PaperBodiesModel" "edgeSquare" "[I" ∈ wsX9_isWalked := (List.mem_cons_of_mem _ mw_558)
theorem k9_isWalked_77 : Cond.fieldLink RX9 77 "PaperBodiesModel" "angles" "[I" ∈ wsX9_isWalked := (List.mem_cons_of_mem _ mw_559)
theorem k9_isWalked_273 : Cond.fieldLink RX9 273 "PaperBodiesModel" "edges" "I" ∈ wsX9_isWalked := (List.mem_cons_of_mem _ mw_746)
def w9_isWalked_b186 (t0 : Int32) (S : MS) (Q : Int32 → MS → Prop) : Prop :=
  narrow .boolean (.int t0) = .int t0 ∧ Q t0 S
set_option maxHeartbeats 4000000 in
set_option maxRecDepth 100000 in
theorem b9_isWalked_b186 {p : Program} {l : Launch} {e : Env} {s : State} {m : MethodId} {args : Array Value} {below : List Frame} {meth : Method} {c : Code} {D : va_G} {cy : Nat → ClassId} {A : Nat → Prop} {o : Nat} {q : Nat → Nat} (t0 : Int32) (S : MS) {Q : Int32 → MS → Prop} (C : Cx p s m args meth c cX9_isWalked 9 (some .boolean) wsX9_isWalked RX9 D cy nestWs A) (h : w9_isWalked_b186 t0 S Q) {H : Heap} {locs : List Loc} (hG : GW D A s (w9 o q cy S) H locs) {ls : Array Slot} (hl : lv_has ls 9 [(0, .ref o)]) : W p l e ({ frames := 3, cells := 0, slots := 0, locals := 69 } : Room) s m args below meth c H locs 0 0 (MQ below (va_Qi Q (B1 D (w9 o q cy) A) A) args s 0 0 A) (F0 m 186 ls [.int t0]) := by
  have hx := C.1
  have hb := C.2.1
  unfold w9_isWalked_b186 at h
  exact retZ (w := (w9 o q cy)) (S := S) C hG ⟨h.1, h.2⟩ dX9_isWalked_186
def w9_isWalked_b159 (K19 : Int32 → Int32 → Int32 → MS → Prop) (x1 : Int64) (x3 : Int32) (x4 : Int32) (x5 : Int32) (x6 : Int32) (S : MS) (Q : Int32 → MS → Prop) : Prop :=
  K19 x4 x5 x6 S
set_option maxHeartbeats 4000000 in
set_option maxRecDepth 100000 in
theorem b9_isWalked_b159 {p : Program} {l : Launch} {e : Env} {s : State} {m : MethodId} {args : Array Value} {below : List Frame} {meth : Method} {c : Code} {D : va_G} {cy : Nat → ClassId} {A : Nat → Prop} {o : Nat} {q : Nat → Nat} {K19 : Int32 → Int32 → Int32 → MS → Prop} (x1 : Int64) (x3 : Int32) (x4 : Int32) (x5 : Int32) (x6 : Int32) (S : MS) {Q : Int32 → MS → Prop} (C : Cx p s m args meth c cX9_isWalked 9 (some .boolean) wsX9_isWalked RX9 D cy nestWs A) (hK19 : ∀ (x4 : Int32) (x5 : Int32) (x6 : Int32) (S : MS) (H : Heap) (locs : List Loc) (ls : Array Slot), K19 x4 x5 x6 S → GW D A s (w9 o q cy S) H locs → lv_has ls 9 [(0, .ref o), (1, .long x1), (3, .int x3), (4, .int x4), (5, .int x5), (6, .int x6)] → W p l e ({ frames := 3, cells := 0, slots := 0, locals := 69 } : Room) s m args below meth c H locs 0 0 (MQ below (va_Qi Q (B1 D (w9 o q cy) A) A) args s 0 0 A) (F0 m 19 ls [])) (h : w9_isWalked_b159 K19 x1 x3 x4 x5 x6 S Q) {H : Heap} {locs : List Loc} (hG : GW D A s (w9 o q cy S) H locs) {ls : Array Slot} (hl : lv_has ls 9 [(0, .ref o), (1, .long x1), (3, .int x3), (4, .int x4), (5, .int x5), (6, .int x6)]) : W p l e ({ frames := 3, cells := 0, slots := 0, locals := 69 } : Room) s m args below meth c H locs 0 0 (MQ below (va_Qi Q (B1 D (w9 o q cy) A) A) args s 0 0 A) (F0 m 159 ls []) := by
  have hx := C.1
  have hb := C.2.1
  unfold w9_isWalked_b159 at h
  refine lv_goto (tgt := 19) hx hb dX9_isWalked_159 (by decide) ?_
  exact hK19 x4 x5 x6 S _ _ _ h hG hl
def w9_isWalked_b37 (K19 : Int32 → Int32 → Int32 → MS → Prop) (x1 : Int64) (x3 : Int32) (x4 : Int32) (x5 : Int32) (x6 : Int32) (S : MS) (Q : Int32 → MS → Prop) : Prop :=
  vp_in (fI S 25) 128 ∧ ∀ S2 : MS, S2 = sA S 26 (fI S 25) x5 → vp_in (fI S2 25) 128 ∧ ∀ S4 : MS, S4 = sA S2 27 (fI S2 25) x4 → vp_in (fI S4 25) 128 ∧ ∀ S6 : MS, S6 = sA S4 28 (fI S4 25) x6 → ∀ S7 : MS, S7 = sI S6 25 ((fI S6 25) + (1 : Int32)) → w9_beside x4 x5 (fun r8 => w9_beside r8 ((x5 + (3 : Int32)) - (x5 + (3 : Int32)) / (4 : Int32) * (4 : Int32)) (fun r9 => w9_has x1 r8 (fun r10 => ((¬ r10 = 0 → w9_has x1 r9 (fun r12 => ((r12 = 0 → w9_isWalked_b159 K19 x1 x3 r8 x5 (2 : Int32) S7 Q) ∧ (¬ r12 = 0 → ∀ y14 : Int32, y14 = ((x5 + (3 : Int32)) - (x5 + (3 : Int32)) / (4 : Int32) * (4 : Int32)) → w9_isWalked_b159 K19 x1 x3 r9 y14 (3 : Int32) S7 Q)))) ∧ (r10 = 0 → ∀ y15 : Int32, y15 = ((x5 + (1 : Int32)) - (x5 + (1 : Int32)) / (4 : Int32) * (4 : Int32)) → w9_isWalked_b159 K19 x1 x3 x4 y15 (1 : Int32) S7 Q)))))
set_option maxHeartbeats 4000000 in
set_option maxRecDepth 100000 in
theorem b9_isWalked_b37 {p : Program} {l : Launch} {e : Env} {s : State} {m : MethodId} {args : Array Value} {below : List Frame} {meth : Method} {c : Code} {D : va_G} {cy : Nat → ClassId} {A : Nat → Prop} {o : Nat} {q : Nat → Nat} {K19 : Int32 → Int32 → Int32 → MS → Prop} (x1 : Int64) (x3 : Int32) (x4 : Int32) (x5 : Int32) (x6 : Int32) (S : MS) {Q : Int32 → MS → Prop} (C : Cx p s m args meth c cX9_isWalked 9 (some .boolean) wsX9_isWalked RX9 D cy nestWs A) (hK19 : ∀ (x4 : Int32) (x5 : Int32) (x6 : Int32) (S : MS) (H : Heap) (locs : List Loc) (ls : Array Slot), K19 x4 x5 x6 S → GW D A s (w9 o q cy S) H locs → lv_has ls 9 [(0, .ref o), (1, .long x1), (3, .int x3), (4, .int x4), (5, .int x5), (6, .int x6)] → W p l e ({ frames := 3, cells := 0, slots := 0, locals := 69 } : Room) s m args below meth c H locs 0 0 (MQ below (va_Qi Q (B1 D (w9 o q cy) A) A) args s 0 0 A) (F0 m 19 ls [])) (h : w9_isWalked_b37 K19 x1 x3 x4 x5 x6 S Q) {H : Heap} {locs : List Loc} (hG : GW D A s (w9 o q cy S) H locs) {ls : Array Slot} (hl : lv_has ls 9 [(0, .ref o), (1, .long x1), (3, .int x3), (4, .int x4), (5, .int x5), (6, .int x6)]) : W p l e ({ frames := 3, cells := 0, slots := 0, locals := 69 } : Room) s m args below meth c H locs 0 0 (MQ below (va_Qi Q (B1 D (w9 o q cy) A) A) args s 0 0 A) (F0 m 37 ls []) := by
  have hx := C.1
  have hb := C.2.1
  unfold w9_isWalked_b37 at h
  refine lv_aload_n hx hb dX9_isWalked_37 rfl (lv_at hl 0 rfl) ?_
  refine x9g_26 C i9_isWalked_X9 k9_isWalked_71 hG dX9_isWalked_38 ?_
  refine lv_aload_n hx hb dX9_isWalked_41 rfl (lv_at hl 0 rfl) ?_
  refine x9g_25 C i9_isWalked_X9 k9_isWalked_273 hG dX9_isWalked_42 ?_
  refine lv_iload hx hb dX9_isWalked_45 (lv_at hl 4 rfl) ?_
  obtain ⟨hv1, h⟩ := h
  refine x9s_26 C hG hv1 dX9_isWalked_47 (fun S2 eS2 H locs hG => ?_)
  replace h := h S2 eS2
  refine lv_aload_n hx hb dX9_isWalked_48 rfl (lv_at hl 0 rfl) ?_
  refine x9g_27 C i9_isWalked_X9 k9_isWalked_74 hG dX9_isWalked_49 ?_
  refine lv_aload_n hx hb dX9_isWalked_52 rfl (lv_at hl 0 rfl) ?_
  refine x9g_25 C i9_isWalked_X9 k9_isWalked_273 hG dX9_isWalked_53 ?_
  refine lv_iload hx hb dX9_isWalked_56 (lv_at hl 3 rfl) ?_
  obtain ⟨hv3, h⟩ := h
  refine x9s_27 C hG hv3 dX9_isWalked_58 (fun S4 eS4 H locs hG => ?_)
  replace h := h S4 eS4
  refine lv_aload_n hx hb dX9_isWalked_59 rfl (lv_at hl 0 rfl) ?_
  refine x9g_28 C i9_isWalked_X9 k9_isWalked_77 hG dX9_isWalked_60 ?_
  refine lv_aload_n hx hb dX9_isWalked_63 rfl (lv_at hl 0 rfl) ?_
  refine x9g_25 C i9_isWalked_X9 k9_isWalked_273 hG dX9_isWalked_64 ?_
  refine lv_iload hx hb dX9_isWalked_67 (lv_at hl 5 rfl) ?_
  obtain ⟨hv5, h⟩ := h
  refine x9s_28 C hG hv5 dX9_isWalked_69 (fun S6 eS6 H locs hG => ?_)
  replace h := h S6 eS6
  refine lv_aload_n hx hb dX9_isWalked_70 rfl (lv_at hl 0 rfl) ?_
  refine lv_dup hx hb dX9_isWalked_71 rfl ?_
  refine x9g_25 C i9_isWalked_X9 k9_isWalked_273 hG dX9_isWalked_72 ?_
  refine lv_iconst (v := 1) hx hb dX9_isWalked_75 (by decide) ?_
  refine lv_iadd hx hb dX9_isWalked_76 ?_
  refine x9p_25 C i9_isWalked_X9 k9_isWalked_273 hG dX9_isWalked_77 (fun S7 eS7 H locs hG => ?_)
  replace h := h S7 eS7
  refine lv_iload hx hb dX9_isWalked_80 (lv_at hl 3 rfl) ?_
  refine lv_iload hx hb dX9_isWalked_82 (lv_at hl 4 rfl) ?_
  refine callSI (As := [.int x4, .int x5]) (rest := []) C hG (c9_beside l D cy x4 x5 _ h) 2 gX9_isWalked_X9_beside rfl (by decide +kernel) ⟨⟨Nat.le_of_ble_eq_true rfl, Nat.le_of_ble_eq_true rfl⟩, rfl, rfl⟩ (Foc.none C.2.2.2.2.2.2.2.2.1) rfl hl.1 rfl (Nat.le_of_ble_eq_true rfl) dX9_isWalked_84 ⟨Nat.zero_le _, Nat.zero_le _⟩ (fun r8 z H locs h hG => ?_)
  refine lv_istore (lv' := [(7, .int r8), (0, .ref o), (1, .long x1), (3, .int x3), (4, .int x4), (5, .int x5), (6, .int x6)]) hx hb dX9_isWalked_87 hl (by decide) rfl (fun ls hl => ?_)
  refine lv_iload hx hb dX9_isWalked_89 (lv_at hl 0 rfl) ?_
  refine lv_iload hx hb dX9_isWalked_91 (lv_at hl 5 rfl) ?_
  refine lv_iconst (v := 3) hx hb dX9_isWalked_93 (by decide) ?_
  refine lv_iadd hx hb dX9_isWalked_94 ?_
  refine lv_iconst (v := 4) hx hb dX9_isWalked_95 (by decide) ?_
  refine lv_irem hx hb dX9_isWalked_96 (by decide) ?_
  refine callSI (As := [.int r8, .int ((x5 + (3 : Int32)) - (x5 + (3 : Int32)) / (4 : Int32) * (4 : Int32))]) (rest := []) C hG (c9_beside l D cy r8 ((x5 + (3 : Int32)) - (x5 + (3 : Int32)) / (4 : Int32) * (4 : Int32)) _ h) 2 gX9_isWalked_X9_beside rfl (by decide +kernel) ⟨⟨Nat.le_of_ble_eq_true rfl, Nat.le_of_ble_eq_true rfl⟩, rfl, rfl⟩ (Foc.none C.2.2.2.2.2.2.2.2.1) rfl hl.1 rfl (Nat.le_of_ble_eq_true rfl) dX9_isWalked_97 ⟨Nat.zero_le _, Nat.zero_le _⟩ (fun r9 z H locs h hG => ?_)
  refine lv_istore (lv' := [(8, .int r9), (7, .int r8), (0, .ref o), (1, .long x1), (3, .int x3), (4, .int x4), (5, .int x5), (6, .int x6)]) hx hb dX9_isWalked_100 hl (by decide) rfl (fun ls hl => ?_)
  refine lv_lload_n hx hb dX9_isWalked_102 rfl (lv_at hl 3 rfl) ?_
  refine lv_iload hx hb dX9_isWalked_103 (lv_at hl 1 rfl) ?_
  refine callSI (As := [.long x1, .int r8]) (rest := []) C hG (c9_has l D cy x1 r8 _ h) 2 gX9_isWalked_X9_has rfl (by decide +kernel) ⟨⟨Nat.le_of_ble_eq_true rfl, Nat.le_of_ble_eq_true rfl⟩, rfl, rfl⟩ (Foc.none C.2.2.2.2.2.2.2.2.1) rfl hl.1 rfl (Nat.le_of_ble_eq_true rfl) dX9_isWalked_105 ⟨Nat.zero_le _, Nat.zero_le _⟩ (fun r10 z H locs h hG => ?_)
  refine lv_if_ne (tgt := 125) hx hb dX9_isWalked_108 (by decide) (fun c11 => ?_) (fun c11 => ?_)
  · replace h := h.1 c11
    refine lv_lload_n hx hb dX9_isWalked_125 rfl (lv_at hl 3 rfl) ?_
    refine lv_iload hx hb dX9_isWalked_126 (lv_at hl 0 rfl) ?_
    refine callSI (As := [.long x1, .int r9]) (rest := []) C hG (c9_has l D cy x1 r9 _ h) 2 gX9_isWalked_X9_has rfl (by decide +kernel) ⟨⟨Nat.le_of_ble_eq_true rfl, Nat.le_of_ble_eq_true rfl⟩, rfl, rfl⟩ (Foc.none C.2.2.2.2.2.2.2.2.1) rfl hl.1 rfl (Nat.le_of_ble_eq_true rfl) dX9_isWalked_128 ⟨Nat.zero_le _, Nat.zero_le _⟩ (fun r12 z H locs h hG => ?_)
    refine lv_if_eq (tgt := 152) hx hb dX9_isWalked_131 (by decide) (fun c13 => ?_) (fun c13 => ?_)
    · replace h := h.1 c13
      refine lv_iload hx hb dX9_isWalked_152 (lv_at hl 1 rfl) ?_
      refine lv_istore (lv' := [(4, .int r8), (8, .int r9), (7, .int r8), (0, .ref o), (1, .long x1), (3, .int x3), (5, .int x5), (6, .int x6)]) hx hb dX9_isWalked_154 hl (by decide) rfl (fun ls hl => ?_)
      refine lv_iconst (v := 2) hx hb dX9_isWalked_156 (by decide) ?_
      refine lv_istore (lv' := [(6, .int (2 : Int32)), (4, .int r8), (8, .int r9), (7, .int r8), (0, .ref o), (1, .long x1), (3, .int x3), (5, .int x5)]) hx hb dX9_isWalked_157 hl (by decide) rfl (fun ls hl => ?_)
      exact b9_isWalked_b159 (K19 := K19) x1 x3 r8 x5 (2 : Int32) S7 C hK19 h hG (lv_sub hl [4, 5, 6, 1, 7, 0] rfl)
    · replace h := h.2 c13
      refine lv_iload hx hb dX9_isWalked_134 (lv_at hl 0 rfl) ?_
      refine lv_istore (lv' := [(4, .int r9), (8, .int r9), (7, .int r8), (0, .ref o), (1, .long x1), (3, .int x3), (5, .int x5), (6, .int x6)]) hx hb dX9_isWalked_136 hl (by decide) rfl (fun ls hl => ?_)
      refine lv_iload hx hb dX9_isWalked_138 (lv_at hl 6 rfl) ?_
      refine lv_iconst (v := 3) hx hb dX9_isWalked_140 (by decide) ?_
      refine lv_iadd hx hb dX9_isWalked_141 ?_
      refine lv_iconst (v := 4) hx hb dX9_isWalked_142 (by decide) ?_
      refine lv_irem hx hb dX9_isWalked_143 (by decide) ?_
      refine lv_topi (fun y14 ey14 => ?_)
      replace h := h y14 ey14
      refine lv_istore (lv' := [(5, .int y14), (4, .int r9), (8, .int r9), (7, .int r8), (0, .ref o), (1, .long x1), (3, .int x3), (6, .int x6)]) hx hb dX9_isWalked_144 hl (by decide) rfl (fun ls hl => ?_)
      refine lv_iconst (v := 3) hx hb dX9_isWalked_146 (by decide) ?_
      refine lv_istore (lv' := [(6, .int (3 : Int32)), (5, .int y14), (4, .int r9), (8, .int r9), (7, .int r8), (0, .ref o), (1, .long x1), (3, .int x3)]) hx hb dX9_isWalked_147 hl (by decide) rfl (fun ls hl => ?_)
      refine lv_goto (tgt := 159) hx hb dX9_isWalked_149 (by decide) ?_
      exact b9_isWalked_b159 (K19 := K19) x1 x3 r9 y14 (3 : Int32) S7 C hK19 h hG (lv_sub hl [5, 6, 7, 2, 1, 0] rfl)
  · replace h := h.2 c11
    refine lv_iload hx hb dX9_isWalked_111 (lv_at hl 6 rfl) ?_
    refine lv_iconst (v := 1) hx hb dX9_isWalked_113 (by decide) ?_
    refine lv_iadd hx hb dX9_isWalked_114 ?_
    refine lv_iconst (v := 4) hx hb dX9_isWalked_115 (by decide) ?_
    refine lv_irem hx hb dX9_isWalked_116 (by decide) ?_
    refine lv_topi (fun y15 ey15 => ?_)
    replace h := h y15 ey15
    refine lv_istore (lv' := [(5, .int y15), (8, .int r9), (7, .int r8), (0, .ref o), (1, .long x1), (3, .int x3), (4, .int x4), (6, .int x6)]) hx hb dX9_isWalked_117 hl (by decide) rfl (fun ls hl => ?_)
    refine lv_iconst (v := 1) hx hb dX9_isWalked_119 (by decide) ?_
    refine lv_istore (lv' := [(6, .int (1 : Int32)), (5, .int y15), (8, .int r9), (7, .int r8), (0, .ref o), (1, .long x1), (3, .int x3), (4, .int x4)]) hx hb dX9_isWalked_120 hl (by decide) rfl (fun ls hl => ?_)
    refine lv_goto (tgt := 159) hx hb dX9_isWalked_122 (by decide) ?_
    exact b9_isWalked_b159 (K19 := K19) x1 x3 x4 y15 (1 : Int32) S7 C hK19 h hG (lv_sub hl [4, 5, 6, 7, 1, 0] rfl)
def w9_isWalked_d19 (K19 : Int32 → Int32 → Int32 → MS → Prop) (x1 : Int64) (x3 : Int32) (x4 : Int32) (x5 : Int32) (x6 : Int32) (S : MS) (Q : Int32 → MS → Prop) : Prop :=
  (((fI S 25) = 0 → w9_isWalked_b37 K19 x1 x3 x4 x5 x6 S Q) ∧ (¬ (fI S 25) = 0 → ((¬ x4 = x3 → w9_isWalked_b37 K19 x1 x3 x4 x5 x6 S Q) ∧ (x4 = x3 → ((x5 = 0 → ∀ S4 : MS, S4 = sA S 28 (0 : Int32) x6 → w9_rimOf x1 (fun r5 => ((¬ (fI S4 25) = r5 → w9_isWalked_b186 (0 : Int32) S4 Q) ∧ ((fI S4 25) = r5 → w9_isWalked_b186 (1 : Int32) S4 Q)))) ∧ (¬ x5 = 0 → w9_isWalked_b37 K19 x1 x3 x4 x5 x6 S Q))))))
set_option maxHeartbeats 4000000 in
set_option maxRecDepth 100000 in
theorem b9_isWalked_d19 {p : Program} {l : Launch} {e : Env} {s : State} {m : MethodId} {args : Array Value} {below : List Frame} {meth : Method} {c : Code} {D : va_G} {cy : Nat → ClassId} {A : Nat → Prop} {o : Nat} {q : Nat → Nat} {K19 : Int32 → Int32 → Int32 → MS → Prop} (x1 : Int64) (x3 : Int32) (x4 : Int32) (x5 : Int32) (x6 : Int32) (S : MS) {Q : Int32 → MS → Prop} (C : Cx p s m args meth c cX9_isWalked 9 (some .boolean) wsX9_isWalked RX9 D cy nestWs A) (hK19 : ∀ (x4 : Int32) (x5 : Int32) (x6 : Int32) (S : MS) (H : Heap) (locs : List Loc) (ls : Array Slot), K19 x4 x5 x6 S → GW D A s (w9 o q cy S) H locs → lv_has ls 9 [(0, .ref o), (1, .long x1), (3, .int x3), (4, .int x4), (5, .int x5), (6, .int x6)] → W p l e ({ frames := 3, cells := 0, slots := 0, locals := 69 } : Room) s m args below meth c H locs 0 0 (MQ below (va_Qi Q (B1 D (w9 o q cy) A) A) args s 0 0 A) (F0 m 19 ls [])) (h : w9_isWalked_d19 K19 x1 x3 x4 x5 x6 S Q) {H : Heap} {locs : List Loc} (hG : GW D A s (w9 o q cy S) H locs) {ls : Array Slot} (hl : lv_has ls 9 [(0, .ref o), (1, .long x1), (3, .int x3), (4, .int x4), (5, .int x5), (6, .int x6)]) : W p l e ({ frames := 3, cells := 0, slots := 0, locals := 69 } : Room) s m args below meth c H locs 0 0 (MQ below (va_Qi Q (B1 D (w9 o q cy) A) A) args s 0 0 A) (F0 m 19 ls []) := by
  have hx := C.1
  have hb := C.2.1
  unfold w9_isWalked_d19 at h
  refine lv_aload_n hx hb dX9_isWalked_19 rfl (lv_at hl 0 rfl) ?_
  refine x9g_25 C i9_isWalked_X9 k9_isWalked_273 hG dX9_isWalked_20 ?_
  refine lv_if_eq (tgt := 37) hx hb dX9_isWalked_23 (by decide) (fun c1 => ?_) (fun c1 => ?_)
  · replace h := h.1 c1
    exact b9_isWalked_b37 (K19 := K19) x1 x3 x4 x5 x6 S C hK19 h hG hl
  · replace h := h.2 c1
    refine lv_iload hx hb dX9_isWalked_26 (lv_at hl 3 rfl) ?_
    refine lv_iload_n hx hb dX9_isWalked_28 rfl (lv_at hl 2 rfl) ?_
    refine lv_icmp_ne (tgt := 37) hx hb dX9_isWalked_29 (by decide) (fun c2 => ?_) (fun c2 => ?_)
    · replace h := h.1 c2
      exact b9_isWalked_b37 (K19 := K19) x1 x3 x4 x5 x6 S C hK19 h hG hl
    · replace h := h.2 c2
      refine lv_iload hx hb dX9_isWalked_32 (lv_at hl 4 rfl) ?_
      refine lv_if_eq (tgt := 162) hx hb dX9_isWalked_34 (by decide) (fun c3 => ?_) (fun c3 => ?_)
      · replace h := h.1 c3
        refine lv_aload_n hx hb dX9_isWalked_162 rfl (lv_at hl 0 rfl) ?_
        refine x9g_28 C i9_isWalked_X9 k9_isWalked_77 hG dX9_isWalked_163 ?_
        refine lv_iconst (v := 0) hx hb dX9_isWalked_166 (by decide) ?_
        refine lv_iload hx hb dX9_isWalked_167 (lv_at hl 5 rfl) ?_
        refine x9s_28 C hG (by unfold vp_in; decide) dX9_isWalked_169 (fun S4 eS4 H locs hG => ?_)
        replace h := h S4 eS4
        refine lv_aload_n hx hb dX9_isWalked_170 rfl (lv_at hl 0 rfl) ?_
        refine x9g_25 C i9_isWalked_X9 k9_isWalked_273 hG dX9_isWalked_171 ?_
        refine lv_lload_n hx hb dX9_isWalked_174 rfl (lv_at hl 1 rfl) ?_
        refine callSI (As := [.long x1]) (rest := [.int (fI S4 25)]) C hG (c9_rimOf l D cy x1 _ h) 1 gX9_isWalked_X9_rimOf rfl (by decide +kernel) ⟨⟨Nat.le_of_ble_eq_true rfl, Nat.le_of_ble_eq_true rfl⟩, rfl, rfl⟩ (Foc.none C.2.2.2.2.2.2.2.2.1) rfl hl.1 rfl (Nat.le_of_ble_eq_true rfl) dX9_isWalked_175 ⟨Nat.zero_le _, Nat.zero_le _⟩ (fun r5 z H locs h hG => ?_)
        refine lv_icmp_ne (tgt := 185) hx hb dX9_isWalked_178 (by decide) (fun c6 => ?_) (fun c6 => ?_)
        · replace h := h.1 c6
          refine lv_iconst (v := 0) hx hb dX9_isWalked_185 (by decide) ?_
          exact b9_isWalked_b186 (0 : Int32) S4 C h hG (lv_sub hl [0] rfl)
        · replace h := h.2 c6
          refine lv_iconst (v := 1) hx hb dX9_isWalked_181 (by decide) ?_
          refine lv_goto (tgt := 186) hx hb dX9_isWalked_182 (by decide) ?_
          exact b9_isWalked_b186 (1 : Int32) S4 C h hG (lv_sub hl [0] rfl)
      · replace h := h.2 c3
        exact b9_isWalked_b37 (K19 := K19) x1 x3 x4 x5 x6 S C hK19 h hG hl
def w9_isWalked_F19 (x1 : Int64) (x3 : Int32) (Q : Int32 → MS → Prop) (K : Int32 × Int32 × Int32 × MS → Prop) (a : Int32 × Int32 × Int32 × MS) : Prop := w9_isWalked_d19 (fun y0 y1 y2 y3 => K (y0, y1, y2, y3)) x1 x3 a.1 a.2.1 a.2.2.1 a.2.2.2 Q
def w9_isWalked_b19 (x1 : Int64) (x3 : Int32) (x4 : Int32) (x5 : Int32) (x6 : Int32) (S : MS) (Q : Int32 → MS → Prop) : Prop := lp (w9_isWalked_F19 x1 x3 Q) (x4, x5, x6, S)
set_option maxHeartbeats 4000000 in
set_option maxRecDepth 100000 in
theorem b9_isWalked_b19 {p : Program} {l : Launch} {e : Env} {s : State} {m : MethodId} {args : Array Value} {below : List Frame} {meth : Method} {c : Code} {D : va_G} {cy : Nat → ClassId} {A : Nat → Prop} {o : Nat} {q : Nat → Nat} (x1 : Int64) (x3 : Int32) (x4 : Int32) (x5 : Int32) (x6 : Int32) (S : MS) {Q : Int32 → MS → Prop} (C : Cx p s m args meth c cX9_isWalked 9 (some .boolean) wsX9_isWalked RX9 D cy nestWs A) (h : w9_isWalked_b19 x1 x3 x4 x5 x6 S Q) {H : Heap} {locs : List Loc} (hG : GW D A s (w9 o q cy S) H locs) {ls : Array Slot} (hl : lv_has ls 9 [(0, .ref o), (1, .long x1), (3, .int x3), (4, .int x4), (5, .int x5), (6, .int x6)]) : W p l e ({ frames := 3, cells := 0, slots := 0, locals := 69 } : Room) s m args below meth c H locs 0 0 (MQ below (va_Qi Q (B1 D (w9 o q cy) A) A) args s 0 0 A) (F0 m 19 ls []) := by
  obtain ⟨k, hn⟩ := h
  induction k generalizing x4 x5 x6 S H locs ls with
  | zero => exact hn.elim
  | succ k ih => exact b9_isWalked_d19 (K19 := fun y0 y1 y2 y3 => itr (w9_isWalked_F19 x1 x3 Q) k (y0, y1, y2, y3)) x1 x3 x4 x5 x6 S C (fun x4 x5 x6 S H locs ls hk hG hl => ih x4 x5 x6 S hG hl hk) hn hG hl
def w9_isWalked (x1 : Int64) (S : MS) (Q : Int32 → MS → Prop) : Prop :=
  w9_leastOf x1 (fun r1 => ∀ S2 : MS, S2 = sI S 25 (0 : Int32) → w9_isWalked_b19 x1 r1 r1 (0 : Int32) (0 : Int32) S2 Q)
set_option maxHeartbeats 4000000 in
set_option maxRecDepth 100000 in
theorem c9_isWalked (l : Launch) (D : va_G) (cy : Nat → ClassId)  (o : Nat) (q : Nat → Nat) (x1 : Int64) (S : MS) (Q : Int32 → MS → Prop) (h : w9_isWalked x1 S Q) : MetI l yX9_isWalked wsX9_isWalked ({ frames := 3, cells := 0, slots := 0, locals := 69 } : Room) D cy nestWs (w9 o q cy) [.ref o, .long x1] S Q := by
  refine MetI.mk RX9 cX9_isWalked 9 .boolean (by decide) rfl nestWs_ok rfl (Nat.le_of_ble_eq_true rfl) ?_
  intro p e s m below meth c A ls C hG hl
  have hl : lv_has ls 9 [(0, .ref o), (1, .long x1)] := hl
  have hx := C.1
  have hb := C.2.1
  unfold w9_isWalked at h
  refine lv_lload_n hx hb dX9_isWalked_0 rfl (lv_at hl 1 rfl) ?_
  refine callSI (As := [.long x1]) (rest := []) C hG (c9_leastOf l D cy x1 _ h) 1 gX9_isWalked_X9_leastOf rfl (by decide +kernel) ⟨⟨Nat.le_of_ble_eq_true rfl, Nat.le_of_ble_eq_true rfl⟩, rfl, rfl⟩ (Foc.none C.2.2.2.2.2.2.2.2.1) rfl hl.1 rfl (Nat.le_of_ble_eq_true rfl) dX9_isWalked_1 ⟨Nat.zero_le _, Nat.zero_le _⟩ (fun r1 z H locs h hG => ?_)
  refine lv_istore_n (lv' := [(3, .int r1), (0, .ref o), (1, .long x1)]) hx hb dX9_isWalked_4 rfl hl (by decide) rfl (fun ls hl => ?_)
  refine lv_iload_n hx hb dX9_isWalked_5 rfl (lv_at hl 0 rfl) ?_
  refine lv_istore (lv' := [(4, .int r1), (3, .int r1), (0, .ref o), (1, .long x1)]) hx hb dX9_isWalked_6 hl (by decide) rfl (fun ls hl => ?_)
  refine lv_iconst (v := 0) hx hb dX9_isWalked_8 (by decide) ?_
  refine lv_istore (lv' := [(5, .int (0 : Int32)), (4, .int r1), (3, .int r1), (0, .ref o), (1, .long x1)]) hx hb dX9_isWalked_9 hl (by decide) rfl (fun ls hl => ?_)
  refine lv_iconst (v := 0) hx hb dX9_isWalked_11 (by decide) ?_
  refine lv_istore (lv' := [(6, .int (0 : Int32)), (5, .int (0 : Int32)), (4, .int r1), (3, .int r1), (0, .ref o), (1, .long x1)]) hx hb dX9_isWalked_12 hl (by decide) rfl (fun ls hl => ?_)
  refine lv_aload_n hx hb dX9_isWalked_14 rfl (lv_at hl 4 rfl) ?_
  refine lv_iconst (v := 0) hx hb dX9_isWalked_15 (by decide) ?_
  refine x9p_25 C i9_isWalked_X9 k9_isWalked_273 hG dX9_isWalked_16 (fun S2 eS2 H locs hG => ?_)
  replace h := h S2 eS2
  exact b9_isWalked_b19 x1 r1 r1 (0 : Int32) (0 : Int32) S2 C h hG (lv_sub hl [4, 5, 3, 2, 1, 0] rfl)
-- X9_askedRim
theorem i9_askedRim_X9 : ∀ w ∈ wsX90, w ∈ wsX9_askedRim := fun w h => List.mem_cons_of_mem _ (inG_X9 w h)
theorem k9_askedRim_13 : Cond.fieldLink RX9 13 "PaperBodiesModel" "figures" "[J" ∈ wsX9_askedRim := (List.mem_cons_of_mem _ mw_538)
def w9_askedRim_b33 (t0 : Int32) (S : MS) (Q : Int32 → MS → Prop) : Prop :=
  Q t0 S
set_option maxHeartbeats 4000000 in
set_option maxRecDepth 100000 in
theorem b9_askedRim_b33 {p : Program} {l : Launch} {e : Env} {s : State} {m : MethodId} {args : Array Value} {below : List Frame} {meth : Method} {c : Code} {D : va_G} {cy : Nat → ClassId} {A : Nat → Prop} {o : Nat} {q : Nat → Nat} (t0 : Int32) (S : MS) {Q : Int32 → MS → Prop} (C : Cx p s m args meth c cX9_askedRim 3 (some .int) wsX9_askedRim RX9 D cy nestWs A) (h : w9_askedRim_b33 t0 S Q) {H : Heap} {locs : List Loc} (hG : GW D A s (w9 o q cy S) H locs) {ls : Array Slot} (hl : lv_has ls 3 [(0, .ref o)]) : W p l e ({ frames := 4, cells := 0, slots := 0, locals := 97 } : Room) s m args below meth c H locs 0 0 (MQ below (va_Qi Q (B1 D (w9 o q cy) A) A) args s 0 0 A) (F0 m 33 ls [.int t0]) := by
  have hx := C.1
  have hb := C.2.1
  unfold w9_askedRim_b33 at h
  exact retI (w := (w9 o q cy)) (S := S) C hG h dX9_askedRim_33
def w9_askedRim (x1 : Int32) (S : MS) (Q : Int32 → MS → Prop) : Prop :=
  w9_looked x1 S (fun r1 S2 => ((0 ≤ r1 → vp_in x1 6 ∧ w9_isWalked (rL S2 3 x1) S2 (fun r5 S6 => ((r5 = 0 → w9_askedRim_b33 (-4 : Int32) S6 Q) ∧ (¬ r5 = 0 → w9_askedRim_b33 (0 : Int32) S6 Q)))) ∧ (¬ 0 ≤ r1 → w9_askedRim_b33 r1 S2 Q)))
set_option maxHeartbeats 4000000 in
set_option maxRecDepth 100000 in
theorem c9_askedRim (l : Launch) (D : va_G) (cy : Nat → ClassId)  (o : Nat) (q : Nat → Nat) (x1 : Int32) (S : MS) (Q : Int32 → MS → Prop) (h : w9_askedRim x1 S Q) : MetI l yX9_askedRim wsX9_askedRim ({ frames := 4, cells := 0, slots := 0, locals := 97 } : Room) D cy nestWs (w9 o q cy) [.ref o, .int x1] S Q := by
  refine MetI.mk RX9 cX9_askedRim 3 .int (by decide) rfl nestWs_ok rfl (Nat.le_of_ble_eq_true rfl) ?_
  intro p e s m below meth c A ls C hG hl
  have hl : lv_has ls 3 [(0, .ref o), (1, .int x1)] := hl
  have hx := C.1
  have hb := C.2.1
  unfold w9_askedRim at h
  refine lv_aload_n hx hb dX9_askedRim_0 rfl (lv_at hl 0 rfl) ?_
  refine lv_iload_n hx hb dX9_askedRim_1 rfl (lv_at hl 1 rfl) ?_
  refine callVI (As := [.int x1]) (rest := []) C hG (c9_looked l D cy o q x1 S _ h) 1 gX9_askedRim_X9_looked rfl (by decide +kernel) ⟨⟨Nat.le_of_ble_eq_true rfl, Nat.le_of_ble_eq_true rfl⟩, rfl, rfl⟩ rfl rfl (Foc.all C.2.2.2.2.2.2.2.2.1) rfl hl.1 rfl (Nat.le_of_ble_eq_true rfl) dX9_askedRim_2 ⟨Nat.zero_le _, Nat.zero_le _⟩ (fun r1 S2 H locs h hG => ?_)
  have hG : GW D A s (w9 o q cy S2) H locs := hG
  refine lv_istore_n (lv' := [(2, .int r1), (0, .ref o), (1, .int x1)]) hx hb dX9_askedRim_5 rfl hl (by decide) rfl (fun ls hl => ?_)
  refine lv_iload_n hx hb dX9_askedRim_6 rfl (lv_at hl 0 rfl) ?_
  refine lv_if_ge (tgt := 14) hx hb dX9_askedRim_7 (by decide) (fun c3 => ?_) (fun c3 => ?_)
  · replace h := h.1 c3
    refine lv_aload_n hx hb dX9_askedRim_14 rfl (lv_at hl 1 rfl) ?_
    refine lv_aload_n hx hb dX9_askedRim_15 rfl (lv_at hl 1 rfl) ?_
    refine x9g_3 C i9_askedRim_X9 k9_askedRim_13 hG dX9_askedRim_16 ?_
    refine lv_iload_n hx hb dX9_askedRim_19 rfl (lv_at hl 2 rfl) ?_
    obtain ⟨hv4, h⟩ := h
    refine x9l_3 C hG hv4 dX9_askedRim_20 ?_
    refine callVI (As := [.long (rL S2 3 x1)]) (rest := []) C hG (c9_isWalked l D cy o q (rL S2 3 x1) S2 _ h) 1 gX9_askedRim_X9_isWalked rfl (by decide +kernel) ⟨⟨Nat.le_of_ble_eq_true rfl, Nat.le_of_ble_eq_true rfl⟩, rfl, rfl⟩ rfl rfl (Foc.all C.2.2.2.2.2.2.2.2.1) rfl hl.1 rfl (Nat.le_of_ble_eq_true rfl) dX9_askedRim_21 ⟨Nat.zero_le _, Nat.zero_le _⟩ (fun r5 S6 H locs h hG => ?_)
    have hG : GW D A s (w9 o q cy S6) H locs := hG
    refine lv_if_eq (tgt := 31) hx hb dX9_askedRim_24 (by decide) (fun c7 => ?_) (fun c7 => ?_)
    · replace h := h.1 c7
      refine lv_bipush (v := -4) hx hb dX9_askedRim_31 (by decide) ?_
      exact b9_askedRim_b33 (-4 : Int32) S6 C h hG (lv_sub hl [1] rfl)
    · replace h := h.2 c7
      refine lv_iconst (v := 0) hx hb dX9_askedRim_27 (by decide) ?_
      refine lv_goto (tgt := 33) hx hb dX9_askedRim_28 (by decide) ?_
      exact b9_askedRim_b33 (0 : Int32) S6 C h hG (lv_sub hl [1] rfl)
  · replace h := h.2 c3
    refine lv_iload_n hx hb dX9_askedRim_10 rfl (lv_at hl 0 rfl) ?_
    refine lv_goto (tgt := 33) hx hb dX9_askedRim_11 (by decide) ?_
    exact b9_askedRim_b33 r1 S2 C h hG (lv_sub hl [1] rfl)
-- X9_rim
theorem i9_rim_X9 : ∀ w ∈ wsX90, w ∈ wsX9_rim := fun w h => List.mem_cons_of_mem _ (inG_X9 w h)
theorem k9_rim_273 : Cond.fieldLink RX9 273 "PaperBodiesModel" "edges" "I" ∈ wsX9_rim := (List.mem_cons_of_mem _ mw_746)
def w9_rim_b18 (t0 : Int32) (S : MS) (Q : Int32 → MS → Prop) : Prop :=
  Q t0 S
set_option maxHeartbeats 4000000 in
set_option maxRecDepth 100000 in
theorem b9_rim_b18 {p : Program} {l : Launch} {e : Env} {s : State} {m : MethodId} {args : Array Value} {below : List Frame} {meth : Method} {c : Code} {D : va_G} {cy : Nat → ClassId} {A : Nat → Prop} {o : Nat} {q : Nat → Nat} (t0 : Int32) (S : MS) {Q : Int32 → MS → Prop} (C : Cx p s m args meth c cX9_rim 3 (some .int) wsX9_rim RX9 D cy nestWs A) (h : w9_rim_b18 t0 S Q) {H : Heap} {locs : List Loc} (hG : GW D A s (w9 o q cy S) H locs) {ls : Array Slot} (hl : lv_has ls 3 [(0, .ref o)]) : W p l e ({ frames := 5, cells := 0, slots := 0, locals := 119 } : Room) s m args below meth c H locs 0 0 (MQ below (va_Qi Q (B1 D (w9 o q cy) A) A) args s 0 0 A) (F0 m 18 ls [.int t0]) := by
  have hx := C.1
  have hb := C.2.1
  unfold w9_rim_b18 at h
  exact retI (w := (w9 o q cy)) (S := S) C hG h dX9_rim_18
def w9_rim (x1 : Int32) (S : MS) (Q : Int32 → MS → Prop) : Prop :=
  w9_askedRim x1 S (fun r1 S2 => ((0 ≤ r1 → w9_rim_b18 (fI S2 25) S2 Q) ∧ (¬ 0 ≤ r1 → w9_rim_b18 r1 S2 Q)))
set_option maxHeartbeats 4000000 in
set_option maxRecDepth 100000 in
theorem c9_rim (l : Launch) (D : va_G) (cy : Nat → ClassId)  (o : Nat) (q : Nat → Nat) (x1 : Int32) (S : MS) (Q : Int32 → MS → Prop) (h : w9_rim x1 S Q) : MetI l yX9_rim wsX9_rim ({ frames := 5, cells := 0, slots := 0, locals := 119 } : Room) D cy nestWs (w9 o q cy) [.ref o, .int x1] S Q := by
  refine MetI.mk RX9 cX9_rim 3 .int (by decide) rfl nestWs_ok rfl (Nat.le_of_ble_eq_true rfl) ?_
  intro p e s m below meth c A ls C hG hl
  have hl : lv_has ls 3 [(0, .ref o), (1, .int x1)] := hl
  have hx := C.1
  have hb := C.2.1
  unfold w9_rim at h
  refine lv_aload_n hx hb dX9_rim_0 rfl (lv_at hl 0 rfl) ?_
  refine lv_iload_n hx hb dX9_rim_1 rfl (lv_at hl 1 rfl) ?_
  refine callVI (As := [.int x1]) (rest := []) C hG (c9_askedRim l D cy o q x1 S _ h) 1 gX9_rim_X9_askedRim rfl (by decide +kernel) ⟨⟨Nat.le_of_ble_eq_true rfl, Nat.le_of_ble_eq_true rfl⟩, rfl, rfl⟩ rfl rfl (Foc.all C.2.2.2.2.2.2.2.2.1) rfl hl.1 rfl (Nat.le_of_ble_eq_true rfl) dX9_rim_2 ⟨Nat.zero_le _, Nat.zero_le _⟩ (fun r1 S2 H locs h hG => ?_)
  have hG : GW D A s (w9 o q cy S2) H locs := hG
  refine lv_istore_n (lv' := [(2, .int r1), (0, .ref o), (1, .int x1)]) hx hb dX9_rim_5 rfl hl (by decide) rfl (fun ls hl => ?_)
  refine lv_iload_n hx hb dX9_rim_6 rfl (lv_at hl 0 rfl) ?_
  refine lv_if_ge (tgt := 14) hx hb dX9_rim_7 (by decide) (fun c3 => ?_) (fun c3 => ?_)
  · replace h := h.1 c3
    refine lv_aload_n hx hb dX9_rim_14 rfl (lv_at hl 1 rfl) ?_
    refine x9g_25 C i9_rim_X9 k9_rim_273 hG dX9_rim_15 ?_
    exact b9_rim_b18 (fI S2 25) S2 C h hG (lv_sub hl [1] rfl)
  · replace h := h.2 c3
    refine lv_iload_n hx hb dX9_rim_10 rfl (lv_at hl 0 rfl) ?_
    refine lv_goto (tgt := 18) hx hb dX9_rim_11 (by decide) ?_
    exact b9_rim_b18 r1 S2 C h hG (lv_sub hl [1] rfl)
-- X9_edge
theorem i9_edge_X9 : ∀ w ∈ wsX90, w ∈ wsX9_edge := fun w h => List.mem_cons_of_mem _ (inG_X9 w h)
theorem k9_edge_71 : Cond.fieldLink RX9 71 "PaperBodiesModel" "edgeWay" "[I" ∈ wsX9_edge := (List.mem_cons_of_mem _ mw_557)
theorem k9_edge_74 : Cond.fieldLink RX9 74 "PaperBodiesModel" "edgeSquare" "[I" ∈ wsX9_edge := (List.mem_cons_of_mem _ mw_558)
theorem k9_edge_77 : Cond.fieldLink RX9 77 "PaperBodiesModel" "angles" "[I" ∈ wsX9_edge := (List.mem_cons_of_mem _ mw_559)
theorem k9_edge_273 : Cond.fieldLink RX9 273 "PaperBodiesModel" "edges" "I" ∈ wsX9_edge := (List.mem_cons_of_mem _ mw_746)
def w9_edge_b81 (t0 : Int32) (S : MS) (Q : Int32 → MS → Prop) : Prop :=
  Q t0 S
set_option maxHeartbeats 4000000 in
set_option maxRecDepth 100000 in
theorem b9_edge_b81 {p : Program} {l : Launch} {e : Env} {s : State} {m : MethodId} {args : Array Value} {below : List Frame} {meth : Method} {c : Code} {D : va_G} {cy : Nat → ClassId} {A : Nat → Prop} {o : Nat} {q : Nat → Nat} (t0 : Int32) (S : MS) {Q : Int32 → MS → Prop} (C : Cx p s m args meth c cX9_edge 5 (some .int) wsX9_edge RX9 D cy nestWs A) (h : w9_edge_b81 t0 S Q) {H : Heap} {locs : List Loc} (hG : GW D A s (w9 o q cy S) H locs) {ls : Array Slot} (hl : lv_has ls 5 [(0, .ref o)]) : W p l e ({ frames := 5, cells := 0, slots := 0, locals := 119 } : Room) s m args below meth c H locs 0 0 (MQ below (va_Qi Q (B1 D (w9 o q cy) A) A) args s 0 0 A) (F0 m 81 ls [.int t0]) := by
  have hx := C.1
  have hb := C.2.1
  unfold w9_edge_b81 at h
  exact retI (w := (w9 o q cy)) (S := S) C hG h dX9_edge_81
def w9_edge (x1 : Int32) (x2 : Int32) (x3 : Int32) (S : MS) (Q : Int32 → MS → Prop) : Prop :=
  w9_in x3 (0 : Int32) (2 : Int32) (fun r1 => ((¬ r1 = 0 → w9_askedRim x1 S (fun r3 S4 => ((0 ≤ r3 → w9_in x2 (0 : Int32) ((fI S4 25) - (1 : Int32)) (fun r6 => ((¬ r6 = 0 → ((¬ x3 = 0 → ((¬ x3 = (1 : Int32) → vp_in x2 128 ∧ w9_edge_b81 (rA S4 27 x2) S4 Q) ∧ (x3 = (1 : Int32) → vp_in x2 128 ∧ w9_edge_b81 (rA S4 28 x2) S4 Q))) ∧ (x3 = 0 → vp_in x2 128 ∧ w9_edge_b81 (rA S4 26 x2) S4 Q))) ∧ (r6 = 0 → w9_meets (2 : Int32) S4 (fun r13 S14 => w9_edge_b81 r13 S14 Q))))) ∧ (¬ 0 ≤ r3 → Q r3 S4)))) ∧ (r1 = 0 → Q (-1 : Int32) S)))
set_option maxHeartbeats 4000000 in
set_option maxRecDepth 100000 in
theorem c9_edge (l : Launch) (D : va_G) (cy : Nat → ClassId)  (o : Nat) (q : Nat → Nat) (x1 : Int32) (x2 : Int32) (x3 : Int32) (S : MS) (Q : Int32 → MS → Prop) (h : w9_edge x1 x2 x3 S Q) : MetI l yX9_edge wsX9_edge ({ frames := 5, cells := 0, slots := 0, locals := 119 } : Room) D cy nestWs (w9 o q cy) [.ref o, .int x1, .int x2, .int x3] S Q := by
  refine MetI.mk RX9 cX9_edge 5 .int (by decide) rfl nestWs_ok rfl (Nat.le_of_ble_eq_true rfl) ?_
  intro p e s m below meth c A ls C hG hl
  have hl : lv_has ls 5 [(0, .ref o), (1, .int x1), (2, .int x2), (3, .int x3)] := hl
  have hx := C.1
  have hb := C.2.1
  unfold w9_edge at h
  refine lv_iload_n hx hb dX9_edge_0 rfl (lv_at hl 3 rfl) ?_
  refine lv_iconst (v := 0) hx hb dX9_edge_1 (by decide) ?_
  refine lv_iconst (v := 2) hx hb dX9_edge_2 (by decide) ?_
  refine callSI (As := [.int x3, .int (0 : Int32), .int (2 : Int32)]) (rest := []) C hG (c9_in l D cy x3 (0 : Int32) (2 : Int32) _ h) 3 gX9_edge_X9_in rfl (by decide +kernel) ⟨⟨Nat.le_of_ble_eq_true rfl, Nat.le_of_ble_eq_true rfl⟩, rfl, rfl⟩ (Foc.none C.2.2.2.2.2.2.2.2.1) rfl hl.1 rfl (Nat.le_of_ble_eq_true rfl) dX9_edge_3 ⟨Nat.zero_le _, Nat.zero_le _⟩ (fun r1 z H locs h hG => ?_)
  refine lv_if_ne (tgt := 11) hx hb dX9_edge_6 (by decide) (fun c2 => ?_) (fun c2 => ?_)
  · replace h := h.1 c2
    refine lv_aload_n hx hb dX9_edge_11 rfl (lv_at hl 0 rfl) ?_
    refine lv_iload_n hx hb dX9_edge_12 rfl (lv_at hl 1 rfl) ?_
    refine callVI (As := [.int x1]) (rest := []) C hG (c9_askedRim l D cy o q x1 S _ h) 1 gX9_edge_X9_askedRim rfl (by decide +kernel) ⟨⟨Nat.le_of_ble_eq_true rfl, Nat.le_of_ble_eq_true rfl⟩, rfl, rfl⟩ rfl rfl (Foc.all C.2.2.2.2.2.2.2.2.1) rfl hl.1 rfl (Nat.le_of_ble_eq_true rfl) dX9_edge_13 ⟨Nat.zero_le _, Nat.zero_le _⟩ (fun r3 S4 H locs h hG => ?_)
    have hG : GW D A s (w9 o q cy S4) H locs := hG
    refine lv_istore (lv' := [(4, .int r3), (0, .ref o), (1, .int x1), (2, .int x2), (3, .int x3)]) hx hb dX9_edge_16 hl (by decide) rfl (fun ls hl => ?_)
    refine lv_iload hx hb dX9_edge_18 (lv_at hl 0 rfl) ?_
    refine lv_if_ge (tgt := 26) hx hb dX9_edge_20 (by decide) (fun c5 => ?_) (fun c5 => ?_)
    · replace h := h.1 c5
      refine lv_iload_n hx hb dX9_edge_26 rfl (lv_at hl 3 rfl) ?_
      refine lv_iconst (v := 0) hx hb dX9_edge_27 (by decide) ?_
      refine lv_aload_n hx hb dX9_edge_28 rfl (lv_at hl 1 rfl) ?_
      refine x9g_25 C i9_edge_X9 k9_edge_273 hG dX9_edge_29 ?_
      refine lv_iconst (v := 1) hx hb dX9_edge_32 (by decide) ?_
      refine lv_isub hx hb dX9_edge_33 ?_
      refine callSI (As := [.int x2, .int (0 : Int32), .int ((fI S4 25) - (1 : Int32))]) (rest := []) C hG (c9_in l D cy x2 (0 : Int32) ((fI S4 25) - (1 : Int32)) _ h) 3 gX9_edge_X9_in rfl (by decide +kernel) ⟨⟨Nat.le_of_ble_eq_true rfl, Nat.le_of_ble_eq_true rfl⟩, rfl, rfl⟩ (Foc.none C.2.2.2.2.2.2.2.2.1) rfl hl.1 rfl (Nat.le_of_ble_eq_true rfl) dX9_edge_34 ⟨Nat.zero_le _, Nat.zero_le _⟩ (fun r6 z H locs h hG => ?_)
      refine lv_if_ne (tgt := 48) hx hb dX9_edge_37 (by decide) (fun c7 => ?_) (fun c7 => ?_)
      · replace h := h.1 c7
        refine lv_iload_n hx hb dX9_edge_48 rfl (lv_at hl 4 rfl) ?_
        refine lv_if_ne (tgt := 61) hx hb dX9_edge_49 (by decide) (fun c8 => ?_) (fun c8 => ?_)
        · replace h := h.1 c8
          refine lv_iload_n hx hb dX9_edge_61 rfl (lv_at hl 4 rfl) ?_
          refine lv_iconst (v := 1) hx hb dX9_edge_62 (by decide) ?_
          refine lv_icmp_ne (tgt := 75) hx hb dX9_edge_63 (by decide) (fun c9 => ?_) (fun c9 => ?_)
          · replace h := h.1 c9
            refine lv_aload_n hx hb dX9_edge_75 rfl (lv_at hl 1 rfl) ?_
            refine x9g_27 C i9_edge_X9 k9_edge_74 hG dX9_edge_76 ?_
            refine lv_iload_n hx hb dX9_edge_79 rfl (lv_at hl 3 rfl) ?_
            obtain ⟨hv10, h⟩ := h
            refine x9l_27 C hG hv10 dX9_edge_80 ?_
            exact b9_edge_b81 (rA S4 27 x2) S4 C h hG (lv_sub hl [1] rfl)
          · replace h := h.2 c9
            refine lv_aload_n hx hb dX9_edge_66 rfl (lv_at hl 1 rfl) ?_
            refine x9g_28 C i9_edge_X9 k9_edge_77 hG dX9_edge_67 ?_
            refine lv_iload_n hx hb dX9_edge_70 rfl (lv_at hl 3 rfl) ?_
            obtain ⟨hv11, h⟩ := h
            refine x9l_28 C hG hv11 dX9_edge_71 ?_
            refine lv_goto (tgt := 81) hx hb dX9_edge_72 (by decide) ?_
            exact b9_edge_b81 (rA S4 28 x2) S4 C h hG (lv_sub hl [1] rfl)
        · replace h := h.2 c8
          refine lv_aload_n hx hb dX9_edge_52 rfl (lv_at hl 1 rfl) ?_
          refine x9g_26 C i9_edge_X9 k9_edge_71 hG dX9_edge_53 ?_
          refine lv_iload_n hx hb dX9_edge_56 rfl (lv_at hl 3 rfl) ?_
          obtain ⟨hv12, h⟩ := h
          refine x9l_26 C hG hv12 dX9_edge_57 ?_
          refine lv_goto (tgt := 81) hx hb dX9_edge_58 (by decide) ?_
          exact b9_edge_b81 (rA S4 26 x2) S4 C h hG (lv_sub hl [1] rfl)
      · replace h := h.2 c7
        refine lv_aload_n hx hb dX9_edge_40 rfl (lv_at hl 1 rfl) ?_
        refine lv_iconst (v := 2) hx hb dX9_edge_41 (by decide) ?_
        refine callVI (As := [.int (2 : Int32)]) (rest := []) C hG (c9_meets l D cy o q (2 : Int32) S4 _ h) 1 gX9_edge_X9_meets rfl (by decide +kernel) ⟨⟨Nat.le_of_ble_eq_true rfl, Nat.le_of_ble_eq_true rfl⟩, rfl, rfl⟩ rfl rfl (Foc.all C.2.2.2.2.2.2.2.2.1) rfl hl.1 rfl (Nat.le_of_ble_eq_true rfl) dX9_edge_42 ⟨Nat.zero_le _, Nat.zero_le _⟩ (fun r13 S14 H locs h hG => ?_)
        have hG : GW D A s (w9 o q cy S14) H locs := hG
        refine lv_goto (tgt := 81) hx hb dX9_edge_45 (by decide) ?_
        exact b9_edge_b81 r13 S14 C h hG (lv_sub hl [1] rfl)
    · replace h := h.2 c5
      refine lv_iload hx hb dX9_edge_23 (lv_at hl 0 rfl) ?_
      exact retI (w := (w9 o q cy)) (S := S4) C hG h dX9_edge_25
  · replace h := h.2 c2
    refine lv_iconst (v := -1) hx hb dX9_edge_9 (by decide) ?_
    exact retI (w := (w9 o q cy)) (S := S) C hG h dX9_edge_10
-- X9_meanAngle
theorem i9_meanAngle_X9 : ∀ w ∈ wsX90, w ∈ wsX9_meanAngle := fun w h => List.mem_cons_of_mem _ (inG_X9 w h)
theorem k9_meanAngle_77 : Cond.fieldLink RX9 77 "PaperBodiesModel" "angles" "[I" ∈ wsX9_meanAngle := (List.mem_cons_of_mem _ mw_559)
theorem k9_meanAngle_273 : Cond.fieldLink RX9 273 "PaperBodiesModel" "edges" "I" ∈ wsX9_meanAngle := (List.mem_cons_of_mem _ mw_746)
def w9_meanAngle_d17 (K17 : Int32 → Int32 → Prop) (x3 : Int32) (x4 : Int32) (S : MS) (Q : Int32 → MS → Prop) : Prop :=
  (((fI S 25) ≤ x4 → ¬ (fI S 25) = 0 ∧ Q (((100 : Int32) * x3) / (fI S 25)) S) ∧ (¬ (fI S 25) ≤ x4 → vp_in x4 128 ∧ ∀ y4 : Int32, y4 = (x3 + (rA S 28 x4)) → ∀ y5 : Int32, y5 = x4 + 1 → K17 y4 y5))
set_option maxHeartbeats 4000000 in
set_option maxRecDepth 100000 in
theorem b9_meanAngle_d17 {p : Program} {l : Launch} {e : Env} {s : State} {m : MethodId} {args : Array Value} {below : List Frame} {meth : Method} {c : Code} {D : va_G} {cy : Nat → ClassId} {A : Nat → Prop} {o : Nat} {q : Nat → Nat} {K17 : Int32 → Int32 → Prop} (x3 : Int32) (x4 : Int32) (S : MS) {Q : Int32 → MS → Prop} (C : Cx p s m args meth c cX9_meanAngle 5 (some .int) wsX9_meanAngle RX9 D cy nestWs A) (hK17 : ∀ (x3 : Int32) (x4 : Int32) (H : Heap) (locs : List Loc) (ls : Array Slot), K17 x3 x4 → GW D A s (w9 o q cy S) H locs → lv_has ls 5 [(0, .ref o), (3, .int x3), (4, .int x4)] → W p l e ({ frames := 5, cells := 0, slots := 0, locals := 119 } : Room) s m args below meth c H locs 0 0 (MQ below (va_Qi Q (B1 D (w9 o q cy) A) A) args s 0 0 A) (F0 m 17 ls [])) (h : w9_meanAngle_d17 K17 x3 x4 S Q) {H : Heap} {locs : List Loc} (hG : GW D A s (w9 o q cy S) H locs) {ls : Array Slot} (hl : lv_has ls 5 [(0, .ref o), (3, .int x3), (4, .int x4)]) : W p l e ({ frames := 5, cells := 0, slots := 0, locals := 119 } : Room) s m args below meth c H locs 0 0 (MQ below (va_Qi Q (B1 D (w9 o q cy) A) A) args s 0 0 A) (F0 m 17 ls []) := by
  have hx := C.1
  have hb := C.2.1
  unfold w9_meanAngle_d17 at h
  refine lv_iload hx hb dX9_meanAngle_17 (lv_at hl 2 rfl) ?_
  refine lv_aload_n hx hb dX9_meanAngle_19 rfl (lv_at hl 0 rfl) ?_
  refine x9g_25 C i9_meanAngle_X9 k9_meanAngle_273 hG dX9_meanAngle_20 ?_
  refine lv_icmp_ge (tgt := 42) hx hb dX9_meanAngle_23 (by decide) (fun c1 => ?_) (fun c1 => ?_)
  · replace h := h.1 c1
    refine lv_bipush (v := 100) hx hb dX9_meanAngle_42 (by decide) ?_
    refine lv_iload_n hx hb dX9_meanAngle_44 rfl (lv_at hl 1 rfl) ?_
    refine lv_imul hx hb dX9_meanAngle_45 ?_
    refine lv_aload_n hx hb dX9_meanAngle_46 rfl (lv_at hl 0 rfl) ?_
    refine x9g_25 C i9_meanAngle_X9 k9_meanAngle_273 hG dX9_meanAngle_47 ?_
    obtain ⟨hz2, h⟩ := h
    refine lv_idiv hx hb dX9_meanAngle_50 hz2 ?_
    exact retI (w := (w9 o q cy)) (S := S) C hG h dX9_meanAngle_51
  · replace h := h.2 c1
    refine lv_iload_n hx hb dX9_meanAngle_26 rfl (lv_at hl 1 rfl) ?_
    refine lv_aload_n hx hb dX9_meanAngle_27 rfl (lv_at hl 0 rfl) ?_
    refine x9g_28 C i9_meanAngle_X9 k9_meanAngle_77 hG dX9_meanAngle_28 ?_
    refine lv_iload hx hb dX9_meanAngle_31 (lv_at hl 2 rfl) ?_
    obtain ⟨hv3, h⟩ := h
    refine x9l_28 C hG hv3 dX9_meanAngle_33 ?_
    refine lv_iadd hx hb dX9_meanAngle_34 ?_
    refine lv_topi (fun y4 ey4 => ?_)
    replace h := h y4 ey4
    refine lv_istore_n (lv' := [(3, .int y4), (0, .ref o), (4, .int x4)]) hx hb dX9_meanAngle_35 rfl hl (by decide) rfl (fun ls hl => ?_)
    obtain ⟨y5, ey5⟩ : ∃ y : Int32, y = x4 + 1 := ⟨_, rfl⟩
    replace h := h y5 ey5
    refine lv_iinc (v := y5) (lv' := [(4, .int y5), (3, .int y4), (0, .ref o)]) hx hb dX9_meanAngle_36 hl (k := 2) rfl (by rw [ey5]; rfl) (by decide) rfl (fun ls hl => ?_)
    refine lv_goto (tgt := 17) hx hb dX9_meanAngle_39 (by decide) ?_
    exact hK17 y4 y5 _ _ _ h hG (lv_sub hl [2, 1, 0] rfl)
def w9_meanAngle_F17 (S : MS) (Q : Int32 → MS → Prop) (K : Int32 × Int32 → Prop) (a : Int32 × Int32) : Prop := w9_meanAngle_d17 (fun y0 y1 => K (y0, y1)) a.1 a.2 S Q
def w9_meanAngle_b17 (x3 : Int32) (x4 : Int32) (S : MS) (Q : Int32 → MS → Prop) : Prop := lp (w9_meanAngle_F17 S Q) (x3, x4)
set_option maxHeartbeats 4000000 in
set_option maxRecDepth 100000 in
theorem b9_meanAngle_b17 {p : Program} {l : Launch} {e : Env} {s : State} {m : MethodId} {args : Array Value} {below : List Frame} {meth : Method} {c : Code} {D : va_G} {cy : Nat → ClassId} {A : Nat → Prop} {o : Nat} {q : Nat → Nat} (x3 : Int32) (x4 : Int32) (S : MS) {Q : Int32 → MS → Prop} (C : Cx p s m args meth c cX9_meanAngle 5 (some .int) wsX9_meanAngle RX9 D cy nestWs A) (h : w9_meanAngle_b17 x3 x4 S Q) {H : Heap} {locs : List Loc} (hG : GW D A s (w9 o q cy S) H locs) {ls : Array Slot} (hl : lv_has ls 5 [(0, .ref o), (3, .int x3), (4, .int x4)]) : W p l e ({ frames := 5, cells := 0, slots := 0, locals := 119 } : Room) s m args below meth c H locs 0 0 (MQ below (va_Qi Q (B1 D (w9 o q cy) A) A) args s 0 0 A) (F0 m 17 ls []) := by
  obtain ⟨k, hn⟩ := h
  induction k generalizing x3 x4 H locs ls with
  | zero => exact hn.elim
  | succ k ih => exact b9_meanAngle_d17 (K17 := fun y0 y1 => itr (w9_meanAngle_F17 S Q) k (y0, y1)) x3 x4 S C (fun x3 x4 H locs ls hk hG hl => ih x3 x4 hG hl hk) hn hG hl
def w9_meanAngle (x1 : Int32) (S : MS) (Q : Int32 → MS → Prop) : Prop :=
  w9_askedRim x1 S (fun r1 S2 => ((0 ≤ r1 → w9_meanAngle_b17 (0 : Int32) (0 : Int32) S2 Q) ∧ (¬ 0 ≤ r1 → Q r1 S2)))
set_option maxHeartbeats 4000000 in
set_option maxRecDepth 100000 in
theorem c9_meanAngle (l : Launch) (D : va_G) (cy : Nat → ClassId)  (o : Nat) (q : Nat → Nat) (x1 : Int32) (S : MS) (Q : Int32 → MS → Prop) (h : w9_meanAngle x1 S Q) : MetI l yX9_meanAngle wsX9_meanAngle ({ frames := 5, cells := 0, slots := 0, locals := 119 } : Room) D cy nestWs (w9 o q cy) [.ref o, .int x1] S Q := by
  refine MetI.mk RX9 cX9_meanAngle 5 .int (by decide) rfl nestWs_ok rfl (Nat.le_of_ble_eq_true rfl) ?_
  intro p e s m below meth c A ls C hG hl
  have hl : lv_has ls 5 [(0, .ref o), (1, .int x1)] := hl
  have hx := C.1
  have hb := C.2.1
  unfold w9_meanAngle at h
  refine lv_aload_n hx hb dX9_meanAngle_0 rfl (lv_at hl 0 rfl) ?_
  refine lv_iload_n hx hb dX9_meanAngle_1 rfl (lv_at hl 1 rfl) ?_
  refine callVI (As := [.int x1]) (rest := []) C hG (c9_askedRim l D cy o q x1 S _ h) 1 gX9_meanAngle_X9_askedRim rfl (by decide +kernel) ⟨⟨Nat.le_of_ble_eq_true rfl, Nat.le_of_ble_eq_true rfl⟩, rfl, rfl⟩ rfl rfl (Foc.all C.2.2.2.2.2.2.2.2.1) rfl hl.1 rfl (Nat.le_of_ble_eq_true rfl) dX9_meanAngle_2 ⟨Nat.zero_le _, Nat.zero_le _⟩ (fun r1 S2 H locs h hG => ?_)
  have hG : GW D A s (w9 o q cy S2) H locs := hG
  refine lv_istore_n (lv' := [(2, .int r1), (0, .ref o), (1, .int x1)]) hx hb dX9_meanAngle_5 rfl hl (by decide) rfl (fun ls hl => ?_)
  refine lv_iload_n hx hb dX9_meanAngle_6 rfl (lv_at hl 0 rfl) ?_
  refine lv_if_ge (tgt := 12) hx hb dX9_meanAngle_7 (by decide) (fun c3 => ?_) (fun c3 => ?_)
  · replace h := h.1 c3
    refine lv_iconst (v := 0) hx hb dX9_meanAngle_12 (by decide) ?_
    refine lv_istore_n (lv' := [(3, .int (0 : Int32)), (2, .int r1), (0, .ref o), (1, .int x1)]) hx hb dX9_meanAngle_13 rfl hl (by decide) rfl (fun ls hl => ?_)
    refine lv_iconst (v := 0) hx hb dX9_meanAngle_14 (by decide) ?_
    refine lv_istore (lv' := [(4, .int (0 : Int32)), (3, .int (0 : Int32)), (2, .int r1), (0, .ref o), (1, .int x1)]) hx hb dX9_meanAngle_15 hl (by decide) rfl (fun ls hl => ?_)
    exact b9_meanAngle_b17 (0 : Int32) (0 : Int32) S2 C h hG (lv_sub hl [3, 1, 0] rfl)
  · replace h := h.2 c3
    refine lv_iload_n hx hb dX9_meanAngle_10 rfl (lv_at hl 0 rfl) ?_
    exact retI (w := (w9 o q cy)) (S := S2) C hG h dX9_meanAngle_11
-- X9_joins
theorem i9_joins_X9 : ∀ w ∈ wsX90, w ∈ wsX9_joins := fun w h => List.mem_cons_of_mem _ (inG_X9 w h)
theorem k9_joins_83 : Cond.fieldLink RX9 83 "PaperBodiesModel" "together" "[I" ∈ wsX9_joins := (List.mem_cons_of_mem _ mw_561)
def w9_joins_b51 (x1 : Int32) (x2 : Int32) (x3 : Int32) (t0 : Int32) (S : MS) (Q : Int32 → MS → Prop) : Prop :=
  vp_in x1 128 ∧ ∀ S2 : MS, S2 = sA S 30 x1 x3 → vp_in x2 128 ∧ ∀ S4 : MS, S4 = sA S2 30 x2 x3 → narrow .boolean (.int t0) = .int t0 ∧ Q t0 S4
set_option maxHeartbeats 4000000 in
set_option maxRecDepth 100000 in
theorem b9_joins_b51 {p : Program} {l : Launch} {e : Env} {s : State} {m : MethodId} {args : Array Value} {below : List Frame} {meth : Method} {c : Code} {D : va_G} {cy : Nat → ClassId} {A : Nat → Prop} {o : Nat} {q : Nat → Nat} (x1 : Int32) (x2 : Int32) (x3 : Int32) (t0 : Int32) (S : MS) {Q : Int32 → MS → Prop} (C : Cx p s m args meth c cX9_joins 5 (some .boolean) wsX9_joins RX9 D cy nestWs A) (h : w9_joins_b51 x1 x2 x3 t0 S Q) {H : Heap} {locs : List Loc} (hG : GW D A s (w9 o q cy S) H locs) {ls : Array Slot} (hl : lv_has ls 5 [(0, .ref o), (1, .int x1), (2, .int x2), (3, .int x3)]) : W p l e ({ frames := 0, cells := 0, slots := 0, locals := 0 } : Room) s m args below meth c H locs 0 0 (MQ below (va_Qi Q (B1 D (w9 o q cy) A) A) args s 0 0 A) (F0 m 51 ls [.int t0]) := by
  have hx := C.1
  have hb := C.2.1
  unfold w9_joins_b51 at h
  refine lv_istore (lv' := [(4, .int t0), (0, .ref o), (1, .int x1), (2, .int x2), (3, .int x3)]) hx hb dX9_joins_51 hl (by decide) rfl (fun ls hl => ?_)
  refine lv_aload_n hx hb dX9_joins_53 rfl (lv_at hl 1 rfl) ?_
  refine x9g_30 C i9_joins_X9 k9_joins_83 hG dX9_joins_54 ?_
  refine lv_iload_n hx hb dX9_joins_57 rfl (lv_at hl 2 rfl) ?_
  refine lv_iload_n hx hb dX9_joins_58 rfl (lv_at hl 4 rfl) ?_
  obtain ⟨hv1, h⟩ := h
  refine x9s_30 C hG hv1 dX9_joins_59 (fun S2 eS2 H locs hG => ?_)
  replace h := h S2 eS2
  refine lv_aload_n hx hb dX9_joins_60 rfl (lv_at hl 1 rfl) ?_
  refine x9g_30 C i9_joins_X9 k9_joins_83 hG dX9_joins_61 ?_
  refine lv_iload_n hx hb dX9_joins_64 rfl (lv_at hl 3 rfl) ?_
  refine lv_iload_n hx hb dX9_joins_65 rfl (lv_at hl 4 rfl) ?_
  obtain ⟨hv3, h⟩ := h
  refine x9s_30 C hG hv3 dX9_joins_66 (fun S4 eS4 H locs hG => ?_)
  replace h := h S4 eS4
  refine lv_iload hx hb dX9_joins_67 (lv_at hl 0 rfl) ?_
  exact retZ (w := (w9 o q cy)) (S := S4) C hG ⟨h.1, h.2⟩ dX9_joins_69
def w9_joins_b30 (x1 : Int32) (x2 : Int32) (t0 : Int32) (S : MS) (Q : Int32 → MS → Prop) : Prop :=
  vp_in x1 128 ∧ vp_in x2 128 ∧ (((rA S 30 x1) = (rA S 30 x2) → w9_joins_b51 x1 x2 t0 (0 : Int32) S Q) ∧ (¬ (rA S 30 x1) = (rA S 30 x2) → w9_joins_b51 x1 x2 t0 (1 : Int32) S Q))
set_option maxHeartbeats 4000000 in
set_option maxRecDepth 100000 in
theorem b9_joins_b30 {p : Program} {l : Launch} {e : Env} {s : State} {m : MethodId} {args : Array Value} {below : List Frame} {meth : Method} {c : Code} {D : va_G} {cy : Nat → ClassId} {A : Nat → Prop} {o : Nat} {q : Nat → Nat} (x1 : Int32) (x2 : Int32) (t0 : Int32) (S : MS) {Q : Int32 → MS → Prop} (C : Cx p s m args meth c cX9_joins 5 (some .boolean) wsX9_joins RX9 D cy nestWs A) (h : w9_joins_b30 x1 x2 t0 S Q) {H : Heap} {locs : List Loc} (hG : GW D A s (w9 o q cy S) H locs) {ls : Array Slot} (hl : lv_has ls 5 [(0, .ref o), (1, .int x1), (2, .int x2)]) : W p l e ({ frames := 0, cells := 0, slots := 0, locals := 0 } : Room) s m args below meth c H locs 0 0 (MQ below (va_Qi Q (B1 D (w9 o q cy) A) A) args s 0 0 A) (F0 m 30 ls [.int t0]) := by
  have hx := C.1
  have hb := C.2.1
  unfold w9_joins_b30 at h
  refine lv_istore_n (lv' := [(3, .int t0), (0, .ref o), (1, .int x1), (2, .int x2)]) hx hb dX9_joins_30 rfl hl (by decide) rfl (fun ls hl => ?_)
  refine lv_aload_n hx hb dX9_joins_31 rfl (lv_at hl 1 rfl) ?_
  refine x9g_30 C i9_joins_X9 k9_joins_83 hG dX9_joins_32 ?_
  refine lv_iload_n hx hb dX9_joins_35 rfl (lv_at hl 2 rfl) ?_
  obtain ⟨hv1, h⟩ := h
  refine x9l_30 C hG hv1 dX9_joins_36 ?_
  refine lv_aload_n hx hb dX9_joins_37 rfl (lv_at hl 1 rfl) ?_
  refine x9g_30 C i9_joins_X9 k9_joins_83 hG dX9_joins_38 ?_
  refine lv_iload_n hx hb dX9_joins_41 rfl (lv_at hl 3 rfl) ?_
  obtain ⟨hv2, h⟩ := h
  refine x9l_30 C hG hv2 dX9_joins_42 ?_
  refine lv_icmp_eq (tgt := 50) hx hb dX9_joins_43 (by decide) (fun c3 => ?_) (fun c3 => ?_)
  · replace h := h.1 c3
    refine lv_iconst (v := 0) hx hb dX9_joins_50 (by decide) ?_
    exact b9_joins_b51 x1 x2 t0 (0 : Int32) S C h hG (lv_sub hl [1, 2, 3, 0] rfl)
  · replace h := h.2 c3
    refine lv_iconst (v := 1) hx hb dX9_joins_46 (by decide) ?_
    refine lv_goto (tgt := 51) hx hb dX9_joins_47 (by decide) ?_
    exact b9_joins_b51 x1 x2 t0 (1 : Int32) S C h hG (lv_sub hl [1, 2, 3, 0] rfl)
def w9_joins (x1 : Int32) (x2 : Int32) (S : MS) (Q : Int32 → MS → Prop) : Prop :=
  vp_in x1 128 ∧ vp_in x2 128 ∧ (((rA S 30 x2) ≤ (rA S 30 x1) → w9_joins_b30 x1 x2 (rA S 30 x2) S Q) ∧ (¬ (rA S 30 x2) ≤ (rA S 30 x1) → w9_joins_b30 x1 x2 (rA S 30 x1) S Q))
set_option maxHeartbeats 4000000 in
set_option maxRecDepth 100000 in
theorem c9_joins (l : Launch) (D : va_G) (cy : Nat → ClassId)  (o : Nat) (q : Nat → Nat) (x1 : Int32) (x2 : Int32) (S : MS) (Q : Int32 → MS → Prop) (h : w9_joins x1 x2 S Q) : MetI l yX9_joins wsX9_joins ({ frames := 0, cells := 0, slots := 0, locals := 0 } : Room) D cy nestWs (w9 o q cy) [.ref o, .int x1, .int x2] S Q := by
  refine MetI.mk RX9 cX9_joins 5 .boolean (by decide) rfl nestWs_ok rfl (Nat.le_of_ble_eq_true rfl) ?_
  intro p e s m below meth c A ls C hG hl
  have hl : lv_has ls 5 [(0, .ref o), (1, .int x1), (2, .int x2)] := hl
  have hx := C.1
  have hb := C.2.1
  unfold w9_joins at h
  refine lv_aload_n hx hb dX9_joins_0 rfl (lv_at hl 0 rfl) ?_
  refine x9g_30 C i9_joins_X9 k9_joins_83 hG dX9_joins_1 ?_
  refine lv_iload_n hx hb dX9_joins_4 rfl (lv_at hl 1 rfl) ?_
  obtain ⟨hv1, h⟩ := h
  refine x9l_30 C hG hv1 dX9_joins_5 ?_
  refine lv_aload_n hx hb dX9_joins_6 rfl (lv_at hl 0 rfl) ?_
  refine x9g_30 C i9_joins_X9 k9_joins_83 hG dX9_joins_7 ?_
  refine lv_iload_n hx hb dX9_joins_10 rfl (lv_at hl 2 rfl) ?_
  obtain ⟨hv2, h⟩ := h
  refine x9l_30 C hG hv2 dX9_joins_11 ?_
  refine lv_icmp_ge (tgt := 24) hx hb dX9_joins_12 (by decide) (fun c3 => ?_) (fun c3 => ?_)
  · replace h := h.1 c3
    refine lv_aload_n hx hb dX9_joins_24 rfl (lv_at hl 0 rfl) ?_
    refine x9g_30 C i9_joins_X9 k9_joins_83 hG dX9_joins_25 ?_
    refine lv_iload_n hx hb dX9_joins_28 rfl (lv_at hl 2 rfl) ?_
    refine x9l_30 C hG hv2 dX9_joins_29 ?_
    exact b9_joins_b30 x1 x2 (rA S 30 x2) S C h hG hl
  · replace h := h.2 c3
    refine lv_aload_n hx hb dX9_joins_15 rfl (lv_at hl 0 rfl) ?_
    refine x9g_30 C i9_joins_X9 k9_joins_83 hG dX9_joins_16 ?_
    refine lv_iload_n hx hb dX9_joins_19 rfl (lv_at hl 1 rfl) ?_
    refine x9l_30 C hG hv1 dX9_joins_20 ?_
    refine lv_goto (tgt := 30) hx hb dX9_joins_21 (by decide) ?_
    exact b9_joins_b30 x1 x2 (rA S 30 x1) S C h hG hl
