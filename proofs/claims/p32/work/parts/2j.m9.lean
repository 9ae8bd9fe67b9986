-- X9_count
theorem i9_count_X9 : ∀ w ∈ wsX90, w ∈ wsX9_count := fun w h => List.mem_cons_of_mem _ (inG_X9 w h)
theorem k9_count_13 : Cond.fieldLink RX9 13 "PaperBodiesModel" "figures" "[J" ∈ wsX9_count := (List.mem_cons_of_mem _ mw_538)
theorem k9_count_26 : Cond.fieldLink RX9 26 "PaperBodiesModel" "dims" "[I" ∈ wsX9_count := (List.mem_cons_of_mem _ mw_542)
theorem k9_count_104 : Cond.fieldLink RX9 104 "PaperBodiesModel" "sizes" "[I" ∈ wsX9_count := (List.mem_cons_of_mem _ mw_568)
def w9_count_b159 (t0 : Int32) (S : MS) (Q : Int32 → Prop) : Prop :=
  Q t0
set_option maxHeartbeats 4000000 in
set_option maxRecDepth 100000 in
theorem b9_count_b159 {p : Program} {l : Launch} {e : Env} {s : State} {m : MethodId} {args : Array Value} {below : List Frame} {meth : Method} {c : Code} {D : va_G} {cy : Nat → ClassId} {A : Nat → Prop} {o : Nat} {q : Nat → Nat} (t0 : Int32) (S : MS) {Q : Int32 → Prop} (C : Cx p s m args meth c cX9_count 4 (some .int) wsX9_count RX9 D cy nestWs A) (h : w9_count_b159 t0 S Q) {H : Heap} {locs : List Loc} (hG : GW D A s (w9 o q cy S) H locs) {ls : Array Slot} (hl : lv_has ls 4 [(0, .ref o)]) : W p l e ({ frames := 2, cells := 0, slots := 0, locals := 43 } : Room) s m args below meth c H locs 0 0 (MQ below (va_Qi (fun r z => z = S ∧ Q r ) (B1 D (w9 o q cy) A) A) args s 0 0 A) (F0 m 159 ls [.int t0]) := by
  have hx := C.1
  have hb := C.2.1
  unfold w9_count_b159 at h
  exact retI (w := (w9 o q cy)) (S := S) C hG ⟨rfl, h⟩ dX9_count_159
def w9_count_b137 (K112 : Int32 → Int32 → Prop) (x1 : Int32) (x3 : Int32) (t0 : Int32) (t1 : Int32) (S : MS) (Q : Int32 → Prop) : Prop :=
  ∀ y1 : Int32, y1 = (t0 + t1) → ∀ y2 : Int32, y2 = x3 + 1 → K112 y1 y2
set_option maxHeartbeats 4000000 in
set_option maxRecDepth 100000 in
theorem b9_count_b137 {p : Program} {l : Launch} {e : Env} {s : State} {m : MethodId} {args : Array Value} {below : List Frame} {meth : Method} {c : Code} {D : va_G} {cy : Nat → ClassId} {A : Nat → Prop} {o : Nat} {q : Nat → Nat} {K112 : Int32 → Int32 → Prop} (x1 : Int32) (x3 : Int32) (t0 : Int32) (t1 : Int32) (S : MS) {Q : Int32 → Prop} (C : Cx p s m args meth c cX9_count 4 (some .int) wsX9_count RX9 D cy nestWs A) (hK112 : ∀ (x2 : Int32) (x3 : Int32) (H : Heap) (locs : List Loc) (ls : Array Slot), K112 x2 x3 → GW D A s (w9 o q cy S) H locs → lv_has ls 4 [(0, .ref o), (1, .int x1), (2, .int x2), (3, .int x3)] → W p l e ({ frames := 2, cells := 0, slots := 0, locals := 43 } : Room) s m args below meth c H locs 0 0 (MQ below (va_Qi (fun r z => z = S ∧ Q r ) (B1 D (w9 o q cy) A) A) args s 0 0 A) (F0 m 112 ls [])) (h : w9_count_b137 K112 x1 x3 t0 t1 S Q) {H : Heap} {locs : List Loc} (hG : GW D A s (w9 o q cy S) H locs) {ls : Array Slot} (hl : lv_has ls 4 [(0, .ref o), (1, .int x1), (3, .int x3)]) : W p l e ({ frames := 2, cells := 0, slots := 0, locals := 43 } : Room) s m args below meth c H locs 0 0 (MQ below (va_Qi (fun r z => z = S ∧ Q r ) (B1 D (w9 o q cy) A) A) args s 0 0 A) (F0 m 137 ls [.int t1, .int t0]) := by
  have hx := C.1
  have hb := C.2.1
  unfold w9_count_b137 at h
  refine lv_iadd hx hb dX9_count_137 ?_
  refine lv_topi (fun y1 ey1 => ?_)
  replace h := h y1 ey1
  refine lv_istore_n (lv' := [(2, .int y1), (0, .ref o), (1, .int x1), (3, .int x3)]) hx hb dX9_count_138 rfl hl (by decide) rfl (fun ls hl => ?_)
  obtain ⟨y2, ey2⟩ : ∃ y : Int32, y = x3 + 1 := ⟨_, rfl⟩
  replace h := h y2 ey2
  refine lv_iinc (v := y2) (lv' := [(3, .int y2), (2, .int y1), (0, .ref o), (1, .int x1)]) hx hb dX9_count_139 hl (k := 3) rfl (by rw [ey2]; rfl) (by decide) rfl (fun ls hl => ?_)
  refine lv_goto (tgt := 112) hx hb dX9_count_142 (by decide) ?_
  exact hK112 y1 y2 _ _ _ h hG (lv_sub hl [2, 3, 1, 0] rfl)
def w9_count_b136 (K112 : Int32 → Int32 → Prop) (x1 : Int32) (x3 : Int32) (t0 : Int32) (S : MS) (Q : Int32 → Prop) : Prop :=
  w9_count_b137 K112 x1 x3 t0 (0 : Int32) S Q
set_option maxHeartbeats 4000000 in
set_option maxRecDepth 100000 in
theorem b9_count_b136 {p : Program} {l : Launch} {e : Env} {s : State} {m : MethodId} {args : Array Value} {below : List Frame} {meth : Method} {c : Code} {D : va_G} {cy : Nat → ClassId} {A : Nat → Prop} {o : Nat} {q : Nat → Nat} {K112 : Int32 → Int32 → Prop} (x1 : Int32) (x3 : Int32) (t0 : Int32) (S : MS) {Q : Int32 → Prop} (C : Cx p s m args meth c cX9_count 4 (some .int) wsX9_count RX9 D cy nestWs A) (hK112 : ∀ (x2 : Int32) (x3 : Int32) (H : Heap) (locs : List Loc) (ls : Array Slot), K112 x2 x3 → GW D A s (w9 o q cy S) H locs → lv_has ls 4 [(0, .ref o), (1, .int x1), (2, .int x2), (3, .int x3)] → W p l e ({ frames := 2, cells := 0, slots := 0, locals := 43 } : Room) s m args below meth c H locs 0 0 (MQ below (va_Qi (fun r z => z = S ∧ Q r ) (B1 D (w9 o q cy) A) A) args s 0 0 A) (F0 m 112 ls [])) (h : w9_count_b136 K112 x1 x3 t0 S Q) {H : Heap} {locs : List Loc} (hG : GW D A s (w9 o q cy S) H locs) {ls : Array Slot} (hl : lv_has ls 4 [(0, .ref o), (1, .int x1), (3, .int x3)]) : W p l e ({ frames := 2, cells := 0, slots := 0, locals := 43 } : Room) s m args below meth c H locs 0 0 (MQ below (va_Qi (fun r z => z = S ∧ Q r ) (B1 D (w9 o q cy) A) A) args s 0 0 A) (F0 m 136 ls [.int t0]) := by
  have hx := C.1
  have hb := C.2.1
  unfold w9_count_b136 at h
  refine lv_iconst (v := 0) hx hb dX9_count_136 (by decide) ?_
  exact b9_count_b137 (K112 := K112) x1 x3 t0 (0 : Int32) S C hK112 h hG hl
def w9_count_d112 (K112 : Int32 → Int32 → Prop) (x1 : Int32) (x2 : Int32) (x3 : Int32) (S : MS) (Q : Int32 → Prop) : Prop :=
  (((4 : Int32) ≤ x3 → w9_in x1 (0 : Int32) (4 : Int32) (fun r2 => ((r2 = 0 → w9_count_b159 (-1 : Int32) S Q) ∧ (¬ r2 = 0 → w9_count_b159 x2 S Q)))) ∧ (¬ (4 : Int32) ≤ x3 → ((¬ x1 = (4 : Int32) → w9_count_b136 K112 x1 x3 x2 S Q) ∧ (x1 = (4 : Int32) → vp_in x3 4 ∧ (((rA S 40 x3) < 0 → w9_count_b136 K112 x1 x3 x2 S Q) ∧ (¬ (rA S 40 x3) < 0 → w9_count_b137 K112 x1 x3 x2 (1 : Int32) S Q))))))
set_option maxHeartbeats 4000000 in
set_option maxRecDepth 100000 in
theorem b9_count_d112 {p : Program} {l : Launch} {e : Env} {s : State} {m : MethodId} {args : Array Value} {below : List Frame} {meth : Method} {c : Code} {D : va_G} {cy : Nat → ClassId} {A : Nat → Prop} {o : Nat} {q : Nat → Nat} {K112 : Int32 → Int32 → Prop} (x1 : Int32) (x2 : Int32) (x3 : Int32) (S : MS) {Q : Int32 → Prop} (C : Cx p s m args meth c cX9_count 4 (some .int) wsX9_count RX9 D cy nestWs A) (hK112 : ∀ (x2 : Int32) (x3 : Int32) (H : Heap) (locs : List Loc) (ls : Array Slot), K112 x2 x3 → GW D A s (w9 o q cy S) H locs → lv_has ls 4 [(0, .ref o), (1, .int x1), (2, .int x2), (3, .int x3)] → W p l e ({ frames := 2, cells := 0, slots := 0, locals := 43 } : Room) s m args below meth c H locs 0 0 (MQ below (va_Qi (fun r z => z = S ∧ Q r ) (B1 D (w9 o q cy) A) A) args s 0 0 A) (F0 m 112 ls [])) (h : w9_count_d112 K112 x1 x2 x3 S Q) {H : Heap} {locs : List Loc} (hG : GW D A s (w9 o q cy S) H locs) {ls : Array Slot} (hl : lv_has ls 4 [(0, .ref o), (1, .int x1), (2, .int x2), (3, .int x3)]) : W p l e ({ frames := 2, cells := 0, slots := 0, locals := 43 } : Room) s m args below meth c H locs 0 0 (MQ below (va_Qi (fun r z => z = S ∧ Q r ) (B1 D (w9 o q cy) A) A) args s 0 0 A) (F0 m 112 ls []) := by
  have hx := C.1
  have hb := C.2.1
  unfold w9_count_d112 at h
  refine lv_iload_n hx hb dX9_count_112 rfl (lv_at hl 3 rfl) ?_
  refine lv_iconst (v := 4) hx hb dX9_count_113 (by decide) ?_
  refine lv_icmp_ge (tgt := 145) hx hb dX9_count_114 (by decide) (fun c1 => ?_) (fun c1 => ?_)
  · replace h := h.1 c1
    refine lv_iload_n hx hb dX9_count_145 rfl (lv_at hl 1 rfl) ?_
    refine lv_iconst (v := 0) hx hb dX9_count_146 (by decide) ?_
    refine lv_iconst (v := 4) hx hb dX9_count_147 (by decide) ?_
    refine callSI (As := [.int x1, .int (0 : Int32), .int (4 : Int32)]) (rest := []) C hG (c9_in l D cy x1 (0 : Int32) (4 : Int32) _ h) 3 gX9_count_X9_in rfl (by decide +kernel) ⟨⟨Nat.le_of_ble_eq_true rfl, Nat.le_of_ble_eq_true rfl⟩, rfl, rfl⟩ (Foc.none C.2.2.2.2.2.2.2.2.1) rfl hl.1 rfl (Nat.le_of_ble_eq_true rfl) dX9_count_148 ⟨Nat.zero_le _, Nat.zero_le _⟩ (fun r2 z H locs h hG => ?_)
    refine lv_if_eq (tgt := 158) hx hb dX9_count_151 (by decide) (fun c3 => ?_) (fun c3 => ?_)
    · replace h := h.1 c3
      refine lv_iconst (v := -1) hx hb dX9_count_158 (by decide) ?_
      exact b9_count_b159 (-1 : Int32) S C h hG (lv_sub hl [0] rfl)
    · replace h := h.2 c3
      refine lv_iload_n hx hb dX9_count_154 rfl (lv_at hl 2 rfl) ?_
      refine lv_goto (tgt := 159) hx hb dX9_count_155 (by decide) ?_
      exact b9_count_b159 x2 S C h hG (lv_sub hl [0] rfl)
  · replace h := h.2 c1
    refine lv_iload_n hx hb dX9_count_117 rfl (lv_at hl 2 rfl) ?_
    refine lv_iload_n hx hb dX9_count_118 rfl (lv_at hl 1 rfl) ?_
    refine lv_iconst (v := 4) hx hb dX9_count_119 (by decide) ?_
    refine lv_icmp_ne (tgt := 136) hx hb dX9_count_120 (by decide) (fun c4 => ?_) (fun c4 => ?_)
    · replace h := h.1 c4
      exact b9_count_b136 (K112 := K112) x1 x3 x2 S C hK112 h hG (lv_sub hl [0, 1, 3] rfl)
    · replace h := h.2 c4
      refine lv_aload_n hx hb dX9_count_123 rfl (lv_at hl 0 rfl) ?_
      refine x9g_40 C i9_count_X9 k9_count_104 hG dX9_count_124 ?_
      refine lv_iload_n hx hb dX9_count_127 rfl (lv_at hl 3 rfl) ?_
      obtain ⟨hv5, h⟩ := h
      refine x9l_40 C hG hv5 dX9_count_128 ?_
      refine lv_if_lt (tgt := 136) hx hb dX9_count_129 (by decide) (fun c6 => ?_) (fun c6 => ?_)
      · replace h := h.1 c6
        exact b9_count_b136 (K112 := K112) x1 x3 x2 S C hK112 h hG (lv_sub hl [0, 1, 3] rfl)
      · replace h := h.2 c6
        refine lv_iconst (v := 1) hx hb dX9_count_132 (by decide) ?_
        refine lv_goto (tgt := 137) hx hb dX9_count_133 (by decide) ?_
        exact b9_count_b137 (K112 := K112) x1 x3 x2 (1 : Int32) S C hK112 h hG (lv_sub hl [0, 1, 3] rfl)
def w9_count_F112 (x1 : Int32) (S : MS) (Q : Int32 → Prop) (K : Int32 × Int32 → Prop) (a : Int32 × Int32) : Prop := w9_count_d112 (fun y0 y1 => K (y0, y1)) x1 a.1 a.2 S Q
def w9_count_b112 (x1 : Int32) (x2 : Int32) (x3 : Int32) (S : MS) (Q : Int32 → Prop) : Prop := lp (w9_count_F112 x1 S Q) (x2, x3)
set_option maxHeartbeats 4000000 in
set_option maxRecDepth 100000 in
theorem b9_count_b112 {p : Program} {l : Launch} {e : Env} {s : State} {m : MethodId} {args : Array Value} {below : List Frame} {meth : Method} {c : Code} {D : va_G} {cy : Nat → ClassId} {A : Nat → Prop} {o : Nat} {q : Nat → Nat} (x1 : Int32) (x2 : Int32) (x3 : Int32) (S : MS) {Q : Int32 → Prop} (C : Cx p s m args meth c cX9_count 4 (some .int) wsX9_count RX9 D cy nestWs A) (h : w9_count_b112 x1 x2 x3 S Q) {H : Heap} {locs : List Loc} (hG : GW D A s (w9 o q cy S) H locs) {ls : Array Slot} (hl : lv_has ls 4 [(0, .ref o), (1, .int x1), (2, .int x2), (3, .int x3)]) : W p l e ({ frames := 2, cells := 0, slots := 0, locals := 43 } : Room) s m args below meth c H locs 0 0 (MQ below (va_Qi (fun r z => z = S ∧ Q r ) (B1 D (w9 o q cy) A) A) args s 0 0 A) (F0 m 112 ls []) := by
  obtain ⟨k, hn⟩ := h
  induction k generalizing x2 x3 H locs ls with
  | zero => exact hn.elim
  | succ k ih => exact b9_count_d112 (K112 := fun y0 y1 => itr (w9_count_F112 x1 S Q) k (y0, y1)) x1 x2 x3 S C (fun x2 x3 H locs ls hk hG hl => ih x2 x3 hG hl hk) hn hG hl
def w9_count_b102 (K58 : Int32 → Int32 → Prop) (x1 : Int32) (x3 : Int32) (t0 : Int32) (t1 : Int32) (S : MS) (Q : Int32 → Prop) : Prop :=
  ∀ y1 : Int32, y1 = (t0 + t1) → ∀ y2 : Int32, y2 = x3 + 1 → K58 y1 y2
set_option maxHeartbeats 4000000 in
set_option maxRecDepth 100000 in
theorem b9_count_b102 {p : Program} {l : Launch} {e : Env} {s : State} {m : MethodId} {args : Array Value} {below : List Frame} {meth : Method} {c : Code} {D : va_G} {cy : Nat → ClassId} {A : Nat → Prop} {o : Nat} {q : Nat → Nat} {K58 : Int32 → Int32 → Prop} (x1 : Int32) (x3 : Int32) (t0 : Int32) (t1 : Int32) (S : MS) {Q : Int32 → Prop} (C : Cx p s m args meth c cX9_count 4 (some .int) wsX9_count RX9 D cy nestWs A) (hK58 : ∀ (x2 : Int32) (x3 : Int32) (H : Heap) (locs : List Loc) (ls : Array Slot), K58 x2 x3 → GW D A s (w9 o q cy S) H locs → lv_has ls 4 [(0, .ref o), (1, .int x1), (2, .int x2), (3, .int x3)] → W p l e ({ frames := 2, cells := 0, slots := 0, locals := 43 } : Room) s m args below meth c H locs 0 0 (MQ below (va_Qi (fun r z => z = S ∧ Q r ) (B1 D (w9 o q cy) A) A) args s 0 0 A) (F0 m 58 ls [])) (h : w9_count_b102 K58 x1 x3 t0 t1 S Q) {H : Heap} {locs : List Loc} (hG : GW D A s (w9 o q cy S) H locs) {ls : Array Slot} (hl : lv_has ls 4 [(0, .ref o), (1, .int x1), (3, .int x3)]) : W p l e ({ frames := 2, cells := 0, slots := 0, locals := 43 } : Room) s m args below meth c H locs 0 0 (MQ below (va_Qi (fun r z => z = S ∧ Q r ) (B1 D (w9 o q cy) A) A) args s 0 0 A) (F0 m 102 ls [.int t1, .int t0]) := by
  have hx := C.1
  have hb := C.2.1
  unfold w9_count_b102 at h
  refine lv_iadd hx hb dX9_count_102 ?_
  refine lv_topi (fun y1 ey1 => ?_)
  replace h := h y1 ey1
  refine lv_istore_n (lv' := [(2, .int y1), (0, .ref o), (1, .int x1), (3, .int x3)]) hx hb dX9_count_103 rfl hl (by decide) rfl (fun ls hl => ?_)
  obtain ⟨y2, ey2⟩ : ∃ y : Int32, y = x3 + 1 := ⟨_, rfl⟩
  replace h := h y2 ey2
  refine lv_iinc (v := y2) (lv' := [(3, .int y2), (2, .int y1), (0, .ref o), (1, .int x1)]) hx hb dX9_count_104 hl (k := 3) rfl (by rw [ey2]; rfl) (by decide) rfl (fun ls hl => ?_)
  refine lv_goto (tgt := 58) hx hb dX9_count_107 (by decide) ?_
  exact hK58 y1 y2 _ _ _ h hG (lv_sub hl [2, 3, 1, 0] rfl)
def w9_count_d58 (K58 : Int32 → Int32 → Prop) (x1 : Int32) (x2 : Int32) (x3 : Int32) (S : MS) (Q : Int32 → Prop) : Prop :=
  (((4 : Int32) ≤ x3 → w9_count_b112 x1 x2 (0 : Int32) S Q) ∧ (¬ (4 : Int32) ≤ x3 → vp_in ((3 : Int32) * x3) 12 ∧ ((¬ (rA S 7 ((3 : Int32) * x3)) = 0 → ((¬ x1 = (2 : Int32) → ((¬ x1 = (3 : Int32) → w9_count_b102 K58 x1 x3 x2 (0 : Int32) S Q) ∧ (x1 = (3 : Int32) → w9_cells x3 S (fun r6 => w9_count_b102 K58 x1 x3 x2 r6 S Q)))) ∧ (x1 = (2 : Int32) → w9_count_b102 K58 x1 x3 x2 (1 : Int32) S Q))) ∧ ((rA S 7 ((3 : Int32) * x3)) = 0 → w9_count_b102 K58 x1 x3 x2 (0 : Int32) S Q))))
set_option maxHeartbeats 4000000 in
set_option maxRecDepth 100000 in
theorem b9_count_d58 {p : Program} {l : Launch} {e : Env} {s : State} {m : MethodId} {args : Array Value} {below : List Frame} {meth : Method} {c : Code} {D : va_G} {cy : Nat → ClassId} {A : Nat → Prop} {o : Nat} {q : Nat → Nat} {K58 : Int32 → Int32 → Prop} (x1 : Int32) (x2 : Int32) (x3 : Int32) (S : MS) {Q : Int32 → Prop} (C : Cx p s m args meth c cX9_count 4 (some .int) wsX9_count RX9 D cy nestWs A) (hK58 : ∀ (x2 : Int32) (x3 : Int32) (H : Heap) (locs : List Loc) (ls : Array Slot), K58 x2 x3 → GW D A s (w9 o q cy S) H locs → lv_has ls 4 [(0, .ref o), (1, .int x1), (2, .int x2), (3, .int x3)] → W p l e ({ frames := 2, cells := 0, slots := 0, locals := 43 } : Room) s m args below meth c H locs 0 0 (MQ below (va_Qi (fun r z => z = S ∧ Q r ) (B1 D (w9 o q cy) A) A) args s 0 0 A) (F0 m 58 ls [])) (h : w9_count_d58 K58 x1 x2 x3 S Q) {H : Heap} {locs : List Loc} (hG : GW D A s (w9 o q cy S) H locs) {ls : Array Slot} (hl : lv_has ls 4 [(0, .ref o), (1, .int x1), (2, .int x2), (3, .int x3)]) : W p l e ({ frames := 2, cells := 0, slots := 0, locals := 43 } : Room) s m args below meth c H locs 0 0 (MQ below (va_Qi (fun r z => z = S ∧ Q r ) (B1 D (w9 o q cy) A) A) args s 0 0 A) (F0 m 58 ls []) := by
  have hx := C.1
  have hb := C.2.1
  unfold w9_count_d58 at h
  refine lv_iload_n hx hb dX9_count_58 rfl (lv_at hl 3 rfl) ?_
  refine lv_iconst (v := 4) hx hb dX9_count_59 (by decide) ?_
  refine lv_icmp_ge (tgt := 110) hx hb dX9_count_60 (by decide) (fun c1 => ?_) (fun c1 => ?_)
  · replace h := h.1 c1
    refine lv_iconst (v := 0) hx hb dX9_count_110 (by decide) ?_
    refine lv_istore_n (lv' := [(3, .int (0 : Int32)), (0, .ref o), (1, .int x1), (2, .int x2)]) hx hb dX9_count_111 rfl hl (by decide) rfl (fun ls hl => ?_)
    exact b9_count_b112 x1 x2 (0 : Int32) S C h hG (lv_sub hl [1, 2, 3, 0] rfl)
  · replace h := h.2 c1
    refine lv_iload_n hx hb dX9_count_63 rfl (lv_at hl 2 rfl) ?_
    refine lv_aload_n hx hb dX9_count_64 rfl (lv_at hl 0 rfl) ?_
    refine x9g_7 C i9_count_X9 k9_count_26 hG dX9_count_65 ?_
    refine lv_iconst (v := 3) hx hb dX9_count_68 (by decide) ?_
    refine lv_iload_n hx hb dX9_count_69 rfl (lv_at hl 3 rfl) ?_
    refine lv_imul hx hb dX9_count_70 ?_
    obtain ⟨hv2, h⟩ := h
    refine x9l_7 C hG hv2 dX9_count_71 ?_
    refine lv_if_ne (tgt := 79) hx hb dX9_count_72 (by decide) (fun c3 => ?_) (fun c3 => ?_)
    · replace h := h.1 c3
      refine lv_iload_n hx hb dX9_count_79 rfl (lv_at hl 1 rfl) ?_
      refine lv_iconst (v := 2) hx hb dX9_count_80 (by decide) ?_
      refine lv_icmp_ne (tgt := 88) hx hb dX9_count_81 (by decide) (fun c4 => ?_) (fun c4 => ?_)
      · replace h := h.1 c4
        refine lv_iload_n hx hb dX9_count_88 rfl (lv_at hl 1 rfl) ?_
        refine lv_iconst (v := 3) hx hb dX9_count_89 (by decide) ?_
        refine lv_icmp_ne (tgt := 101) hx hb dX9_count_90 (by decide) (fun c5 => ?_) (fun c5 => ?_)
        · replace h := h.1 c5
          refine lv_iconst (v := 0) hx hb dX9_count_101 (by decide) ?_
          exact b9_count_b102 (K58 := K58) x1 x3 x2 (0 : Int32) S C hK58 h hG (lv_sub hl [0, 1, 3] rfl)
        · replace h := h.2 c5
          refine lv_aload_n hx hb dX9_count_93 rfl (lv_at hl 0 rfl) ?_
          refine lv_iload_n hx hb dX9_count_94 rfl (lv_at hl 3 rfl) ?_
          refine callVI (As := [.int x3]) (rest := [.int x2]) C hG (c9_cells l D cy o q x3 S _ h) 1 gX9_count_X9_cells rfl (by decide +kernel) ⟨⟨Nat.le_of_ble_eq_true rfl, Nat.le_of_ble_eq_true rfl⟩, rfl, rfl⟩ rfl rfl (Foc.all C.2.2.2.2.2.2.2.2.1) rfl hl.1 rfl (Nat.le_of_ble_eq_true rfl) dX9_count_95 ⟨Nat.zero_le _, Nat.zero_le _⟩ (fun r6 u7 H locs h hG => ?_)
          obtain ⟨eu7, h⟩ := h
          have eu7 : u7 = S := eu7
          subst u7
          have hG : GW D A s (w9 o q cy S) H locs := hG
          refine lv_goto (tgt := 102) hx hb dX9_count_98 (by decide) ?_
          exact b9_count_b102 (K58 := K58) x1 x3 x2 r6 S C hK58 h hG (lv_sub hl [0, 1, 3] rfl)
      · replace h := h.2 c4
        refine lv_iconst (v := 1) hx hb dX9_count_84 (by decide) ?_
        refine lv_goto (tgt := 102) hx hb dX9_count_85 (by decide) ?_
        exact b9_count_b102 (K58 := K58) x1 x3 x2 (1 : Int32) S C hK58 h hG (lv_sub hl [0, 1, 3] rfl)
    · replace h := h.2 c3
      refine lv_iconst (v := 0) hx hb dX9_count_75 (by decide) ?_
      refine lv_goto (tgt := 102) hx hb dX9_count_76 (by decide) ?_
      exact b9_count_b102 (K58 := K58) x1 x3 x2 (0 : Int32) S C hK58 h hG (lv_sub hl [0, 1, 3] rfl)
def w9_count_F58 (x1 : Int32) (S : MS) (Q : Int32 → Prop) (K : Int32 × Int32 → Prop) (a : Int32 × Int32) : Prop := w9_count_d58 (fun y0 y1 => K (y0, y1)) x1 a.1 a.2 S Q
def w9_count_b58 (x1 : Int32) (x2 : Int32) (x3 : Int32) (S : MS) (Q : Int32 → Prop) : Prop := lp (w9_count_F58 x1 S Q) (x2, x3)
set_option maxHeartbeats 4000000 in
set_option maxRecDepth 100000 in
theorem b9_count_b58 {p : Program} {l : Launch} {e : Env} {s : State} {m : MethodId} {args : Array Value} {below : List Frame} {meth : Method} {c : Code} {D : va_G} {cy : Nat → ClassId} {A : Nat → Prop} {o : Nat} {q : Nat → Nat} (x1 : Int32) (x2 : Int32) (x3 : Int32) (S : MS) {Q : Int32 → Prop} (C : Cx p s m args meth c cX9_count 4 (some .int) wsX9_count RX9 D cy nestWs A) (h : w9_count_b58 x1 x2 x3 S Q) {H : Heap} {locs : List Loc} (hG : GW D A s (w9 o q cy S) H locs) {ls : Array Slot} (hl : lv_has ls 4 [(0, .ref o), (1, .int x1), (2, .int x2), (3, .int x3)]) : W p l e ({ frames := 2, cells := 0, slots := 0, locals := 43 } : Room) s m args below meth c H locs 0 0 (MQ below (va_Qi (fun r z => z = S ∧ Q r ) (B1 D (w9 o q cy) A) A) args s 0 0 A) (F0 m 58 ls []) := by
  obtain ⟨k, hn⟩ := h
  induction k generalizing x2 x3 H locs ls with
  | zero => exact hn.elim
  | succ k ih => exact b9_count_d58 (K58 := fun y0 y1 => itr (w9_count_F58 x1 S Q) k (y0, y1)) x1 x2 x3 S C (fun x2 x3 H locs ls hk hG hl => ih x2 x3 hG hl hk) hn hG hl
def w9_count_b48 (K4 : Int32 → Int32 → Prop) (x1 : Int32) (x3 : Int32) (t0 : Int32) (t1 : Int32) (S : MS) (Q : Int32 → Prop) : Prop :=
  ∀ y1 : Int32, y1 = (t0 + t1) → ∀ y2 : Int32, y2 = x3 + 1 → K4 y1 y2
set_option maxHeartbeats 4000000 in
set_option maxRecDepth 100000 in
theorem b9_count_b48 {p : Program} {l : Launch} {e : Env} {s : State} {m : MethodId} {args : Array Value} {below : List Frame} {meth : Method} {c : Code} {D : va_G} {cy : Nat → ClassId} {A : Nat → Prop} {o : Nat} {q : Nat → Nat} {K4 : Int32 → Int32 → Prop} (x1 : Int32) (x3 : Int32) (t0 : Int32) (t1 : Int32) (S : MS) {Q : Int32 → Prop} (C : Cx p s m args meth c cX9_count 4 (some .int) wsX9_count RX9 D cy nestWs A) (hK4 : ∀ (x2 : Int32) (x3 : Int32) (H : Heap) (locs : List Loc) (ls : Array Slot), K4 x2 x3 → GW D A s (w9 o q cy S) H locs → lv_has ls 4 [(0, .ref o), (1, .int x1), (2, .int x2), (3, .int x3)] → W p l e ({ frames := 2, cells := 0, slots := 0, locals := 43 } : Room) s m args below meth c H locs 0 0 (MQ below (va_Qi (fun r z => z = S ∧ Q r ) (B1 D (w9 o q cy) A) A) args s 0 0 A) (F0 m 4 ls [])) (h : w9_count_b48 K4 x1 x3 t0 t1 S Q) {H : Heap} {locs : List Loc} (hG : GW D A s (w9 o q cy S) H locs) {ls : Array Slot} (hl : lv_has ls 4 [(0, .ref o), (1, .int x1), (3, .int x3)]) : W p l e ({ frames := 2, cells := 0, slots := 0, locals := 43 } : Room) s m args below meth c H locs 0 0 (MQ below (va_Qi (fun r z => z = S ∧ Q r ) (B1 D (w9 o q cy) A) A) args s 0 0 A) (F0 m 48 ls [.int t1, .int t0]) := by
  have hx := C.1
  have hb := C.2.1
  unfold w9_count_b48 at h
  refine lv_iadd hx hb dX9_count_48 ?_
  refine lv_topi (fun y1 ey1 => ?_)
  replace h := h y1 ey1
  refine lv_istore_n (lv' := [(2, .int y1), (0, .ref o), (1, .int x1), (3, .int x3)]) hx hb dX9_count_49 rfl hl (by decide) rfl (fun ls hl => ?_)
  obtain ⟨y2, ey2⟩ : ∃ y : Int32, y = x3 + 1 := ⟨_, rfl⟩
  replace h := h y2 ey2
  refine lv_iinc (v := y2) (lv' := [(3, .int y2), (2, .int y1), (0, .ref o), (1, .int x1)]) hx hb dX9_count_50 hl (k := 3) rfl (by rw [ey2]; rfl) (by decide) rfl (fun ls hl => ?_)
  refine lv_goto (tgt := 4) hx hb dX9_count_53 (by decide) ?_
  exact hK4 y1 y2 _ _ _ h hG (lv_sub hl [2, 3, 1, 0] rfl)
def w9_count_b30 (K4 : Int32 → Int32 → Prop) (x1 : Int32) (x3 : Int32) (t0 : Int32) (S : MS) (Q : Int32 → Prop) : Prop :=
  ((¬ x1 = (1 : Int32) → w9_count_b48 K4 x1 x3 t0 (0 : Int32) S Q) ∧ (x1 = (1 : Int32) → vp_in x3 6 ∧ w9_bits (rL S 3 x3) (fun r3 => w9_count_b48 K4 x1 x3 t0 r3 S Q)))
set_option maxHeartbeats 4000000 in
set_option maxRecDepth 100000 in
theorem b9_count_b30 {p : Program} {l : Launch} {e : Env} {s : State} {m : MethodId} {args : Array Value} {below : List Frame} {meth : Method} {c : Code} {D : va_G} {cy : Nat → ClassId} {A : Nat → Prop} {o : Nat} {q : Nat → Nat} {K4 : Int32 → Int32 → Prop} (x1 : Int32) (x3 : Int32) (t0 : Int32) (S : MS) {Q : Int32 → Prop} (C : Cx p s m args meth c cX9_count 4 (some .int) wsX9_count RX9 D cy nestWs A) (hK4 : ∀ (x2 : Int32) (x3 : Int32) (H : Heap) (locs : List Loc) (ls : Array Slot), K4 x2 x3 → GW D A s (w9 o q cy S) H locs → lv_has ls 4 [(0, .ref o), (1, .int x1), (2, .int x2), (3, .int x3)] → W p l e ({ frames := 2, cells := 0, slots := 0, locals := 43 } : Room) s m args below meth c H locs 0 0 (MQ below (va_Qi (fun r z => z = S ∧ Q r ) (B1 D (w9 o q cy) A) A) args s 0 0 A) (F0 m 4 ls [])) (h : w9_count_b30 K4 x1 x3 t0 S Q) {H : Heap} {locs : List Loc} (hG : GW D A s (w9 o q cy S) H locs) {ls : Array Slot} (hl : lv_has ls 4 [(0, .ref o), (1, .int x1), (3, .int x3)]) : W p l e ({ frames := 2, cells := 0, slots := 0, locals := 43 } : Room) s m args below meth c H locs 0 0 (MQ below (va_Qi (fun r z => z = S ∧ Q r ) (B1 D (w9 o q cy) A) A) args s 0 0 A) (F0 m 30 ls [.int t0]) := by
  have hx := C.1
  have hb := C.2.1
  unfold w9_count_b30 at h
  refine lv_iload_n hx hb dX9_count_30 rfl (lv_at hl 1 rfl) ?_
  refine lv_iconst (v := 1) hx hb dX9_count_31 (by decide) ?_
  refine lv_icmp_ne (tgt := 47) hx hb dX9_count_32 (by decide) (fun c1 => ?_) (fun c1 => ?_)
  · replace h := h.1 c1
    refine lv_iconst (v := 0) hx hb dX9_count_47 (by decide) ?_
    exact b9_count_b48 (K4 := K4) x1 x3 t0 (0 : Int32) S C hK4 h hG hl
  · replace h := h.2 c1
    refine lv_aload_n hx hb dX9_count_35 rfl (lv_at hl 0 rfl) ?_
    refine x9g_3 C i9_count_X9 k9_count_13 hG dX9_count_36 ?_
    refine lv_iload_n hx hb dX9_count_39 rfl (lv_at hl 2 rfl) ?_
    obtain ⟨hv2, h⟩ := h
    refine x9l_3 C hG hv2 dX9_count_40 ?_
    refine callSI (As := [.long (rL S 3 x3)]) (rest := [.int t0]) C hG (c9_bits l D cy (rL S 3 x3) _ h) 1 gX9_count_X9_bits rfl (by decide +kernel) ⟨⟨Nat.le_of_ble_eq_true rfl, Nat.le_of_ble_eq_true rfl⟩, rfl, rfl⟩ (Foc.none C.2.2.2.2.2.2.2.2.1) rfl hl.1 rfl (Nat.le_of_ble_eq_true rfl) dX9_count_41 ⟨Nat.zero_le _, Nat.zero_le _⟩ (fun r3 z H locs h hG => ?_)
    refine lv_goto (tgt := 48) hx hb dX9_count_44 (by decide) ?_
    exact b9_count_b48 (K4 := K4) x1 x3 t0 r3 S C hK4 h hG hl
def w9_count_d4 (K4 : Int32 → Int32 → Prop) (x1 : Int32) (x2 : Int32) (x3 : Int32) (S : MS) (Q : Int32 → Prop) : Prop :=
  (((6 : Int32) ≤ x3 → w9_count_b58 x1 x2 (0 : Int32) S Q) ∧ (¬ (6 : Int32) ≤ x3 → ((¬ x1 = 0 → w9_count_b30 K4 x1 x3 x2 S Q) ∧ (x1 = 0 → vp_in x3 6 ∧ (((lg_cmp (rL S 3 x3) (0 : Int64)) = 0 → w9_count_b30 K4 x1 x3 x2 S Q) ∧ (¬ (lg_cmp (rL S 3 x3) (0 : Int64)) = 0 → w9_count_b48 K4 x1 x3 x2 (1 : Int32) S Q))))))
set_option maxHeartbeats 4000000 in
set_option maxRecDepth 100000 in
theorem b9_count_d4 {p : Program} {l : Launch} {e : Env} {s : State} {m : MethodId} {args : Array Value} {below : List Frame} {meth : Method} {c : Code} {D : va_G} {cy : Nat → ClassId} {A : Nat → Prop} {o : Nat} {q : Nat → Nat} {K4 : Int32 → Int32 → Prop} (x1 : Int32) (x2 : Int32) (x3 : Int32) (S : MS) {Q : Int32 → Prop} (C : Cx p s m args meth c cX9_count 4 (some .int) wsX9_count RX9 D cy nestWs A) (hK4 : ∀ (x2 : Int32) (x3 : Int32) (H : Heap) (locs : List Loc) (ls : Array Slot), K4 x2 x3 → GW D A s (w9 o q cy S) H locs → lv_has ls 4 [(0, .ref o), (1, .int x1), (2, .int x2), (3, .int x3)] → W p l e ({ frames := 2, cells := 0, slots := 0, locals := 43 } : Room) s m args below meth c H locs 0 0 (MQ below (va_Qi (fun r z => z = S ∧ Q r ) (B1 D (w9 o q cy) A) A) args s 0 0 A) (F0 m 4 ls [])) (h : w9_count_d4 K4 x1 x2 x3 S Q) {H : Heap} {locs : List Loc} (hG : GW D A s (w9 o q cy S) H locs) {ls : Array Slot} (hl : lv_has ls 4 [(0, .ref o), (1, .int x1), (2, .int x2), (3, .int x3)]) : W p l e ({ frames := 2, cells := 0, slots := 0, locals := 43 } : Room) s m args below meth c H locs 0 0 (MQ below (va_Qi (fun r z => z = S ∧ Q r ) (B1 D (w9 o q cy) A) A) args s 0 0 A) (F0 m 4 ls []) := by
  have hx := C.1
  have hb := C.2.1
  unfold w9_count_d4 at h
  refine lv_iload_n hx hb dX9_count_4 rfl (lv_at hl 3 rfl) ?_
  refine lv_bipush (v := 6) hx hb dX9_count_5 (by decide) ?_
  refine lv_icmp_ge (tgt := 56) hx hb dX9_count_7 (by decide) (fun c1 => ?_) (fun c1 => ?_)
  · replace h := h.1 c1
    refine lv_iconst (v := 0) hx hb dX9_count_56 (by decide) ?_
    refine lv_istore_n (lv' := [(3, .int (0 : Int32)), (0, .ref o), (1, .int x1), (2, .int x2)]) hx hb dX9_count_57 rfl hl (by decide) rfl (fun ls hl => ?_)
    exact b9_count_b58 x1 x2 (0 : Int32) S C h hG (lv_sub hl [1, 2, 3, 0] rfl)
  · replace h := h.2 c1
    refine lv_iload_n hx hb dX9_count_10 rfl (lv_at hl 2 rfl) ?_
    refine lv_iload_n hx hb dX9_count_11 rfl (lv_at hl 1 rfl) ?_
    refine lv_if_ne (tgt := 30) hx hb dX9_count_12 (by decide) (fun c2 => ?_) (fun c2 => ?_)
    · replace h := h.1 c2
      exact b9_count_b30 (K4 := K4) x1 x3 x2 S C hK4 h hG (lv_sub hl [0, 1, 3] rfl)
    · replace h := h.2 c2
      refine lv_aload_n hx hb dX9_count_15 rfl (lv_at hl 0 rfl) ?_
      refine x9g_3 C i9_count_X9 k9_count_13 hG dX9_count_16 ?_
      refine lv_iload_n hx hb dX9_count_19 rfl (lv_at hl 3 rfl) ?_
      obtain ⟨hv3, h⟩ := h
      refine x9l_3 C hG hv3 dX9_count_20 ?_
      refine lv_lconst (v := 0) hx hb dX9_count_21 (by decide) ?_
      refine W.lcmp hx hb dX9_count_22 ?_
      refine lv_if_eq (tgt := 30) hx hb dX9_count_23 (by decide) (fun c4 => ?_) (fun c4 => ?_)
      · replace h := h.1 c4
        exact b9_count_b30 (K4 := K4) x1 x3 x2 S C hK4 h hG (lv_sub hl [0, 1, 3] rfl)
      · replace h := h.2 c4
        refine lv_iconst (v := 1) hx hb dX9_count_26 (by decide) ?_
        refine lv_goto (tgt := 48) hx hb dX9_count_27 (by decide) ?_
        exact b9_count_b48 (K4 := K4) x1 x3 x2 (1 : Int32) S C hK4 h hG (lv_sub hl [0, 1, 3] rfl)
def w9_count_F4 (x1 : Int32) (S : MS) (Q : Int32 → Prop) (K : Int32 × Int32 → Prop) (a : Int32 × Int32) : Prop := w9_count_d4 (fun y0 y1 => K (y0, y1)) x1 a.1 a.2 S Q
def w9_count_b4 (x1 : Int32) (x2 : Int32) (x3 : Int32) (S : MS) (Q : Int32 → Prop) : Prop := lp (w9_count_F4 x1 S Q) (x2, x3)
set_option maxHeartbeats 4000000 in
set_option maxRecDepth 100000 in
theorem b9_count_b4 {p : Program} {l : Launch} {e : Env} {s : State} {m : MethodId} {args : Array Value} {below : List Frame} {meth : Method} {c : Code} {D : va_G} {cy : Nat → ClassId} {A : Nat → Prop} {o : Nat} {q : Nat → Nat} (x1 : Int32) (x2 : Int32) (x3 : Int32) (S : MS) {Q : Int32 → Prop} (C : Cx p s m args meth c cX9_count 4 (some .int) wsX9_count RX9 D cy nestWs A) (h : w9_count_b4 x1 x2 x3 S Q) {H : Heap} {locs : List Loc} (hG : GW D A s (w9 o q cy S) H locs) {ls : Array Slot} (hl : lv_has ls 4 [(0, .ref o), (1, .int x1), (2, .int x2), (3, .int x3)]) : W p l e ({ frames := 2, cells := 0, slots := 0, locals := 43 } : Room) s m args below meth c H locs 0 0 (MQ below (va_Qi (fun r z => z = S ∧ Q r ) (B1 D (w9 o q cy) A) A) args s 0 0 A) (F0 m 4 ls []) := by
  obtain ⟨k, hn⟩ := h
  induction k generalizing x2 x3 H locs ls with
  | zero => exact hn.elim
  | succ k ih => exact b9_count_d4 (K4 := fun y0 y1 => itr (w9_count_F4 x1 S Q) k (y0, y1)) x1 x2 x3 S C (fun x2 x3 H locs ls hk hG hl => ih x2 x3 hG hl hk) hn hG hl
def w9_count (x1 : Int32) (S : MS) (Q : Int32 → Prop) : Prop :=
  w9_count_b4 x1 (0 : Int32) (0 : Int32) S Q
set_option maxHeartbeats 4000000 in
set_option maxRecDepth 100000 in
theorem c9_count (l : Launch) (D : va_G) (cy : Nat → ClassId)  (o : Nat) (q : Nat → Nat) (x1 : Int32) (S : MS) (Q : Int32 → Prop) (h : w9_count x1 S Q) : MetI l yX9_count wsX9_count ({ frames := 2, cells := 0, slots := 0, locals := 43 } : Room) D cy nestWs (w9 o q cy) [.ref o, .int x1] S (fun r z => z = S ∧ Q r ) := by
  refine MetI.mk RX9 cX9_count 4 .int (by decide) rfl nestWs_ok rfl (Nat.le_of_ble_eq_true rfl) ?_
  intro p e s m below meth c A ls C hG hl
  have hl : lv_has ls 4 [(0, .ref o), (1, .int x1)] := hl
  have hx := C.1
  have hb := C.2.1
  unfold w9_count at h
  refine lv_iconst (v := 0) hx hb dX9_count_0 (by decide) ?_
  refine lv_istore_n (lv' := [(2, .int (0 : Int32)), (0, .ref o), (1, .int x1)]) hx hb dX9_count_1 rfl hl (by decide) rfl (fun ls hl => ?_)
  refine lv_iconst (v := 0) hx hb dX9_count_2 (by decide) ?_
  refine lv_istore_n (lv' := [(3, .int (0 : Int32)), (2, .int (0 : Int32)), (0, .ref o), (1, .int x1)]) hx hb dX9_count_3 rfl hl (by decide) rfl (fun ls hl => ?_)
  exact b9_count_b4 x1 (0 : Int32) (0 : Int32) S C h hG (lv_sub hl [2, 3, 1, 0] rfl)
-- X9_finding
theorem i9_finding_X9 : ∀ w ∈ wsX90, w ∈ wsX9_finding := fun w h => List.mem_cons_of_mem _ (inG_X9 w h)
theorem k9_finding_113 : Cond.fieldLink RX9 113 "PaperBodiesModel" "finding" "I" ∈ wsX9_finding := (List.mem_cons_of_mem _ mw_574)
def w9_finding (S : MS) (Q : Int32 → Prop) : Prop :=
  Q (fI S 0)
set_option maxHeartbeats 4000000 in
set_option maxRecDepth 100000 in
theorem c9_finding (l : Launch) (D : va_G) (cy : Nat → ClassId)  (o : Nat) (q : Nat → Nat) (S : MS) (Q : Int32 → Prop) (h : w9_finding S Q) : MetI l yX9_finding wsX9_finding ({ frames := 0, cells := 0, slots := 0, locals := 0 } : Room) D cy nestWs (w9 o q cy) [.ref o] S (fun r z => z = S ∧ Q r ) := by
  refine MetI.mk RX9 cX9_finding 1 .int (by decide) rfl nestWs_ok rfl (Nat.le_of_ble_eq_true rfl) ?_
  intro p e s m below meth c A ls C hG hl
  have hl : lv_has ls 1 [(0, .ref o)] := hl
  have hx := C.1
  have hb := C.2.1
  unfold w9_finding at h
  refine lv_aload_n hx hb dX9_finding_0 rfl (lv_at hl 0 rfl) ?_
  refine x9g_0 C i9_finding_X9 k9_finding_113 hG dX9_finding_1 ?_
  exact retI (w := (w9 o q cy)) (S := S) C hG ⟨rfl, h⟩ dX9_finding_4
-- X9_findings
theorem i9_findings_X9 : ∀ w ∈ wsX90, w ∈ wsX9_findings := fun w h => List.mem_cons_of_mem _ (inG_X9 w h)
theorem k9_findings_7 : Cond.fieldLink RX9 7 "PaperBodiesModel" "findings" "[I" ∈ wsX9_findings := (List.mem_cons_of_mem _ mw_536)
def w9_findings_b19 (t0 : Int32) (S : MS) (Q : Int32 → Prop) : Prop :=
  Q t0
set_option maxHeartbeats 4000000 in
set_option maxRecDepth 100000 in
theorem b9_findings_b19 {p : Program} {l : Launch} {e : Env} {s : State} {m : MethodId} {args : Array Value} {below : List Frame} {meth : Method} {c : Code} {D : va_G} {cy : Nat → ClassId} {A : Nat → Prop} {o : Nat} {q : Nat → Nat} (t0 : Int32) (S : MS) {Q : Int32 → Prop} (C : Cx p s m args meth c cX9_findings 2 (some .int) wsX9_findings RX9 D cy nestWs A) (h : w9_findings_b19 t0 S Q) {H : Heap} {locs : List Loc} (hG : GW D A s (w9 o q cy S) H locs) {ls : Array Slot} (hl : lv_has ls 2 [(0, .ref o)]) : W p l e ({ frames := 1, cells := 0, slots := 0, locals := 22 } : Room) s m args below meth c H locs 0 0 (MQ below (va_Qi (fun r z => z = S ∧ Q r ) (B1 D (w9 o q cy) A) A) args s 0 0 A) (F0 m 19 ls [.int t0]) := by
  have hx := C.1
  have hb := C.2.1
  unfold w9_findings_b19 at h
  exact retI (w := (w9 o q cy)) (S := S) C hG ⟨rfl, h⟩ dX9_findings_19
def w9_findings (x1 : Int32) (S : MS) (Q : Int32 → Prop) : Prop :=
  w9_in x1 (1 : Int32) (5 : Int32) (fun r1 => ((r1 = 0 → w9_findings_b19 (-1 : Int32) S Q) ∧ (¬ r1 = 0 → vp_in x1 6 ∧ w9_findings_b19 (rA S 1 x1) S Q)))
set_option maxHeartbeats 4000000 in
set_option maxRecDepth 100000 in
theorem c9_findings (l : Launch) (D : va_G) (cy : Nat → ClassId)  (o : Nat) (q : Nat → Nat) (x1 : Int32) (S : MS) (Q : Int32 → Prop) (h : w9_findings x1 S Q) : MetI l yX9_findings wsX9_findings ({ frames := 1, cells := 0, slots := 0, locals := 22 } : Room) D cy nestWs (w9 o q cy) [.ref o, .int x1] S (fun r z => z = S ∧ Q r ) := by
  refine MetI.mk RX9 cX9_findings 2 .int (by decide) rfl nestWs_ok rfl (Nat.le_of_ble_eq_true rfl) ?_
  intro p e s m below meth c A ls C hG hl
  have hl : lv_has ls 2 [(0, .ref o), (1, .int x1)] := hl
  have hx := C.1
  have hb := C.2.1
  unfold w9_findings at h
  refine lv_iload_n hx hb dX9_findings_0 rfl (lv_at hl 1 rfl) ?_
  refine lv_iconst (v := 1) hx hb dX9_findings_1 (by decide) ?_
  refine lv_iconst (v := 5) hx hb dX9_findings_2 (by decide) ?_
  refine callSI (As := [.int x1, .int (1 : Int32), .int (5 : Int32)]) (rest := []) C hG (c9_in l D cy x1 (1 : Int32) (5 : Int32) _ h) 3 gX9_findings_X9_in rfl (by decide +kernel) ⟨⟨Nat.le_of_ble_eq_true rfl, Nat.le_of_ble_eq_true rfl⟩, rfl, rfl⟩ (Foc.none C.2.2.2.2.2.2.2.2.1) rfl hl.1 rfl (Nat.le_of_ble_eq_true rfl) dX9_findings_3 ⟨Nat.zero_le _, Nat.zero_le _⟩ (fun r1 z H locs h hG => ?_)
  refine lv_if_eq (tgt := 18) hx hb dX9_findings_6 (by decide) (fun c2 => ?_) (fun c2 => ?_)
  · replace h := h.1 c2
    refine lv_iconst (v := -1) hx hb dX9_findings_18 (by decide) ?_
    exact b9_findings_b19 (-1 : Int32) S C h hG (lv_sub hl [0] rfl)
  · replace h := h.2 c2
    refine lv_aload_n hx hb dX9_findings_9 rfl (lv_at hl 0 rfl) ?_
    refine x9g_1 C i9_findings_X9 k9_findings_7 hG dX9_findings_10 ?_
    refine lv_iload_n hx hb dX9_findings_13 rfl (lv_at hl 1 rfl) ?_
    obtain ⟨hv3, h⟩ := h
    refine x9l_1 C hG hv3 dX9_findings_14 ?_
    refine lv_goto (tgt := 19) hx hb dX9_findings_15 (by decide) ?_
    exact b9_findings_b19 (rA S 1 x1) S C h hG (lv_sub hl [0] rfl)
-- X9_digest
theorem i9_digest_X9 : ∀ w ∈ wsX90, w ∈ wsX9_digest := fun w h => List.mem_cons_of_mem _ (inG_X9 w h)
theorem k9_digest_13 : Cond.fieldLink RX9 13 "PaperBodiesModel" "figures" "[J" ∈ wsX9_digest := (List.mem_cons_of_mem _ mw_538)
theorem k9_digest_17 : Cond.fieldLink RX9 17 "PaperBodiesModel" "kinds" "[I" ∈ wsX9_digest := (List.mem_cons_of_mem _ mw_539)
theorem k9_digest_26 : Cond.fieldLink RX9 26 "PaperBodiesModel" "dims" "[I" ∈ wsX9_digest := (List.mem_cons_of_mem _ mw_542)
theorem k9_digest_104 : Cond.fieldLink RX9 104 "PaperBodiesModel" "sizes" "[I" ∈ wsX9_digest := (List.mem_cons_of_mem _ mw_568)
theorem k9_digest_107 : Cond.fieldLink RX9 107 "PaperBodiesModel" "rows" "[I" ∈ wsX9_digest := (List.mem_cons_of_mem _ mw_569)
theorem k9_digest_311 : Cond.constantLong RX9 311 (17) ∈ wsX9_digest := (List.mem_cons_of_mem _ mw_799)
theorem k9_digest_313 : Cond.constantLong RX9 313 (31) ∈ wsX9_digest := (List.mem_cons_of_mem _ mw_800)
def w9_digest_d178 (K143 : Int64 → Int32 → Prop) (K178 : Int64 → Int32 → Prop) (x1 : Int64) (x3 : Int32) (x4 : Int32) (S : MS) (Q : Int64 → Prop) : Prop :=
  vp_in x3 4 ∧ (((rA S 40 x3) ≤ x4 → ∀ y3 : Int32, y3 = x3 + 1 → K143 x1 y3) ∧ (¬ (rA S 40 x3) ≤ x4 → vp_in (((24 : Int32) * x3) + x4) 96 ∧ ∀ y5 : Int64, y5 = (((31 : Int64) * x1) + (rA S 41 (((24 : Int32) * x3) + x4)).toInt64) → ∀ y6 : Int32, y6 = x4 + 1 → K178 y5 y6))
set_option maxHeartbeats 4000000 in
set_option maxRecDepth 100000 in
theorem b9_digest_d178 {p : Program} {l : Launch} {e : Env} {s : State} {m : MethodId} {args : Array Value} {below : List Frame} {meth : Method} {c : Code} {D : va_G} {cy : Nat → ClassId} {A : Nat → Prop} {o : Nat} {q : Nat → Nat} {K143 : Int64 → Int32 → Prop} {K178 : Int64 → Int32 → Prop} (x1 : Int64) (x3 : Int32) (x4 : Int32) (S : MS) {Q : Int64 → Prop} (C : Cx p s m args meth c cX9_digest 5 (some .long) wsX9_digest RX9 D cy nestWs A) (hK143 : ∀ (x1 : Int64) (x3 : Int32) (H : Heap) (locs : List Loc) (ls : Array Slot), K143 x1 x3 → GW D A s (w9 o q cy S) H locs → lv_has ls 5 [(0, .ref o), (1, .long x1), (3, .int x3)] → W p l e ({ frames := 0, cells := 0, slots := 0, locals := 0 } : Room) s m args below meth c H locs 0 0 (MQ below (va_Ql (fun r z => z = S ∧ Q r ) (B1 D (w9 o q cy) A) A) args s 0 0 A) (F0 m 143 ls [])) (hK178 : ∀ (x1 : Int64) (x4 : Int32) (H : Heap) (locs : List Loc) (ls : Array Slot), K178 x1 x4 → GW D A s (w9 o q cy S) H locs → lv_has ls 5 [(0, .ref o), (1, .long x1), (3, .int x3), (4, .int x4)] → W p l e ({ frames := 0, cells := 0, slots := 0, locals := 0 } : Room) s m args below meth c H locs 0 0 (MQ below (va_Ql (fun r z => z = S ∧ Q r ) (B1 D (w9 o q cy) A) A) args s 0 0 A) (F0 m 178 ls [])) (h : w9_digest_d178 K143 K178 x1 x3 x4 S Q) {H : Heap} {locs : List Loc} (hG : GW D A s (w9 o q cy S) H locs) {ls : Array Slot} (hl : lv_has ls 5 [(0, .ref o), (1, .long x1), (3, .int x3), (4, .int x4)]) : W p l e ({ frames := 0, cells := 0, slots := 0, locals := 0 } : Room) s m args below meth c H locs 0 0 (MQ below (va_Ql (fun r z => z = S ∧ Q r ) (B1 D (w9 o q cy) A) A) args s 0 0 A) (F0 m 178 ls []) := by
  have hx := C.1
  have hb := C.2.1
  unfold w9_digest_d178 at h
  refine lv_iload hx hb dX9_digest_178 (lv_at hl 3 rfl) ?_
  refine lv_aload_n hx hb dX9_digest_180 rfl (lv_at hl 0 rfl) ?_
  refine x9g_40 C i9_digest_X9 k9_digest_104 hG dX9_digest_181 ?_
  refine lv_iload_n hx hb dX9_digest_184 rfl (lv_at hl 2 rfl) ?_
  obtain ⟨hv1, h⟩ := h
  refine x9l_40 C hG hv1 dX9_digest_185 ?_
  refine lv_icmp_ge (tgt := 215) hx hb dX9_digest_186 (by decide) (fun c2 => ?_) (fun c2 => ?_)
  · replace h := h.1 c2
    obtain ⟨y3, ey3⟩ : ∃ y : Int32, y = x3 + 1 := ⟨_, rfl⟩
    replace h := h y3 ey3
    refine lv_iinc (v := y3) (lv' := [(3, .int y3), (0, .ref o), (1, .long x1), (4, .int x4)]) hx hb dX9_digest_215 hl (k := 2) rfl (by rw [ey3]; rfl) (by decide) rfl (fun ls hl => ?_)
    refine lv_goto (tgt := 143) hx hb dX9_digest_218 (by decide) ?_
    exact hK143 x1 y3 _ _ _ h hG (lv_sub hl [1, 2, 0] rfl)
  · replace h := h.2 c2
    refine lv_ldc2 (v := 31) hx hb C.2.2.2.1 (C.2.2.2.2.1 _ k9_digest_313) dX9_digest_189 ?_
    refine lv_lload_n hx hb dX9_digest_192 rfl (lv_at hl 1 rfl) ?_
    refine lv_lmul hx hb dX9_digest_193 ?_
    refine lv_aload_n hx hb dX9_digest_194 rfl (lv_at hl 0 rfl) ?_
    refine x9g_41 C i9_digest_X9 k9_digest_107 hG dX9_digest_195 ?_
    refine lv_bipush (v := 24) hx hb dX9_digest_198 (by decide) ?_
    refine lv_iload_n hx hb dX9_digest_200 rfl (lv_at hl 2 rfl) ?_
    refine lv_imul hx hb dX9_digest_201 ?_
    refine lv_iload hx hb dX9_digest_202 (lv_at hl 3 rfl) ?_
    refine lv_iadd hx hb dX9_digest_204 ?_
    obtain ⟨hv4, h⟩ := h
    refine x9l_41 C hG hv4 dX9_digest_205 ?_
    refine lv_i2l hx hb dX9_digest_206 rfl ?_
    refine lv_ladd hx hb dX9_digest_207 ?_
    refine lv_topl (fun y5 ey5 => ?_)
    replace h := h y5 ey5
    refine lv_lstore_n (lv' := [(1, .long y5), (0, .ref o), (3, .int x3), (4, .int x4)]) hx hb dX9_digest_208 rfl hl (by decide) rfl (fun ls hl => ?_)
    obtain ⟨y6, ey6⟩ : ∃ y : Int32, y = x4 + 1 := ⟨_, rfl⟩
    replace h := h y6 ey6
    refine lv_iinc (v := y6) (lv' := [(4, .int y6), (1, .long y5), (0, .ref o), (3, .int x3)]) hx hb dX9_digest_209 hl (k := 3) rfl (by rw [ey6]; rfl) (by decide) rfl (fun ls hl => ?_)
    refine lv_goto (tgt := 178) hx hb dX9_digest_212 (by decide) ?_
    exact hK178 y5 y6 _ _ _ h hG (lv_sub hl [2, 1, 3, 0] rfl)
def w9_digest_F178 (K143 : Int64 → Int32 → Prop) (x3 : Int32) (S : MS) (Q : Int64 → Prop) (K : Int64 × Int32 → Prop) (a : Int64 × Int32) : Prop := w9_digest_d178 K143 (fun y0 y1 => K (y0, y1)) a.1 x3 a.2 S Q
def w9_digest_b178 (K143 : Int64 → Int32 → Prop) (x1 : Int64) (x3 : Int32) (x4 : Int32) (S : MS) (Q : Int64 → Prop) : Prop := lp (w9_digest_F178 K143 x3 S Q) (x1, x4)
set_option maxHeartbeats 4000000 in
set_option maxRecDepth 100000 in
theorem b9_digest_b178 {p : Program} {l : Launch} {e : Env} {s : State} {m : MethodId} {args : Array Value} {below : List Frame} {meth : Method} {c : Code} {D : va_G} {cy : Nat → ClassId} {A : Nat → Prop} {o : Nat} {q : Nat → Nat} {K143 : Int64 → Int32 → Prop} (x1 : Int64) (x3 : Int32) (x4 : Int32) (S : MS) {Q : Int64 → Prop} (C : Cx p s m args meth c cX9_digest 5 (some .long) wsX9_digest RX9 D cy nestWs A) (hK143 : ∀ (x1 : Int64) (x3 : Int32) (H : Heap) (locs : List Loc) (ls : Array Slot), K143 x1 x3 → GW D A s (w9 o q cy S) H locs → lv_has ls 5 [(0, .ref o), (1, .long x1), (3, .int x3)] → W p l e ({ frames := 0, cells := 0, slots := 0, locals := 0 } : Room) s m args below meth c H locs 0 0 (MQ below (va_Ql (fun r z => z = S ∧ Q r ) (B1 D (w9 o q cy) A) A) args s 0 0 A) (F0 m 143 ls [])) (h : w9_digest_b178 K143 x1 x3 x4 S Q) {H : Heap} {locs : List Loc} (hG : GW D A s (w9 o q cy S) H locs) {ls : Array Slot} (hl : lv_has ls 5 [(0, .ref o), (1, .long x1), (3, .int x3), (4, .int x4)]) : W p l e ({ frames := 0, cells := 0, slots := 0, locals := 0 } : Room) s m args below meth c H locs 0 0 (MQ below (va_Ql (fun r z => z = S ∧ Q r ) (B1 D (w9 o q cy) A) A) args s 0 0 A) (F0 m 178 ls []) := by
  obtain ⟨k, hn⟩ := h
  induction k generalizing x1 x4 H locs ls with
  | zero => exact hn.elim
  | succ k ih => exact b9_digest_d178 (K143 := K143) (K178 := fun y0 y1 => itr (w9_digest_F178 K143 x3 S Q) k (y0, y1)) x1 x3 x4 S C hK143 (fun x1 x4 H locs ls hk hG hl => ih x1 x4 hG hl hk) hn hG hl
def w9_digest_b172 (K143 : Int64 → Int32 → Prop) (x3 : Int32) (t0 : Int64) (t1 : Int32) (S : MS) (Q : Int64 → Prop) : Prop :=
  ∀ y1 : Int64, y1 = (t0 + t1.toInt64) → w9_digest_b178 K143 y1 x3 (0 : Int32) S Q
set_option maxHeartbeats 4000000 in
set_option maxRecDepth 100000 in
theorem b9_digest_b172 {p : Program} {l : Launch} {e : Env} {s : State} {m : MethodId} {args : Array Value} {below : List Frame} {meth : Method} {c : Code} {D : va_G} {cy : Nat → ClassId} {A : Nat → Prop} {o : Nat} {q : Nat → Nat} {K143 : Int64 → Int32 → Prop} (x3 : Int32) (t0 : Int64) (t1 : Int32) (S : MS) {Q : Int64 → Prop} (C : Cx p s m args meth c cX9_digest 5 (some .long) wsX9_digest RX9 D cy nestWs A) (hK143 : ∀ (x1 : Int64) (x3 : Int32) (H : Heap) (locs : List Loc) (ls : Array Slot), K143 x1 x3 → GW D A s (w9 o q cy S) H locs → lv_has ls 5 [(0, .ref o), (1, .long x1), (3, .int x3)] → W p l e ({ frames := 0, cells := 0, slots := 0, locals := 0 } : Room) s m args below meth c H locs 0 0 (MQ below (va_Ql (fun r z => z = S ∧ Q r ) (B1 D (w9 o q cy) A) A) args s 0 0 A) (F0 m 143 ls [])) (h : w9_digest_b172 K143 x3 t0 t1 S Q) {H : Heap} {locs : List Loc} (hG : GW D A s (w9 o q cy S) H locs) {ls : Array Slot} (hl : lv_has ls 5 [(0, .ref o), (3, .int x3)]) : W p l e ({ frames := 0, cells := 0, slots := 0, locals := 0 } : Room) s m args below meth c H locs 0 0 (MQ below (va_Ql (fun r z => z = S ∧ Q r ) (B1 D (w9 o q cy) A) A) args s 0 0 A) (F0 m 172 ls [.int t1, .long t0]) := by
  have hx := C.1
  have hb := C.2.1
  unfold w9_digest_b172 at h
  refine lv_i2l hx hb dX9_digest_172 rfl ?_
  refine lv_ladd hx hb dX9_digest_173 ?_
  refine lv_topl (fun y1 ey1 => ?_)
  replace h := h y1 ey1
  refine lv_lstore_n (lv' := [(1, .long y1), (0, .ref o), (3, .int x3)]) hx hb dX9_digest_174 rfl hl (by decide) rfl (fun ls hl => ?_)
  refine lv_iconst (v := 0) hx hb dX9_digest_175 (by decide) ?_
  refine lv_istore (lv' := [(4, .int (0 : Int32)), (1, .long y1), (0, .ref o), (3, .int x3)]) hx hb dX9_digest_176 hl (by decide) rfl (fun ls hl => ?_)
  exact b9_digest_b178 (K143 := K143) y1 x3 (0 : Int32) S C hK143 h hG (lv_sub hl [2, 1, 3, 0] rfl)
def w9_digest_d143 (K143 : Int64 → Int32 → Prop) (x1 : Int64) (x3 : Int32) (S : MS) (Q : Int64 → Prop) : Prop :=
  (((4 : Int32) ≤ x3 → Q x1) ∧ (¬ (4 : Int32) ≤ x3 → vp_in x3 4 ∧ ((0 ≤ (rA S 40 x3) → w9_digest_b172 K143 x3 ((31 : Int64) * x1) (rA S 40 x3) S Q) ∧ (¬ 0 ≤ (rA S 40 x3) → w9_digest_b172 K143 x3 ((31 : Int64) * x1) (-1 : Int32) S Q))))
set_option maxHeartbeats 4000000 in
set_option maxRecDepth 100000 in
theorem b9_digest_d143 {p : Program} {l : Launch} {e : Env} {s : State} {m : MethodId} {args : Array Value} {below : List Frame} {meth : Method} {c : Code} {D : va_G} {cy : Nat → ClassId} {A : Nat → Prop} {o : Nat} {q : Nat → Nat} {K143 : Int64 → Int32 → Prop} (x1 : Int64) (x3 : Int32) (S : MS) {Q : Int64 → Prop} (C : Cx p s m args meth c cX9_digest 5 (some .long) wsX9_digest RX9 D cy nestWs A) (hK143 : ∀ (x1 : Int64) (x3 : Int32) (H : Heap) (locs : List Loc) (ls : Array Slot), K143 x1 x3 → GW D A s (w9 o q cy S) H locs → lv_has ls 5 [(0, .ref o), (1, .long x1), (3, .int x3)] → W p l e ({ frames := 0, cells := 0, slots := 0, locals := 0 } : Room) s m args below meth c H locs 0 0 (MQ below (va_Ql (fun r z => z = S ∧ Q r ) (B1 D (w9 o q cy) A) A) args s 0 0 A) (F0 m 143 ls [])) (h : w9_digest_d143 K143 x1 x3 S Q) {H : Heap} {locs : List Loc} (hG : GW D A s (w9 o q cy S) H locs) {ls : Array Slot} (hl : lv_has ls 5 [(0, .ref o), (1, .long x1), (3, .int x3)]) : W p l e ({ frames := 0, cells := 0, slots := 0, locals := 0 } : Room) s m args below meth c H locs 0 0 (MQ below (va_Ql (fun r z => z = S ∧ Q r ) (B1 D (w9 o q cy) A) A) args s 0 0 A) (F0 m 143 ls []) := by
  have hx := C.1
  have hb := C.2.1
  unfold w9_digest_d143 at h
  refine lv_iload_n hx hb dX9_digest_143 rfl (lv_at hl 2 rfl) ?_
  refine lv_iconst (v := 4) hx hb dX9_digest_144 (by decide) ?_
  refine lv_icmp_ge (tgt := 221) hx hb dX9_digest_145 (by decide) (fun c1 => ?_) (fun c1 => ?_)
  · replace h := h.1 c1
    refine lv_lload_n hx hb dX9_digest_221 rfl (lv_at hl 1 rfl) ?_
    exact retL (w := (w9 o q cy)) (S := S) C hG ⟨rfl, h⟩ dX9_digest_222
  · replace h := h.2 c1
    refine lv_ldc2 (v := 31) hx hb C.2.2.2.1 (C.2.2.2.2.1 _ k9_digest_313) dX9_digest_148 ?_
    refine lv_lload_n hx hb dX9_digest_151 rfl (lv_at hl 1 rfl) ?_
    refine lv_lmul hx hb dX9_digest_152 ?_
    refine lv_aload_n hx hb dX9_digest_153 rfl (lv_at hl 0 rfl) ?_
    refine x9g_40 C i9_digest_X9 k9_digest_104 hG dX9_digest_154 ?_
    refine lv_iload_n hx hb dX9_digest_157 rfl (lv_at hl 2 rfl) ?_
    obtain ⟨hv2, h⟩ := h
    refine x9l_40 C hG hv2 dX9_digest_158 ?_
    refine lv_if_ge (tgt := 166) hx hb dX9_digest_159 (by decide) (fun c3 => ?_) (fun c3 => ?_)
    · replace h := h.1 c3
      refine lv_aload_n hx hb dX9_digest_166 rfl (lv_at hl 0 rfl) ?_
      refine x9g_40 C i9_digest_X9 k9_digest_104 hG dX9_digest_167 ?_
      refine lv_iload_n hx hb dX9_digest_170 rfl (lv_at hl 2 rfl) ?_
      refine x9l_40 C hG hv2 dX9_digest_171 ?_
      exact b9_digest_b172 (K143 := K143) x3 ((31 : Int64) * x1) (rA S 40 x3) S C hK143 h hG (lv_sub hl [0, 2] rfl)
    · replace h := h.2 c3
      refine lv_iconst (v := -1) hx hb dX9_digest_162 (by decide) ?_
      refine lv_goto (tgt := 172) hx hb dX9_digest_163 (by decide) ?_
      exact b9_digest_b172 (K143 := K143) x3 ((31 : Int64) * x1) (-1 : Int32) S C hK143 h hG (lv_sub hl [0, 2] rfl)
def w9_digest_F143 (S : MS) (Q : Int64 → Prop) (K : Int64 × Int32 → Prop) (a : Int64 × Int32) : Prop := w9_digest_d143 (fun y0 y1 => K (y0, y1)) a.1 a.2 S Q
def w9_digest_b143 (x1 : Int64) (x3 : Int32) (S : MS) (Q : Int64 → Prop) : Prop := lp (w9_digest_F143 S Q) (x1, x3)
set_option maxHeartbeats 4000000 in
set_option maxRecDepth 100000 in
theorem b9_digest_b143 {p : Program} {l : Launch} {e : Env} {s : State} {m : MethodId} {args : Array Value} {below : List Frame} {meth : Method} {c : Code} {D : va_G} {cy : Nat → ClassId} {A : Nat → Prop} {o : Nat} {q : Nat → Nat} (x1 : Int64) (x3 : Int32) (S : MS) {Q : Int64 → Prop} (C : Cx p s m args meth c cX9_digest 5 (some .long) wsX9_digest RX9 D cy nestWs A) (h : w9_digest_b143 x1 x3 S Q) {H : Heap} {locs : List Loc} (hG : GW D A s (w9 o q cy S) H locs) {ls : Array Slot} (hl : lv_has ls 5 [(0, .ref o), (1, .long x1), (3, .int x3)]) : W p l e ({ frames := 0, cells := 0, slots := 0, locals := 0 } : Room) s m args below meth c H locs 0 0 (MQ below (va_Ql (fun r z => z = S ∧ Q r ) (B1 D (w9 o q cy) A) A) args s 0 0 A) (F0 m 143 ls []) := by
  obtain ⟨k, hn⟩ := h
  induction k generalizing x1 x3 H locs ls with
  | zero => exact hn.elim
  | succ k ih => exact b9_digest_d143 (K143 := fun y0 y1 => itr (w9_digest_F143 S Q) k (y0, y1)) x1 x3 S C (fun x1 x3 H locs ls hk hG hl => ih x1 x3 hG hl hk) hn hG hl
def w9_digest_b135 (K66 : Int64 → Int32 → Prop) (x1 : Int64) (x3 : Int32) (S : MS) (Q : Int64 → Prop) : Prop :=
  ∀ y1 : Int32, y1 = x3 + 1 → K66 x1 y1
set_option maxHeartbeats 4000000 in
set_option maxRecDepth 100000 in
theorem b9_digest_b135 {p : Program} {l : Launch} {e : Env} {s : State} {m : MethodId} {args : Array Value} {below : List Frame} {meth : Method} {c : Code} {D : va_G} {cy : Nat → ClassId} {A : Nat → Prop} {o : Nat} {q : Nat → Nat} {K66 : Int64 → Int32 → Prop} (x1 : Int64) (x3 : Int32) (S : MS) {Q : Int64 → Prop} (C : Cx p s m args meth c cX9_digest 5 (some .long) wsX9_digest RX9 D cy nestWs A) (hK66 : ∀ (x1 : Int64) (x3 : Int32) (H : Heap) (locs : List Loc) (ls : Array Slot), K66 x1 x3 → GW D A s (w9 o q cy S) H locs → lv_has ls 5 [(0, .ref o), (1, .long x1), (3, .int x3)] → W p l e ({ frames := 0, cells := 0, slots := 0, locals := 0 } : Room) s m args below meth c H locs 0 0 (MQ below (va_Ql (fun r z => z = S ∧ Q r ) (B1 D (w9 o q cy) A) A) args s 0 0 A) (F0 m 66 ls [])) (h : w9_digest_b135 K66 x1 x3 S Q) {H : Heap} {locs : List Loc} (hG : GW D A s (w9 o q cy S) H locs) {ls : Array Slot} (hl : lv_has ls 5 [(0, .ref o), (1, .long x1), (3, .int x3)]) : W p l e ({ frames := 0, cells := 0, slots := 0, locals := 0 } : Room) s m args below meth c H locs 0 0 (MQ below (va_Ql (fun r z => z = S ∧ Q r ) (B1 D (w9 o q cy) A) A) args s 0 0 A) (F0 m 135 ls []) := by
  have hx := C.1
  have hb := C.2.1
  unfold w9_digest_b135 at h
  obtain ⟨y1, ey1⟩ : ∃ y : Int32, y = x3 + 1 := ⟨_, rfl⟩
  replace h := h y1 ey1
  refine lv_iinc (v := y1) (lv' := [(3, .int y1), (0, .ref o), (1, .long x1)]) hx hb dX9_digest_135 hl (k := 2) rfl (by rw [ey1]; rfl) (by decide) rfl (fun ls hl => ?_)
  refine lv_goto (tgt := 66) hx hb dX9_digest_138 (by decide) ?_
  exact hK66 x1 y1 _ _ _ h hG (lv_sub hl [1, 2, 0] rfl)
def w9_digest_d93 (K66 : Int64 → Int32 → Prop) (K93 : Int64 → Int32 → Prop) (x1 : Int64) (x3 : Int32) (x4 : Int32) (S : MS) (Q : Int64 → Prop) : Prop :=
  (((3 : Int32) ≤ x4 → w9_digest_b135 K66 x1 x3 S Q) ∧ (¬ (3 : Int32) ≤ x4 → vp_in ((3 : Int32) * x3) 12 ∧ (((rA S 7 ((3 : Int32) * x3)) ≤ 0 → w9_digest_b135 K66 x1 x3 S Q) ∧ (¬ (rA S 7 ((3 : Int32) * x3)) ≤ 0 → vp_in (((3 : Int32) * x3) + x4) 12 ∧ ∀ y5 : Int64, y5 = (((31 : Int64) * x1) + (rA S 7 (((3 : Int32) * x3) + x4)).toInt64) → ∀ y6 : Int32, y6 = x4 + 1 → K93 y5 y6))))
set_option maxHeartbeats 4000000 in
set_option maxRecDepth 100000 in
theorem b9_digest_d93 {p : Program} {l : Launch} {e : Env} {s : State} {m : MethodId} {args : Array Value} {below : List Frame} {meth : Method} {c : Code} {D : va_G} {cy : Nat → ClassId} {A : Nat → Prop} {o : Nat} {q : Nat → Nat} {K66 : Int64 → Int32 → Prop} {K93 : Int64 → Int32 → Prop} (x1 : Int64) (x3 : Int32) (x4 : Int32) (S : MS) {Q : Int64 → Prop} (C : Cx p s m args meth c cX9_digest 5 (some .long) wsX9_digest RX9 D cy nestWs A) (hK66 : ∀ (x1 : Int64) (x3 : Int32) (H : Heap) (locs : List Loc) (ls : Array Slot), K66 x1 x3 → GW D A s (w9 o q cy S) H locs → lv_has ls 5 [(0, .ref o), (1, .long x1), (3, .int x3)] → W p l e ({ frames := 0, cells := 0, slots := 0, locals := 0 } : Room) s m args below meth c H locs 0 0 (MQ below (va_Ql (fun r z => z = S ∧ Q r ) (B1 D (w9 o q cy) A) A) args s 0 0 A) (F0 m 66 ls [])) (hK93 : ∀ (x1 : Int64) (x4 : Int32) (H : Heap) (locs : List Loc) (ls : Array Slot), K93 x1 x4 → GW D A s (w9 o q cy S) H locs → lv_has ls 5 [(0, .ref o), (1, .long x1), (3, .int x3), (4, .int x4)] → W p l e ({ frames := 0, cells := 0, slots := 0, locals := 0 } : Room) s m args below meth c H locs 0 0 (MQ below (va_Ql (fun r z => z = S ∧ Q r ) (B1 D (w9 o q cy) A) A) args s 0 0 A) (F0 m 93 ls [])) (h : w9_digest_d93 K66 K93 x1 x3 x4 S Q) {H : Heap} {locs : List Loc} (hG : GW D A s (w9 o q cy S) H locs) {ls : Array Slot} (hl : lv_has ls 5 [(0, .ref o), (1, .long x1), (3, .int x3), (4, .int x4)]) : W p l e ({ frames := 0, cells := 0, slots := 0, locals := 0 } : Room) s m args below meth c H locs 0 0 (MQ below (va_Ql (fun r z => z = S ∧ Q r ) (B1 D (w9 o q cy) A) A) args s 0 0 A) (F0 m 93 ls []) := by
  have hx := C.1
  have hb := C.2.1
  unfold w9_digest_d93 at h
  refine lv_iload hx hb dX9_digest_93 (lv_at hl 3 rfl) ?_
  refine lv_iconst (v := 3) hx hb dX9_digest_95 (by decide) ?_
  refine lv_icmp_ge (tgt := 135) hx hb dX9_digest_96 (by decide) (fun c1 => ?_) (fun c1 => ?_)
  · replace h := h.1 c1
    exact b9_digest_b135 (K66 := K66) x1 x3 S C hK66 h hG (lv_sub hl [0, 1, 2] rfl)
  · replace h := h.2 c1
    refine lv_aload_n hx hb dX9_digest_99 rfl (lv_at hl 0 rfl) ?_
    refine x9g_7 C i9_digest_X9 k9_digest_26 hG dX9_digest_100 ?_
    refine lv_iconst (v := 3) hx hb dX9_digest_103 (by decide) ?_
    refine lv_iload_n hx hb dX9_digest_104 rfl (lv_at hl 2 rfl) ?_
    refine lv_imul hx hb dX9_digest_105 ?_
    obtain ⟨hv2, h⟩ := h
    refine x9l_7 C hG hv2 dX9_digest_106 ?_
    refine lv_if_le (tgt := 135) hx hb dX9_digest_107 (by decide) (fun c3 => ?_) (fun c3 => ?_)
    · replace h := h.1 c3
      exact b9_digest_b135 (K66 := K66) x1 x3 S C hK66 h hG (lv_sub hl [0, 1, 2] rfl)
    · replace h := h.2 c3
      refine lv_ldc2 (v := 31) hx hb C.2.2.2.1 (C.2.2.2.2.1 _ k9_digest_313) dX9_digest_110 ?_
      refine lv_lload_n hx hb dX9_digest_113 rfl (lv_at hl 1 rfl) ?_
      refine lv_lmul hx hb dX9_digest_114 ?_
      refine lv_aload_n hx hb dX9_digest_115 rfl (lv_at hl 0 rfl) ?_
      refine x9g_7 C i9_digest_X9 k9_digest_26 hG dX9_digest_116 ?_
      refine lv_iconst (v := 3) hx hb dX9_digest_119 (by decide) ?_
      refine lv_iload_n hx hb dX9_digest_120 rfl (lv_at hl 2 rfl) ?_
      refine lv_imul hx hb dX9_digest_121 ?_
      refine lv_iload hx hb dX9_digest_122 (lv_at hl 3 rfl) ?_
      refine lv_iadd hx hb dX9_digest_124 ?_
      obtain ⟨hv4, h⟩ := h
      refine x9l_7 C hG hv4 dX9_digest_125 ?_
      refine lv_i2l hx hb dX9_digest_126 rfl ?_
      refine lv_ladd hx hb dX9_digest_127 ?_
      refine lv_topl (fun y5 ey5 => ?_)
      replace h := h y5 ey5
      refine lv_lstore_n (lv' := [(1, .long y5), (0, .ref o), (3, .int x3), (4, .int x4)]) hx hb dX9_digest_128 rfl hl (by decide) rfl (fun ls hl => ?_)
      obtain ⟨y6, ey6⟩ : ∃ y : Int32, y = x4 + 1 := ⟨_, rfl⟩
      replace h := h y6 ey6
      refine lv_iinc (v := y6) (lv' := [(4, .int y6), (1, .long y5), (0, .ref o), (3, .int x3)]) hx hb dX9_digest_129 hl (k := 3) rfl (by rw [ey6]; rfl) (by decide) rfl (fun ls hl => ?_)
      refine lv_goto (tgt := 93) hx hb dX9_digest_132 (by decide) ?_
      exact hK93 y5 y6 _ _ _ h hG (lv_sub hl [2, 1, 3, 0] rfl)
def w9_digest_F93 (K66 : Int64 → Int32 → Prop) (x3 : Int32) (S : MS) (Q : Int64 → Prop) (K : Int64 × Int32 → Prop) (a : Int64 × Int32) : Prop := w9_digest_d93 K66 (fun y0 y1 => K (y0, y1)) a.1 x3 a.2 S Q
def w9_digest_b93 (K66 : Int64 → Int32 → Prop) (x1 : Int64) (x3 : Int32) (x4 : Int32) (S : MS) (Q : Int64 → Prop) : Prop := lp (w9_digest_F93 K66 x3 S Q) (x1, x4)
set_option maxHeartbeats 4000000 in
set_option maxRecDepth 100000 in
theorem b9_digest_b93 {p : Program} {l : Launch} {e : Env} {s : State} {m : MethodId} {args : Array Value} {below : List Frame} {meth : Method} {c : Code} {D : va_G} {cy : Nat → ClassId} {A : Nat → Prop} {o : Nat} {q : Nat → Nat} {K66 : Int64 → Int32 → Prop} (x1 : Int64) (x3 : Int32) (x4 : Int32) (S : MS) {Q : Int64 → Prop} (C : Cx p s m args meth c cX9_digest 5 (some .long) wsX9_digest RX9 D cy nestWs A) (hK66 : ∀ (x1 : Int64) (x3 : Int32) (H : Heap) (locs : List Loc) (ls : Array Slot), K66 x1 x3 → GW D A s (w9 o q cy S) H locs → lv_has ls 5 [(0, .ref o), (1, .long x1), (3, .int x3)] → W p l e ({ frames := 0, cells := 0, slots := 0, locals := 0 } : Room) s m args below meth c H locs 0 0 (MQ below (va_Ql (fun r z => z = S ∧ Q r ) (B1 D (w9 o q cy) A) A) args s 0 0 A) (F0 m 66 ls [])) (h : w9_digest_b93 K66 x1 x3 x4 S Q) {H : Heap} {locs : List Loc} (hG : GW D A s (w9 o q cy S) H locs) {ls : Array Slot} (hl : lv_has ls 5 [(0, .ref o), (1, .long x1), (3, .int x3), (4, .int x4)]) : W p l e ({ frames := 0, cells := 0, slots := 0, locals := 0 } : Room) s m args below meth c H locs 0 0 (MQ below (va_Ql (fun r z => z = S ∧ Q r ) (B1 D (w9 o q cy) A) A) args s 0 0 A) (F0 m 93 ls []) := by
  obtain ⟨k, hn⟩ := h
  induction k generalizing x1 x4 H locs ls with
  | zero => exact hn.elim
  | succ k ih => exact b9_digest_d93 (K66 := K66) (K93 := fun y0 y1 => itr (w9_digest_F93 K66 x3 S Q) k (y0, y1)) x1 x3 x4 S C hK66 (fun x1 x4 H locs ls hk hG hl => ih x1 x4 hG hl hk) hn hG hl
def w9_digest_b90 (K66 : Int64 → Int32 → Prop) (x1 : Int64) (x3 : Int32) (S : MS) (Q : Int64 → Prop) : Prop :=
  w9_digest_b93 K66 x1 x3 (0 : Int32) S Q
set_option maxHeartbeats 4000000 in
set_option maxRecDepth 100000 in
theorem b9_digest_b90 {p : Program} {l : Launch} {e : Env} {s : State} {m : MethodId} {args : Array Value} {below : List Frame} {meth : Method} {c : Code} {D : va_G} {cy : Nat → ClassId} {A : Nat → Prop} {o : Nat} {q : Nat → Nat} {K66 : Int64 → Int32 → Prop} (x1 : Int64) (x3 : Int32) (S : MS) {Q : Int64 → Prop} (C : Cx p s m args meth c cX9_digest 5 (some .long) wsX9_digest RX9 D cy nestWs A) (hK66 : ∀ (x1 : Int64) (x3 : Int32) (H : Heap) (locs : List Loc) (ls : Array Slot), K66 x1 x3 → GW D A s (w9 o q cy S) H locs → lv_has ls 5 [(0, .ref o), (1, .long x1), (3, .int x3)] → W p l e ({ frames := 0, cells := 0, slots := 0, locals := 0 } : Room) s m args below meth c H locs 0 0 (MQ below (va_Ql (fun r z => z = S ∧ Q r ) (B1 D (w9 o q cy) A) A) args s 0 0 A) (F0 m 66 ls [])) (h : w9_digest_b90 K66 x1 x3 S Q) {H : Heap} {locs : List Loc} (hG : GW D A s (w9 o q cy S) H locs) {ls : Array Slot} (hl : lv_has ls 5 [(0, .ref o), (1, .long x1), (3, .int x3)]) : W p l e ({ frames := 0, cells := 0, slots := 0, locals := 0 } : Room) s m args below meth c H locs 0 0 (MQ below (va_Ql (fun r z => z = S ∧ Q r ) (B1 D (w9 o q cy) A) A) args s 0 0 A) (F0 m 90 ls []) := by
  have hx := C.1
  have hb := C.2.1
  unfold w9_digest_b90 at h
  refine lv_iconst (v := 0) hx hb dX9_digest_90 (by decide) ?_
  refine lv_istore (lv' := [(4, .int (0 : Int32)), (0, .ref o), (1, .long x1), (3, .int x3)]) hx hb dX9_digest_91 hl (by decide) rfl (fun ls hl => ?_)
  exact b9_digest_b93 (K66 := K66) x1 x3 (0 : Int32) S C hK66 h hG (lv_sub hl [1, 2, 3, 0] rfl)
def w9_digest_d66 (K66 : Int64 → Int32 → Prop) (x1 : Int64) (x3 : Int32) (S : MS) (Q : Int64 → Prop) : Prop :=
  (((4 : Int32) ≤ x3 → w9_digest_b143 x1 (0 : Int32) S Q) ∧ (¬ (4 : Int32) ≤ x3 → vp_in ((3 : Int32) * x3) 12 ∧ ((¬ (rA S 7 ((3 : Int32) * x3)) = 0 → w9_digest_b90 K66 x1 x3 S Q) ∧ ((rA S 7 ((3 : Int32) * x3)) = 0 → ∀ y4 : Int64, y4 = (((31 : Int64) * x1) - (1 : Int64)) → w9_digest_b90 K66 y4 x3 S Q))))
set_option maxHeartbeats 4000000 in
set_option maxRecDepth 100000 in
theorem b9_digest_d66 {p : Program} {l : Launch} {e : Env} {s : State} {m : MethodId} {args : Array Value} {below : List Frame} {meth : Method} {c : Code} {D : va_G} {cy : Nat → ClassId} {A : Nat → Prop} {o : Nat} {q : Nat → Nat} {K66 : Int64 → Int32 → Prop} (x1 : Int64) (x3 : Int32) (S : MS) {Q : Int64 → Prop} (C : Cx p s m args meth c cX9_digest 5 (some .long) wsX9_digest RX9 D cy nestWs A) (hK66 : ∀ (x1 : Int64) (x3 : Int32) (H : Heap) (locs : List Loc) (ls : Array Slot), K66 x1 x3 → GW D A s (w9 o q cy S) H locs → lv_has ls 5 [(0, .ref o), (1, .long x1), (3, .int x3)] → W p l e ({ frames := 0, cells := 0, slots := 0, locals := 0 } : Room) s m args below meth c H locs 0 0 (MQ below (va_Ql (fun r z => z = S ∧ Q r ) (B1 D (w9 o q cy) A) A) args s 0 0 A) (F0 m 66 ls [])) (h : w9_digest_d66 K66 x1 x3 S Q) {H : Heap} {locs : List Loc} (hG : GW D A s (w9 o q cy S) H locs) {ls : Array Slot} (hl : lv_has ls 5 [(0, .ref o), (1, .long x1), (3, .int x3)]) : W p l e ({ frames := 0, cells := 0, slots := 0, locals := 0 } : Room) s m args below meth c H locs 0 0 (MQ below (va_Ql (fun r z => z = S ∧ Q r ) (B1 D (w9 o q cy) A) A) args s 0 0 A) (F0 m 66 ls []) := by
  have hx := C.1
  have hb := C.2.1
  unfold w9_digest_d66 at h
  refine lv_iload_n hx hb dX9_digest_66 rfl (lv_at hl 2 rfl) ?_
  refine lv_iconst (v := 4) hx hb dX9_digest_67 (by decide) ?_
  refine lv_icmp_ge (tgt := 141) hx hb dX9_digest_68 (by decide) (fun c1 => ?_) (fun c1 => ?_)
  · replace h := h.1 c1
    refine lv_iconst (v := 0) hx hb dX9_digest_141 (by decide) ?_
    refine lv_istore_n (lv' := [(3, .int (0 : Int32)), (0, .ref o), (1, .long x1)]) hx hb dX9_digest_142 rfl hl (by decide) rfl (fun ls hl => ?_)
    exact b9_digest_b143 x1 (0 : Int32) S C h hG (lv_sub hl [1, 2, 0] rfl)
  · replace h := h.2 c1
    refine lv_aload_n hx hb dX9_digest_71 rfl (lv_at hl 0 rfl) ?_
    refine x9g_7 C i9_digest_X9 k9_digest_26 hG dX9_digest_72 ?_
    refine lv_iconst (v := 3) hx hb dX9_digest_75 (by decide) ?_
    refine lv_iload_n hx hb dX9_digest_76 rfl (lv_at hl 2 rfl) ?_
    refine lv_imul hx hb dX9_digest_77 ?_
    obtain ⟨hv2, h⟩ := h
    refine x9l_7 C hG hv2 dX9_digest_78 ?_
    refine lv_if_ne (tgt := 90) hx hb dX9_digest_79 (by decide) (fun c3 => ?_) (fun c3 => ?_)
    · replace h := h.1 c3
      exact b9_digest_b90 (K66 := K66) x1 x3 S C hK66 h hG hl
    · replace h := h.2 c3
      refine lv_ldc2 (v := 31) hx hb C.2.2.2.1 (C.2.2.2.2.1 _ k9_digest_313) dX9_digest_82 ?_
      refine lv_lload_n hx hb dX9_digest_85 rfl (lv_at hl 1 rfl) ?_
      refine lv_lmul hx hb dX9_digest_86 ?_
      refine lv_lconst (v := 1) hx hb dX9_digest_87 (by decide) ?_
      refine lv_lsub hx hb dX9_digest_88 ?_
      refine lv_topl (fun y4 ey4 => ?_)
      replace h := h y4 ey4
      refine lv_lstore_n (lv' := [(1, .long y4), (0, .ref o), (3, .int x3)]) hx hb dX9_digest_89 rfl hl (by decide) rfl (fun ls hl => ?_)
      exact b9_digest_b90 (K66 := K66) y4 x3 S C hK66 h hG (lv_sub hl [1, 0, 2] rfl)
def w9_digest_F66 (S : MS) (Q : Int64 → Prop) (K : Int64 × Int32 → Prop) (a : Int64 × Int32) : Prop := w9_digest_d66 (fun y0 y1 => K (y0, y1)) a.1 a.2 S Q
def w9_digest_b66 (x1 : Int64) (x3 : Int32) (S : MS) (Q : Int64 → Prop) : Prop := lp (w9_digest_F66 S Q) (x1, x3)
set_option maxHeartbeats 4000000 in
set_option maxRecDepth 100000 in
theorem b9_digest_b66 {p : Program} {l : Launch} {e : Env} {s : State} {m : MethodId} {args : Array Value} {below : List Frame} {meth : Method} {c : Code} {D : va_G} {cy : Nat → ClassId} {A : Nat → Prop} {o : Nat} {q : Nat → Nat} (x1 : Int64) (x3 : Int32) (S : MS) {Q : Int64 → Prop} (C : Cx p s m args meth c cX9_digest 5 (some .long) wsX9_digest RX9 D cy nestWs A) (h : w9_digest_b66 x1 x3 S Q) {H : Heap} {locs : List Loc} (hG : GW D A s (w9 o q cy S) H locs) {ls : Array Slot} (hl : lv_has ls 5 [(0, .ref o), (1, .long x1), (3, .int x3)]) : W p l e ({ frames := 0, cells := 0, slots := 0, locals := 0 } : Room) s m args below meth c H locs 0 0 (MQ below (va_Ql (fun r z => z = S ∧ Q r ) (B1 D (w9 o q cy) A) A) args s 0 0 A) (F0 m 66 ls []) := by
  obtain ⟨k, hn⟩ := h
  induction k generalizing x1 x3 H locs ls with
  | zero => exact hn.elim
  | succ k ih => exact b9_digest_d66 (K66 := fun y0 y1 => itr (w9_digest_F66 S Q) k (y0, y1)) x1 x3 S C (fun x1 x3 H locs ls hk hG hl => ih x1 x3 hG hl hk) hn hG hl
def w9_digest_b57 (K6 : Int64 → Int32 → Prop) (x3 : Int32) (t0 : Int64) (S : MS) (Q : Int64 → Prop) : Prop :=
  ∀ y1 : Int32, y1 = x3 + 1 → K6 t0 y1
set_option maxHeartbeats 4000000 in
set_option maxRecDepth 100000 in
theorem b9_digest_b57 {p : Program} {l : Launch} {e : Env} {s : State} {m : MethodId} {args : Array Value} {below : List Frame} {meth : Method} {c : Code} {D : va_G} {cy : Nat → ClassId} {A : Nat → Prop} {o : Nat} {q : Nat → Nat} {K6 : Int64 → Int32 → Prop} (x3 : Int32) (t0 : Int64) (S : MS) {Q : Int64 → Prop} (C : Cx p s m args meth c cX9_digest 5 (some .long) wsX9_digest RX9 D cy nestWs A) (hK6 : ∀ (x1 : Int64) (x3 : Int32) (H : Heap) (locs : List Loc) (ls : Array Slot), K6 x1 x3 → GW D A s (w9 o q cy S) H locs → lv_has ls 5 [(0, .ref o), (1, .long x1), (3, .int x3)] → W p l e ({ frames := 0, cells := 0, slots := 0, locals := 0 } : Room) s m args below meth c H locs 0 0 (MQ below (va_Ql (fun r z => z = S ∧ Q r ) (B1 D (w9 o q cy) A) A) args s 0 0 A) (F0 m 6 ls [])) (h : w9_digest_b57 K6 x3 t0 S Q) {H : Heap} {locs : List Loc} (hG : GW D A s (w9 o q cy S) H locs) {ls : Array Slot} (hl : lv_has ls 5 [(0, .ref o), (3, .int x3)]) : W p l e ({ frames := 0, cells := 0, slots := 0, locals := 0 } : Room) s m args below meth c H locs 0 0 (MQ below (va_Ql (fun r z => z = S ∧ Q r ) (B1 D (w9 o q cy) A) A) args s 0 0 A) (F0 m 57 ls [.long t0]) := by
  have hx := C.1
  have hb := C.2.1
  unfold w9_digest_b57 at h
  refine lv_lstore_n (lv' := [(1, .long t0), (0, .ref o), (3, .int x3)]) hx hb dX9_digest_57 rfl hl (by decide) rfl (fun ls hl => ?_)
  obtain ⟨y1, ey1⟩ : ∃ y : Int32, y = x3 + 1 := ⟨_, rfl⟩
  replace h := h y1 ey1
  refine lv_iinc (v := y1) (lv' := [(3, .int y1), (1, .long t0), (0, .ref o)]) hx hb dX9_digest_58 hl (k := 2) rfl (by rw [ey1]; rfl) (by decide) rfl (fun ls hl => ?_)
  refine lv_goto (tgt := 6) hx hb dX9_digest_61 (by decide) ?_
  exact hK6 t0 y1 _ _ _ h hG (lv_sub hl [2, 1, 0] rfl)
def w9_digest_d6 (K6 : Int64 → Int32 → Prop) (x1 : Int64) (x3 : Int32) (S : MS) (Q : Int64 → Prop) : Prop :=
  (((6 : Int32) ≤ x3 → w9_digest_b66 x1 (0 : Int32) S Q) ∧ (¬ (6 : Int32) ≤ x3 → vp_in x3 6 ∧ ((¬ (lg_cmp (rL S 3 x3) (0 : Int64)) = 0 → w9_digest_b57 K6 x3 (((31 : Int64) * (((31 : Int64) * x1) + (rA S 4 x3).toInt64)) + (rL S 3 x3)) S Q) ∧ ((lg_cmp (rL S 3 x3) (0 : Int64)) = 0 → w9_digest_b57 K6 x3 (((31 : Int64) * x1) - (1 : Int64)) S Q))))
set_option maxHeartbeats 4000000 in
set_option maxRecDepth 100000 in
theorem b9_digest_d6 {p : Program} {l : Launch} {e : Env} {s : State} {m : MethodId} {args : Array Value} {below : List Frame} {meth : Method} {c : Code} {D : va_G} {cy : Nat → ClassId} {A : Nat → Prop} {o : Nat} {q : Nat → Nat} {K6 : Int64 → Int32 → Prop} (x1 : Int64) (x3 : Int32) (S : MS) {Q : Int64 → Prop} (C : Cx p s m args meth c cX9_digest 5 (some .long) wsX9_digest RX9 D cy nestWs A) (hK6 : ∀ (x1 : Int64) (x3 : Int32) (H : Heap) (locs : List Loc) (ls : Array Slot), K6 x1 x3 → GW D A s (w9 o q cy S) H locs → lv_has ls 5 [(0, .ref o), (1, .long x1), (3, .int x3)] → W p l e ({ frames := 0, cells := 0, slots := 0, locals := 0 } : Room) s m args below meth c H locs 0 0 (MQ below (va_Ql (fun r z => z = S ∧ Q r ) (B1 D (w9 o q cy) A) A) args s 0 0 A) (F0 m 6 ls [])) (h : w9_digest_d6 K6 x1 x3 S Q) {H : Heap} {locs : List Loc} (hG : GW D A s (w9 o q cy S) H locs) {ls : Array Slot} (hl : lv_has ls 5 [(0, .ref o), (1, .long x1), (3, .int x3)]) : W p l e ({ frames := 0, cells := 0, slots := 0, locals := 0 } : Room) s m args below meth c H locs 0 0 (MQ below (va_Ql (fun r z => z = S ∧ Q r ) (B1 D (w9 o q cy) A) A) args s 0 0 A) (F0 m 6 ls []) := by
  have hx := C.1
  have hb := C.2.1
  unfold w9_digest_d6 at h
  refine lv_iload_n hx hb dX9_digest_6 rfl (lv_at hl 2 rfl) ?_
  refine lv_bipush (v := 6) hx hb dX9_digest_7 (by decide) ?_
  refine lv_icmp_ge (tgt := 64) hx hb dX9_digest_9 (by decide) (fun c1 => ?_) (fun c1 => ?_)
  · replace h := h.1 c1
    refine lv_iconst (v := 0) hx hb dX9_digest_64 (by decide) ?_
    refine lv_istore_n (lv' := [(3, .int (0 : Int32)), (0, .ref o), (1, .long x1)]) hx hb dX9_digest_65 rfl hl (by decide) rfl (fun ls hl => ?_)
    exact b9_digest_b66 x1 (0 : Int32) S C h hG (lv_sub hl [1, 2, 0] rfl)
  · replace h := h.2 c1
    refine lv_aload_n hx hb dX9_digest_12 rfl (lv_at hl 0 rfl) ?_
    refine x9g_3 C i9_digest_X9 k9_digest_13 hG dX9_digest_13 ?_
    refine lv_iload_n hx hb dX9_digest_16 rfl (lv_at hl 2 rfl) ?_
    obtain ⟨hv2, h⟩ := h
    refine x9l_3 C hG hv2 dX9_digest_17 ?_
    refine lv_lconst (v := 0) hx hb dX9_digest_18 (by decide) ?_
    refine W.lcmp hx hb dX9_digest_19 ?_
    refine lv_if_ne (tgt := 33) hx hb dX9_digest_20 (by decide) (fun c3 => ?_) (fun c3 => ?_)
    · replace h := h.1 c3
      refine lv_ldc2 (v := 31) hx hb C.2.2.2.1 (C.2.2.2.2.1 _ k9_digest_313) dX9_digest_33 ?_
      refine lv_ldc2 (v := 31) hx hb C.2.2.2.1 (C.2.2.2.2.1 _ k9_digest_313) dX9_digest_36 ?_
      refine lv_lload_n hx hb dX9_digest_39 rfl (lv_at hl 1 rfl) ?_
      refine lv_lmul hx hb dX9_digest_40 ?_
      refine lv_aload_n hx hb dX9_digest_41 rfl (lv_at hl 0 rfl) ?_
      refine x9g_4 C i9_digest_X9 k9_digest_17 hG dX9_digest_42 ?_
      refine lv_iload_n hx hb dX9_digest_45 rfl (lv_at hl 2 rfl) ?_
      refine x9l_4 C hG hv2 dX9_digest_46 ?_
      refine lv_i2l hx hb dX9_digest_47 rfl ?_
      refine lv_ladd hx hb dX9_digest_48 ?_
      refine lv_lmul hx hb dX9_digest_49 ?_
      refine lv_aload_n hx hb dX9_digest_50 rfl (lv_at hl 0 rfl) ?_
      refine x9g_3 C i9_digest_X9 k9_digest_13 hG dX9_digest_51 ?_
      refine lv_iload_n hx hb dX9_digest_54 rfl (lv_at hl 2 rfl) ?_
      refine x9l_3 C hG hv2 dX9_digest_55 ?_
      refine lv_ladd hx hb dX9_digest_56 ?_
      exact b9_digest_b57 (K6 := K6) x3 (((31 : Int64) * (((31 : Int64) * x1) + (rA S 4 x3).toInt64)) + (rL S 3 x3)) S C hK6 h hG (lv_sub hl [0, 2] rfl)
    · replace h := h.2 c3
      refine lv_ldc2 (v := 31) hx hb C.2.2.2.1 (C.2.2.2.2.1 _ k9_digest_313) dX9_digest_23 ?_
      refine lv_lload_n hx hb dX9_digest_26 rfl (lv_at hl 1 rfl) ?_
      refine lv_lmul hx hb dX9_digest_27 ?_
      refine lv_lconst (v := 1) hx hb dX9_digest_28 (by decide) ?_
      refine lv_lsub hx hb dX9_digest_29 ?_
      refine lv_goto (tgt := 57) hx hb dX9_digest_30 (by decide) ?_
      exact b9_digest_b57 (K6 := K6) x3 (((31 : Int64) * x1) - (1 : Int64)) S C hK6 h hG (lv_sub hl [0, 2] rfl)
def w9_digest_F6 (S : MS) (Q : Int64 → Prop) (K : Int64 × Int32 → Prop) (a : Int64 × Int32) : Prop := w9_digest_d6 (fun y0 y1 => K (y0, y1)) a.1 a.2 S Q
def w9_digest_b6 (x1 : Int64) (x3 : Int32) (S : MS) (Q : Int64 → Prop) : Prop := lp (w9_digest_F6 S Q) (x1, x3)
set_option maxHeartbeats 4000000 in
set_option maxRecDepth 100000 in
theorem b9_digest_b6 {p : Program} {l : Launch} {e : Env} {s : State} {m : MethodId} {args : Array Value} {below : List Frame} {meth : Method} {c : Code} {D : va_G} {cy : Nat → ClassId} {A : Nat → Prop} {o : Nat} {q : Nat → Nat} (x1 : Int64) (x3 : Int32) (S : MS) {Q : Int64 → Prop} (C : Cx p s m args meth c cX9_digest 5 (some .long) wsX9_digest RX9 D cy nestWs A) (h : w9_digest_b6 x1 x3 S Q) {H : Heap} {locs : List Loc} (hG : GW D A s (w9 o q cy S) H locs) {ls : Array Slot} (hl : lv_has ls 5 [(0, .ref o), (1, .long x1), (3, .int x3)]) : W p l e ({ frames := 0, cells := 0, slots := 0, locals := 0 } : Room) s m args below meth c H locs 0 0 (MQ below (va_Ql (fun r z => z = S ∧ Q r ) (B1 D (w9 o q cy) A) A) args s 0 0 A) (F0 m 6 ls []) := by
  obtain ⟨k, hn⟩ := h
  induction k generalizing x1 x3 H locs ls with
  | zero => exact hn.elim
  | succ k ih => exact b9_digest_d6 (K6 := fun y0 y1 => itr (w9_digest_F6 S Q) k (y0, y1)) x1 x3 S C (fun x1 x3 H locs ls hk hG hl => ih x1 x3 hG hl hk) hn hG hl
def w9_digest (S : MS) (Q : Int64 → Prop) : Prop :=
  w9_digest_b6 (17 : Int64) (0 : Int32) S Q
set_option maxHeartbeats 4000000 in
set_option maxRecDepth 100000 in
theorem c9_digest (l : Launch) (D : va_G) (cy : Nat → ClassId)  (o : Nat) (q : Nat → Nat) (S : MS) (Q : Int64 → Prop) (h : w9_digest S Q) : MetL l yX9_digest wsX9_digest ({ frames := 0, cells := 0, slots := 0, locals := 0 } : Room) D cy nestWs (w9 o q cy) [.ref o] S (fun r z => z = S ∧ Q r ) := by
  refine MetL.mk RX9 cX9_digest 5 (by decide) rfl nestWs_ok rfl (Nat.le_of_ble_eq_true rfl) ?_
  intro p e s m below meth c A ls C hG hl
  have hl : lv_has ls 5 [(0, .ref o)] := hl
  have hx := C.1
  have hb := C.2.1
  unfold w9_digest at h
  refine lv_ldc2 (v := 17) hx hb C.2.2.2.1 (C.2.2.2.2.1 _ k9_digest_311) dX9_digest_0 ?_
  refine lv_lstore_n (lv' := [(1, .long (17 : Int64)), (0, .ref o)]) hx hb dX9_digest_3 rfl hl (by decide) rfl (fun ls hl => ?_)
  refine lv_iconst (v := 0) hx hb dX9_digest_4 (by decide) ?_
  refine lv_istore_n (lv' := [(3, .int (0 : Int32)), (1, .long (17 : Int64)), (0, .ref o)]) hx hb dX9_digest_5 rfl hl (by decide) rfl (fun ls hl => ?_)
  exact b9_digest_b6 (17 : Int64) (0 : Int32) S C h hG (lv_sub hl [2, 1, 0] rfl)
