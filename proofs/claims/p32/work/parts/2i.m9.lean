-- X9_isGluing
theorem i9_isGluing_X9 : ∀ w ∈ wsX90, w ∈ wsX9_isGluing := fun w h => List.mem_cons_of_mem _ (inG_X9 w h)
theorem k9_isGluing_104 : Cond.fieldLink RX9 104 "PaperBodiesModel" "sizes" "[I" ∈ wsX9_isGluing := (List.mem_cons_of_mem _ mw_568)
theorem k9_isGluing_107 : Cond.fieldLink RX9 107 "PaperBodiesModel" "rows" "[I" ∈ wsX9_isGluing := (List.mem_cons_of_mem _ mw_569)
theorem k9_isGluing_273 : Cond.fieldLink RX9 273 "PaperBodiesModel" "edges" "I" ∈ wsX9_isGluing := (List.mem_cons_of_mem _ mw_746)
def w9_isGluing_b144 (x2 : Int32) (S : MS) (Q : Int32 → Prop) : Prop :=
  narrow .boolean (.int x2) = .int x2 ∧ Q x2
set_option maxHeartbeats 4000000 in
set_option maxRecDepth 100000 in
theorem b9_isGluing_b144 {p : Program} {l : Launch} {e : Env} {s : State} {m : MethodId} {args : Array Value} {below : List Frame} {meth : Method} {c : Code} {D : va_G} {cy : Nat → ClassId} {A : Nat → Prop} {o : Nat} {q : Nat → Nat} (x2 : Int32) (S : MS) {Q : Int32 → Prop} (C : Cx p s m args meth c cX9_isGluing 7 (some .boolean) wsX9_isGluing RX9 D cy nestWs A) (h : w9_isGluing_b144 x2 S Q) {H : Heap} {locs : List Loc} (hG : GW D A s (w9 o q cy S) H locs) {ls : Array Slot} (hl : lv_has ls 7 [(0, .ref o), (2, .int x2)]) : W p l e ({ frames := 1, cells := 0, slots := 0, locals := 22 } : Room) s m args below meth c H locs 0 0 (MQ below (va_Qi (fun r z => z = S ∧ Q r ) (B1 D (w9 o q cy) A) A) args s 0 0 A) (F0 m 144 ls []) := by
  have hx := C.1
  have hb := C.2.1
  unfold w9_isGluing_b144 at h
  refine lv_iload_n hx hb dX9_isGluing_144 rfl (lv_at hl 1 rfl) ?_
  exact retZ (w := (w9 o q cy)) (S := S) C hG ⟨h.1, ⟨rfl, h.2⟩⟩ dX9_isGluing_145
def w9_isGluing_b138 (K21 : Int32 → Int32 → Prop) (x1 : Int32) (x2 : Int32) (x3 : Int32) (S : MS) (Q : Int32 → Prop) : Prop :=
  ∀ y1 : Int32, y1 = x3 + 1 → K21 x2 y1
set_option maxHeartbeats 4000000 in
set_option maxRecDepth 100000 in
theorem b9_isGluing_b138 {p : Program} {l : Launch} {e : Env} {s : State} {m : MethodId} {args : Array Value} {below : List Frame} {meth : Method} {c : Code} {D : va_G} {cy : Nat → ClassId} {A : Nat → Prop} {o : Nat} {q : Nat → Nat} {K21 : Int32 → Int32 → Prop} (x1 : Int32) (x2 : Int32) (x3 : Int32) (S : MS) {Q : Int32 → Prop} (C : Cx p s m args meth c cX9_isGluing 7 (some .boolean) wsX9_isGluing RX9 D cy nestWs A) (hK21 : ∀ (x2 : Int32) (x3 : Int32) (H : Heap) (locs : List Loc) (ls : Array Slot), K21 x2 x3 → GW D A s (w9 o q cy S) H locs → lv_has ls 7 [(0, .ref o), (1, .int x1), (2, .int x2), (3, .int x3)] → W p l e ({ frames := 1, cells := 0, slots := 0, locals := 22 } : Room) s m args below meth c H locs 0 0 (MQ below (va_Qi (fun r z => z = S ∧ Q r ) (B1 D (w9 o q cy) A) A) args s 0 0 A) (F0 m 21 ls [])) (h : w9_isGluing_b138 K21 x1 x2 x3 S Q) {H : Heap} {locs : List Loc} (hG : GW D A s (w9 o q cy S) H locs) {ls : Array Slot} (hl : lv_has ls 7 [(0, .ref o), (1, .int x1), (2, .int x2), (3, .int x3)]) : W p l e ({ frames := 1, cells := 0, slots := 0, locals := 22 } : Room) s m args below meth c H locs 0 0 (MQ below (va_Qi (fun r z => z = S ∧ Q r ) (B1 D (w9 o q cy) A) A) args s 0 0 A) (F0 m 138 ls []) := by
  have hx := C.1
  have hb := C.2.1
  unfold w9_isGluing_b138 at h
  obtain ⟨y1, ey1⟩ : ∃ y : Int32, y = x3 + 1 := ⟨_, rfl⟩
  replace h := h y1 ey1
  refine lv_iinc (v := y1) (lv' := [(3, .int y1), (0, .ref o), (1, .int x1), (2, .int x2)]) hx hb dX9_isGluing_138 hl (k := 3) rfl (by rw [ey1]; rfl) (by decide) rfl (fun ls hl => ?_)
  refine lv_goto (tgt := 21) hx hb dX9_isGluing_141 (by decide) ?_
  exact hK21 x2 y1 _ _ _ h hG (lv_sub hl [1, 2, 3, 0] rfl)
def w9_isGluing_d94 (K21 : Int32 → Int32 → Prop) (K94 : Int32 → Int32 → Prop) (x1 : Int32) (x2 : Int32) (x3 : Int32) (x4 : Int32) (x5 : Int32) (S : MS) (Q : Int32 → Prop) : Prop :=
  ((x4 ≤ x5 → w9_isGluing_b138 K21 x1 x2 x3 S Q) ∧ (¬ x4 ≤ x5 → ((x2 = 0 → w9_isGluing_b138 K21 x1 x2 x3 S Q) ∧ (¬ x2 = 0 → vp_in (((24 : Int32) * x1) + x5) 96 ∧ ∀ y4 : Int32, y4 = (rA S 41 (((24 : Int32) * x1) + x5)) → w9_in y4 (x3 + (1 : Int32)) (x4 - (1 : Int32)) (fun r5 => ∀ y6 : Int32, y6 = x5 + 1 → K94 r5 y6)))))
set_option maxHeartbeats 4000000 in
set_option maxRecDepth 100000 in
theorem b9_isGluing_d94 {p : Program} {l : Launch} {e : Env} {s : State} {m : MethodId} {args : Array Value} {below : List Frame} {meth : Method} {c : Code} {D : va_G} {cy : Nat → ClassId} {A : Nat → Prop} {o : Nat} {q : Nat → Nat} {K21 : Int32 → Int32 → Prop} {K94 : Int32 → Int32 → Prop} (x1 : Int32) (x2 : Int32) (x3 : Int32) (x4 : Int32) (x5 : Int32) (S : MS) {Q : Int32 → Prop} (C : Cx p s m args meth c cX9_isGluing 7 (some .boolean) wsX9_isGluing RX9 D cy nestWs A) (hK21 : ∀ (x2 : Int32) (x3 : Int32) (H : Heap) (locs : List Loc) (ls : Array Slot), K21 x2 x3 → GW D A s (w9 o q cy S) H locs → lv_has ls 7 [(0, .ref o), (1, .int x1), (2, .int x2), (3, .int x3)] → W p l e ({ frames := 1, cells := 0, slots := 0, locals := 22 } : Room) s m args below meth c H locs 0 0 (MQ below (va_Qi (fun r z => z = S ∧ Q r ) (B1 D (w9 o q cy) A) A) args s 0 0 A) (F0 m 21 ls [])) (hK94 : ∀ (x2 : Int32) (x5 : Int32) (H : Heap) (locs : List Loc) (ls : Array Slot), K94 x2 x5 → GW D A s (w9 o q cy S) H locs → lv_has ls 7 [(0, .ref o), (1, .int x1), (2, .int x2), (3, .int x3), (4, .int x4), (5, .int x5)] → W p l e ({ frames := 1, cells := 0, slots := 0, locals := 22 } : Room) s m args below meth c H locs 0 0 (MQ below (va_Qi (fun r z => z = S ∧ Q r ) (B1 D (w9 o q cy) A) A) args s 0 0 A) (F0 m 94 ls [])) (h : w9_isGluing_d94 K21 K94 x1 x2 x3 x4 x5 S Q) {H : Heap} {locs : List Loc} (hG : GW D A s (w9 o q cy S) H locs) {ls : Array Slot} (hl : lv_has ls 7 [(0, .ref o), (1, .int x1), (2, .int x2), (3, .int x3), (4, .int x4), (5, .int x5)]) : W p l e ({ frames := 1, cells := 0, slots := 0, locals := 22 } : Room) s m args below meth c H locs 0 0 (MQ below (va_Qi (fun r z => z = S ∧ Q r ) (B1 D (w9 o q cy) A) A) args s 0 0 A) (F0 m 94 ls []) := by
  have hx := C.1
  have hb := C.2.1
  unfold w9_isGluing_d94 at h
  refine lv_iload hx hb dX9_isGluing_94 (lv_at hl 5 rfl) ?_
  refine lv_iload hx hb dX9_isGluing_96 (lv_at hl 4 rfl) ?_
  refine lv_icmp_ge (tgt := 138) hx hb dX9_isGluing_98 (by decide) (fun c1 => ?_) (fun c1 => ?_)
  · replace h := h.1 c1
    exact b9_isGluing_b138 (K21 := K21) x1 x2 x3 S C hK21 h hG (lv_sub hl [0, 1, 2, 3] rfl)
  · replace h := h.2 c1
    refine lv_iload_n hx hb dX9_isGluing_101 rfl (lv_at hl 2 rfl) ?_
    refine lv_if_eq (tgt := 138) hx hb dX9_isGluing_102 (by decide) (fun c2 => ?_) (fun c2 => ?_)
    · replace h := h.1 c2
      exact b9_isGluing_b138 (K21 := K21) x1 x2 x3 S C hK21 h hG (lv_sub hl [0, 1, 2, 3] rfl)
    · replace h := h.2 c2
      refine lv_aload_n hx hb dX9_isGluing_105 rfl (lv_at hl 0 rfl) ?_
      refine x9g_41 C i9_isGluing_X9 k9_isGluing_107 hG dX9_isGluing_106 ?_
      refine lv_bipush (v := 24) hx hb dX9_isGluing_109 (by decide) ?_
      refine lv_iload_n hx hb dX9_isGluing_111 rfl (lv_at hl 1 rfl) ?_
      refine lv_imul hx hb dX9_isGluing_112 ?_
      refine lv_iload hx hb dX9_isGluing_113 (lv_at hl 5 rfl) ?_
      refine lv_iadd hx hb dX9_isGluing_115 ?_
      obtain ⟨hv3, h⟩ := h
      refine x9l_41 C hG hv3 dX9_isGluing_116 ?_
      refine lv_topi (fun y4 ey4 => ?_)
      replace h := h y4 ey4
      refine lv_istore (lv' := [(6, .int y4), (0, .ref o), (1, .int x1), (2, .int x2), (3, .int x3), (4, .int x4), (5, .int x5)]) hx hb dX9_isGluing_117 hl (by decide) rfl (fun ls hl => ?_)
      refine lv_iload hx hb dX9_isGluing_119 (lv_at hl 0 rfl) ?_
      refine lv_iload_n hx hb dX9_isGluing_121 rfl (lv_at hl 4 rfl) ?_
      refine lv_iconst (v := 1) hx hb dX9_isGluing_122 (by decide) ?_
      refine lv_iadd hx hb dX9_isGluing_123 ?_
      refine lv_iload hx hb dX9_isGluing_124 (lv_at hl 5 rfl) ?_
      refine lv_iconst (v := 1) hx hb dX9_isGluing_126 (by decide) ?_
      refine lv_isub hx hb dX9_isGluing_127 ?_
      refine callSI (As := [.int y4, .int (x3 + (1 : Int32)), .int (x4 - (1 : Int32))]) (rest := []) C hG (c9_in l D cy y4 (x3 + (1 : Int32)) (x4 - (1 : Int32)) _ h) 3 gX9_isGluing_X9_in rfl (by decide +kernel) ⟨⟨Nat.le_of_ble_eq_true rfl, Nat.le_of_ble_eq_true rfl⟩, rfl, rfl⟩ (Foc.none C.2.2.2.2.2.2.2.2.1) rfl hl.1 rfl (Nat.le_of_ble_eq_true rfl) dX9_isGluing_128 ⟨Nat.zero_le _, Nat.zero_le _⟩ (fun r5 z H locs h hG => ?_)
      refine lv_istore_n (lv' := [(2, .int r5), (6, .int y4), (0, .ref o), (1, .int x1), (3, .int x3), (4, .int x4), (5, .int x5)]) hx hb dX9_isGluing_131 rfl hl (by decide) rfl (fun ls hl => ?_)
      obtain ⟨y6, ey6⟩ : ∃ y : Int32, y = x5 + 1 := ⟨_, rfl⟩
      replace h := h y6 ey6
      refine lv_iinc (v := y6) (lv' := [(5, .int y6), (2, .int r5), (6, .int y4), (0, .ref o), (1, .int x1), (3, .int x3), (4, .int x4)]) hx hb dX9_isGluing_132 hl (k := 6) rfl (by rw [ey6]; rfl) (by decide) rfl (fun ls hl => ?_)
      refine lv_goto (tgt := 94) hx hb dX9_isGluing_135 (by decide) ?_
      exact hK94 r5 y6 _ _ _ h hG (lv_sub hl [3, 4, 1, 5, 6, 0] rfl)
def w9_isGluing_F94 (K21 : Int32 → Int32 → Prop) (x1 : Int32) (x3 : Int32) (x4 : Int32) (S : MS) (Q : Int32 → Prop) (K : Int32 × Int32 → Prop) (a : Int32 × Int32) : Prop := w9_isGluing_d94 K21 (fun y0 y1 => K (y0, y1)) x1 a.1 x3 x4 a.2 S Q
def w9_isGluing_b94 (K21 : Int32 → Int32 → Prop) (x1 : Int32) (x2 : Int32) (x3 : Int32) (x4 : Int32) (x5 : Int32) (S : MS) (Q : Int32 → Prop) : Prop := lp (w9_isGluing_F94 K21 x1 x3 x4 S Q) (x2, x5)
set_option maxHeartbeats 4000000 in
set_option maxRecDepth 100000 in
theorem b9_isGluing_b94 {p : Program} {l : Launch} {e : Env} {s : State} {m : MethodId} {args : Array Value} {below : List Frame} {meth : Method} {c : Code} {D : va_G} {cy : Nat → ClassId} {A : Nat → Prop} {o : Nat} {q : Nat → Nat} {K21 : Int32 → Int32 → Prop} (x1 : Int32) (x2 : Int32) (x3 : Int32) (x4 : Int32) (x5 : Int32) (S : MS) {Q : Int32 → Prop} (C : Cx p s m args meth c cX9_isGluing 7 (some .boolean) wsX9_isGluing RX9 D cy nestWs A) (hK21 : ∀ (x2 : Int32) (x3 : Int32) (H : Heap) (locs : List Loc) (ls : Array Slot), K21 x2 x3 → GW D A s (w9 o q cy S) H locs → lv_has ls 7 [(0, .ref o), (1, .int x1), (2, .int x2), (3, .int x3)] → W p l e ({ frames := 1, cells := 0, slots := 0, locals := 22 } : Room) s m args below meth c H locs 0 0 (MQ below (va_Qi (fun r z => z = S ∧ Q r ) (B1 D (w9 o q cy) A) A) args s 0 0 A) (F0 m 21 ls [])) (h : w9_isGluing_b94 K21 x1 x2 x3 x4 x5 S Q) {H : Heap} {locs : List Loc} (hG : GW D A s (w9 o q cy S) H locs) {ls : Array Slot} (hl : lv_has ls 7 [(0, .ref o), (1, .int x1), (2, .int x2), (3, .int x3), (4, .int x4), (5, .int x5)]) : W p l e ({ frames := 1, cells := 0, slots := 0, locals := 22 } : Room) s m args below meth c H locs 0 0 (MQ below (va_Qi (fun r z => z = S ∧ Q r ) (B1 D (w9 o q cy) A) A) args s 0 0 A) (F0 m 94 ls []) := by
  obtain ⟨k, hn⟩ := h
  induction k generalizing x2 x5 H locs ls with
  | zero => exact hn.elim
  | succ k ih => exact b9_isGluing_d94 (K21 := K21) (K94 := fun y0 y1 => itr (w9_isGluing_F94 K21 x1 x3 x4 S Q) k (y0, y1)) x1 x2 x3 x4 x5 S C hK21 (fun x2 x5 H locs ls hk hG hl => ih x2 x5 hG hl hk) hn hG hl
def w9_isGluing_b88 (K21 : Int32 → Int32 → Prop) (x1 : Int32) (x3 : Int32) (x4 : Int32) (t0 : Int32) (S : MS) (Q : Int32 → Prop) : Prop :=
  ∀ y1 : Int32, y1 = (x3 + (1 : Int32)) → w9_isGluing_b94 K21 x1 t0 x3 x4 y1 S Q
set_option maxHeartbeats 4000000 in
set_option maxRecDepth 100000 in
theorem b9_isGluing_b88 {p : Program} {l : Launch} {e : Env} {s : State} {m : MethodId} {args : Array Value} {below : List Frame} {meth : Method} {c : Code} {D : va_G} {cy : Nat → ClassId} {A : Nat → Prop} {o : Nat} {q : Nat → Nat} {K21 : Int32 → Int32 → Prop} (x1 : Int32) (x3 : Int32) (x4 : Int32) (t0 : Int32) (S : MS) {Q : Int32 → Prop} (C : Cx p s m args meth c cX9_isGluing 7 (some .boolean) wsX9_isGluing RX9 D cy nestWs A) (hK21 : ∀ (x2 : Int32) (x3 : Int32) (H : Heap) (locs : List Loc) (ls : Array Slot), K21 x2 x3 → GW D A s (w9 o q cy S) H locs → lv_has ls 7 [(0, .ref o), (1, .int x1), (2, .int x2), (3, .int x3)] → W p l e ({ frames := 1, cells := 0, slots := 0, locals := 22 } : Room) s m args below meth c H locs 0 0 (MQ below (va_Qi (fun r z => z = S ∧ Q r ) (B1 D (w9 o q cy) A) A) args s 0 0 A) (F0 m 21 ls [])) (h : w9_isGluing_b88 K21 x1 x3 x4 t0 S Q) {H : Heap} {locs : List Loc} (hG : GW D A s (w9 o q cy S) H locs) {ls : Array Slot} (hl : lv_has ls 7 [(0, .ref o), (1, .int x1), (3, .int x3), (4, .int x4)]) : W p l e ({ frames := 1, cells := 0, slots := 0, locals := 22 } : Room) s m args below meth c H locs 0 0 (MQ below (va_Qi (fun r z => z = S ∧ Q r ) (B1 D (w9 o q cy) A) A) args s 0 0 A) (F0 m 88 ls [.int t0]) := by
  have hx := C.1
  have hb := C.2.1
  unfold w9_isGluing_b88 at h
  refine lv_istore_n (lv' := [(2, .int t0), (0, .ref o), (1, .int x1), (3, .int x3), (4, .int x4)]) hx hb dX9_isGluing_88 rfl hl (by decide) rfl (fun ls hl => ?_)
  refine lv_iload_n hx hb dX9_isGluing_89 rfl (lv_at hl 3 rfl) ?_
  refine lv_iconst (v := 1) hx hb dX9_isGluing_90 (by decide) ?_
  refine lv_iadd hx hb dX9_isGluing_91 ?_
  refine lv_topi (fun y1 ey1 => ?_)
  replace h := h y1 ey1
  refine lv_istore (lv' := [(5, .int y1), (2, .int t0), (0, .ref o), (1, .int x1), (3, .int x3), (4, .int x4)]) hx hb dX9_isGluing_92 hl (by decide) rfl (fun ls hl => ?_)
  exact b9_isGluing_b94 (K21 := K21) x1 t0 x3 x4 y1 S C hK21 h hG (lv_sub hl [2, 3, 1, 4, 5, 0] rfl)
def w9_isGluing_b87 (K21 : Int32 → Int32 → Prop) (x1 : Int32) (x3 : Int32) (x4 : Int32) (S : MS) (Q : Int32 → Prop) : Prop :=
  w9_isGluing_b88 K21 x1 x3 x4 (0 : Int32) S Q
set_option maxHeartbeats 4000000 in
set_option maxRecDepth 100000 in
theorem b9_isGluing_b87 {p : Program} {l : Launch} {e : Env} {s : State} {m : MethodId} {args : Array Value} {below : List Frame} {meth : Method} {c : Code} {D : va_G} {cy : Nat → ClassId} {A : Nat → Prop} {o : Nat} {q : Nat → Nat} {K21 : Int32 → Int32 → Prop} (x1 : Int32) (x3 : Int32) (x4 : Int32) (S : MS) {Q : Int32 → Prop} (C : Cx p s m args meth c cX9_isGluing 7 (some .boolean) wsX9_isGluing RX9 D cy nestWs A) (hK21 : ∀ (x2 : Int32) (x3 : Int32) (H : Heap) (locs : List Loc) (ls : Array Slot), K21 x2 x3 → GW D A s (w9 o q cy S) H locs → lv_has ls 7 [(0, .ref o), (1, .int x1), (2, .int x2), (3, .int x3)] → W p l e ({ frames := 1, cells := 0, slots := 0, locals := 22 } : Room) s m args below meth c H locs 0 0 (MQ below (va_Qi (fun r z => z = S ∧ Q r ) (B1 D (w9 o q cy) A) A) args s 0 0 A) (F0 m 21 ls [])) (h : w9_isGluing_b87 K21 x1 x3 x4 S Q) {H : Heap} {locs : List Loc} (hG : GW D A s (w9 o q cy S) H locs) {ls : Array Slot} (hl : lv_has ls 7 [(0, .ref o), (1, .int x1), (3, .int x3), (4, .int x4)]) : W p l e ({ frames := 1, cells := 0, slots := 0, locals := 22 } : Room) s m args below meth c H locs 0 0 (MQ below (va_Qi (fun r z => z = S ∧ Q r ) (B1 D (w9 o q cy) A) A) args s 0 0 A) (F0 m 87 ls []) := by
  have hx := C.1
  have hb := C.2.1
  unfold w9_isGluing_b87 at h
  refine lv_iconst (v := 0) hx hb dX9_isGluing_87 (by decide) ?_
  exact b9_isGluing_b88 (K21 := K21) x1 x3 x4 (0 : Int32) S C hK21 h hG hl
def w9_isGluing_d21 (K21 : Int32 → Int32 → Prop) (x1 : Int32) (x2 : Int32) (x3 : Int32) (S : MS) (Q : Int32 → Prop) : Prop :=
  (((fI S 25) ≤ x3 → w9_isGluing_b144 x2 S Q) ∧ (¬ (fI S 25) ≤ x3 → ((x2 = 0 → w9_isGluing_b144 x2 S Q) ∧ (¬ x2 = 0 → vp_in (((24 : Int32) * x1) + x3) 96 ∧ ∀ y4 : Int32, y4 = (rA S 41 (((24 : Int32) * x1) + x3)) → w9_in y4 (0 : Int32) ((fI S 25) - (1 : Int32)) (fun r5 => ((r5 = 0 → w9_isGluing_b87 K21 x1 x3 y4 S Q) ∧ (¬ r5 = 0 → ((y4 = x3 → w9_isGluing_b87 K21 x1 x3 y4 S Q) ∧ (¬ y4 = x3 → vp_in (((24 : Int32) * x1) + y4) 96 ∧ ((¬ (rA S 41 (((24 : Int32) * x1) + y4)) = x3 → w9_isGluing_b87 K21 x1 x3 y4 S Q) ∧ ((rA S 41 (((24 : Int32) * x1) + y4)) = x3 → w9_isGluing_b88 K21 x1 x3 y4 (1 : Int32) S Q)))))))))))
set_option maxHeartbeats 4000000 in
set_option maxRecDepth 100000 in
theorem b9_isGluing_d21 {p : Program} {l : Launch} {e : Env} {s : State} {m : MethodId} {args : Array Value} {below : List Frame} {meth : Method} {c : Code} {D : va_G} {cy : Nat → ClassId} {A : Nat → Prop} {o : Nat} {q : Nat → Nat} {K21 : Int32 → Int32 → Prop} (x1 : Int32) (x2 : Int32) (x3 : Int32) (S : MS) {Q : Int32 → Prop} (C : Cx p s m args meth c cX9_isGluing 7 (some .boolean) wsX9_isGluing RX9 D cy nestWs A) (hK21 : ∀ (x2 : Int32) (x3 : Int32) (H : Heap) (locs : List Loc) (ls : Array Slot), K21 x2 x3 → GW D A s (w9 o q cy S) H locs → lv_has ls 7 [(0, .ref o), (1, .int x1), (2, .int x2), (3, .int x3)] → W p l e ({ frames := 1, cells := 0, slots := 0, locals := 22 } : Room) s m args below meth c H locs 0 0 (MQ below (va_Qi (fun r z => z = S ∧ Q r ) (B1 D (w9 o q cy) A) A) args s 0 0 A) (F0 m 21 ls [])) (h : w9_isGluing_d21 K21 x1 x2 x3 S Q) {H : Heap} {locs : List Loc} (hG : GW D A s (w9 o q cy S) H locs) {ls : Array Slot} (hl : lv_has ls 7 [(0, .ref o), (1, .int x1), (2, .int x2), (3, .int x3)]) : W p l e ({ frames := 1, cells := 0, slots := 0, locals := 22 } : Room) s m args below meth c H locs 0 0 (MQ below (va_Qi (fun r z => z = S ∧ Q r ) (B1 D (w9 o q cy) A) A) args s 0 0 A) (F0 m 21 ls []) := by
  have hx := C.1
  have hb := C.2.1
  unfold w9_isGluing_d21 at h
  refine lv_iload_n hx hb dX9_isGluing_21 rfl (lv_at hl 3 rfl) ?_
  refine lv_aload_n hx hb dX9_isGluing_22 rfl (lv_at hl 0 rfl) ?_
  refine x9g_25 C i9_isGluing_X9 k9_isGluing_273 hG dX9_isGluing_23 ?_
  refine lv_icmp_ge (tgt := 144) hx hb dX9_isGluing_26 (by decide) (fun c1 => ?_) (fun c1 => ?_)
  · replace h := h.1 c1
    exact b9_isGluing_b144 x2 S C h hG (lv_sub hl [0, 2] rfl)
  · replace h := h.2 c1
    refine lv_iload_n hx hb dX9_isGluing_29 rfl (lv_at hl 2 rfl) ?_
    refine lv_if_eq (tgt := 144) hx hb dX9_isGluing_30 (by decide) (fun c2 => ?_) (fun c2 => ?_)
    · replace h := h.1 c2
      exact b9_isGluing_b144 x2 S C h hG (lv_sub hl [0, 2] rfl)
    · replace h := h.2 c2
      refine lv_aload_n hx hb dX9_isGluing_33 rfl (lv_at hl 0 rfl) ?_
      refine x9g_41 C i9_isGluing_X9 k9_isGluing_107 hG dX9_isGluing_34 ?_
      refine lv_bipush (v := 24) hx hb dX9_isGluing_37 (by decide) ?_
      refine lv_iload_n hx hb dX9_isGluing_39 rfl (lv_at hl 1 rfl) ?_
      refine lv_imul hx hb dX9_isGluing_40 ?_
      refine lv_iload_n hx hb dX9_isGluing_41 rfl (lv_at hl 3 rfl) ?_
      refine lv_iadd hx hb dX9_isGluing_42 ?_
      obtain ⟨hv3, h⟩ := h
      refine x9l_41 C hG hv3 dX9_isGluing_43 ?_
      refine lv_topi (fun y4 ey4 => ?_)
      replace h := h y4 ey4
      refine lv_istore (lv' := [(4, .int y4), (0, .ref o), (1, .int x1), (2, .int x2), (3, .int x3)]) hx hb dX9_isGluing_44 hl (by decide) rfl (fun ls hl => ?_)
      refine lv_iload hx hb dX9_isGluing_46 (lv_at hl 0 rfl) ?_
      refine lv_iconst (v := 0) hx hb dX9_isGluing_48 (by decide) ?_
      refine lv_aload_n hx hb dX9_isGluing_49 rfl (lv_at hl 1 rfl) ?_
      refine x9g_25 C i9_isGluing_X9 k9_isGluing_273 hG dX9_isGluing_50 ?_
      refine lv_iconst (v := 1) hx hb dX9_isGluing_53 (by decide) ?_
      refine lv_isub hx hb dX9_isGluing_54 ?_
      refine callSI (As := [.int y4, .int (0 : Int32), .int ((fI S 25) - (1 : Int32))]) (rest := []) C hG (c9_in l D cy y4 (0 : Int32) ((fI S 25) - (1 : Int32)) _ h) 3 gX9_isGluing_X9_in rfl (by decide +kernel) ⟨⟨Nat.le_of_ble_eq_true rfl, Nat.le_of_ble_eq_true rfl⟩, rfl, rfl⟩ (Foc.none C.2.2.2.2.2.2.2.2.1) rfl hl.1 rfl (Nat.le_of_ble_eq_true rfl) dX9_isGluing_55 ⟨Nat.zero_le _, Nat.zero_le _⟩ (fun r5 z H locs h hG => ?_)
      refine lv_if_eq (tgt := 87) hx hb dX9_isGluing_58 (by decide) (fun c6 => ?_) (fun c6 => ?_)
      · replace h := h.1 c6
        exact b9_isGluing_b87 (K21 := K21) x1 x3 y4 S C hK21 h hG (lv_sub hl [1, 2, 4, 0] rfl)
      · replace h := h.2 c6
        refine lv_iload hx hb dX9_isGluing_61 (lv_at hl 0 rfl) ?_
        refine lv_iload_n hx hb dX9_isGluing_63 rfl (lv_at hl 4 rfl) ?_
        refine lv_icmp_eq (tgt := 87) hx hb dX9_isGluing_64 (by decide) (fun c7 => ?_) (fun c7 => ?_)
        · replace h := h.1 c7
          exact b9_isGluing_b87 (K21 := K21) x1 x3 y4 S C hK21 h hG (lv_sub hl [1, 2, 4, 0] rfl)
        · replace h := h.2 c7
          refine lv_aload_n hx hb dX9_isGluing_67 rfl (lv_at hl 1 rfl) ?_
          refine x9g_41 C i9_isGluing_X9 k9_isGluing_107 hG dX9_isGluing_68 ?_
          refine lv_bipush (v := 24) hx hb dX9_isGluing_71 (by decide) ?_
          refine lv_iload_n hx hb dX9_isGluing_73 rfl (lv_at hl 2 rfl) ?_
          refine lv_imul hx hb dX9_isGluing_74 ?_
          refine lv_iload hx hb dX9_isGluing_75 (lv_at hl 0 rfl) ?_
          refine lv_iadd hx hb dX9_isGluing_77 ?_
          obtain ⟨hv8, h⟩ := h
          refine x9l_41 C hG hv8 dX9_isGluing_78 ?_
          refine lv_iload_n hx hb dX9_isGluing_79 rfl (lv_at hl 4 rfl) ?_
          refine lv_icmp_ne (tgt := 87) hx hb dX9_isGluing_80 (by decide) (fun c9 => ?_) (fun c9 => ?_)
          · replace h := h.1 c9
            exact b9_isGluing_b87 (K21 := K21) x1 x3 y4 S C hK21 h hG (lv_sub hl [1, 2, 4, 0] rfl)
          · replace h := h.2 c9
            refine lv_iconst (v := 1) hx hb dX9_isGluing_83 (by decide) ?_
            refine lv_goto (tgt := 88) hx hb dX9_isGluing_84 (by decide) ?_
            exact b9_isGluing_b88 (K21 := K21) x1 x3 y4 (1 : Int32) S C hK21 h hG (lv_sub hl [1, 2, 4, 0] rfl)
def w9_isGluing_F21 (x1 : Int32) (S : MS) (Q : Int32 → Prop) (K : Int32 × Int32 → Prop) (a : Int32 × Int32) : Prop := w9_isGluing_d21 (fun y0 y1 => K (y0, y1)) x1 a.1 a.2 S Q
def w9_isGluing_b21 (x1 : Int32) (x2 : Int32) (x3 : Int32) (S : MS) (Q : Int32 → Prop) : Prop := lp (w9_isGluing_F21 x1 S Q) (x2, x3)
set_option maxHeartbeats 4000000 in
set_option maxRecDepth 100000 in
theorem b9_isGluing_b21 {p : Program} {l : Launch} {e : Env} {s : State} {m : MethodId} {args : Array Value} {below : List Frame} {meth : Method} {c : Code} {D : va_G} {cy : Nat → ClassId} {A : Nat → Prop} {o : Nat} {q : Nat → Nat} (x1 : Int32) (x2 : Int32) (x3 : Int32) (S : MS) {Q : Int32 → Prop} (C : Cx p s m args meth c cX9_isGluing 7 (some .boolean) wsX9_isGluing RX9 D cy nestWs A) (h : w9_isGluing_b21 x1 x2 x3 S Q) {H : Heap} {locs : List Loc} (hG : GW D A s (w9 o q cy S) H locs) {ls : Array Slot} (hl : lv_has ls 7 [(0, .ref o), (1, .int x1), (2, .int x2), (3, .int x3)]) : W p l e ({ frames := 1, cells := 0, slots := 0, locals := 22 } : Room) s m args below meth c H locs 0 0 (MQ below (va_Qi (fun r z => z = S ∧ Q r ) (B1 D (w9 o q cy) A) A) args s 0 0 A) (F0 m 21 ls []) := by
  obtain ⟨k, hn⟩ := h
  induction k generalizing x2 x3 H locs ls with
  | zero => exact hn.elim
  | succ k ih => exact b9_isGluing_d21 (K21 := fun y0 y1 => itr (w9_isGluing_F21 x1 S Q) k (y0, y1)) x1 x2 x3 S C (fun x2 x3 H locs ls hk hG hl => ih x2 x3 hG hl hk) hn hG hl
def w9_isGluing_b18 (x1 : Int32) (t0 : Int32) (S : MS) (Q : Int32 → Prop) : Prop :=
  w9_isGluing_b21 x1 t0 (0 : Int32) S Q
set_option maxHeartbeats 4000000 in
set_option maxRecDepth 100000 in
theorem b9_isGluing_b18 {p : Program} {l : Launch} {e : Env} {s : State} {m : MethodId} {args : Array Value} {below : List Frame} {meth : Method} {c : Code} {D : va_G} {cy : Nat → ClassId} {A : Nat → Prop} {o : Nat} {q : Nat → Nat} (x1 : Int32) (t0 : Int32) (S : MS) {Q : Int32 → Prop} (C : Cx p s m args meth c cX9_isGluing 7 (some .boolean) wsX9_isGluing RX9 D cy nestWs A) (h : w9_isGluing_b18 x1 t0 S Q) {H : Heap} {locs : List Loc} (hG : GW D A s (w9 o q cy S) H locs) {ls : Array Slot} (hl : lv_has ls 7 [(0, .ref o), (1, .int x1)]) : W p l e ({ frames := 1, cells := 0, slots := 0, locals := 22 } : Room) s m args below meth c H locs 0 0 (MQ below (va_Qi (fun r z => z = S ∧ Q r ) (B1 D (w9 o q cy) A) A) args s 0 0 A) (F0 m 18 ls [.int t0]) := by
  have hx := C.1
  have hb := C.2.1
  unfold w9_isGluing_b18 at h
  refine lv_istore_n (lv' := [(2, .int t0), (0, .ref o), (1, .int x1)]) hx hb dX9_isGluing_18 rfl hl (by decide) rfl (fun ls hl => ?_)
  refine lv_iconst (v := 0) hx hb dX9_isGluing_19 (by decide) ?_
  refine lv_istore_n (lv' := [(3, .int (0 : Int32)), (2, .int t0), (0, .ref o), (1, .int x1)]) hx hb dX9_isGluing_20 rfl hl (by decide) rfl (fun ls hl => ?_)
  exact b9_isGluing_b21 x1 t0 (0 : Int32) S C h hG (lv_sub hl [2, 3, 1, 0] rfl)
def w9_isGluing (x1 : Int32) (S : MS) (Q : Int32 → Prop) : Prop :=
  vp_in x1 4 ∧ ((¬ (rA S 40 x1) = (fI S 25) → w9_isGluing_b18 x1 (0 : Int32) S Q) ∧ ((rA S 40 x1) = (fI S 25) → w9_isGluing_b18 x1 (1 : Int32) S Q))
set_option maxHeartbeats 4000000 in
set_option maxRecDepth 100000 in
theorem c9_isGluing (l : Launch) (D : va_G) (cy : Nat → ClassId)  (o : Nat) (q : Nat → Nat) (x1 : Int32) (S : MS) (Q : Int32 → Prop) (h : w9_isGluing x1 S Q) : MetI l yX9_isGluing wsX9_isGluing ({ frames := 1, cells := 0, slots := 0, locals := 22 } : Room) D cy nestWs (w9 o q cy) [.ref o, .int x1] S (fun r z => z = S ∧ Q r ) := by
  refine MetI.mk RX9 cX9_isGluing 7 .boolean (by decide) rfl nestWs_ok rfl (Nat.le_of_ble_eq_true rfl) ?_
  intro p e s m below meth c A ls C hG hl
  have hl : lv_has ls 7 [(0, .ref o), (1, .int x1)] := hl
  have hx := C.1
  have hb := C.2.1
  unfold w9_isGluing at h
  refine lv_aload_n hx hb dX9_isGluing_0 rfl (lv_at hl 0 rfl) ?_
  refine x9g_40 C i9_isGluing_X9 k9_isGluing_104 hG dX9_isGluing_1 ?_
  refine lv_iload_n hx hb dX9_isGluing_4 rfl (lv_at hl 1 rfl) ?_
  obtain ⟨hv1, h⟩ := h
  refine x9l_40 C hG hv1 dX9_isGluing_5 ?_
  refine lv_aload_n hx hb dX9_isGluing_6 rfl (lv_at hl 0 rfl) ?_
  refine x9g_25 C i9_isGluing_X9 k9_isGluing_273 hG dX9_isGluing_7 ?_
  refine lv_icmp_ne (tgt := 17) hx hb dX9_isGluing_10 (by decide) (fun c2 => ?_) (fun c2 => ?_)
  · replace h := h.1 c2
    refine lv_iconst (v := 0) hx hb dX9_isGluing_17 (by decide) ?_
    exact b9_isGluing_b18 x1 (0 : Int32) S C h hG hl
  · replace h := h.2 c2
    refine lv_iconst (v := 1) hx hb dX9_isGluing_13 (by decide) ?_
    refine lv_goto (tgt := 18) hx hb dX9_isGluing_14 (by decide) ?_
    exact b9_isGluing_b18 x1 (1 : Int32) S C h hG hl
-- X9_glue
theorem i9_glue_X9 : ∀ w ∈ wsX90, w ∈ wsX9_glue := fun w h => List.mem_cons_of_mem _ (inG_X9 w h)
theorem k9_glue_13 : Cond.fieldLink RX9 13 "PaperBodiesModel" "figures" "[J" ∈ wsX9_glue := (List.mem_cons_of_mem _ mw_538)
theorem k9_glue_80 : Cond.fieldLink RX9 80 "PaperBodiesModel" "partner" "[I" ∈ wsX9_glue := (List.mem_cons_of_mem _ mw_560)
theorem k9_glue_104 : Cond.fieldLink RX9 104 "PaperBodiesModel" "sizes" "[I" ∈ wsX9_glue := (List.mem_cons_of_mem _ mw_568)
theorem k9_glue_107 : Cond.fieldLink RX9 107 "PaperBodiesModel" "rows" "[I" ∈ wsX9_glue := (List.mem_cons_of_mem _ mw_569)
theorem k9_glue_273 : Cond.fieldLink RX9 273 "PaperBodiesModel" "edges" "I" ∈ wsX9_glue := (List.mem_cons_of_mem _ mw_746)
theorem k9_glue_285 : Cond.fieldLink RX9 285 "PaperBodiesModel" "cornerCount" "I" ∈ wsX9_glue := (List.mem_cons_of_mem _ mw_759)
def w9_glue_b114 (t1 : Int64) (S : MS) (Q : Int32 → MS → Prop) : Prop :=
  w9_ask t1 (fI S 32) S (fun r1 S2 => Q r1 S2)
set_option maxHeartbeats 4000000 in
set_option maxRecDepth 100000 in
theorem b9_glue_b114 {p : Program} {l : Launch} {e : Env} {s : State} {m : MethodId} {args : Array Value} {below : List Frame} {meth : Method} {c : Code} {D : va_G} {cy : Nat → ClassId} {A : Nat → Prop} {o : Nat} {q : Nat → Nat} (t1 : Int64) (S : MS) {Q : Int32 → MS → Prop} (C : Cx p s m args meth c cX9_glue 4 (some .int) wsX9_glue RX9 D cy nestWs A) (h : w9_glue_b114 t1 S Q) {H : Heap} {locs : List Loc} (hG : GW D A s (w9 o q cy S) H locs) {ls : Array Slot} (hl : lv_has ls 4 [(0, .ref o)]) : W p l e ({ frames := 4, cells := 0, slots := 0, locals := 97 } : Room) s m args below meth c H locs 0 0 (MQ below (va_Qi Q (B1 D (w9 o q cy) A) A) args s 0 0 A) (F0 m 114 ls [.long t1, .ref o]) := by
  have hx := C.1
  have hb := C.2.1
  unfold w9_glue_b114 at h
  refine lv_aload_n hx hb dX9_glue_114 rfl (lv_at hl 0 rfl) ?_
  refine x9g_32 C i9_glue_X9 k9_glue_285 hG dX9_glue_115 ?_
  refine callVI (As := [.long t1, .int (fI S 32)]) (rest := []) C hG (c9_ask l D cy o q t1 (fI S 32) S _ h) 2 gX9_glue_X9_ask rfl (by decide +kernel) ⟨⟨Nat.le_of_ble_eq_true rfl, Nat.le_of_ble_eq_true rfl⟩, rfl, rfl⟩ rfl rfl (Foc.all C.2.2.2.2.2.2.2.2.1) rfl hl.1 rfl (Nat.le_of_ble_eq_true rfl) dX9_glue_118 ⟨Nat.zero_le _, Nat.zero_le _⟩ (fun r1 S2 H locs h hG => ?_)
  have hG : GW D A s (w9 o q cy S2) H locs := hG
  exact retI (w := (w9 o q cy)) (S := S2) C hG h dX9_glue_121
def w9_glue_d68 (K68 : Int32 → MS → Prop) (x2 : Int32) (x3 : Int32) (S : MS) (Q : Int32 → MS → Prop) : Prop :=
  (((fI S 25) ≤ x3 → w9_isLegal S (fun r2 S3 => ((r2 = 0 → w9_glue_b114 (0 : Int64) S3 Q) ∧ (¬ r2 = 0 → w9_glue_b114 (1 : Int64) S3 Q)))) ∧ (¬ (fI S 25) ≤ x3 → vp_in (((24 : Int32) * x2) + x3) 96 ∧ vp_in x3 128 ∧ ∀ S7 : MS, S7 = sA S 29 x3 (rA S 41 (((24 : Int32) * x2) + x3)) → ∀ y8 : Int32, y8 = x3 + 1 → K68 y8 S7))
set_option maxHeartbeats 4000000 in
set_option maxRecDepth 100000 in
theorem b9_glue_d68 {p : Program} {l : Launch} {e : Env} {s : State} {m : MethodId} {args : Array Value} {below : List Frame} {meth : Method} {c : Code} {D : va_G} {cy : Nat → ClassId} {A : Nat → Prop} {o : Nat} {q : Nat → Nat} {K68 : Int32 → MS → Prop} (x2 : Int32) (x3 : Int32) (S : MS) {Q : Int32 → MS → Prop} (C : Cx p s m args meth c cX9_glue 4 (some .int) wsX9_glue RX9 D cy nestWs A) (hK68 : ∀ (x3 : Int32) (S : MS) (H : Heap) (locs : List Loc) (ls : Array Slot), K68 x3 S → GW D A s (w9 o q cy S) H locs → lv_has ls 4 [(0, .ref o), (2, .int x2), (3, .int x3)] → W p l e ({ frames := 4, cells := 0, slots := 0, locals := 97 } : Room) s m args below meth c H locs 0 0 (MQ below (va_Qi Q (B1 D (w9 o q cy) A) A) args s 0 0 A) (F0 m 68 ls [])) (h : w9_glue_d68 K68 x2 x3 S Q) {H : Heap} {locs : List Loc} (hG : GW D A s (w9 o q cy S) H locs) {ls : Array Slot} (hl : lv_has ls 4 [(0, .ref o), (2, .int x2), (3, .int x3)]) : W p l e ({ frames := 4, cells := 0, slots := 0, locals := 97 } : Room) s m args below meth c H locs 0 0 (MQ below (va_Qi Q (B1 D (w9 o q cy) A) A) args s 0 0 A) (F0 m 68 ls []) := by
  have hx := C.1
  have hb := C.2.1
  unfold w9_glue_d68 at h
  refine lv_iload_n hx hb dX9_glue_68 rfl (lv_at hl 2 rfl) ?_
  refine lv_aload_n hx hb dX9_glue_69 rfl (lv_at hl 0 rfl) ?_
  refine x9g_25 C i9_glue_X9 k9_glue_273 hG dX9_glue_70 ?_
  refine lv_icmp_ge (tgt := 99) hx hb dX9_glue_73 (by decide) (fun c1 => ?_) (fun c1 => ?_)
  · replace h := h.1 c1
    refine lv_aload_n hx hb dX9_glue_99 rfl (lv_at hl 0 rfl) ?_
    refine callVI (As := []) (rest := []) C hG (c9_isLegal l D cy o q S _ h) 0 gX9_glue_X9_isLegal rfl (by decide +kernel) ⟨⟨Nat.le_of_ble_eq_true rfl, Nat.le_of_ble_eq_true rfl⟩, rfl, rfl⟩ rfl rfl (Foc.all C.2.2.2.2.2.2.2.2.1) rfl hl.1 rfl (Nat.le_of_ble_eq_true rfl) dX9_glue_100 ⟨Nat.zero_le _, Nat.zero_le _⟩ (fun r2 S3 H locs h hG => ?_)
    have hG : GW D A s (w9 o q cy S3) H locs := hG
    refine lv_istore_n (lv' := [(3, .int r2), (0, .ref o), (2, .int x2)]) hx hb dX9_glue_103 rfl hl (by decide) rfl (fun ls hl => ?_)
    refine lv_aload_n hx hb dX9_glue_104 rfl (lv_at hl 1 rfl) ?_
    refine lv_iload_n hx hb dX9_glue_105 rfl (lv_at hl 0 rfl) ?_
    refine lv_if_eq (tgt := 113) hx hb dX9_glue_106 (by decide) (fun c4 => ?_) (fun c4 => ?_)
    · replace h := h.1 c4
      refine lv_lconst (v := 0) hx hb dX9_glue_113 (by decide) ?_
      exact b9_glue_b114 (0 : Int64) S3 C h hG (lv_sub hl [1] rfl)
    · replace h := h.2 c4
      refine lv_lconst (v := 1) hx hb dX9_glue_109 (by decide) ?_
      refine lv_goto (tgt := 114) hx hb dX9_glue_110 (by decide) ?_
      exact b9_glue_b114 (1 : Int64) S3 C h hG (lv_sub hl [1] rfl)
  · replace h := h.2 c1
    refine lv_aload_n hx hb dX9_glue_76 rfl (lv_at hl 0 rfl) ?_
    refine x9g_29 C i9_glue_X9 k9_glue_80 hG dX9_glue_77 ?_
    refine lv_iload_n hx hb dX9_glue_80 rfl (lv_at hl 2 rfl) ?_
    refine lv_aload_n hx hb dX9_glue_81 rfl (lv_at hl 0 rfl) ?_
    refine x9g_41 C i9_glue_X9 k9_glue_107 hG dX9_glue_82 ?_
    refine lv_bipush (v := 24) hx hb dX9_glue_85 (by decide) ?_
    refine lv_iload_n hx hb dX9_glue_87 rfl (lv_at hl 1 rfl) ?_
    refine lv_imul hx hb dX9_glue_88 ?_
    refine lv_iload_n hx hb dX9_glue_89 rfl (lv_at hl 2 rfl) ?_
    refine lv_iadd hx hb dX9_glue_90 ?_
    obtain ⟨hv5, h⟩ := h
    refine x9l_41 C hG hv5 dX9_glue_91 ?_
    obtain ⟨hv6, h⟩ := h
    refine x9s_29 C hG hv6 dX9_glue_92 (fun S7 eS7 H locs hG => ?_)
    replace h := h S7 eS7
    obtain ⟨y8, ey8⟩ : ∃ y : Int32, y = x3 + 1 := ⟨_, rfl⟩
    replace h := h y8 ey8
    refine lv_iinc (v := y8) (lv' := [(3, .int y8), (0, .ref o), (2, .int x2)]) hx hb dX9_glue_93 hl (k := 2) rfl (by rw [ey8]; rfl) (by decide) rfl (fun ls hl => ?_)
    refine lv_goto (tgt := 68) hx hb dX9_glue_96 (by decide) ?_
    exact hK68 y8 S7 _ _ _ h hG (lv_sub hl [1, 2, 0] rfl)
def w9_glue_F68 (x2 : Int32) (Q : Int32 → MS → Prop) (K : Int32 × MS → Prop) (a : Int32 × MS) : Prop := w9_glue_d68 (fun y0 y1 => K (y0, y1)) x2 a.1 a.2 Q
def w9_glue_b68 (x2 : Int32) (x3 : Int32) (S : MS) (Q : Int32 → MS → Prop) : Prop := lp (w9_glue_F68 x2 Q) (x3, S)
set_option maxHeartbeats 4000000 in
set_option maxRecDepth 100000 in
theorem b9_glue_b68 {p : Program} {l : Launch} {e : Env} {s : State} {m : MethodId} {args : Array Value} {below : List Frame} {meth : Method} {c : Code} {D : va_G} {cy : Nat → ClassId} {A : Nat → Prop} {o : Nat} {q : Nat → Nat} (x2 : Int32) (x3 : Int32) (S : MS) {Q : Int32 → MS → Prop} (C : Cx p s m args meth c cX9_glue 4 (some .int) wsX9_glue RX9 D cy nestWs A) (h : w9_glue_b68 x2 x3 S Q) {H : Heap} {locs : List Loc} (hG : GW D A s (w9 o q cy S) H locs) {ls : Array Slot} (hl : lv_has ls 4 [(0, .ref o), (2, .int x2), (3, .int x3)]) : W p l e ({ frames := 4, cells := 0, slots := 0, locals := 97 } : Room) s m args below meth c H locs 0 0 (MQ below (va_Qi Q (B1 D (w9 o q cy) A) A) args s 0 0 A) (F0 m 68 ls []) := by
  obtain ⟨k, hn⟩ := h
  induction k generalizing x3 S H locs ls with
  | zero => exact hn.elim
  | succ k ih => exact b9_glue_d68 (K68 := fun y0 y1 => itr (w9_glue_F68 x2 Q) k (y0, y1)) x2 x3 S C (fun x3 S H locs ls hk hG hl => ih x3 S hG hl hk) hn hG hl
def w9_glue_b63 (S : MS) (Q : Int32 → MS → Prop) : Prop :=
  Q (-4 : Int32) S
set_option maxHeartbeats 4000000 in
set_option maxRecDepth 100000 in
theorem b9_glue_b63 {p : Program} {l : Launch} {e : Env} {s : State} {m : MethodId} {args : Array Value} {below : List Frame} {meth : Method} {c : Code} {D : va_G} {cy : Nat → ClassId} {A : Nat → Prop} {o : Nat} {q : Nat → Nat} (S : MS) {Q : Int32 → MS → Prop} (C : Cx p s m args meth c cX9_glue 4 (some .int) wsX9_glue RX9 D cy nestWs A) (h : w9_glue_b63 S Q) {H : Heap} {locs : List Loc} (hG : GW D A s (w9 o q cy S) H locs) {ls : Array Slot} (hl : lv_has ls 4 [(0, .ref o)]) : W p l e ({ frames := 4, cells := 0, slots := 0, locals := 97 } : Room) s m args below meth c H locs 0 0 (MQ below (va_Qi Q (B1 D (w9 o q cy) A) A) args s 0 0 A) (F0 m 63 ls []) := by
  have hx := C.1
  have hb := C.2.1
  unfold w9_glue_b63 at h
  refine lv_bipush (v := -4) hx hb dX9_glue_63 (by decide) ?_
  exact retI (w := (w9 o q cy)) (S := S) C hG h dX9_glue_65
def w9_glue_b36 (S : MS) (Q : Int32 → MS → Prop) : Prop :=
  w9_meets (1 : Int32) S (fun r1 S2 => Q r1 S2)
set_option maxHeartbeats 4000000 in
set_option maxRecDepth 100000 in
theorem b9_glue_b36 {p : Program} {l : Launch} {e : Env} {s : State} {m : MethodId} {args : Array Value} {below : List Frame} {meth : Method} {c : Code} {D : va_G} {cy : Nat → ClassId} {A : Nat → Prop} {o : Nat} {q : Nat → Nat} (S : MS) {Q : Int32 → MS → Prop} (C : Cx p s m args meth c cX9_glue 4 (some .int) wsX9_glue RX9 D cy nestWs A) (h : w9_glue_b36 S Q) {H : Heap} {locs : List Loc} (hG : GW D A s (w9 o q cy S) H locs) {ls : Array Slot} (hl : lv_has ls 4 [(0, .ref o)]) : W p l e ({ frames := 4, cells := 0, slots := 0, locals := 97 } : Room) s m args below meth c H locs 0 0 (MQ below (va_Qi Q (B1 D (w9 o q cy) A) A) args s 0 0 A) (F0 m 36 ls []) := by
  have hx := C.1
  have hb := C.2.1
  unfold w9_glue_b36 at h
  refine lv_aload_n hx hb dX9_glue_36 rfl (lv_at hl 0 rfl) ?_
  refine lv_iconst (v := 1) hx hb dX9_glue_37 (by decide) ?_
  refine callVI (As := [.int (1 : Int32)]) (rest := []) C hG (c9_meets l D cy o q (1 : Int32) S _ h) 1 gX9_glue_X9_meets rfl (by decide +kernel) ⟨⟨Nat.le_of_ble_eq_true rfl, Nat.le_of_ble_eq_true rfl⟩, rfl, rfl⟩ rfl rfl (Foc.all C.2.2.2.2.2.2.2.2.1) rfl hl.1 rfl (Nat.le_of_ble_eq_true rfl) dX9_glue_38 ⟨Nat.zero_le _, Nat.zero_le _⟩ (fun r1 S2 H locs h hG => ?_)
  have hG : GW D A s (w9 o q cy S2) H locs := hG
  exact retI (w := (w9 o q cy)) (S := S2) C hG h dX9_glue_41
def w9_glue_b14 (S : MS) (Q : Int32 → MS → Prop) : Prop :=
  Q (-1 : Int32) S
set_option maxHeartbeats 4000000 in
set_option maxRecDepth 100000 in
theorem b9_glue_b14 {p : Program} {l : Launch} {e : Env} {s : State} {m : MethodId} {args : Array Value} {below : List Frame} {meth : Method} {c : Code} {D : va_G} {cy : Nat → ClassId} {A : Nat → Prop} {o : Nat} {q : Nat → Nat} (S : MS) {Q : Int32 → MS → Prop} (C : Cx p s m args meth c cX9_glue 4 (some .int) wsX9_glue RX9 D cy nestWs A) (h : w9_glue_b14 S Q) {H : Heap} {locs : List Loc} (hG : GW D A s (w9 o q cy S) H locs) {ls : Array Slot} (hl : lv_has ls 4 [(0, .ref o)]) : W p l e ({ frames := 4, cells := 0, slots := 0, locals := 97 } : Room) s m args below meth c H locs 0 0 (MQ below (va_Qi Q (B1 D (w9 o q cy) A) A) args s 0 0 A) (F0 m 14 ls []) := by
  have hx := C.1
  have hb := C.2.1
  unfold w9_glue_b14 at h
  refine lv_iconst (v := -1) hx hb dX9_glue_14 (by decide) ?_
  exact retI (w := (w9 o q cy)) (S := S) C hG h dX9_glue_15
def w9_glue (x1 : Int32) (x2 : Int32) (S : MS) (Q : Int32 → MS → Prop) : Prop :=
  w9_isFigure x1 (fun r1 => ((r1 = 0 → w9_glue_b14 S Q) ∧ (¬ r1 = 0 → w9_isRow x2 (fun r3 => ((¬ r3 = 0 → vp_in x1 6 ∧ (((lg_cmp (rL S 3 x1) (0 : Int64)) = 0 → w9_glue_b36 S Q) ∧ (¬ (lg_cmp (rL S 3 x1) (0 : Int64)) = 0 → vp_in x2 4 ∧ ((0 ≤ (rA S 40 x2) → w9_isWalked (rL S 3 x1) S (fun r9 S10 => ((r9 = 0 → w9_glue_b63 S10 Q) ∧ (¬ r9 = 0 → w9_isGluing x2 S10 (fun r12 => ((¬ r12 = 0 → w9_glue_b68 x2 (0 : Int32) S10 Q) ∧ (r12 = 0 → w9_glue_b63 S10 Q))))))) ∧ (¬ 0 ≤ (rA S 40 x2) → w9_glue_b36 S Q))))) ∧ (r3 = 0 → w9_glue_b14 S Q))))))
set_option maxHeartbeats 4000000 in
set_option maxRecDepth 100000 in
theorem c9_glue (l : Launch) (D : va_G) (cy : Nat → ClassId)  (o : Nat) (q : Nat → Nat) (x1 : Int32) (x2 : Int32) (S : MS) (Q : Int32 → MS → Prop) (h : w9_glue x1 x2 S Q) : MetI l yX9_glue wsX9_glue ({ frames := 4, cells := 0, slots := 0, locals := 97 } : Room) D cy nestWs (w9 o q cy) [.ref o, .int x1, .int x2] S Q := by
  refine MetI.mk RX9 cX9_glue 4 .int (by decide) rfl nestWs_ok rfl (Nat.le_of_ble_eq_true rfl) ?_
  intro p e s m below meth c A ls C hG hl
  have hl : lv_has ls 4 [(0, .ref o), (1, .int x1), (2, .int x2)] := hl
  have hx := C.1
  have hb := C.2.1
  unfold w9_glue at h
  refine lv_iload_n hx hb dX9_glue_0 rfl (lv_at hl 1 rfl) ?_
  refine callSI (As := [.int x1]) (rest := []) C hG (c9_isFigure l D cy x1 _ h) 1 gX9_glue_X9_isFigure rfl (by decide +kernel) ⟨⟨Nat.le_of_ble_eq_true rfl, Nat.le_of_ble_eq_true rfl⟩, rfl, rfl⟩ (Foc.none C.2.2.2.2.2.2.2.2.1) rfl hl.1 rfl (Nat.le_of_ble_eq_true rfl) dX9_glue_1 ⟨Nat.zero_le _, Nat.zero_le _⟩ (fun r1 z H locs h hG => ?_)
  refine lv_if_eq (tgt := 14) hx hb dX9_glue_4 (by decide) (fun c2 => ?_) (fun c2 => ?_)
  · replace h := h.1 c2
    exact b9_glue_b14 S C h hG (lv_sub hl [0] rfl)
  · replace h := h.2 c2
    refine lv_iload_n hx hb dX9_glue_7 rfl (lv_at hl 2 rfl) ?_
    refine callSI (As := [.int x2]) (rest := []) C hG (c9_isRow l D cy x2 _ h) 1 gX9_glue_X9_isRow rfl (by decide +kernel) ⟨⟨Nat.le_of_ble_eq_true rfl, Nat.le_of_ble_eq_true rfl⟩, rfl, rfl⟩ (Foc.none C.2.2.2.2.2.2.2.2.1) rfl hl.1 rfl (Nat.le_of_ble_eq_true rfl) dX9_glue_8 ⟨Nat.zero_le _, Nat.zero_le _⟩ (fun r3 z H locs h hG => ?_)
    refine lv_if_ne (tgt := 16) hx hb dX9_glue_11 (by decide) (fun c4 => ?_) (fun c4 => ?_)
    · replace h := h.1 c4
      refine lv_aload_n hx hb dX9_glue_16 rfl (lv_at hl 0 rfl) ?_
      refine x9g_3 C i9_glue_X9 k9_glue_13 hG dX9_glue_17 ?_
      refine lv_iload_n hx hb dX9_glue_20 rfl (lv_at hl 1 rfl) ?_
      obtain ⟨hv5, h⟩ := h
      refine x9l_3 C hG hv5 dX9_glue_21 ?_
      refine lv_lconst (v := 0) hx hb dX9_glue_22 (by decide) ?_
      refine W.lcmp hx hb dX9_glue_23 ?_
      refine lv_if_eq (tgt := 36) hx hb dX9_glue_24 (by decide) (fun c6 => ?_) (fun c6 => ?_)
      · replace h := h.1 c6
        exact b9_glue_b36 S C h hG (lv_sub hl [0] rfl)
      · replace h := h.2 c6
        refine lv_aload_n hx hb dX9_glue_27 rfl (lv_at hl 0 rfl) ?_
        refine x9g_40 C i9_glue_X9 k9_glue_104 hG dX9_glue_28 ?_
        refine lv_iload_n hx hb dX9_glue_31 rfl (lv_at hl 2 rfl) ?_
        obtain ⟨hv7, h⟩ := h
        refine x9l_40 C hG hv7 dX9_glue_32 ?_
        refine lv_if_ge (tgt := 42) hx hb dX9_glue_33 (by decide) (fun c8 => ?_) (fun c8 => ?_)
        · replace h := h.1 c8
          refine lv_aload_n hx hb dX9_glue_42 rfl (lv_at hl 0 rfl) ?_
          refine lv_aload_n hx hb dX9_glue_43 rfl (lv_at hl 0 rfl) ?_
          refine x9g_3 C i9_glue_X9 k9_glue_13 hG dX9_glue_44 ?_
          refine lv_iload_n hx hb dX9_glue_47 rfl (lv_at hl 1 rfl) ?_
          refine x9l_3 C hG hv5 dX9_glue_48 ?_
          refine callVI (As := [.long (rL S 3 x1)]) (rest := []) C hG (c9_isWalked l D cy o q (rL S 3 x1) S _ h) 1 gX9_glue_X9_isWalked rfl (by decide +kernel) ⟨⟨Nat.le_of_ble_eq_true rfl, Nat.le_of_ble_eq_true rfl⟩, rfl, rfl⟩ rfl rfl (Foc.all C.2.2.2.2.2.2.2.2.1) rfl hl.1 rfl (Nat.le_of_ble_eq_true rfl) dX9_glue_49 ⟨Nat.zero_le _, Nat.zero_le _⟩ (fun r9 S10 H locs h hG => ?_)
          have hG : GW D A s (w9 o q cy S10) H locs := hG
          refine lv_if_eq (tgt := 63) hx hb dX9_glue_52 (by decide) (fun c11 => ?_) (fun c11 => ?_)
          · replace h := h.1 c11
            exact b9_glue_b63 S10 C h hG (lv_sub hl [0] rfl)
          · replace h := h.2 c11
            refine lv_aload_n hx hb dX9_glue_55 rfl (lv_at hl 0 rfl) ?_
            refine lv_iload_n hx hb dX9_glue_56 rfl (lv_at hl 2 rfl) ?_
            refine callVI (As := [.int x2]) (rest := []) C hG (c9_isGluing l D cy o q x2 S10 _ h) 1 gX9_glue_X9_isGluing rfl (by decide +kernel) ⟨⟨Nat.le_of_ble_eq_true rfl, Nat.le_of_ble_eq_true rfl⟩, rfl, rfl⟩ rfl rfl (Foc.all C.2.2.2.2.2.2.2.2.1) rfl hl.1 rfl (Nat.le_of_ble_eq_true rfl) dX9_glue_57 ⟨Nat.zero_le _, Nat.zero_le _⟩ (fun r12 u13 H locs h hG => ?_)
            obtain ⟨eu13, h⟩ := h
            have eu13 : u13 = S10 := eu13
            subst u13
            have hG : GW D A s (w9 o q cy S10) H locs := hG
            refine lv_if_ne (tgt := 66) hx hb dX9_glue_60 (by decide) (fun c14 => ?_) (fun c14 => ?_)
            · replace h := h.1 c14
              refine lv_iconst (v := 0) hx hb dX9_glue_66 (by decide) ?_
              refine lv_istore_n (lv' := [(3, .int (0 : Int32)), (0, .ref o), (1, .int x1), (2, .int x2)]) hx hb dX9_glue_67 rfl hl (by decide) rfl (fun ls hl => ?_)
              exact b9_glue_b68 x2 (0 : Int32) S10 C h hG (lv_sub hl [1, 3, 0] rfl)
            · replace h := h.2 c14
              exact b9_glue_b63 S10 C h hG (lv_sub hl [0] rfl)
        · replace h := h.2 c8
          exact b9_glue_b36 S C h hG (lv_sub hl [0] rfl)
    · replace h := h.2 c4
      exact b9_glue_b14 S C h hG (lv_sub hl [0] rfl)
-- X9_tries
theorem i9_tries_X9 : ∀ w ∈ wsX90, w ∈ wsX9_tries := fun w h => List.mem_cons_of_mem _ (inG_X9 w h)
theorem k9_tries_288 : Cond.fieldLink RX9 288 "PaperBodiesModel" "tries" "I" ∈ wsX9_tries := (List.mem_cons_of_mem _ mw_765)
def w9_tries (S : MS) (Q : Int32 → Prop) : Prop :=
  Q (fI S 33)
set_option maxHeartbeats 4000000 in
set_option maxRecDepth 100000 in
theorem c9_tries (l : Launch) (D : va_G) (cy : Nat → ClassId)  (o : Nat) (q : Nat → Nat) (S : MS) (Q : Int32 → Prop) (h : w9_tries S Q) : MetI l yX9_tries wsX9_tries ({ frames := 0, cells := 0, slots := 0, locals := 0 } : Room) D cy nestWs (w9 o q cy) [.ref o] S (fun r z => z = S ∧ Q r ) := by
  refine MetI.mk RX9 cX9_tries 1 .int (by decide) rfl nestWs_ok rfl (Nat.le_of_ble_eq_true rfl) ?_
  intro p e s m below meth c A ls C hG hl
  have hl : lv_has ls 1 [(0, .ref o)] := hl
  have hx := C.1
  have hb := C.2.1
  unfold w9_tries at h
  refine lv_aload_n hx hb dX9_tries_0 rfl (lv_at hl 0 rfl) ?_
  refine x9g_33 C i9_tries_X9 k9_tries_288 hG dX9_tries_1 ?_
  exact retI (w := (w9 o q cy)) (S := S) C hG ⟨rfl, h⟩ dX9_tries_4
-- X9_askedRow
theorem i9_askedRow_X9 : ∀ w ∈ wsX90, w ∈ wsX9_askedRow := fun w h => List.mem_cons_of_mem _ (inG_X9 w h)
theorem k9_askedRow_104 : Cond.fieldLink RX9 104 "PaperBodiesModel" "sizes" "[I" ∈ wsX9_askedRow := (List.mem_cons_of_mem _ mw_568)
def w9_askedRow_b29 (t0 : Int32) (S : MS) (Q : Int32 → MS → Prop) : Prop :=
  Q t0 S
set_option maxHeartbeats 4000000 in
set_option maxRecDepth 100000 in
theorem b9_askedRow_b29 {p : Program} {l : Launch} {e : Env} {s : State} {m : MethodId} {args : Array Value} {below : List Frame} {meth : Method} {c : Code} {D : va_G} {cy : Nat → ClassId} {A : Nat → Prop} {o : Nat} {q : Nat → Nat} (t0 : Int32) (S : MS) {Q : Int32 → MS → Prop} (C : Cx p s m args meth c cX9_askedRow 2 (some .int) wsX9_askedRow RX9 D cy nestWs A) (h : w9_askedRow_b29 t0 S Q) {H : Heap} {locs : List Loc} (hG : GW D A s (w9 o q cy S) H locs) {ls : Array Slot} (hl : lv_has ls 2 [(0, .ref o)]) : W p l e ({ frames := 2, cells := 0, slots := 0, locals := 42 } : Room) s m args below meth c H locs 0 0 (MQ below (va_Qi Q (B1 D (w9 o q cy) A) A) args s 0 0 A) (F0 m 29 ls [.int t0]) := by
  have hx := C.1
  have hb := C.2.1
  unfold w9_askedRow_b29 at h
  exact retI (w := (w9 o q cy)) (S := S) C hG h dX9_askedRow_29
def w9_askedRow (x1 : Int32) (S : MS) (Q : Int32 → MS → Prop) : Prop :=
  w9_isRow x1 (fun r1 => ((¬ r1 = 0 → vp_in x1 4 ∧ ((0 ≤ (rA S 40 x1) → w9_askedRow_b29 (0 : Int32) S Q) ∧ (¬ 0 ≤ (rA S 40 x1) → w9_meets (1 : Int32) S (fun r5 S6 => w9_askedRow_b29 r5 S6 Q)))) ∧ (r1 = 0 → w9_askedRow_b29 (-1 : Int32) S Q)))
set_option maxHeartbeats 4000000 in
set_option maxRecDepth 100000 in
theorem c9_askedRow (l : Launch) (D : va_G) (cy : Nat → ClassId)  (o : Nat) (q : Nat → Nat) (x1 : Int32) (S : MS) (Q : Int32 → MS → Prop) (h : w9_askedRow x1 S Q) : MetI l yX9_askedRow wsX9_askedRow ({ frames := 2, cells := 0, slots := 0, locals := 42 } : Room) D cy nestWs (w9 o q cy) [.ref o, .int x1] S Q := by
  refine MetI.mk RX9 cX9_askedRow 2 .int (by decide) rfl nestWs_ok rfl (Nat.le_of_ble_eq_true rfl) ?_
  intro p e s m below meth c A ls C hG hl
  have hl : lv_has ls 2 [(0, .ref o), (1, .int x1)] := hl
  have hx := C.1
  have hb := C.2.1
  unfold w9_askedRow at h
  refine lv_iload_n hx hb dX9_askedRow_0 rfl (lv_at hl 1 rfl) ?_
  refine callSI (As := [.int x1]) (rest := []) C hG (c9_isRow l D cy x1 _ h) 1 gX9_askedRow_X9_isRow rfl (by decide +kernel) ⟨⟨Nat.le_of_ble_eq_true rfl, Nat.le_of_ble_eq_true rfl⟩, rfl, rfl⟩ (Foc.none C.2.2.2.2.2.2.2.2.1) rfl hl.1 rfl (Nat.le_of_ble_eq_true rfl) dX9_askedRow_1 ⟨Nat.zero_le _, Nat.zero_le _⟩ (fun r1 z H locs h hG => ?_)
  refine lv_if_ne (tgt := 11) hx hb dX9_askedRow_4 (by decide) (fun c2 => ?_) (fun c2 => ?_)
  · replace h := h.1 c2
    refine lv_aload_n hx hb dX9_askedRow_11 rfl (lv_at hl 0 rfl) ?_
    refine x9g_40 C i9_askedRow_X9 k9_askedRow_104 hG dX9_askedRow_12 ?_
    refine lv_iload_n hx hb dX9_askedRow_15 rfl (lv_at hl 1 rfl) ?_
    obtain ⟨hv3, h⟩ := h
    refine x9l_40 C hG hv3 dX9_askedRow_16 ?_
    refine lv_if_ge (tgt := 28) hx hb dX9_askedRow_17 (by decide) (fun c4 => ?_) (fun c4 => ?_)
    · replace h := h.1 c4
      refine lv_iconst (v := 0) hx hb dX9_askedRow_28 (by decide) ?_
      exact b9_askedRow_b29 (0 : Int32) S C h hG (lv_sub hl [0] rfl)
    · replace h := h.2 c4
      refine lv_aload_n hx hb dX9_askedRow_20 rfl (lv_at hl 0 rfl) ?_
      refine lv_iconst (v := 1) hx hb dX9_askedRow_21 (by decide) ?_
      refine callVI (As := [.int (1 : Int32)]) (rest := []) C hG (c9_meets l D cy o q (1 : Int32) S _ h) 1 gX9_askedRow_X9_meets rfl (by decide +kernel) ⟨⟨Nat.le_of_ble_eq_true rfl, Nat.le_of_ble_eq_true rfl⟩, rfl, rfl⟩ rfl rfl (Foc.all C.2.2.2.2.2.2.2.2.1) rfl hl.1 rfl (Nat.le_of_ble_eq_true rfl) dX9_askedRow_22 ⟨Nat.zero_le _, Nat.zero_le _⟩ (fun r5 S6 H locs h hG => ?_)
      have hG : GW D A s (w9 o q cy S6) H locs := hG
      refine lv_goto (tgt := 29) hx hb dX9_askedRow_25 (by decide) ?_
      exact b9_askedRow_b29 r5 S6 C h hG (lv_sub hl [0] rfl)
  · replace h := h.2 c2
    refine lv_iconst (v := -1) hx hb dX9_askedRow_7 (by decide) ?_
    refine lv_goto (tgt := 29) hx hb dX9_askedRow_8 (by decide) ?_
    exact b9_askedRow_b29 (-1 : Int32) S C h hG (lv_sub hl [0] rfl)
-- X9_row
theorem i9_row_X9 : ∀ w ∈ wsX90, w ∈ wsX9_row := fun w h => List.mem_cons_of_mem _ (inG_X9 w h)
theorem k9_row_104 : Cond.fieldLink RX9 104 "PaperBodiesModel" "sizes" "[I" ∈ wsX9_row := (List.mem_cons_of_mem _ mw_568)
theorem k9_row_107 : Cond.fieldLink RX9 107 "PaperBodiesModel" "rows" "[I" ∈ wsX9_row := (List.mem_cons_of_mem _ mw_569)
def w9_row_d34 (K34 : Int32 → MS → Prop) (x1 : Int32) (x2 : Int32) (x3 : Int32) (S : MS) (Q : Int32 → MS → Prop) : Prop :=
  (((24 : Int32) ≤ x3 → Q x2 S) ∧ (¬ (24 : Int32) ≤ x3 → vp_in (((24 : Int32) * x1) + x3) 96 ∧ ∀ S3 : MS, S3 = sA S 41 (((24 : Int32) * x1) + x3) (0 : Int32) → ∀ y4 : Int32, y4 = x3 + 1 → K34 y4 S3))
set_option maxHeartbeats 4000000 in
set_option maxRecDepth 100000 in
theorem b9_row_d34 {p : Program} {l : Launch} {e : Env} {s : State} {m : MethodId} {args : Array Value} {below : List Frame} {meth : Method} {c : Code} {D : va_G} {cy : Nat → ClassId} {A : Nat → Prop} {o : Nat} {q : Nat → Nat} {K34 : Int32 → MS → Prop} (x1 : Int32) (x2 : Int32) (x3 : Int32) (S : MS) {Q : Int32 → MS → Prop} (C : Cx p s m args meth c cX9_row 4 (some .int) wsX9_row RX9 D cy nestWs A) (hK34 : ∀ (x3 : Int32) (S : MS) (H : Heap) (locs : List Loc) (ls : Array Slot), K34 x3 S → GW D A s (w9 o q cy S) H locs → lv_has ls 4 [(0, .ref o), (1, .int x1), (2, .int x2), (3, .int x3)] → W p l e ({ frames := 2, cells := 0, slots := 0, locals := 42 } : Room) s m args below meth c H locs 0 0 (MQ below (va_Qi Q (B1 D (w9 o q cy) A) A) args s 0 0 A) (F0 m 34 ls [])) (h : w9_row_d34 K34 x1 x2 x3 S Q) {H : Heap} {locs : List Loc} (hG : GW D A s (w9 o q cy S) H locs) {ls : Array Slot} (hl : lv_has ls 4 [(0, .ref o), (1, .int x1), (2, .int x2), (3, .int x3)]) : W p l e ({ frames := 2, cells := 0, slots := 0, locals := 42 } : Room) s m args below meth c H locs 0 0 (MQ below (va_Qi Q (B1 D (w9 o q cy) A) A) args s 0 0 A) (F0 m 34 ls []) := by
  have hx := C.1
  have hb := C.2.1
  unfold w9_row_d34 at h
  refine lv_iload_n hx hb dX9_row_34 rfl (lv_at hl 3 rfl) ?_
  refine lv_bipush (v := 24) hx hb dX9_row_35 (by decide) ?_
  refine lv_icmp_ge (tgt := 58) hx hb dX9_row_37 (by decide) (fun c1 => ?_) (fun c1 => ?_)
  · replace h := h.1 c1
    refine lv_iload_n hx hb dX9_row_58 rfl (lv_at hl 2 rfl) ?_
    exact retI (w := (w9 o q cy)) (S := S) C hG h dX9_row_59
  · replace h := h.2 c1
    refine lv_aload_n hx hb dX9_row_40 rfl (lv_at hl 0 rfl) ?_
    refine x9g_41 C i9_row_X9 k9_row_107 hG dX9_row_41 ?_
    refine lv_bipush (v := 24) hx hb dX9_row_44 (by decide) ?_
    refine lv_iload_n hx hb dX9_row_46 rfl (lv_at hl 1 rfl) ?_
    refine lv_imul hx hb dX9_row_47 ?_
    refine lv_iload_n hx hb dX9_row_48 rfl (lv_at hl 3 rfl) ?_
    refine lv_iadd hx hb dX9_row_49 ?_
    refine lv_iconst (v := 0) hx hb dX9_row_50 (by decide) ?_
    obtain ⟨hv2, h⟩ := h
    refine x9s_41 C hG hv2 dX9_row_51 (fun S3 eS3 H locs hG => ?_)
    replace h := h S3 eS3
    obtain ⟨y4, ey4⟩ : ∃ y : Int32, y = x3 + 1 := ⟨_, rfl⟩
    replace h := h y4 ey4
    refine lv_iinc (v := y4) (lv' := [(3, .int y4), (0, .ref o), (1, .int x1), (2, .int x2)]) hx hb dX9_row_52 hl (k := 3) rfl (by rw [ey4]; rfl) (by decide) rfl (fun ls hl => ?_)
    refine lv_goto (tgt := 34) hx hb dX9_row_55 (by decide) ?_
    exact hK34 y4 S3 _ _ _ h hG (lv_sub hl [1, 2, 3, 0] rfl)
def w9_row_F34 (x1 : Int32) (x2 : Int32) (Q : Int32 → MS → Prop) (K : Int32 × MS → Prop) (a : Int32 × MS) : Prop := w9_row_d34 (fun y0 y1 => K (y0, y1)) x1 x2 a.1 a.2 Q
def w9_row_b34 (x1 : Int32) (x2 : Int32) (x3 : Int32) (S : MS) (Q : Int32 → MS → Prop) : Prop := lp (w9_row_F34 x1 x2 Q) (x3, S)
set_option maxHeartbeats 4000000 in
set_option maxRecDepth 100000 in
theorem b9_row_b34 {p : Program} {l : Launch} {e : Env} {s : State} {m : MethodId} {args : Array Value} {below : List Frame} {meth : Method} {c : Code} {D : va_G} {cy : Nat → ClassId} {A : Nat → Prop} {o : Nat} {q : Nat → Nat} (x1 : Int32) (x2 : Int32) (x3 : Int32) (S : MS) {Q : Int32 → MS → Prop} (C : Cx p s m args meth c cX9_row 4 (some .int) wsX9_row RX9 D cy nestWs A) (h : w9_row_b34 x1 x2 x3 S Q) {H : Heap} {locs : List Loc} (hG : GW D A s (w9 o q cy S) H locs) {ls : Array Slot} (hl : lv_has ls 4 [(0, .ref o), (1, .int x1), (2, .int x2), (3, .int x3)]) : W p l e ({ frames := 2, cells := 0, slots := 0, locals := 42 } : Room) s m args below meth c H locs 0 0 (MQ below (va_Qi Q (B1 D (w9 o q cy) A) A) args s 0 0 A) (F0 m 34 ls []) := by
  obtain ⟨k, hn⟩ := h
  induction k generalizing x3 S H locs ls with
  | zero => exact hn.elim
  | succ k ih => exact b9_row_d34 (K34 := fun y0 y1 => itr (w9_row_F34 x1 x2 Q) k (y0, y1)) x1 x2 x3 S C (fun x3 S H locs ls hk hG hl => ih x3 S hG hl hk) hn hG hl
def w9_row_b13 (S : MS) (Q : Int32 → MS → Prop) : Prop :=
  Q (-1 : Int32) S
set_option maxHeartbeats 4000000 in
set_option maxRecDepth 100000 in
theorem b9_row_b13 {p : Program} {l : Launch} {e : Env} {s : State} {m : MethodId} {args : Array Value} {below : List Frame} {meth : Method} {c : Code} {D : va_G} {cy : Nat → ClassId} {A : Nat → Prop} {o : Nat} {q : Nat → Nat} (S : MS) {Q : Int32 → MS → Prop} (C : Cx p s m args meth c cX9_row 4 (some .int) wsX9_row RX9 D cy nestWs A) (h : w9_row_b13 S Q) {H : Heap} {locs : List Loc} (hG : GW D A s (w9 o q cy S) H locs) {ls : Array Slot} (hl : lv_has ls 4 [(0, .ref o)]) : W p l e ({ frames := 2, cells := 0, slots := 0, locals := 42 } : Room) s m args below meth c H locs 0 0 (MQ below (va_Qi Q (B1 D (w9 o q cy) A) A) args s 0 0 A) (F0 m 13 ls []) := by
  have hx := C.1
  have hb := C.2.1
  unfold w9_row_b13 at h
  refine lv_iconst (v := -1) hx hb dX9_row_13 (by decide) ?_
  exact retI (w := (w9 o q cy)) (S := S) C hG h dX9_row_14
def w9_row (x1 : Int32) (x2 : Int32) (S : MS) (Q : Int32 → MS → Prop) : Prop :=
  w9_isRow x1 (fun r1 => ((r1 = 0 → w9_row_b13 S Q) ∧ (¬ r1 = 0 → ((x2 ≤ (24 : Int32) → ((0 ≤ x2 → vp_in x1 4 ∧ ∀ S6 : MS, S6 = sA S 40 x1 x2 → w9_row_b34 x1 x2 (0 : Int32) S6 Q) ∧ (¬ 0 ≤ x2 → w9_meets (5 : Int32) S (fun r7 S8 => Q r7 S8)))) ∧ (¬ x2 ≤ (24 : Int32) → w9_row_b13 S Q)))))
set_option maxHeartbeats 4000000 in
set_option maxRecDepth 100000 in
theorem c9_row (l : Launch) (D : va_G) (cy : Nat → ClassId)  (o : Nat) (q : Nat → Nat) (x1 : Int32) (x2 : Int32) (S : MS) (Q : Int32 → MS → Prop) (h : w9_row x1 x2 S Q) : MetI l yX9_row wsX9_row ({ frames := 2, cells := 0, slots := 0, locals := 42 } : Room) D cy nestWs (w9 o q cy) [.ref o, .int x1, .int x2] S Q := by
  refine MetI.mk RX9 cX9_row 4 .int (by decide) rfl nestWs_ok rfl (Nat.le_of_ble_eq_true rfl) ?_
  intro p e s m below meth c A ls C hG hl
  have hl : lv_has ls 4 [(0, .ref o), (1, .int x1), (2, .int x2)] := hl
  have hx := C.1
  have hb := C.2.1
  unfold w9_row at h
  refine lv_iload_n hx hb dX9_row_0 rfl (lv_at hl 1 rfl) ?_
  refine callSI (As := [.int x1]) (rest := []) C hG (c9_isRow l D cy x1 _ h) 1 gX9_row_X9_isRow rfl (by decide +kernel) ⟨⟨Nat.le_of_ble_eq_true rfl, Nat.le_of_ble_eq_true rfl⟩, rfl, rfl⟩ (Foc.none C.2.2.2.2.2.2.2.2.1) rfl hl.1 rfl (Nat.le_of_ble_eq_true rfl) dX9_row_1 ⟨Nat.zero_le _, Nat.zero_le _⟩ (fun r1 z H locs h hG => ?_)
  refine lv_if_eq (tgt := 13) hx hb dX9_row_4 (by decide) (fun c2 => ?_) (fun c2 => ?_)
  · replace h := h.1 c2
    exact b9_row_b13 S C h hG (lv_sub hl [0] rfl)
  · replace h := h.2 c2
    refine lv_iload_n hx hb dX9_row_7 rfl (lv_at hl 2 rfl) ?_
    refine lv_bipush (v := 24) hx hb dX9_row_8 (by decide) ?_
    refine lv_icmp_le (tgt := 15) hx hb dX9_row_10 (by decide) (fun c3 => ?_) (fun c3 => ?_)
    · replace h := h.1 c3
      refine lv_iload_n hx hb dX9_row_15 rfl (lv_at hl 2 rfl) ?_
      refine lv_if_ge (tgt := 25) hx hb dX9_row_16 (by decide) (fun c4 => ?_) (fun c4 => ?_)
      · replace h := h.1 c4
        refine lv_aload_n hx hb dX9_row_25 rfl (lv_at hl 0 rfl) ?_
        refine x9g_40 C i9_row_X9 k9_row_104 hG dX9_row_26 ?_
        refine lv_iload_n hx hb dX9_row_29 rfl (lv_at hl 1 rfl) ?_
        refine lv_iload_n hx hb dX9_row_30 rfl (lv_at hl 2 rfl) ?_
        obtain ⟨hv5, h⟩ := h
        refine x9s_40 C hG hv5 dX9_row_31 (fun S6 eS6 H locs hG => ?_)
        replace h := h S6 eS6
        refine lv_iconst (v := 0) hx hb dX9_row_32 (by decide) ?_
        refine lv_istore_n (lv' := [(3, .int (0 : Int32)), (0, .ref o), (1, .int x1), (2, .int x2)]) hx hb dX9_row_33 rfl hl (by decide) rfl (fun ls hl => ?_)
        exact b9_row_b34 x1 x2 (0 : Int32) S6 C h hG (lv_sub hl [1, 2, 3, 0] rfl)
      · replace h := h.2 c4
        refine lv_aload_n hx hb dX9_row_19 rfl (lv_at hl 0 rfl) ?_
        refine lv_iconst (v := 5) hx hb dX9_row_20 (by decide) ?_
        refine callVI (As := [.int (5 : Int32)]) (rest := []) C hG (c9_meets l D cy o q (5 : Int32) S _ h) 1 gX9_row_X9_meets rfl (by decide +kernel) ⟨⟨Nat.le_of_ble_eq_true rfl, Nat.le_of_ble_eq_true rfl⟩, rfl, rfl⟩ rfl rfl (Foc.all C.2.2.2.2.2.2.2.2.1) rfl hl.1 rfl (Nat.le_of_ble_eq_true rfl) dX9_row_21 ⟨Nat.zero_le _, Nat.zero_le _⟩ (fun r7 S8 H locs h hG => ?_)
        have hG : GW D A s (w9 o q cy S8) H locs := hG
        exact retI (w := (w9 o q cy)) (S := S8) C hG h dX9_row_24
    · replace h := h.2 c3
      exact b9_row_b13 S C h hG (lv_sub hl [0] rfl)
-- X9_lay
theorem i9_lay_X9 : ∀ w ∈ wsX90, w ∈ wsX9_lay := fun w h => List.mem_cons_of_mem _ (inG_X9 w h)
theorem k9_lay_104 : Cond.fieldLink RX9 104 "PaperBodiesModel" "sizes" "[I" ∈ wsX9_lay := (List.mem_cons_of_mem _ mw_568)
theorem k9_lay_107 : Cond.fieldLink RX9 107 "PaperBodiesModel" "rows" "[I" ∈ wsX9_lay := (List.mem_cons_of_mem _ mw_569)
theorem k9_lay_117 : Cond.fieldLink RX9 117 "PaperBodiesModel" "asked" "J" ∈ wsX9_lay := (List.mem_cons_of_mem _ mw_576)
def w9_lay (x1 : Int32) (x2 : Int32) (x3 : Int32) (S : MS) (Q : Int32 → MS → Prop) : Prop :=
  w9_askedRow x1 S (fun r1 S2 => ((0 ≤ r1 → vp_in x1 4 ∧ w9_in x2 (0 : Int32) ((rA S2 40 x1) - (1 : Int32)) (fun r5 => ((¬ r5 = 0 → vp_in (((24 : Int32) * x1) + x2) 96 ∧ ∀ S8 : MS, S8 = sJ S2 2 (rA S2 41 (((24 : Int32) * x1) + x2)).toInt64 → ∀ S9 : MS, S9 = sA S8 41 (((24 : Int32) * x1) + x2) x3 → Q (1 : Int32) S9) ∧ (r5 = 0 → w9_meets (2 : Int32) S2 (fun r10 S11 => Q r10 S11))))) ∧ (¬ 0 ≤ r1 → Q r1 S2)))
set_option maxHeartbeats 4000000 in
set_option maxRecDepth 100000 in
theorem c9_lay (l : Launch) (D : va_G) (cy : Nat → ClassId)  (o : Nat) (q : Nat → Nat) (x1 : Int32) (x2 : Int32) (x3 : Int32) (S : MS) (Q : Int32 → MS → Prop) (h : w9_lay x1 x2 x3 S Q) : MetI l yX9_lay wsX9_lay ({ frames := 3, cells := 0, slots := 0, locals := 63 } : Room) D cy nestWs (w9 o q cy) [.ref o, .int x1, .int x2, .int x3] S Q := by
  refine MetI.mk RX9 cX9_lay 5 .int (by decide) rfl nestWs_ok rfl (Nat.le_of_ble_eq_true rfl) ?_
  intro p e s m below meth c A ls C hG hl
  have hl : lv_has ls 5 [(0, .ref o), (1, .int x1), (2, .int x2), (3, .int x3)] := hl
  have hx := C.1
  have hb := C.2.1
  unfold w9_lay at h
  refine lv_aload_n hx hb dX9_lay_0 rfl (lv_at hl 0 rfl) ?_
  refine lv_iload_n hx hb dX9_lay_1 rfl (lv_at hl 1 rfl) ?_
  refine callVI (As := [.int x1]) (rest := []) C hG (c9_askedRow l D cy o q x1 S _ h) 1 gX9_lay_X9_askedRow rfl (by decide +kernel) ⟨⟨Nat.le_of_ble_eq_true rfl, Nat.le_of_ble_eq_true rfl⟩, rfl, rfl⟩ rfl rfl (Foc.all C.2.2.2.2.2.2.2.2.1) rfl hl.1 rfl (Nat.le_of_ble_eq_true rfl) dX9_lay_2 ⟨Nat.zero_le _, Nat.zero_le _⟩ (fun r1 S2 H locs h hG => ?_)
  have hG : GW D A s (w9 o q cy S2) H locs := hG
  refine lv_istore (lv' := [(4, .int r1), (0, .ref o), (1, .int x1), (2, .int x2), (3, .int x3)]) hx hb dX9_lay_5 hl (by decide) rfl (fun ls hl => ?_)
  refine lv_iload hx hb dX9_lay_7 (lv_at hl 0 rfl) ?_
  refine lv_if_ge (tgt := 15) hx hb dX9_lay_9 (by decide) (fun c3 => ?_) (fun c3 => ?_)
  · replace h := h.1 c3
    refine lv_iload_n hx hb dX9_lay_15 rfl (lv_at hl 3 rfl) ?_
    refine lv_iconst (v := 0) hx hb dX9_lay_16 (by decide) ?_
    refine lv_aload_n hx hb dX9_lay_17 rfl (lv_at hl 1 rfl) ?_
    refine x9g_40 C i9_lay_X9 k9_lay_104 hG dX9_lay_18 ?_
    refine lv_iload_n hx hb dX9_lay_21 rfl (lv_at hl 2 rfl) ?_
    obtain ⟨hv4, h⟩ := h
    refine x9l_40 C hG hv4 dX9_lay_22 ?_
    refine lv_iconst (v := 1) hx hb dX9_lay_23 (by decide) ?_
    refine lv_isub hx hb dX9_lay_24 ?_
    refine callSI (As := [.int x2, .int (0 : Int32), .int ((rA S2 40 x1) - (1 : Int32))]) (rest := []) C hG (c9_in l D cy x2 (0 : Int32) ((rA S2 40 x1) - (1 : Int32)) _ h) 3 gX9_lay_X9_in rfl (by decide +kernel) ⟨⟨Nat.le_of_ble_eq_true rfl, Nat.le_of_ble_eq_true rfl⟩, rfl, rfl⟩ (Foc.none C.2.2.2.2.2.2.2.2.1) rfl hl.1 rfl (Nat.le_of_ble_eq_true rfl) dX9_lay_25 ⟨Nat.zero_le _, Nat.zero_le _⟩ (fun r5 z H locs h hG => ?_)
    refine lv_if_ne (tgt := 37) hx hb dX9_lay_28 (by decide) (fun c6 => ?_) (fun c6 => ?_)
    · replace h := h.1 c6
      refine lv_aload_n hx hb dX9_lay_37 rfl (lv_at hl 1 rfl) ?_
      refine lv_aload_n hx hb dX9_lay_38 rfl (lv_at hl 1 rfl) ?_
      refine x9g_41 C i9_lay_X9 k9_lay_107 hG dX9_lay_39 ?_
      refine lv_bipush (v := 24) hx hb dX9_lay_42 (by decide) ?_
      refine lv_iload_n hx hb dX9_lay_44 rfl (lv_at hl 2 rfl) ?_
      refine lv_imul hx hb dX9_lay_45 ?_
      refine lv_iload_n hx hb dX9_lay_46 rfl (lv_at hl 3 rfl) ?_
      refine lv_iadd hx hb dX9_lay_47 ?_
      obtain ⟨hv7, h⟩ := h
      refine x9l_41 C hG hv7 dX9_lay_48 ?_
      refine lv_i2l hx hb dX9_lay_49 rfl ?_
      refine x9p_2 C i9_lay_X9 k9_lay_117 hG dX9_lay_50 (fun S8 eS8 H locs hG => ?_)
      replace h := h S8 eS8
      refine lv_aload_n hx hb dX9_lay_53 rfl (lv_at hl 1 rfl) ?_
      refine x9g_41 C i9_lay_X9 k9_lay_107 hG dX9_lay_54 ?_
      refine lv_bipush (v := 24) hx hb dX9_lay_57 (by decide) ?_
      refine lv_iload_n hx hb dX9_lay_59 rfl (lv_at hl 2 rfl) ?_
      refine lv_imul hx hb dX9_lay_60 ?_
      refine lv_iload_n hx hb dX9_lay_61 rfl (lv_at hl 3 rfl) ?_
      refine lv_iadd hx hb dX9_lay_62 ?_
      refine lv_iload_n hx hb dX9_lay_63 rfl (lv_at hl 4 rfl) ?_
      refine x9s_41 C hG hv7 dX9_lay_64 (fun S9 eS9 H locs hG => ?_)
      replace h := h S9 eS9
      refine lv_iconst (v := 1) hx hb dX9_lay_65 (by decide) ?_
      exact retI (w := (w9 o q cy)) (S := S9) C hG h dX9_lay_66
    · replace h := h.2 c6
      refine lv_aload_n hx hb dX9_lay_31 rfl (lv_at hl 1 rfl) ?_
      refine lv_iconst (v := 2) hx hb dX9_lay_32 (by decide) ?_
      refine callVI (As := [.int (2 : Int32)]) (rest := []) C hG (c9_meets l D cy o q (2 : Int32) S2 _ h) 1 gX9_lay_X9_meets rfl (by decide +kernel) ⟨⟨Nat.le_of_ble_eq_true rfl, Nat.le_of_ble_eq_true rfl⟩, rfl, rfl⟩ rfl rfl (Foc.all C.2.2.2.2.2.2.2.2.1) rfl hl.1 rfl (Nat.le_of_ble_eq_true rfl) dX9_lay_33 ⟨Nat.zero_le _, Nat.zero_le _⟩ (fun r10 S11 H locs h hG => ?_)
      have hG : GW D A s (w9 o q cy S11) H locs := hG
      exact retI (w := (w9 o q cy)) (S := S11) C hG h dX9_lay_36
  · replace h := h.2 c3
    refine lv_iload hx hb dX9_lay_12 (lv_at hl 0 rfl) ?_
    exact retI (w := (w9 o q cy)) (S := S2) C hG h dX9_lay_14
-- X9_tear
theorem i9_tear_X9 : ∀ w ∈ wsX90, w ∈ wsX9_tear := fun w h => List.mem_cons_of_mem _ (inG_X9 w h)
theorem k9_tear_104 : Cond.fieldLink RX9 104 "PaperBodiesModel" "sizes" "[I" ∈ wsX9_tear := (List.mem_cons_of_mem _ mw_568)
def w9_tear (x1 : Int32) (S : MS) (Q : Int32 → MS → Prop) : Prop :=
  w9_askedRow x1 S (fun r1 S2 => ((0 ≤ r1 → vp_in x1 4 ∧ ∀ S5 : MS, S5 = sA S2 40 x1 (-9 : Int32) → Q (1 : Int32) S5) ∧ (¬ 0 ≤ r1 → Q r1 S2)))
set_option maxHeartbeats 4000000 in
set_option maxRecDepth 100000 in
theorem c9_tear (l : Launch) (D : va_G) (cy : Nat → ClassId)  (o : Nat) (q : Nat → Nat) (x1 : Int32) (S : MS) (Q : Int32 → MS → Prop) (h : w9_tear x1 S Q) : MetI l yX9_tear wsX9_tear ({ frames := 3, cells := 0, slots := 0, locals := 63 } : Room) D cy nestWs (w9 o q cy) [.ref o, .int x1] S Q := by
  refine MetI.mk RX9 cX9_tear 3 .int (by decide) rfl nestWs_ok rfl (Nat.le_of_ble_eq_true rfl) ?_
  intro p e s m below meth c A ls C hG hl
  have hl : lv_has ls 3 [(0, .ref o), (1, .int x1)] := hl
  have hx := C.1
  have hb := C.2.1
  unfold w9_tear at h
  refine lv_aload_n hx hb dX9_tear_0 rfl (lv_at hl 0 rfl) ?_
  refine lv_iload_n hx hb dX9_tear_1 rfl (lv_at hl 1 rfl) ?_
  refine callVI (As := [.int x1]) (rest := []) C hG (c9_askedRow l D cy o q x1 S _ h) 1 gX9_tear_X9_askedRow rfl (by decide +kernel) ⟨⟨Nat.le_of_ble_eq_true rfl, Nat.le_of_ble_eq_true rfl⟩, rfl, rfl⟩ rfl rfl (Foc.all C.2.2.2.2.2.2.2.2.1) rfl hl.1 rfl (Nat.le_of_ble_eq_true rfl) dX9_tear_2 ⟨Nat.zero_le _, Nat.zero_le _⟩ (fun r1 S2 H locs h hG => ?_)
  have hG : GW D A s (w9 o q cy S2) H locs := hG
  refine lv_istore_n (lv' := [(2, .int r1), (0, .ref o), (1, .int x1)]) hx hb dX9_tear_5 rfl hl (by decide) rfl (fun ls hl => ?_)
  refine lv_iload_n hx hb dX9_tear_6 rfl (lv_at hl 0 rfl) ?_
  refine lv_if_ge (tgt := 12) hx hb dX9_tear_7 (by decide) (fun c3 => ?_) (fun c3 => ?_)
  · replace h := h.1 c3
    refine lv_aload_n hx hb dX9_tear_12 rfl (lv_at hl 1 rfl) ?_
    refine x9g_40 C i9_tear_X9 k9_tear_104 hG dX9_tear_13 ?_
    refine lv_iload_n hx hb dX9_tear_16 rfl (lv_at hl 2 rfl) ?_
    refine lv_bipush (v := -9) hx hb dX9_tear_17 (by decide) ?_
    obtain ⟨hv4, h⟩ := h
    refine x9s_40 C hG hv4 dX9_tear_19 (fun S5 eS5 H locs hG => ?_)
    replace h := h S5 eS5
    refine lv_iconst (v := 1) hx hb dX9_tear_20 (by decide) ?_
    exact retI (w := (w9 o q cy)) (S := S5) C hG h dX9_tear_21
  · replace h := h.2 c3
    refine lv_iload_n hx hb dX9_tear_10 rfl (lv_at hl 0 rfl) ?_
    exact retI (w := (w9 o q cy)) (S := S2) C hG h dX9_tear_11
-- X9_copy
theorem i9_copy_X9 : ∀ w ∈ wsX90, w ∈ wsX9_copy := fun w h => List.mem_cons_of_mem _ (inG_X9 w h)
theorem k9_copy_104 : Cond.fieldLink RX9 104 "PaperBodiesModel" "sizes" "[I" ∈ wsX9_copy := (List.mem_cons_of_mem _ mw_568)
theorem k9_copy_107 : Cond.fieldLink RX9 107 "PaperBodiesModel" "rows" "[I" ∈ wsX9_copy := (List.mem_cons_of_mem _ mw_569)
theorem k9_copy_110 : Cond.fieldLink RX9 110 "PaperBodiesModel" "moving" "[I" ∈ wsX9_copy := (List.mem_cons_of_mem _ mw_570)
def w9_copy_d141 (K141 : Int32 → MS → Prop) (x3 : Int32) (x4 : Int32) (x5 : Int32) (x6 : Int32) (S : MS) (Q : Int32 → MS → Prop) : Prop :=
  ((x5 ≤ x6 → Q (1 : Int32) S) ∧ (¬ x5 ≤ x6 → vp_in x6 24 ∧ vp_in ((((24 : Int32) * x3) + x4) + x6) 96 ∧ ∀ S4 : MS, S4 = sA S 41 ((((24 : Int32) * x3) + x4) + x6) (rA S 42 x6) → ∀ y5 : Int32, y5 = x6 + 1 → K141 y5 S4))
set_option maxHeartbeats 4000000 in
set_option maxRecDepth 100000 in
theorem b9_copy_d141 {p : Program} {l : Launch} {e : Env} {s : State} {m : MethodId} {args : Array Value} {below : List Frame} {meth : Method} {c : Code} {D : va_G} {cy : Nat → ClassId} {A : Nat → Prop} {o : Nat} {q : Nat → Nat} {K141 : Int32 → MS → Prop} (x3 : Int32) (x4 : Int32) (x5 : Int32) (x6 : Int32) (S : MS) {Q : Int32 → MS → Prop} (C : Cx p s m args meth c cX9_copy 7 (some .int) wsX9_copy RX9 D cy nestWs A) (hK141 : ∀ (x6 : Int32) (S : MS) (H : Heap) (locs : List Loc) (ls : Array Slot), K141 x6 S → GW D A s (w9 o q cy S) H locs → lv_has ls 7 [(0, .ref o), (3, .int x3), (4, .int x4), (5, .int x5), (6, .int x6)] → W p l e ({ frames := 2, cells := 0, slots := 0, locals := 42 } : Room) s m args below meth c H locs 0 0 (MQ below (va_Qi Q (B1 D (w9 o q cy) A) A) args s 0 0 A) (F0 m 141 ls [])) (h : w9_copy_d141 K141 x3 x4 x5 x6 S Q) {H : Heap} {locs : List Loc} (hG : GW D A s (w9 o q cy S) H locs) {ls : Array Slot} (hl : lv_has ls 7 [(0, .ref o), (3, .int x3), (4, .int x4), (5, .int x5), (6, .int x6)]) : W p l e ({ frames := 2, cells := 0, slots := 0, locals := 42 } : Room) s m args below meth c H locs 0 0 (MQ below (va_Qi Q (B1 D (w9 o q cy) A) A) args s 0 0 A) (F0 m 141 ls []) := by
  have hx := C.1
  have hb := C.2.1
  unfold w9_copy_d141 at h
  refine lv_iload hx hb dX9_copy_141 (lv_at hl 4 rfl) ?_
  refine lv_iload hx hb dX9_copy_143 (lv_at hl 3 rfl) ?_
  refine lv_icmp_ge (tgt := 176) hx hb dX9_copy_145 (by decide) (fun c1 => ?_) (fun c1 => ?_)
  · replace h := h.1 c1
    refine lv_iconst (v := 1) hx hb dX9_copy_176 (by decide) ?_
    exact retI (w := (w9 o q cy)) (S := S) C hG h dX9_copy_177
  · replace h := h.2 c1
    refine lv_aload_n hx hb dX9_copy_148 rfl (lv_at hl 0 rfl) ?_
    refine x9g_41 C i9_copy_X9 k9_copy_107 hG dX9_copy_149 ?_
    refine lv_bipush (v := 24) hx hb dX9_copy_152 (by decide) ?_
    refine lv_iload_n hx hb dX9_copy_154 rfl (lv_at hl 1 rfl) ?_
    refine lv_imul hx hb dX9_copy_155 ?_
    refine lv_iload hx hb dX9_copy_156 (lv_at hl 2 rfl) ?_
    refine lv_iadd hx hb dX9_copy_158 ?_
    refine lv_iload hx hb dX9_copy_159 (lv_at hl 4 rfl) ?_
    refine lv_iadd hx hb dX9_copy_161 ?_
    refine lv_aload_n hx hb dX9_copy_162 rfl (lv_at hl 0 rfl) ?_
    refine x9g_42 C i9_copy_X9 k9_copy_110 hG dX9_copy_163 ?_
    refine lv_iload hx hb dX9_copy_166 (lv_at hl 4 rfl) ?_
    obtain ⟨hv2, h⟩ := h
    refine x9l_42 C hG hv2 dX9_copy_168 ?_
    obtain ⟨hv3, h⟩ := h
    refine x9s_41 C hG hv3 dX9_copy_169 (fun S4 eS4 H locs hG => ?_)
    replace h := h S4 eS4
    obtain ⟨y5, ey5⟩ : ∃ y : Int32, y = x6 + 1 := ⟨_, rfl⟩
    replace h := h y5 ey5
    refine lv_iinc (v := y5) (lv' := [(6, .int y5), (0, .ref o), (3, .int x3), (4, .int x4), (5, .int x5)]) hx hb dX9_copy_170 hl (k := 4) rfl (by rw [ey5]; rfl) (by decide) rfl (fun ls hl => ?_)
    refine lv_goto (tgt := 141) hx hb dX9_copy_173 (by decide) ?_
    exact hK141 y5 S4 _ _ _ h hG (lv_sub hl [1, 2, 3, 4, 0] rfl)
def w9_copy_F141 (x3 : Int32) (x4 : Int32) (x5 : Int32) (Q : Int32 → MS → Prop) (K : Int32 × MS → Prop) (a : Int32 × MS) : Prop := w9_copy_d141 (fun y0 y1 => K (y0, y1)) x3 x4 x5 a.1 a.2 Q
def w9_copy_b141 (x3 : Int32) (x4 : Int32) (x5 : Int32) (x6 : Int32) (S : MS) (Q : Int32 → MS → Prop) : Prop := lp (w9_copy_F141 x3 x4 x5 Q) (x6, S)
set_option maxHeartbeats 4000000 in
set_option maxRecDepth 100000 in
theorem b9_copy_b141 {p : Program} {l : Launch} {e : Env} {s : State} {m : MethodId} {args : Array Value} {below : List Frame} {meth : Method} {c : Code} {D : va_G} {cy : Nat → ClassId} {A : Nat → Prop} {o : Nat} {q : Nat → Nat} (x3 : Int32) (x4 : Int32) (x5 : Int32) (x6 : Int32) (S : MS) {Q : Int32 → MS → Prop} (C : Cx p s m args meth c cX9_copy 7 (some .int) wsX9_copy RX9 D cy nestWs A) (h : w9_copy_b141 x3 x4 x5 x6 S Q) {H : Heap} {locs : List Loc} (hG : GW D A s (w9 o q cy S) H locs) {ls : Array Slot} (hl : lv_has ls 7 [(0, .ref o), (3, .int x3), (4, .int x4), (5, .int x5), (6, .int x6)]) : W p l e ({ frames := 2, cells := 0, slots := 0, locals := 42 } : Room) s m args below meth c H locs 0 0 (MQ below (va_Qi Q (B1 D (w9 o q cy) A) A) args s 0 0 A) (F0 m 141 ls []) := by
  obtain ⟨k, hn⟩ := h
  induction k generalizing x6 S H locs ls with
  | zero => exact hn.elim
  | succ k ih => exact b9_copy_d141 (K141 := fun y0 y1 => itr (w9_copy_F141 x3 x4 x5 Q) k (y0, y1)) x3 x4 x5 x6 S C (fun x6 S H locs ls hk hG hl => ih x6 S hG hl hk) hn hG hl
def w9_copy_d104 (K104 : Int32 → MS → Prop) (x1 : Int32) (x2 : Int32) (x3 : Int32) (x4 : Int32) (x5 : Int32) (x6 : Int32) (S : MS) (Q : Int32 → MS → Prop) : Prop :=
  ((x5 ≤ x6 → w9_copy_b141 x3 x4 x5 (0 : Int32) S Q) ∧ (¬ x5 ≤ x6 → vp_in ((((24 : Int32) * x1) + x2) + x6) 96 ∧ vp_in x6 24 ∧ ∀ S4 : MS, S4 = sA S 42 x6 (rA S 41 ((((24 : Int32) * x1) + x2) + x6)) → ∀ y5 : Int32, y5 = x6 + 1 → K104 y5 S4))
set_option maxHeartbeats 4000000 in
set_option maxRecDepth 100000 in
theorem b9_copy_d104 {p : Program} {l : Launch} {e : Env} {s : State} {m : MethodId} {args : Array Value} {below : List Frame} {meth : Method} {c : Code} {D : va_G} {cy : Nat → ClassId} {A : Nat → Prop} {o : Nat} {q : Nat → Nat} {K104 : Int32 → MS → Prop} (x1 : Int32) (x2 : Int32) (x3 : Int32) (x4 : Int32) (x5 : Int32) (x6 : Int32) (S : MS) {Q : Int32 → MS → Prop} (C : Cx p s m args meth c cX9_copy 7 (some .int) wsX9_copy RX9 D cy nestWs A) (hK104 : ∀ (x6 : Int32) (S : MS) (H : Heap) (locs : List Loc) (ls : Array Slot), K104 x6 S → GW D A s (w9 o q cy S) H locs → lv_has ls 7 [(0, .ref o), (1, .int x1), (2, .int x2), (3, .int x3), (4, .int x4), (5, .int x5), (6, .int x6)] → W p l e ({ frames := 2, cells := 0, slots := 0, locals := 42 } : Room) s m args below meth c H locs 0 0 (MQ below (va_Qi Q (B1 D (w9 o q cy) A) A) args s 0 0 A) (F0 m 104 ls [])) (h : w9_copy_d104 K104 x1 x2 x3 x4 x5 x6 S Q) {H : Heap} {locs : List Loc} (hG : GW D A s (w9 o q cy S) H locs) {ls : Array Slot} (hl : lv_has ls 7 [(0, .ref o), (1, .int x1), (2, .int x2), (3, .int x3), (4, .int x4), (5, .int x5), (6, .int x6)]) : W p l e ({ frames := 2, cells := 0, slots := 0, locals := 42 } : Room) s m args below meth c H locs 0 0 (MQ below (va_Qi Q (B1 D (w9 o q cy) A) A) args s 0 0 A) (F0 m 104 ls []) := by
  have hx := C.1
  have hb := C.2.1
  unfold w9_copy_d104 at h
  refine lv_iload hx hb dX9_copy_104 (lv_at hl 6 rfl) ?_
  refine lv_iload hx hb dX9_copy_106 (lv_at hl 5 rfl) ?_
  refine lv_icmp_ge (tgt := 138) hx hb dX9_copy_108 (by decide) (fun c1 => ?_) (fun c1 => ?_)
  · replace h := h.1 c1
    refine lv_iconst (v := 0) hx hb dX9_copy_138 (by decide) ?_
    refine lv_istore (lv' := [(6, .int (0 : Int32)), (0, .ref o), (1, .int x1), (2, .int x2), (3, .int x3), (4, .int x4), (5, .int x5)]) hx hb dX9_copy_139 hl (by decide) rfl (fun ls hl => ?_)
    exact b9_copy_b141 x3 x4 x5 (0 : Int32) S C h hG (lv_sub hl [1, 4, 5, 6, 0] rfl)
  · replace h := h.2 c1
    refine lv_aload_n hx hb dX9_copy_111 rfl (lv_at hl 0 rfl) ?_
    refine x9g_42 C i9_copy_X9 k9_copy_110 hG dX9_copy_112 ?_
    refine lv_iload hx hb dX9_copy_115 (lv_at hl 6 rfl) ?_
    refine lv_aload_n hx hb dX9_copy_117 rfl (lv_at hl 0 rfl) ?_
    refine x9g_41 C i9_copy_X9 k9_copy_107 hG dX9_copy_118 ?_
    refine lv_bipush (v := 24) hx hb dX9_copy_121 (by decide) ?_
    refine lv_iload_n hx hb dX9_copy_123 rfl (lv_at hl 1 rfl) ?_
    refine lv_imul hx hb dX9_copy_124 ?_
    refine lv_iload_n hx hb dX9_copy_125 rfl (lv_at hl 2 rfl) ?_
    refine lv_iadd hx hb dX9_copy_126 ?_
    refine lv_iload hx hb dX9_copy_127 (lv_at hl 6 rfl) ?_
    refine lv_iadd hx hb dX9_copy_129 ?_
    obtain ⟨hv2, h⟩ := h
    refine x9l_41 C hG hv2 dX9_copy_130 ?_
    obtain ⟨hv3, h⟩ := h
    refine x9s_42 C hG hv3 dX9_copy_131 (fun S4 eS4 H locs hG => ?_)
    replace h := h S4 eS4
    obtain ⟨y5, ey5⟩ : ∃ y : Int32, y = x6 + 1 := ⟨_, rfl⟩
    replace h := h y5 ey5
    refine lv_iinc (v := y5) (lv' := [(6, .int y5), (0, .ref o), (1, .int x1), (2, .int x2), (3, .int x3), (4, .int x4), (5, .int x5)]) hx hb dX9_copy_132 hl (k := 6) rfl (by rw [ey5]; rfl) (by decide) rfl (fun ls hl => ?_)
    refine lv_goto (tgt := 104) hx hb dX9_copy_135 (by decide) ?_
    exact hK104 y5 S4 _ _ _ h hG (lv_sub hl [1, 2, 3, 4, 5, 6, 0] rfl)
def w9_copy_F104 (x1 : Int32) (x2 : Int32) (x3 : Int32) (x4 : Int32) (x5 : Int32) (Q : Int32 → MS → Prop) (K : Int32 × MS → Prop) (a : Int32 × MS) : Prop := w9_copy_d104 (fun y0 y1 => K (y0, y1)) x1 x2 x3 x4 x5 a.1 a.2 Q
def w9_copy_b104 (x1 : Int32) (x2 : Int32) (x3 : Int32) (x4 : Int32) (x5 : Int32) (x6 : Int32) (S : MS) (Q : Int32 → MS → Prop) : Prop := lp (w9_copy_F104 x1 x2 x3 x4 x5 Q) (x6, S)
set_option maxHeartbeats 4000000 in
set_option maxRecDepth 100000 in
theorem b9_copy_b104 {p : Program} {l : Launch} {e : Env} {s : State} {m : MethodId} {args : Array Value} {below : List Frame} {meth : Method} {c : Code} {D : va_G} {cy : Nat → ClassId} {A : Nat → Prop} {o : Nat} {q : Nat → Nat} (x1 : Int32) (x2 : Int32) (x3 : Int32) (x4 : Int32) (x5 : Int32) (x6 : Int32) (S : MS) {Q : Int32 → MS → Prop} (C : Cx p s m args meth c cX9_copy 7 (some .int) wsX9_copy RX9 D cy nestWs A) (h : w9_copy_b104 x1 x2 x3 x4 x5 x6 S Q) {H : Heap} {locs : List Loc} (hG : GW D A s (w9 o q cy S) H locs) {ls : Array Slot} (hl : lv_has ls 7 [(0, .ref o), (1, .int x1), (2, .int x2), (3, .int x3), (4, .int x4), (5, .int x5), (6, .int x6)]) : W p l e ({ frames := 2, cells := 0, slots := 0, locals := 42 } : Room) s m args below meth c H locs 0 0 (MQ below (va_Qi Q (B1 D (w9 o q cy) A) A) args s 0 0 A) (F0 m 104 ls []) := by
  obtain ⟨k, hn⟩ := h
  induction k generalizing x6 S H locs ls with
  | zero => exact hn.elim
  | succ k ih => exact b9_copy_d104 (K104 := fun y0 y1 => itr (w9_copy_F104 x1 x2 x3 x4 x5 Q) k (y0, y1)) x1 x2 x3 x4 x5 x6 S C (fun x6 S H locs ls hk hG hl => ih x6 S hG hl hk) hn hG hl
def w9_copy_b95 (S : MS) (Q : Int32 → MS → Prop) : Prop :=
  w9_meets (2 : Int32) S (fun r1 S2 => Q r1 S2)
set_option maxHeartbeats 4000000 in
set_option maxRecDepth 100000 in
theorem b9_copy_b95 {p : Program} {l : Launch} {e : Env} {s : State} {m : MethodId} {args : Array Value} {below : List Frame} {meth : Method} {c : Code} {D : va_G} {cy : Nat → ClassId} {A : Nat → Prop} {o : Nat} {q : Nat → Nat} (S : MS) {Q : Int32 → MS → Prop} (C : Cx p s m args meth c cX9_copy 7 (some .int) wsX9_copy RX9 D cy nestWs A) (h : w9_copy_b95 S Q) {H : Heap} {locs : List Loc} (hG : GW D A s (w9 o q cy S) H locs) {ls : Array Slot} (hl : lv_has ls 7 [(0, .ref o)]) : W p l e ({ frames := 2, cells := 0, slots := 0, locals := 42 } : Room) s m args below meth c H locs 0 0 (MQ below (va_Qi Q (B1 D (w9 o q cy) A) A) args s 0 0 A) (F0 m 95 ls []) := by
  have hx := C.1
  have hb := C.2.1
  unfold w9_copy_b95 at h
  refine lv_aload_n hx hb dX9_copy_95 rfl (lv_at hl 0 rfl) ?_
  refine lv_iconst (v := 2) hx hb dX9_copy_96 (by decide) ?_
  refine callVI (As := [.int (2 : Int32)]) (rest := []) C hG (c9_meets l D cy o q (2 : Int32) S _ h) 1 gX9_copy_X9_meets rfl (by decide +kernel) ⟨⟨Nat.le_of_ble_eq_true rfl, Nat.le_of_ble_eq_true rfl⟩, rfl, rfl⟩ rfl rfl (Foc.all C.2.2.2.2.2.2.2.2.1) rfl hl.1 rfl (Nat.le_of_ble_eq_true rfl) dX9_copy_97 ⟨Nat.zero_le _, Nat.zero_le _⟩ (fun r1 S2 H locs h hG => ?_)
  have hG : GW D A s (w9 o q cy S2) H locs := hG
  exact retI (w := (w9 o q cy)) (S := S2) C hG h dX9_copy_100
def w9_copy_b45 (S : MS) (Q : Int32 → MS → Prop) : Prop :=
  w9_meets (1 : Int32) S (fun r1 S2 => Q r1 S2)
set_option maxHeartbeats 4000000 in
set_option maxRecDepth 100000 in
theorem b9_copy_b45 {p : Program} {l : Launch} {e : Env} {s : State} {m : MethodId} {args : Array Value} {below : List Frame} {meth : Method} {c : Code} {D : va_G} {cy : Nat → ClassId} {A : Nat → Prop} {o : Nat} {q : Nat → Nat} (S : MS) {Q : Int32 → MS → Prop} (C : Cx p s m args meth c cX9_copy 7 (some .int) wsX9_copy RX9 D cy nestWs A) (h : w9_copy_b45 S Q) {H : Heap} {locs : List Loc} (hG : GW D A s (w9 o q cy S) H locs) {ls : Array Slot} (hl : lv_has ls 7 [(0, .ref o)]) : W p l e ({ frames := 2, cells := 0, slots := 0, locals := 42 } : Room) s m args below meth c H locs 0 0 (MQ below (va_Qi Q (B1 D (w9 o q cy) A) A) args s 0 0 A) (F0 m 45 ls []) := by
  have hx := C.1
  have hb := C.2.1
  unfold w9_copy_b45 at h
  refine lv_aload_n hx hb dX9_copy_45 rfl (lv_at hl 0 rfl) ?_
  refine lv_iconst (v := 1) hx hb dX9_copy_46 (by decide) ?_
  refine callVI (As := [.int (1 : Int32)]) (rest := []) C hG (c9_meets l D cy o q (1 : Int32) S _ h) 1 gX9_copy_X9_meets rfl (by decide +kernel) ⟨⟨Nat.le_of_ble_eq_true rfl, Nat.le_of_ble_eq_true rfl⟩, rfl, rfl⟩ rfl rfl (Foc.all C.2.2.2.2.2.2.2.2.1) rfl hl.1 rfl (Nat.le_of_ble_eq_true rfl) dX9_copy_47 ⟨Nat.zero_le _, Nat.zero_le _⟩ (fun r1 S2 H locs h hG => ?_)
  have hG : GW D A s (w9 o q cy S2) H locs := hG
  exact retI (w := (w9 o q cy)) (S := S2) C hG h dX9_copy_50
def w9_copy_b14 (S : MS) (Q : Int32 → MS → Prop) : Prop :=
  Q (-1 : Int32) S
set_option maxHeartbeats 4000000 in
set_option maxRecDepth 100000 in
theorem b9_copy_b14 {p : Program} {l : Launch} {e : Env} {s : State} {m : MethodId} {args : Array Value} {below : List Frame} {meth : Method} {c : Code} {D : va_G} {cy : Nat → ClassId} {A : Nat → Prop} {o : Nat} {q : Nat → Nat} (S : MS) {Q : Int32 → MS → Prop} (C : Cx p s m args meth c cX9_copy 7 (some .int) wsX9_copy RX9 D cy nestWs A) (h : w9_copy_b14 S Q) {H : Heap} {locs : List Loc} (hG : GW D A s (w9 o q cy S) H locs) {ls : Array Slot} (hl : lv_has ls 7 [(0, .ref o)]) : W p l e ({ frames := 2, cells := 0, slots := 0, locals := 42 } : Room) s m args below meth c H locs 0 0 (MQ below (va_Qi Q (B1 D (w9 o q cy) A) A) args s 0 0 A) (F0 m 14 ls []) := by
  have hx := C.1
  have hb := C.2.1
  unfold w9_copy_b14 at h
  refine lv_iconst (v := -1) hx hb dX9_copy_14 (by decide) ?_
  exact retI (w := (w9 o q cy)) (S := S) C hG h dX9_copy_15
def w9_copy (x1 : Int32) (x2 : Int32) (x3 : Int32) (x4 : Int32) (x5 : Int32) (S : MS) (Q : Int32 → MS → Prop) : Prop :=
  w9_isRow x1 (fun r1 => ((r1 = 0 → w9_copy_b14 S Q) ∧ (¬ r1 = 0 → w9_isRow x3 (fun r3 => ((¬ r3 = 0 → ((0 ≤ x5 → vp_in x1 4 ∧ (((rA S 40 x1) < 0 → w9_copy_b45 S Q) ∧ (¬ (rA S 40 x1) < 0 → vp_in x3 4 ∧ ((0 ≤ (rA S 40 x3) → ((x2 < 0 → w9_copy_b95 S Q) ∧ (¬ x2 < 0 → ((x4 < 0 → w9_copy_b95 S Q) ∧ (¬ x4 < 0 → ((0 < (lg_cmp (x2.toInt64 + x5.toInt64) (rA S 40 x1).toInt64) → w9_copy_b95 S Q) ∧ (¬ 0 < (lg_cmp (x2.toInt64 + x5.toInt64) (rA S 40 x1).toInt64) → (((lg_cmp (x4.toInt64 + x5.toInt64) (rA S 40 x3).toInt64) ≤ 0 → w9_copy_b104 x1 x2 x3 x4 x5 (0 : Int32) S Q) ∧ (¬ (lg_cmp (x4.toInt64 + x5.toInt64) (rA S 40 x3).toInt64) ≤ 0 → w9_copy_b95 S Q))))))))) ∧ (¬ 0 ≤ (rA S 40 x3) → w9_copy_b45 S Q))))) ∧ (¬ 0 ≤ x5 → w9_meets (5 : Int32) S (fun r14 S15 => Q r14 S15)))) ∧ (r3 = 0 → w9_copy_b14 S Q))))))
set_option maxHeartbeats 4000000 in
set_option maxRecDepth 100000 in
theorem c9_copy (l : Launch) (D : va_G) (cy : Nat → ClassId)  (o : Nat) (q : Nat → Nat) (x1 : Int32) (x2 : Int32) (x3 : Int32) (x4 : Int32) (x5 : Int32) (S : MS) (Q : Int32 → MS → Prop) (h : w9_copy x1 x2 x3 x4 x5 S Q) : MetI l yX9_copy wsX9_copy ({ frames := 2, cells := 0, slots := 0, locals := 42 } : Room) D cy nestWs (w9 o q cy) [.ref o, .int x1, .int x2, .int x3, .int x4, .int x5] S Q := by
  refine MetI.mk RX9 cX9_copy 7 .int (by decide) rfl nestWs_ok rfl (Nat.le_of_ble_eq_true rfl) ?_
  intro p e s m below meth c A ls C hG hl
  have hl : lv_has ls 7 [(0, .ref o), (1, .int x1), (2, .int x2), (3, .int x3), (4, .int x4), (5, .int x5)] := hl
  have hx := C.1
  have hb := C.2.1
  unfold w9_copy at h
  refine lv_iload_n hx hb dX9_copy_0 rfl (lv_at hl 1 rfl) ?_
  refine callSI (As := [.int x1]) (rest := []) C hG (c9_isRow l D cy x1 _ h) 1 gX9_copy_X9_isRow rfl (by decide +kernel) ⟨⟨Nat.le_of_ble_eq_true rfl, Nat.le_of_ble_eq_true rfl⟩, rfl, rfl⟩ (Foc.none C.2.2.2.2.2.2.2.2.1) rfl hl.1 rfl (Nat.le_of_ble_eq_true rfl) dX9_copy_1 ⟨Nat.zero_le _, Nat.zero_le _⟩ (fun r1 z H locs h hG => ?_)
  refine lv_if_eq (tgt := 14) hx hb dX9_copy_4 (by decide) (fun c2 => ?_) (fun c2 => ?_)
  · replace h := h.1 c2
    exact b9_copy_b14 S C h hG (lv_sub hl [0] rfl)
  · replace h := h.2 c2
    refine lv_iload_n hx hb dX9_copy_7 rfl (lv_at hl 3 rfl) ?_
    refine callSI (As := [.int x3]) (rest := []) C hG (c9_isRow l D cy x3 _ h) 1 gX9_copy_X9_isRow rfl (by decide +kernel) ⟨⟨Nat.le_of_ble_eq_true rfl, Nat.le_of_ble_eq_true rfl⟩, rfl, rfl⟩ (Foc.none C.2.2.2.2.2.2.2.2.1) rfl hl.1 rfl (Nat.le_of_ble_eq_true rfl) dX9_copy_8 ⟨Nat.zero_le _, Nat.zero_le _⟩ (fun r3 z H locs h hG => ?_)
    refine lv_if_ne (tgt := 16) hx hb dX9_copy_11 (by decide) (fun c4 => ?_) (fun c4 => ?_)
    · replace h := h.1 c4
      refine lv_iload hx hb dX9_copy_16 (lv_at hl 5 rfl) ?_
      refine lv_if_ge (tgt := 27) hx hb dX9_copy_18 (by decide) (fun c5 => ?_) (fun c5 => ?_)
      · replace h := h.1 c5
        refine lv_aload_n hx hb dX9_copy_27 rfl (lv_at hl 0 rfl) ?_
        refine x9g_40 C i9_copy_X9 k9_copy_104 hG dX9_copy_28 ?_
        refine lv_iload_n hx hb dX9_copy_31 rfl (lv_at hl 1 rfl) ?_
        obtain ⟨hv6, h⟩ := h
        refine x9l_40 C hG hv6 dX9_copy_32 ?_
        refine lv_if_lt (tgt := 45) hx hb dX9_copy_33 (by decide) (fun c7 => ?_) (fun c7 => ?_)
        · replace h := h.1 c7
          exact b9_copy_b45 S C h hG (lv_sub hl [0] rfl)
        · replace h := h.2 c7
          refine lv_aload_n hx hb dX9_copy_36 rfl (lv_at hl 0 rfl) ?_
          refine x9g_40 C i9_copy_X9 k9_copy_104 hG dX9_copy_37 ?_
          refine lv_iload_n hx hb dX9_copy_40 rfl (lv_at hl 3 rfl) ?_
          obtain ⟨hv8, h⟩ := h
          refine x9l_40 C hG hv8 dX9_copy_41 ?_
          refine lv_if_ge (tgt := 51) hx hb dX9_copy_42 (by decide) (fun c9 => ?_) (fun c9 => ?_)
          · replace h := h.1 c9
            refine lv_iload_n hx hb dX9_copy_51 rfl (lv_at hl 2 rfl) ?_
            refine lv_if_lt (tgt := 95) hx hb dX9_copy_52 (by decide) (fun c10 => ?_) (fun c10 => ?_)
            · replace h := h.1 c10
              exact b9_copy_b95 S C h hG (lv_sub hl [0] rfl)
            · replace h := h.2 c10
              refine lv_iload hx hb dX9_copy_55 (lv_at hl 4 rfl) ?_
              refine lv_if_lt (tgt := 95) hx hb dX9_copy_57 (by decide) (fun c11 => ?_) (fun c11 => ?_)
              · replace h := h.1 c11
                exact b9_copy_b95 S C h hG (lv_sub hl [0] rfl)
              · replace h := h.2 c11
                refine lv_iload_n hx hb dX9_copy_60 rfl (lv_at hl 2 rfl) ?_
                refine lv_i2l hx hb dX9_copy_61 rfl ?_
                refine lv_iload hx hb dX9_copy_62 (lv_at hl 5 rfl) ?_
                refine lv_i2l hx hb dX9_copy_64 rfl ?_
                refine lv_ladd hx hb dX9_copy_65 ?_
                refine lv_aload_n hx hb dX9_copy_66 rfl (lv_at hl 0 rfl) ?_
                refine x9g_40 C i9_copy_X9 k9_copy_104 hG dX9_copy_67 ?_
                refine lv_iload_n hx hb dX9_copy_70 rfl (lv_at hl 1 rfl) ?_
                refine x9l_40 C hG hv6 dX9_copy_71 ?_
                refine lv_i2l hx hb dX9_copy_72 rfl ?_
                refine W.lcmp hx hb dX9_copy_73 ?_
                refine lv_if_gt (tgt := 95) hx hb dX9_copy_74 (by decide) (fun c12 => ?_) (fun c12 => ?_)
                · replace h := h.1 c12
                  exact b9_copy_b95 S C h hG (lv_sub hl [0] rfl)
                · replace h := h.2 c12
                  refine lv_iload hx hb dX9_copy_77 (lv_at hl 4 rfl) ?_
                  refine lv_i2l hx hb dX9_copy_79 rfl ?_
                  refine lv_iload hx hb dX9_copy_80 (lv_at hl 5 rfl) ?_
                  refine lv_i2l hx hb dX9_copy_82 rfl ?_
                  refine lv_ladd hx hb dX9_copy_83 ?_
                  refine lv_aload_n hx hb dX9_copy_84 rfl (lv_at hl 0 rfl) ?_
                  refine x9g_40 C i9_copy_X9 k9_copy_104 hG dX9_copy_85 ?_
                  refine lv_iload_n hx hb dX9_copy_88 rfl (lv_at hl 3 rfl) ?_
                  refine x9l_40 C hG hv8 dX9_copy_89 ?_
                  refine lv_i2l hx hb dX9_copy_90 rfl ?_
                  refine W.lcmp hx hb dX9_copy_91 ?_
                  refine lv_if_le (tgt := 101) hx hb dX9_copy_92 (by decide) (fun c13 => ?_) (fun c13 => ?_)
                  · replace h := h.1 c13
                    refine lv_iconst (v := 0) hx hb dX9_copy_101 (by decide) ?_
                    refine lv_istore (lv' := [(6, .int (0 : Int32)), (0, .ref o), (1, .int x1), (2, .int x2), (3, .int x3), (4, .int x4), (5, .int x5)]) hx hb dX9_copy_102 hl (by decide) rfl (fun ls hl => ?_)
                    exact b9_copy_b104 x1 x2 x3 x4 x5 (0 : Int32) S C h hG (lv_sub hl [1, 2, 3, 4, 5, 6, 0] rfl)
                  · replace h := h.2 c13
                    exact b9_copy_b95 S C h hG (lv_sub hl [0] rfl)
          · replace h := h.2 c9
            exact b9_copy_b45 S C h hG (lv_sub hl [0] rfl)
      · replace h := h.2 c5
        refine lv_aload_n hx hb dX9_copy_21 rfl (lv_at hl 0 rfl) ?_
        refine lv_iconst (v := 5) hx hb dX9_copy_22 (by decide) ?_
        refine callVI (As := [.int (5 : Int32)]) (rest := []) C hG (c9_meets l D cy o q (5 : Int32) S _ h) 1 gX9_copy_X9_meets rfl (by decide +kernel) ⟨⟨Nat.le_of_ble_eq_true rfl, Nat.le_of_ble_eq_true rfl⟩, rfl, rfl⟩ rfl rfl (Foc.all C.2.2.2.2.2.2.2.2.1) rfl hl.1 rfl (Nat.le_of_ble_eq_true rfl) dX9_copy_23 ⟨Nat.zero_le _, Nat.zero_le _⟩ (fun r14 S15 H locs h hG => ?_)
        have hG : GW D A s (w9 o q cy S15) H locs := hG
        exact retI (w := (w9 o q cy)) (S := S15) C hG h dX9_copy_26
    · replace h := h.2 c4
      exact b9_copy_b14 S C h hG (lv_sub hl [0] rfl)
-- X9_meanRow
theorem i9_meanRow_X9 : ∀ w ∈ wsX90, w ∈ wsX9_meanRow := fun w h => List.mem_cons_of_mem _ (inG_X9 w h)
theorem k9_meanRow_104 : Cond.fieldLink RX9 104 "PaperBodiesModel" "sizes" "[I" ∈ wsX9_meanRow := (List.mem_cons_of_mem _ mw_568)
theorem k9_meanRow_107 : Cond.fieldLink RX9 107 "PaperBodiesModel" "rows" "[I" ∈ wsX9_meanRow := (List.mem_cons_of_mem _ mw_569)
def w9_meanRow_b81 (t0 : Int32) (S : MS) (Q : Int32 → MS → Prop) : Prop :=
  Q t0 S
set_option maxHeartbeats 4000000 in
set_option maxRecDepth 100000 in
theorem b9_meanRow_b81 {p : Program} {l : Launch} {e : Env} {s : State} {m : MethodId} {args : Array Value} {below : List Frame} {meth : Method} {c : Code} {D : va_G} {cy : Nat → ClassId} {A : Nat → Prop} {o : Nat} {q : Nat → Nat} (t0 : Int32) (S : MS) {Q : Int32 → MS → Prop} (C : Cx p s m args meth c cX9_meanRow 6 (some .int) wsX9_meanRow RX9 D cy nestWs A) (h : w9_meanRow_b81 t0 S Q) {H : Heap} {locs : List Loc} (hG : GW D A s (w9 o q cy S) H locs) {ls : Array Slot} (hl : lv_has ls 6 [(0, .ref o)]) : W p l e ({ frames := 3, cells := 0, slots := 0, locals := 63 } : Room) s m args below meth c H locs 0 0 (MQ below (va_Qi Q (B1 D (w9 o q cy) A) A) args s 0 0 A) (F0 m 81 ls [.int t0]) := by
  have hx := C.1
  have hb := C.2.1
  unfold w9_meanRow_b81 at h
  exact retI (w := (w9 o q cy)) (S := S) C hG h dX9_meanRow_81
def w9_meanRow_d17 (K17 : Int64 → Int32 → Prop) (x1 : Int32) (x3 : Int64) (x5 : Int32) (S : MS) (Q : Int32 → MS → Prop) : Prop :=
  vp_in x1 4 ∧ (((rA S 40 x1) ≤ x5 → ((¬ (rA S 40 x1) = 0 → ¬ (rA S 40 x1).toInt64 = 0 ∧ w9_ask (x3 / (rA S 40 x1).toInt64) (1 : Int32) S (fun r5 S6 => w9_meanRow_b81 r5 S6 Q)) ∧ ((rA S 40 x1) = 0 → w9_meets (4 : Int32) S (fun r7 S8 => w9_meanRow_b81 r7 S8 Q)))) ∧ (¬ (rA S 40 x1) ≤ x5 → vp_in (((24 : Int32) * x1) + x5) 96 ∧ ∀ y10 : Int64, y10 = (x3 + (rA S 41 (((24 : Int32) * x1) + x5)).toInt64) → ∀ y11 : Int32, y11 = x5 + 1 → K17 y10 y11))
set_option maxHeartbeats 4000000 in
set_option maxRecDepth 100000 in
theorem b9_meanRow_d17 {p : Program} {l : Launch} {e : Env} {s : State} {m : MethodId} {args : Array Value} {below : List Frame} {meth : Method} {c : Code} {D : va_G} {cy : Nat → ClassId} {A : Nat → Prop} {o : Nat} {q : Nat → Nat} {K17 : Int64 → Int32 → Prop} (x1 : Int32) (x3 : Int64) (x5 : Int32) (S : MS) {Q : Int32 → MS → Prop} (C : Cx p s m args meth c cX9_meanRow 6 (some .int) wsX9_meanRow RX9 D cy nestWs A) (hK17 : ∀ (x3 : Int64) (x5 : Int32) (H : Heap) (locs : List Loc) (ls : Array Slot), K17 x3 x5 → GW D A s (w9 o q cy S) H locs → lv_has ls 6 [(0, .ref o), (1, .int x1), (3, .long x3), (5, .int x5)] → W p l e ({ frames := 3, cells := 0, slots := 0, locals := 63 } : Room) s m args below meth c H locs 0 0 (MQ below (va_Qi Q (B1 D (w9 o q cy) A) A) args s 0 0 A) (F0 m 17 ls [])) (h : w9_meanRow_d17 K17 x1 x3 x5 S Q) {H : Heap} {locs : List Loc} (hG : GW D A s (w9 o q cy S) H locs) {ls : Array Slot} (hl : lv_has ls 6 [(0, .ref o), (1, .int x1), (3, .long x3), (5, .int x5)]) : W p l e ({ frames := 3, cells := 0, slots := 0, locals := 63 } : Room) s m args below meth c H locs 0 0 (MQ below (va_Qi Q (B1 D (w9 o q cy) A) A) args s 0 0 A) (F0 m 17 ls []) := by
  have hx := C.1
  have hb := C.2.1
  unfold w9_meanRow_d17 at h
  refine lv_iload hx hb dX9_meanRow_17 (lv_at hl 3 rfl) ?_
  refine lv_aload_n hx hb dX9_meanRow_19 rfl (lv_at hl 0 rfl) ?_
  refine x9g_40 C i9_meanRow_X9 k9_meanRow_104 hG dX9_meanRow_20 ?_
  refine lv_iload_n hx hb dX9_meanRow_23 rfl (lv_at hl 1 rfl) ?_
  obtain ⟨hv1, h⟩ := h
  refine x9l_40 C hG hv1 dX9_meanRow_24 ?_
  refine lv_icmp_ge (tgt := 50) hx hb dX9_meanRow_25 (by decide) (fun c2 => ?_) (fun c2 => ?_)
  · replace h := h.1 c2
    refine lv_aload_n hx hb dX9_meanRow_50 rfl (lv_at hl 0 rfl) ?_
    refine x9g_40 C i9_meanRow_X9 k9_meanRow_104 hG dX9_meanRow_51 ?_
    refine lv_iload_n hx hb dX9_meanRow_54 rfl (lv_at hl 1 rfl) ?_
    refine x9l_40 C hG hv1 dX9_meanRow_55 ?_
    refine lv_if_ne (tgt := 67) hx hb dX9_meanRow_56 (by decide) (fun c3 => ?_) (fun c3 => ?_)
    · replace h := h.1 c3
      refine lv_aload_n hx hb dX9_meanRow_67 rfl (lv_at hl 0 rfl) ?_
      refine lv_lload_n hx hb dX9_meanRow_68 rfl (lv_at hl 2 rfl) ?_
      refine lv_aload_n hx hb dX9_meanRow_69 rfl (lv_at hl 0 rfl) ?_
      refine x9g_40 C i9_meanRow_X9 k9_meanRow_104 hG dX9_meanRow_70 ?_
      refine lv_iload_n hx hb dX9_meanRow_73 rfl (lv_at hl 1 rfl) ?_
      refine x9l_40 C hG hv1 dX9_meanRow_74 ?_
      refine lv_i2l hx hb dX9_meanRow_75 rfl ?_
      obtain ⟨hz4, h⟩ := h
      refine lv_ldiv hx hb dX9_meanRow_76 hz4 ?_
      refine lv_iconst (v := 1) hx hb dX9_meanRow_77 (by decide) ?_
      refine callVI (As := [.long (x3 / (rA S 40 x1).toInt64), .int (1 : Int32)]) (rest := []) C hG (c9_ask l D cy o q (x3 / (rA S 40 x1).toInt64) (1 : Int32) S _ h) 2 gX9_meanRow_X9_ask rfl (by decide +kernel) ⟨⟨Nat.le_of_ble_eq_true rfl, Nat.le_of_ble_eq_true rfl⟩, rfl, rfl⟩ rfl rfl (Foc.all C.2.2.2.2.2.2.2.2.1) rfl hl.1 rfl (Nat.le_of_ble_eq_true rfl) dX9_meanRow_78 ⟨Nat.zero_le _, Nat.zero_le _⟩ (fun r5 S6 H locs h hG => ?_)
      have hG : GW D A s (w9 o q cy S6) H locs := hG
      exact b9_meanRow_b81 r5 S6 C h hG (lv_sub hl [0] rfl)
    · replace h := h.2 c3
      refine lv_aload_n hx hb dX9_meanRow_59 rfl (lv_at hl 0 rfl) ?_
      refine lv_iconst (v := 4) hx hb dX9_meanRow_60 (by decide) ?_
      refine callVI (As := [.int (4 : Int32)]) (rest := []) C hG (c9_meets l D cy o q (4 : Int32) S _ h) 1 gX9_meanRow_X9_meets rfl (by decide +kernel) ⟨⟨Nat.le_of_ble_eq_true rfl, Nat.le_of_ble_eq_true rfl⟩, rfl, rfl⟩ rfl rfl (Foc.all C.2.2.2.2.2.2.2.2.1) rfl hl.1 rfl (Nat.le_of_ble_eq_true rfl) dX9_meanRow_61 ⟨Nat.zero_le _, Nat.zero_le _⟩ (fun r7 S8 H locs h hG => ?_)
      have hG : GW D A s (w9 o q cy S8) H locs := hG
      refine lv_goto (tgt := 81) hx hb dX9_meanRow_64 (by decide) ?_
      exact b9_meanRow_b81 r7 S8 C h hG (lv_sub hl [0] rfl)
  · replace h := h.2 c2
    refine lv_lload_n hx hb dX9_meanRow_28 rfl (lv_at hl 2 rfl) ?_
    refine lv_aload_n hx hb dX9_meanRow_29 rfl (lv_at hl 0 rfl) ?_
    refine x9g_41 C i9_meanRow_X9 k9_meanRow_107 hG dX9_meanRow_30 ?_
    refine lv_bipush (v := 24) hx hb dX9_meanRow_33 (by decide) ?_
    refine lv_iload_n hx hb dX9_meanRow_35 rfl (lv_at hl 1 rfl) ?_
    refine lv_imul hx hb dX9_meanRow_36 ?_
    refine lv_iload hx hb dX9_meanRow_37 (lv_at hl 3 rfl) ?_
    refine lv_iadd hx hb dX9_meanRow_39 ?_
    obtain ⟨hv9, h⟩ := h
    refine x9l_41 C hG hv9 dX9_meanRow_40 ?_
    refine lv_i2l hx hb dX9_meanRow_41 rfl ?_
    refine lv_ladd hx hb dX9_meanRow_42 ?_
    refine lv_topl (fun y10 ey10 => ?_)
    replace h := h y10 ey10
    refine lv_lstore_n (lv' := [(3, .long y10), (0, .ref o), (1, .int x1), (5, .int x5)]) hx hb dX9_meanRow_43 rfl hl (by decide) rfl (fun ls hl => ?_)
    obtain ⟨y11, ey11⟩ : ∃ y : Int32, y = x5 + 1 := ⟨_, rfl⟩
    replace h := h y11 ey11
    refine lv_iinc (v := y11) (lv' := [(5, .int y11), (3, .long y10), (0, .ref o), (1, .int x1)]) hx hb dX9_meanRow_44 hl (k := 3) rfl (by rw [ey11]; rfl) (by decide) rfl (fun ls hl => ?_)
    refine lv_goto (tgt := 17) hx hb dX9_meanRow_47 (by decide) ?_
    exact hK17 y10 y11 _ _ _ h hG (lv_sub hl [2, 3, 1, 0] rfl)
def w9_meanRow_F17 (x1 : Int32) (S : MS) (Q : Int32 → MS → Prop) (K : Int64 × Int32 → Prop) (a : Int64 × Int32) : Prop := w9_meanRow_d17 (fun y0 y1 => K (y0, y1)) x1 a.1 a.2 S Q
def w9_meanRow_b17 (x1 : Int32) (x3 : Int64) (x5 : Int32) (S : MS) (Q : Int32 → MS → Prop) : Prop := lp (w9_meanRow_F17 x1 S Q) (x3, x5)
set_option maxHeartbeats 4000000 in
set_option maxRecDepth 100000 in
theorem b9_meanRow_b17 {p : Program} {l : Launch} {e : Env} {s : State} {m : MethodId} {args : Array Value} {below : List Frame} {meth : Method} {c : Code} {D : va_G} {cy : Nat → ClassId} {A : Nat → Prop} {o : Nat} {q : Nat → Nat} (x1 : Int32) (x3 : Int64) (x5 : Int32) (S : MS) {Q : Int32 → MS → Prop} (C : Cx p s m args meth c cX9_meanRow 6 (some .int) wsX9_meanRow RX9 D cy nestWs A) (h : w9_meanRow_b17 x1 x3 x5 S Q) {H : Heap} {locs : List Loc} (hG : GW D A s (w9 o q cy S) H locs) {ls : Array Slot} (hl : lv_has ls 6 [(0, .ref o), (1, .int x1), (3, .long x3), (5, .int x5)]) : W p l e ({ frames := 3, cells := 0, slots := 0, locals := 63 } : Room) s m args below meth c H locs 0 0 (MQ below (va_Qi Q (B1 D (w9 o q cy) A) A) args s 0 0 A) (F0 m 17 ls []) := by
  obtain ⟨k, hn⟩ := h
  induction k generalizing x3 x5 H locs ls with
  | zero => exact hn.elim
  | succ k ih => exact b9_meanRow_d17 (K17 := fun y0 y1 => itr (w9_meanRow_F17 x1 S Q) k (y0, y1)) x1 x3 x5 S C (fun x3 x5 H locs ls hk hG hl => ih x3 x5 hG hl hk) hn hG hl
def w9_meanRow (x1 : Int32) (S : MS) (Q : Int32 → MS → Prop) : Prop :=
  w9_askedRow x1 S (fun r1 S2 => ((0 ≤ r1 → w9_meanRow_b17 x1 (0 : Int64) (0 : Int32) S2 Q) ∧ (¬ 0 ≤ r1 → Q r1 S2)))
set_option maxHeartbeats 4000000 in
set_option maxRecDepth 100000 in
theorem c9_meanRow (l : Launch) (D : va_G) (cy : Nat → ClassId)  (o : Nat) (q : Nat → Nat) (x1 : Int32) (S : MS) (Q : Int32 → MS → Prop) (h : w9_meanRow x1 S Q) : MetI l yX9_meanRow wsX9_meanRow ({ frames := 3, cells := 0, slots := 0, locals := 63 } : Room) D cy nestWs (w9 o q cy) [.ref o, .int x1] S Q := by
  refine MetI.mk RX9 cX9_meanRow 6 .int (by decide) rfl nestWs_ok rfl (Nat.le_of_ble_eq_true rfl) ?_
  intro p e s m below meth c A ls C hG hl
  have hl : lv_has ls 6 [(0, .ref o), (1, .int x1)] := hl
  have hx := C.1
  have hb := C.2.1
  unfold w9_meanRow at h
  refine lv_aload_n hx hb dX9_meanRow_0 rfl (lv_at hl 0 rfl) ?_
  refine lv_iload_n hx hb dX9_meanRow_1 rfl (lv_at hl 1 rfl) ?_
  refine callVI (As := [.int x1]) (rest := []) C hG (c9_askedRow l D cy o q x1 S _ h) 1 gX9_meanRow_X9_askedRow rfl (by decide +kernel) ⟨⟨Nat.le_of_ble_eq_true rfl, Nat.le_of_ble_eq_true rfl⟩, rfl, rfl⟩ rfl rfl (Foc.all C.2.2.2.2.2.2.2.2.1) rfl hl.1 rfl (Nat.le_of_ble_eq_true rfl) dX9_meanRow_2 ⟨Nat.zero_le _, Nat.zero_le _⟩ (fun r1 S2 H locs h hG => ?_)
  have hG : GW D A s (w9 o q cy S2) H locs := hG
  refine lv_istore_n (lv' := [(2, .int r1), (0, .ref o), (1, .int x1)]) hx hb dX9_meanRow_5 rfl hl (by decide) rfl (fun ls hl => ?_)
  refine lv_iload_n hx hb dX9_meanRow_6 rfl (lv_at hl 0 rfl) ?_
  refine lv_if_ge (tgt := 12) hx hb dX9_meanRow_7 (by decide) (fun c3 => ?_) (fun c3 => ?_)
  · replace h := h.1 c3
    refine lv_lconst (v := 0) hx hb dX9_meanRow_12 (by decide) ?_
    refine lv_lstore_n (lv' := [(3, .long (0 : Int64)), (2, .int r1), (0, .ref o), (1, .int x1)]) hx hb dX9_meanRow_13 rfl hl (by decide) rfl (fun ls hl => ?_)
    refine lv_iconst (v := 0) hx hb dX9_meanRow_14 (by decide) ?_
    refine lv_istore (lv' := [(5, .int (0 : Int32)), (3, .long (0 : Int64)), (2, .int r1), (0, .ref o), (1, .int x1)]) hx hb dX9_meanRow_15 hl (by decide) rfl (fun ls hl => ?_)
    exact b9_meanRow_b17 x1 (0 : Int64) (0 : Int32) S2 C h hG (lv_sub hl [3, 4, 1, 0] rfl)
  · replace h := h.2 c3
    refine lv_iload_n hx hb dX9_meanRow_10 rfl (lv_at hl 0 rfl) ?_
    exact retI (w := (w9 o q cy)) (S := S2) C hG h dX9_meanRow_11
-- X9_asked
theorem i9_asked_X9 : ∀ w ∈ wsX90, w ∈ wsX9_asked := fun w h => List.mem_cons_of_mem _ (inG_X9 w h)
theorem k9_asked_117 : Cond.fieldLink RX9 117 "PaperBodiesModel" "asked" "J" ∈ wsX9_asked := (List.mem_cons_of_mem _ mw_576)
def w9_asked (S : MS) (Q : Int64 → Prop) : Prop :=
  Q (fJ S 2)
set_option maxHeartbeats 4000000 in
set_option maxRecDepth 100000 in
theorem c9_asked (l : Launch) (D : va_G) (cy : Nat → ClassId)  (o : Nat) (q : Nat → Nat) (S : MS) (Q : Int64 → Prop) (h : w9_asked S Q) : MetL l yX9_asked wsX9_asked ({ frames := 0, cells := 0, slots := 0, locals := 0 } : Room) D cy nestWs (w9 o q cy) [.ref o] S (fun r z => z = S ∧ Q r ) := by
  refine MetL.mk RX9 cX9_asked 1 (by decide) rfl nestWs_ok rfl (Nat.le_of_ble_eq_true rfl) ?_
  intro p e s m below meth c A ls C hG hl
  have hl : lv_has ls 1 [(0, .ref o)] := hl
  have hx := C.1
  have hb := C.2.1
  unfold w9_asked at h
  refine lv_aload_n hx hb dX9_asked_0 rfl (lv_at hl 0 rfl) ?_
  refine x9g_2 C i9_asked_X9 k9_asked_117 hG dX9_asked_1 ?_
  exact retL (w := (w9 o q cy)) (S := S) C hG ⟨rfl, h⟩ dX9_asked_4
