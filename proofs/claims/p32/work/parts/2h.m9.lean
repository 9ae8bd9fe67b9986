-- X9_isLegal
theorem i9_isLegal_X9 : ∀ w ∈ wsX90, w ∈ wsX9_isLegal := fun w h => List.mem_cons_of_mem _ (inG_X9 w h)
theorem k9_isLegal_77 : Cond.fieldLink RX9 77 "PaperBodiesModel" "angles" "[I" ∈ wsX9_isLegal := (List.mem_cons_of_mem _ mw_559)
theorem k9_isLegal_80 : Cond.fieldLink RX9 80 "PaperBodiesModel" "partner" "[I" ∈ wsX9_isLegal := (List.mem_cons_of_mem _ mw_560)
theorem k9_isLegal_83 : Cond.fieldLink RX9 83 "PaperBodiesModel" "together" "[I" ∈ wsX9_isLegal := (List.mem_cons_of_mem _ mw_561)
theorem k9_isLegal_86 : Cond.fieldLink RX9 86 "PaperBodiesModel" "corner" "[I" ∈ wsX9_isLegal := (List.mem_cons_of_mem _ mw_562)
theorem k9_isLegal_273 : Cond.fieldLink RX9 273 "PaperBodiesModel" "edges" "I" ∈ wsX9_isLegal := (List.mem_cons_of_mem _ mw_746)
theorem k9_isLegal_285 : Cond.fieldLink RX9 285 "PaperBodiesModel" "cornerCount" "I" ∈ wsX9_isLegal := (List.mem_cons_of_mem _ mw_759)
def w9_isLegal_b217 (K110 : Int32 → Int32 → MS → Prop) (x2 : Int32) (x3 : Int32) (t1 : Int32) (S : MS) (Q : Int32 → MS → Prop) : Prop :=
  vp_in t1 5 ∧ ∀ S2 : MS, S2 = sA S 31 t1 ((rA S 31 t1) + (1 : Int32)) → ∀ y3 : Int32, y3 = x3 + 1 → K110 x2 y3 S2
set_option maxHeartbeats 4000000 in
set_option maxRecDepth 100000 in
theorem b9_isLegal_b217 {p : Program} {l : Launch} {e : Env} {s : State} {m : MethodId} {args : Array Value} {below : List Frame} {meth : Method} {c : Code} {D : va_G} {cy : Nat → ClassId} {A : Nat → Prop} {o : Nat} {q : Nat → Nat} {K110 : Int32 → Int32 → MS → Prop} (x2 : Int32) (x3 : Int32) (t1 : Int32) (S : MS) {Q : Int32 → MS → Prop} (C : Cx p s m args meth c cX9_isLegal 6 (some .boolean) wsX9_isLegal RX9 D cy nestWs A) (hK110 : ∀ (x2 : Int32) (x3 : Int32) (S : MS) (H : Heap) (locs : List Loc) (ls : Array Slot), K110 x2 x3 S → GW D A s (w9 o q cy S) H locs → lv_has ls 6 [(0, .ref o), (2, .int x2), (3, .int x3)] → W p l e ({ frames := 1, cells := 0, slots := 0, locals := 24 } : Room) s m args below meth c H locs 0 0 (MQ below (va_Qi Q (B1 D (w9 o q cy) A) A) args s 0 0 A) (F0 m 110 ls [])) (h : w9_isLegal_b217 K110 x2 x3 t1 S Q) {H : Heap} {locs : List Loc} (hG : GW D A s (w9 o q cy S) H locs) {ls : Array Slot} (hl : lv_has ls 6 [(0, .ref o), (2, .int x2), (3, .int x3)]) : W p l e ({ frames := 1, cells := 0, slots := 0, locals := 24 } : Room) s m args below meth c H locs 0 0 (MQ below (va_Qi Q (B1 D (w9 o q cy) A) A) args s 0 0 A) (F0 m 217 ls [.int t1, .ref (q 31)]) := by
  have hx := C.1
  have hb := C.2.1
  unfold w9_isLegal_b217 at h
  refine lv_dup2_11 hx hb dX9_isLegal_217 rfl rfl ?_
  obtain ⟨hv1, h⟩ := h
  refine x9l_31 C hG hv1 dX9_isLegal_218 ?_
  refine lv_iconst (v := 1) hx hb dX9_isLegal_219 (by decide) ?_
  refine lv_iadd hx hb dX9_isLegal_220 ?_
  refine x9s_31 C hG hv1 dX9_isLegal_221 (fun S2 eS2 H locs hG => ?_)
  replace h := h S2 eS2
  obtain ⟨y3, ey3⟩ : ∃ y : Int32, y = x3 + 1 := ⟨_, rfl⟩
  replace h := h y3 ey3
  refine lv_iinc (v := y3) (lv' := [(3, .int y3), (0, .ref o), (2, .int x2)]) hx hb dX9_isLegal_222 hl (k := 2) rfl (by rw [ey3]; rfl) (by decide) rfl (fun ls hl => ?_)
  refine lv_goto (tgt := 110) hx hb dX9_isLegal_225 (by decide) ?_
  exact hK110 x2 y3 S2 _ _ _ h hG (lv_sub hl [1, 2, 0] rfl)
def w9_isLegal_b200 (K110 : Int32 → Int32 → MS → Prop) (x3 : Int32) (x4 : Int32) (t0 : Int32) (S : MS) (Q : Int32 → MS → Prop) : Prop :=
  ((x4 ≤ (4 : Int32) → w9_isLegal_b217 K110 t0 x3 x4 S Q) ∧ (¬ x4 ≤ (4 : Int32) → w9_isLegal_b217 K110 t0 x3 (0 : Int32) S Q))
set_option maxHeartbeats 4000000 in
set_option maxRecDepth 100000 in
theorem b9_isLegal_b200 {p : Program} {l : Launch} {e : Env} {s : State} {m : MethodId} {args : Array Value} {below : List Frame} {meth : Method} {c : Code} {D : va_G} {cy : Nat → ClassId} {A : Nat → Prop} {o : Nat} {q : Nat → Nat} {K110 : Int32 → Int32 → MS → Prop} (x3 : Int32) (x4 : Int32) (t0 : Int32) (S : MS) {Q : Int32 → MS → Prop} (C : Cx p s m args meth c cX9_isLegal 6 (some .boolean) wsX9_isLegal RX9 D cy nestWs A) (hK110 : ∀ (x2 : Int32) (x3 : Int32) (S : MS) (H : Heap) (locs : List Loc) (ls : Array Slot), K110 x2 x3 S → GW D A s (w9 o q cy S) H locs → lv_has ls 6 [(0, .ref o), (2, .int x2), (3, .int x3)] → W p l e ({ frames := 1, cells := 0, slots := 0, locals := 24 } : Room) s m args below meth c H locs 0 0 (MQ below (va_Qi Q (B1 D (w9 o q cy) A) A) args s 0 0 A) (F0 m 110 ls [])) (h : w9_isLegal_b200 K110 x3 x4 t0 S Q) {H : Heap} {locs : List Loc} (hG : GW D A s (w9 o q cy S) H locs) {ls : Array Slot} (hl : lv_has ls 6 [(0, .ref o), (3, .int x3), (4, .int x4)]) : W p l e ({ frames := 1, cells := 0, slots := 0, locals := 24 } : Room) s m args below meth c H locs 0 0 (MQ below (va_Qi Q (B1 D (w9 o q cy) A) A) args s 0 0 A) (F0 m 200 ls [.int t0]) := by
  have hx := C.1
  have hb := C.2.1
  unfold w9_isLegal_b200 at h
  refine lv_istore_n (lv' := [(2, .int t0), (0, .ref o), (3, .int x3), (4, .int x4)]) hx hb dX9_isLegal_200 rfl hl (by decide) rfl (fun ls hl => ?_)
  refine lv_aload_n hx hb dX9_isLegal_201 rfl (lv_at hl 1 rfl) ?_
  refine x9g_31 C i9_isLegal_X9 k9_isLegal_86 hG dX9_isLegal_202 ?_
  refine lv_iload hx hb dX9_isLegal_205 (lv_at hl 3 rfl) ?_
  refine lv_iconst (v := 4) hx hb dX9_isLegal_207 (by decide) ?_
  refine lv_icmp_le (tgt := 215) hx hb dX9_isLegal_208 (by decide) (fun c1 => ?_) (fun c1 => ?_)
  · replace h := h.1 c1
    refine lv_iload hx hb dX9_isLegal_215 (lv_at hl 3 rfl) ?_
    exact b9_isLegal_b217 (K110 := K110) t0 x3 x4 S C hK110 h hG (lv_sub hl [1, 0, 2] rfl)
  · replace h := h.2 c1
    refine lv_iconst (v := 0) hx hb dX9_isLegal_211 (by decide) ?_
    refine lv_goto (tgt := 217) hx hb dX9_isLegal_212 (by decide) ?_
    exact b9_isLegal_b217 (K110 := K110) t0 x3 (0 : Int32) S C hK110 h hG (lv_sub hl [1, 0, 2] rfl)
def w9_isLegal_b199 (K110 : Int32 → Int32 → MS → Prop) (x3 : Int32) (x4 : Int32) (S : MS) (Q : Int32 → MS → Prop) : Prop :=
  w9_isLegal_b200 K110 x3 x4 (0 : Int32) S Q
set_option maxHeartbeats 4000000 in
set_option maxRecDepth 100000 in
theorem b9_isLegal_b199 {p : Program} {l : Launch} {e : Env} {s : State} {m : MethodId} {args : Array Value} {below : List Frame} {meth : Method} {c : Code} {D : va_G} {cy : Nat → ClassId} {A : Nat → Prop} {o : Nat} {q : Nat → Nat} {K110 : Int32 → Int32 → MS → Prop} (x3 : Int32) (x4 : Int32) (S : MS) {Q : Int32 → MS → Prop} (C : Cx p s m args meth c cX9_isLegal 6 (some .boolean) wsX9_isLegal RX9 D cy nestWs A) (hK110 : ∀ (x2 : Int32) (x3 : Int32) (S : MS) (H : Heap) (locs : List Loc) (ls : Array Slot), K110 x2 x3 S → GW D A s (w9 o q cy S) H locs → lv_has ls 6 [(0, .ref o), (2, .int x2), (3, .int x3)] → W p l e ({ frames := 1, cells := 0, slots := 0, locals := 24 } : Room) s m args below meth c H locs 0 0 (MQ below (va_Qi Q (B1 D (w9 o q cy) A) A) args s 0 0 A) (F0 m 110 ls [])) (h : w9_isLegal_b199 K110 x3 x4 S Q) {H : Heap} {locs : List Loc} (hG : GW D A s (w9 o q cy S) H locs) {ls : Array Slot} (hl : lv_has ls 6 [(0, .ref o), (3, .int x3), (4, .int x4)]) : W p l e ({ frames := 1, cells := 0, slots := 0, locals := 24 } : Room) s m args below meth c H locs 0 0 (MQ below (va_Qi Q (B1 D (w9 o q cy) A) A) args s 0 0 A) (F0 m 199 ls []) := by
  have hx := C.1
  have hb := C.2.1
  unfold w9_isLegal_b199 at h
  refine lv_iconst (v := 0) hx hb dX9_isLegal_199 (by decide) ?_
  exact b9_isLegal_b200 (K110 := K110) x3 x4 (0 : Int32) S C hK110 h hG hl
def w9_isLegal_b181 (K110 : Int32 → Int32 → MS → Prop) (x2 : Int32) (x3 : Int32) (x4 : Int32) (t1 : Int32) (t2 : Int32) (S : MS) (Q : Int32 → MS → Prop) : Prop :=
  ∀ S1 : MS, S1 = sI S 32 (t1 + t2) → ((x2 = 0 → w9_isLegal_b199 K110 x3 x4 S1 Q) ∧ (¬ x2 = 0 → (((4 : Int32) < x4 → w9_isLegal_b199 K110 x3 x4 S1 Q) ∧ (¬ (4 : Int32) < x4 → w9_isLegal_b200 K110 x3 x4 (1 : Int32) S1 Q))))
set_option maxHeartbeats 4000000 in
set_option maxRecDepth 100000 in
theorem b9_isLegal_b181 {p : Program} {l : Launch} {e : Env} {s : State} {m : MethodId} {args : Array Value} {below : List Frame} {meth : Method} {c : Code} {D : va_G} {cy : Nat → ClassId} {A : Nat → Prop} {o : Nat} {q : Nat → Nat} {K110 : Int32 → Int32 → MS → Prop} (x2 : Int32) (x3 : Int32) (x4 : Int32) (t1 : Int32) (t2 : Int32) (S : MS) {Q : Int32 → MS → Prop} (C : Cx p s m args meth c cX9_isLegal 6 (some .boolean) wsX9_isLegal RX9 D cy nestWs A) (hK110 : ∀ (x2 : Int32) (x3 : Int32) (S : MS) (H : Heap) (locs : List Loc) (ls : Array Slot), K110 x2 x3 S → GW D A s (w9 o q cy S) H locs → lv_has ls 6 [(0, .ref o), (2, .int x2), (3, .int x3)] → W p l e ({ frames := 1, cells := 0, slots := 0, locals := 24 } : Room) s m args below meth c H locs 0 0 (MQ below (va_Qi Q (B1 D (w9 o q cy) A) A) args s 0 0 A) (F0 m 110 ls [])) (h : w9_isLegal_b181 K110 x2 x3 x4 t1 t2 S Q) {H : Heap} {locs : List Loc} (hG : GW D A s (w9 o q cy S) H locs) {ls : Array Slot} (hl : lv_has ls 6 [(0, .ref o), (2, .int x2), (3, .int x3), (4, .int x4)]) : W p l e ({ frames := 1, cells := 0, slots := 0, locals := 24 } : Room) s m args below meth c H locs 0 0 (MQ below (va_Qi Q (B1 D (w9 o q cy) A) A) args s 0 0 A) (F0 m 181 ls [.int t2, .int t1, .ref o]) := by
  have hx := C.1
  have hb := C.2.1
  unfold w9_isLegal_b181 at h
  refine lv_iadd hx hb dX9_isLegal_181 ?_
  refine x9p_32 C i9_isLegal_X9 k9_isLegal_285 hG dX9_isLegal_182 (fun S1 eS1 H locs hG => ?_)
  replace h := h S1 eS1
  refine lv_iload_n hx hb dX9_isLegal_185 rfl (lv_at hl 1 rfl) ?_
  refine lv_if_eq (tgt := 199) hx hb dX9_isLegal_186 (by decide) (fun c2 => ?_) (fun c2 => ?_)
  · replace h := h.1 c2
    exact b9_isLegal_b199 (K110 := K110) x3 x4 S1 C hK110 h hG (lv_sub hl [0, 2, 3] rfl)
  · replace h := h.2 c2
    refine lv_iload hx hb dX9_isLegal_189 (lv_at hl 3 rfl) ?_
    refine lv_iconst (v := 4) hx hb dX9_isLegal_191 (by decide) ?_
    refine lv_icmp_gt (tgt := 199) hx hb dX9_isLegal_192 (by decide) (fun c3 => ?_) (fun c3 => ?_)
    · replace h := h.1 c3
      exact b9_isLegal_b199 (K110 := K110) x3 x4 S1 C hK110 h hG (lv_sub hl [0, 2, 3] rfl)
    · replace h := h.2 c3
      refine lv_iconst (v := 1) hx hb dX9_isLegal_195 (by decide) ?_
      refine lv_goto (tgt := 200) hx hb dX9_isLegal_196 (by decide) ?_
      exact b9_isLegal_b200 (K110 := K110) x3 x4 (1 : Int32) S1 C hK110 h hG (lv_sub hl [0, 2, 3] rfl)
def w9_isLegal_b157 (K124 : Int32 → Int32 → Prop) (x2 : Int32) (x3 : Int32) (x5 : Int32) (t0 : Int32) (t1 : Int32) (S : MS) (Q : Int32 → MS → Prop) : Prop :=
  ∀ y1 : Int32, y1 = (t0 + t1) → ∀ y2 : Int32, y2 = x5 + 1 → K124 y1 y2
set_option maxHeartbeats 4000000 in
set_option maxRecDepth 100000 in
theorem b9_isLegal_b157 {p : Program} {l : Launch} {e : Env} {s : State} {m : MethodId} {args : Array Value} {below : List Frame} {meth : Method} {c : Code} {D : va_G} {cy : Nat → ClassId} {A : Nat → Prop} {o : Nat} {q : Nat → Nat} {K124 : Int32 → Int32 → Prop} (x2 : Int32) (x3 : Int32) (x5 : Int32) (t0 : Int32) (t1 : Int32) (S : MS) {Q : Int32 → MS → Prop} (C : Cx p s m args meth c cX9_isLegal 6 (some .boolean) wsX9_isLegal RX9 D cy nestWs A) (hK124 : ∀ (x4 : Int32) (x5 : Int32) (H : Heap) (locs : List Loc) (ls : Array Slot), K124 x4 x5 → GW D A s (w9 o q cy S) H locs → lv_has ls 6 [(0, .ref o), (2, .int x2), (3, .int x3), (4, .int x4), (5, .int x5)] → W p l e ({ frames := 1, cells := 0, slots := 0, locals := 24 } : Room) s m args below meth c H locs 0 0 (MQ below (va_Qi Q (B1 D (w9 o q cy) A) A) args s 0 0 A) (F0 m 124 ls [])) (h : w9_isLegal_b157 K124 x2 x3 x5 t0 t1 S Q) {H : Heap} {locs : List Loc} (hG : GW D A s (w9 o q cy S) H locs) {ls : Array Slot} (hl : lv_has ls 6 [(0, .ref o), (2, .int x2), (3, .int x3), (5, .int x5)]) : W p l e ({ frames := 1, cells := 0, slots := 0, locals := 24 } : Room) s m args below meth c H locs 0 0 (MQ below (va_Qi Q (B1 D (w9 o q cy) A) A) args s 0 0 A) (F0 m 157 ls [.int t1, .int t0]) := by
  have hx := C.1
  have hb := C.2.1
  unfold w9_isLegal_b157 at h
  refine lv_iadd hx hb dX9_isLegal_157 ?_
  refine lv_topi (fun y1 ey1 => ?_)
  replace h := h y1 ey1
  refine lv_istore (lv' := [(4, .int y1), (0, .ref o), (2, .int x2), (3, .int x3), (5, .int x5)]) hx hb dX9_isLegal_158 hl (by decide) rfl (fun ls hl => ?_)
  obtain ⟨y2, ey2⟩ : ∃ y : Int32, y = x5 + 1 := ⟨_, rfl⟩
  replace h := h y2 ey2
  refine lv_iinc (v := y2) (lv' := [(5, .int y2), (4, .int y1), (0, .ref o), (2, .int x2), (3, .int x3)]) hx hb dX9_isLegal_160 hl (k := 4) rfl (by rw [ey2]; rfl) (by decide) rfl (fun ls hl => ?_)
  refine lv_goto (tgt := 124) hx hb dX9_isLegal_163 (by decide) ?_
  exact hK124 y1 y2 _ _ _ h hG (lv_sub hl [2, 3, 4, 1, 0] rfl)
def w9_isLegal_d124 (K110 : Int32 → Int32 → MS → Prop) (K124 : Int32 → Int32 → Prop) (x2 : Int32) (x3 : Int32) (x4 : Int32) (x5 : Int32) (S : MS) (Q : Int32 → MS → Prop) : Prop :=
  (((fI S 25) ≤ x5 → ((x4 ≤ 0 → w9_isLegal_b181 K110 x2 x3 x4 (fI S 32) (0 : Int32) S Q) ∧ (¬ x4 ≤ 0 → w9_isLegal_b181 K110 x2 x3 x4 (fI S 32) (1 : Int32) S Q))) ∧ (¬ (fI S 25) ≤ x5 → vp_in x5 128 ∧ ((¬ (rA S 30 x5) = x3 → w9_isLegal_b157 K124 x2 x3 x5 x4 (0 : Int32) S Q) ∧ ((rA S 30 x5) = x3 → w9_isLegal_b157 K124 x2 x3 x5 x4 (rA S 28 x5) S Q))))
set_option maxHeartbeats 4000000 in
set_option maxRecDepth 100000 in
theorem b9_isLegal_d124 {p : Program} {l : Launch} {e : Env} {s : State} {m : MethodId} {args : Array Value} {below : List Frame} {meth : Method} {c : Code} {D : va_G} {cy : Nat → ClassId} {A : Nat → Prop} {o : Nat} {q : Nat → Nat} {K110 : Int32 → Int32 → MS → Prop} {K124 : Int32 → Int32 → Prop} (x2 : Int32) (x3 : Int32) (x4 : Int32) (x5 : Int32) (S : MS) {Q : Int32 → MS → Prop} (C : Cx p s m args meth c cX9_isLegal 6 (some .boolean) wsX9_isLegal RX9 D cy nestWs A) (hK110 : ∀ (x2 : Int32) (x3 : Int32) (S : MS) (H : Heap) (locs : List Loc) (ls : Array Slot), K110 x2 x3 S → GW D A s (w9 o q cy S) H locs → lv_has ls 6 [(0, .ref o), (2, .int x2), (3, .int x3)] → W p l e ({ frames := 1, cells := 0, slots := 0, locals := 24 } : Room) s m args below meth c H locs 0 0 (MQ below (va_Qi Q (B1 D (w9 o q cy) A) A) args s 0 0 A) (F0 m 110 ls [])) (hK124 : ∀ (x4 : Int32) (x5 : Int32) (H : Heap) (locs : List Loc) (ls : Array Slot), K124 x4 x5 → GW D A s (w9 o q cy S) H locs → lv_has ls 6 [(0, .ref o), (2, .int x2), (3, .int x3), (4, .int x4), (5, .int x5)] → W p l e ({ frames := 1, cells := 0, slots := 0, locals := 24 } : Room) s m args below meth c H locs 0 0 (MQ below (va_Qi Q (B1 D (w9 o q cy) A) A) args s 0 0 A) (F0 m 124 ls [])) (h : w9_isLegal_d124 K110 K124 x2 x3 x4 x5 S Q) {H : Heap} {locs : List Loc} (hG : GW D A s (w9 o q cy S) H locs) {ls : Array Slot} (hl : lv_has ls 6 [(0, .ref o), (2, .int x2), (3, .int x3), (4, .int x4), (5, .int x5)]) : W p l e ({ frames := 1, cells := 0, slots := 0, locals := 24 } : Room) s m args below meth c H locs 0 0 (MQ below (va_Qi Q (B1 D (w9 o q cy) A) A) args s 0 0 A) (F0 m 124 ls []) := by
  have hx := C.1
  have hb := C.2.1
  unfold w9_isLegal_d124 at h
  refine lv_iload hx hb dX9_isLegal_124 (lv_at hl 4 rfl) ?_
  refine lv_aload_n hx hb dX9_isLegal_126 rfl (lv_at hl 0 rfl) ?_
  refine x9g_25 C i9_isLegal_X9 k9_isLegal_273 hG dX9_isLegal_127 ?_
  refine lv_icmp_ge (tgt := 166) hx hb dX9_isLegal_130 (by decide) (fun c1 => ?_) (fun c1 => ?_)
  · replace h := h.1 c1
    refine lv_aload_n hx hb dX9_isLegal_166 rfl (lv_at hl 0 rfl) ?_
    refine lv_dup hx hb dX9_isLegal_167 rfl ?_
    refine x9g_32 C i9_isLegal_X9 k9_isLegal_285 hG dX9_isLegal_168 ?_
    refine lv_iload hx hb dX9_isLegal_171 (lv_at hl 3 rfl) ?_
    refine lv_if_le (tgt := 180) hx hb dX9_isLegal_173 (by decide) (fun c2 => ?_) (fun c2 => ?_)
    · replace h := h.1 c2
      refine lv_iconst (v := 0) hx hb dX9_isLegal_180 (by decide) ?_
      exact b9_isLegal_b181 (K110 := K110) x2 x3 x4 (fI S 32) (0 : Int32) S C hK110 h hG (lv_sub hl [0, 1, 2, 3] rfl)
    · replace h := h.2 c2
      refine lv_iconst (v := 1) hx hb dX9_isLegal_176 (by decide) ?_
      refine lv_goto (tgt := 181) hx hb dX9_isLegal_177 (by decide) ?_
      exact b9_isLegal_b181 (K110 := K110) x2 x3 x4 (fI S 32) (1 : Int32) S C hK110 h hG (lv_sub hl [0, 1, 2, 3] rfl)
  · replace h := h.2 c1
    refine lv_iload hx hb dX9_isLegal_133 (lv_at hl 3 rfl) ?_
    refine lv_aload_n hx hb dX9_isLegal_135 rfl (lv_at hl 0 rfl) ?_
    refine x9g_30 C i9_isLegal_X9 k9_isLegal_83 hG dX9_isLegal_136 ?_
    refine lv_iload hx hb dX9_isLegal_139 (lv_at hl 4 rfl) ?_
    obtain ⟨hv3, h⟩ := h
    refine x9l_30 C hG hv3 dX9_isLegal_141 ?_
    refine lv_iload_n hx hb dX9_isLegal_142 rfl (lv_at hl 2 rfl) ?_
    refine lv_icmp_ne (tgt := 156) hx hb dX9_isLegal_143 (by decide) (fun c4 => ?_) (fun c4 => ?_)
    · replace h := h.1 c4
      refine lv_iconst (v := 0) hx hb dX9_isLegal_156 (by decide) ?_
      exact b9_isLegal_b157 (K124 := K124) x2 x3 x5 x4 (0 : Int32) S C hK124 h hG (lv_sub hl [0, 1, 2, 4] rfl)
    · replace h := h.2 c4
      refine lv_aload_n hx hb dX9_isLegal_146 rfl (lv_at hl 0 rfl) ?_
      refine x9g_28 C i9_isLegal_X9 k9_isLegal_77 hG dX9_isLegal_147 ?_
      refine lv_iload hx hb dX9_isLegal_150 (lv_at hl 4 rfl) ?_
      refine x9l_28 C hG hv3 dX9_isLegal_152 ?_
      refine lv_goto (tgt := 157) hx hb dX9_isLegal_153 (by decide) ?_
      exact b9_isLegal_b157 (K124 := K124) x2 x3 x5 x4 (rA S 28 x5) S C hK124 h hG (lv_sub hl [0, 1, 2, 4] rfl)
def w9_isLegal_F124 (K110 : Int32 → Int32 → MS → Prop) (x2 : Int32) (x3 : Int32) (S : MS) (Q : Int32 → MS → Prop) (K : Int32 × Int32 → Prop) (a : Int32 × Int32) : Prop := w9_isLegal_d124 K110 (fun y0 y1 => K (y0, y1)) x2 x3 a.1 a.2 S Q
def w9_isLegal_b124 (K110 : Int32 → Int32 → MS → Prop) (x2 : Int32) (x3 : Int32) (x4 : Int32) (x5 : Int32) (S : MS) (Q : Int32 → MS → Prop) : Prop := lp (w9_isLegal_F124 K110 x2 x3 S Q) (x4, x5)
set_option maxHeartbeats 4000000 in
set_option maxRecDepth 100000 in
theorem b9_isLegal_b124 {p : Program} {l : Launch} {e : Env} {s : State} {m : MethodId} {args : Array Value} {below : List Frame} {meth : Method} {c : Code} {D : va_G} {cy : Nat → ClassId} {A : Nat → Prop} {o : Nat} {q : Nat → Nat} {K110 : Int32 → Int32 → MS → Prop} (x2 : Int32) (x3 : Int32) (x4 : Int32) (x5 : Int32) (S : MS) {Q : Int32 → MS → Prop} (C : Cx p s m args meth c cX9_isLegal 6 (some .boolean) wsX9_isLegal RX9 D cy nestWs A) (hK110 : ∀ (x2 : Int32) (x3 : Int32) (S : MS) (H : Heap) (locs : List Loc) (ls : Array Slot), K110 x2 x3 S → GW D A s (w9 o q cy S) H locs → lv_has ls 6 [(0, .ref o), (2, .int x2), (3, .int x3)] → W p l e ({ frames := 1, cells := 0, slots := 0, locals := 24 } : Room) s m args below meth c H locs 0 0 (MQ below (va_Qi Q (B1 D (w9 o q cy) A) A) args s 0 0 A) (F0 m 110 ls [])) (h : w9_isLegal_b124 K110 x2 x3 x4 x5 S Q) {H : Heap} {locs : List Loc} (hG : GW D A s (w9 o q cy S) H locs) {ls : Array Slot} (hl : lv_has ls 6 [(0, .ref o), (2, .int x2), (3, .int x3), (4, .int x4), (5, .int x5)]) : W p l e ({ frames := 1, cells := 0, slots := 0, locals := 24 } : Room) s m args below meth c H locs 0 0 (MQ below (va_Qi Q (B1 D (w9 o q cy) A) A) args s 0 0 A) (F0 m 124 ls []) := by
  obtain ⟨k, hn⟩ := h
  induction k generalizing x4 x5 H locs ls with
  | zero => exact hn.elim
  | succ k ih => exact b9_isLegal_d124 (K110 := K110) (K124 := fun y0 y1 => itr (w9_isLegal_F124 K110 x2 x3 S Q) k (y0, y1)) x2 x3 x4 x5 S C hK110 (fun x4 x5 H locs ls hk hG hl => ih x4 x5 hG hl hk) hn hG hl
def w9_isLegal_d110 (K110 : Int32 → Int32 → MS → Prop) (x2 : Int32) (x3 : Int32) (S : MS) (Q : Int32 → MS → Prop) : Prop :=
  (((fI S 25) ≤ x3 → narrow .boolean (.int x2) = .int x2 ∧ Q x2 S) ∧ (¬ (fI S 25) ≤ x3 → w9_isLegal_b124 K110 x2 x3 (0 : Int32) (0 : Int32) S Q))
set_option maxHeartbeats 4000000 in
set_option maxRecDepth 100000 in
theorem b9_isLegal_d110 {p : Program} {l : Launch} {e : Env} {s : State} {m : MethodId} {args : Array Value} {below : List Frame} {meth : Method} {c : Code} {D : va_G} {cy : Nat → ClassId} {A : Nat → Prop} {o : Nat} {q : Nat → Nat} {K110 : Int32 → Int32 → MS → Prop} (x2 : Int32) (x3 : Int32) (S : MS) {Q : Int32 → MS → Prop} (C : Cx p s m args meth c cX9_isLegal 6 (some .boolean) wsX9_isLegal RX9 D cy nestWs A) (hK110 : ∀ (x2 : Int32) (x3 : Int32) (S : MS) (H : Heap) (locs : List Loc) (ls : Array Slot), K110 x2 x3 S → GW D A s (w9 o q cy S) H locs → lv_has ls 6 [(0, .ref o), (2, .int x2), (3, .int x3)] → W p l e ({ frames := 1, cells := 0, slots := 0, locals := 24 } : Room) s m args below meth c H locs 0 0 (MQ below (va_Qi Q (B1 D (w9 o q cy) A) A) args s 0 0 A) (F0 m 110 ls [])) (h : w9_isLegal_d110 K110 x2 x3 S Q) {H : Heap} {locs : List Loc} (hG : GW D A s (w9 o q cy S) H locs) {ls : Array Slot} (hl : lv_has ls 6 [(0, .ref o), (2, .int x2), (3, .int x3)]) : W p l e ({ frames := 1, cells := 0, slots := 0, locals := 24 } : Room) s m args below meth c H locs 0 0 (MQ below (va_Qi Q (B1 D (w9 o q cy) A) A) args s 0 0 A) (F0 m 110 ls []) := by
  have hx := C.1
  have hb := C.2.1
  unfold w9_isLegal_d110 at h
  refine lv_iload_n hx hb dX9_isLegal_110 rfl (lv_at hl 2 rfl) ?_
  refine lv_aload_n hx hb dX9_isLegal_111 rfl (lv_at hl 0 rfl) ?_
  refine x9g_25 C i9_isLegal_X9 k9_isLegal_273 hG dX9_isLegal_112 ?_
  refine lv_icmp_ge (tgt := 228) hx hb dX9_isLegal_115 (by decide) (fun c1 => ?_) (fun c1 => ?_)
  · replace h := h.1 c1
    refine lv_iload_n hx hb dX9_isLegal_228 rfl (lv_at hl 1 rfl) ?_
    exact retZ (w := (w9 o q cy)) (S := S) C hG ⟨h.1, h.2⟩ dX9_isLegal_229
  · replace h := h.2 c1
    refine lv_iconst (v := 0) hx hb dX9_isLegal_118 (by decide) ?_
    refine lv_istore (lv' := [(4, .int (0 : Int32)), (0, .ref o), (2, .int x2), (3, .int x3)]) hx hb dX9_isLegal_119 hl (by decide) rfl (fun ls hl => ?_)
    refine lv_iconst (v := 0) hx hb dX9_isLegal_121 (by decide) ?_
    refine lv_istore (lv' := [(5, .int (0 : Int32)), (4, .int (0 : Int32)), (0, .ref o), (2, .int x2), (3, .int x3)]) hx hb dX9_isLegal_122 hl (by decide) rfl (fun ls hl => ?_)
    exact b9_isLegal_b124 (K110 := K110) x2 x3 (0 : Int32) (0 : Int32) S C hK110 h hG (lv_sub hl [2, 3, 4, 1, 0] rfl)
def w9_isLegal_F110 (Q : Int32 → MS → Prop) (K : Int32 × Int32 × MS → Prop) (a : Int32 × Int32 × MS) : Prop := w9_isLegal_d110 (fun y0 y1 y2 => K (y0, y1, y2)) a.1 a.2.1 a.2.2 Q
def w9_isLegal_b110 (x2 : Int32) (x3 : Int32) (S : MS) (Q : Int32 → MS → Prop) : Prop := lp (w9_isLegal_F110 Q) (x2, x3, S)
set_option maxHeartbeats 4000000 in
set_option maxRecDepth 100000 in
theorem b9_isLegal_b110 {p : Program} {l : Launch} {e : Env} {s : State} {m : MethodId} {args : Array Value} {below : List Frame} {meth : Method} {c : Code} {D : va_G} {cy : Nat → ClassId} {A : Nat → Prop} {o : Nat} {q : Nat → Nat} (x2 : Int32) (x3 : Int32) (S : MS) {Q : Int32 → MS → Prop} (C : Cx p s m args meth c cX9_isLegal 6 (some .boolean) wsX9_isLegal RX9 D cy nestWs A) (h : w9_isLegal_b110 x2 x3 S Q) {H : Heap} {locs : List Loc} (hG : GW D A s (w9 o q cy S) H locs) {ls : Array Slot} (hl : lv_has ls 6 [(0, .ref o), (2, .int x2), (3, .int x3)]) : W p l e ({ frames := 1, cells := 0, slots := 0, locals := 24 } : Room) s m args below meth c H locs 0 0 (MQ below (va_Qi Q (B1 D (w9 o q cy) A) A) args s 0 0 A) (F0 m 110 ls []) := by
  obtain ⟨k, hn⟩ := h
  induction k generalizing x2 x3 S H locs ls with
  | zero => exact hn.elim
  | succ k ih => exact b9_isLegal_d110 (K110 := fun y0 y1 y2 => itr (w9_isLegal_F110 Q) k (y0, y1, y2)) x2 x3 S C (fun x2 x3 S H locs ls hk hG hl => ih x2 x3 S hG hl hk) hn hG hl
def w9_isLegal_d83 (K83 : Int32 → MS → Prop) (x2 : Int32) (S : MS) (Q : Int32 → MS → Prop) : Prop :=
  (((5 : Int32) ≤ x2 → ∀ S2 : MS, S2 = sI S 32 (0 : Int32) → w9_isLegal_b110 (1 : Int32) (0 : Int32) S2 Q) ∧ (¬ (5 : Int32) ≤ x2 → vp_in x2 5 ∧ ∀ S4 : MS, S4 = sA S 31 x2 (0 : Int32) → ∀ y5 : Int32, y5 = x2 + 1 → K83 y5 S4))
set_option maxHeartbeats 4000000 in
set_option maxRecDepth 100000 in
theorem b9_isLegal_d83 {p : Program} {l : Launch} {e : Env} {s : State} {m : MethodId} {args : Array Value} {below : List Frame} {meth : Method} {c : Code} {D : va_G} {cy : Nat → ClassId} {A : Nat → Prop} {o : Nat} {q : Nat → Nat} {K83 : Int32 → MS → Prop} (x2 : Int32) (S : MS) {Q : Int32 → MS → Prop} (C : Cx p s m args meth c cX9_isLegal 6 (some .boolean) wsX9_isLegal RX9 D cy nestWs A) (hK83 : ∀ (x2 : Int32) (S : MS) (H : Heap) (locs : List Loc) (ls : Array Slot), K83 x2 S → GW D A s (w9 o q cy S) H locs → lv_has ls 6 [(0, .ref o), (2, .int x2)] → W p l e ({ frames := 1, cells := 0, slots := 0, locals := 24 } : Room) s m args below meth c H locs 0 0 (MQ below (va_Qi Q (B1 D (w9 o q cy) A) A) args s 0 0 A) (F0 m 83 ls [])) (h : w9_isLegal_d83 K83 x2 S Q) {H : Heap} {locs : List Loc} (hG : GW D A s (w9 o q cy S) H locs) {ls : Array Slot} (hl : lv_has ls 6 [(0, .ref o), (2, .int x2)]) : W p l e ({ frames := 1, cells := 0, slots := 0, locals := 24 } : Room) s m args below meth c H locs 0 0 (MQ below (va_Qi Q (B1 D (w9 o q cy) A) A) args s 0 0 A) (F0 m 83 ls []) := by
  have hx := C.1
  have hb := C.2.1
  unfold w9_isLegal_d83 at h
  refine lv_iload_n hx hb dX9_isLegal_83 rfl (lv_at hl 1 rfl) ?_
  refine lv_iconst (v := 5) hx hb dX9_isLegal_84 (by decide) ?_
  refine lv_icmp_ge (tgt := 101) hx hb dX9_isLegal_85 (by decide) (fun c1 => ?_) (fun c1 => ?_)
  · replace h := h.1 c1
    refine lv_aload_n hx hb dX9_isLegal_101 rfl (lv_at hl 0 rfl) ?_
    refine lv_iconst (v := 0) hx hb dX9_isLegal_102 (by decide) ?_
    refine x9p_32 C i9_isLegal_X9 k9_isLegal_285 hG dX9_isLegal_103 (fun S2 eS2 H locs hG => ?_)
    replace h := h S2 eS2
    refine lv_iconst (v := 1) hx hb dX9_isLegal_106 (by decide) ?_
    refine lv_istore_n (lv' := [(2, .int (1 : Int32)), (0, .ref o)]) hx hb dX9_isLegal_107 rfl hl (by decide) rfl (fun ls hl => ?_)
    refine lv_iconst (v := 0) hx hb dX9_isLegal_108 (by decide) ?_
    refine lv_istore_n (lv' := [(3, .int (0 : Int32)), (2, .int (1 : Int32)), (0, .ref o)]) hx hb dX9_isLegal_109 rfl hl (by decide) rfl (fun ls hl => ?_)
    exact b9_isLegal_b110 (1 : Int32) (0 : Int32) S2 C h hG (lv_sub hl [2, 1, 0] rfl)
  · replace h := h.2 c1
    refine lv_aload_n hx hb dX9_isLegal_88 rfl (lv_at hl 0 rfl) ?_
    refine x9g_31 C i9_isLegal_X9 k9_isLegal_86 hG dX9_isLegal_89 ?_
    refine lv_iload_n hx hb dX9_isLegal_92 rfl (lv_at hl 1 rfl) ?_
    refine lv_iconst (v := 0) hx hb dX9_isLegal_93 (by decide) ?_
    obtain ⟨hv3, h⟩ := h
    refine x9s_31 C hG hv3 dX9_isLegal_94 (fun S4 eS4 H locs hG => ?_)
    replace h := h S4 eS4
    obtain ⟨y5, ey5⟩ : ∃ y : Int32, y = x2 + 1 := ⟨_, rfl⟩
    replace h := h y5 ey5
    refine lv_iinc (v := y5) (lv' := [(2, .int y5), (0, .ref o)]) hx hb dX9_isLegal_95 hl (k := 1) rfl (by rw [ey5]; rfl) (by decide) rfl (fun ls hl => ?_)
    refine lv_goto (tgt := 83) hx hb dX9_isLegal_98 (by decide) ?_
    exact hK83 y5 S4 _ _ _ h hG (lv_sub hl [1, 0] rfl)
def w9_isLegal_F83 (Q : Int32 → MS → Prop) (K : Int32 × MS → Prop) (a : Int32 × MS) : Prop := w9_isLegal_d83 (fun y0 y1 => K (y0, y1)) a.1 a.2 Q
def w9_isLegal_b83 (x2 : Int32) (S : MS) (Q : Int32 → MS → Prop) : Prop := lp (w9_isLegal_F83 Q) (x2, S)
set_option maxHeartbeats 4000000 in
set_option maxRecDepth 100000 in
theorem b9_isLegal_b83 {p : Program} {l : Launch} {e : Env} {s : State} {m : MethodId} {args : Array Value} {below : List Frame} {meth : Method} {c : Code} {D : va_G} {cy : Nat → ClassId} {A : Nat → Prop} {o : Nat} {q : Nat → Nat} (x2 : Int32) (S : MS) {Q : Int32 → MS → Prop} (C : Cx p s m args meth c cX9_isLegal 6 (some .boolean) wsX9_isLegal RX9 D cy nestWs A) (h : w9_isLegal_b83 x2 S Q) {H : Heap} {locs : List Loc} (hG : GW D A s (w9 o q cy S) H locs) {ls : Array Slot} (hl : lv_has ls 6 [(0, .ref o), (2, .int x2)]) : W p l e ({ frames := 1, cells := 0, slots := 0, locals := 24 } : Room) s m args below meth c H locs 0 0 (MQ below (va_Qi Q (B1 D (w9 o q cy) A) A) args s 0 0 A) (F0 m 83 ls []) := by
  obtain ⟨k, hn⟩ := h
  induction k generalizing x2 S H locs ls with
  | zero => exact hn.elim
  | succ k ih => exact b9_isLegal_d83 (K83 := fun y0 y1 => itr (w9_isLegal_F83 Q) k (y0, y1)) x2 S C (fun x2 S H locs ls hk hG hl => ih x2 S hG hl hk) hn hG hl
def w9_isLegal_b71 (K33 : Int32 → Int32 → MS → Prop) (x2 : Int32) (t0 : Int32) (S : MS) (Q : Int32 → MS → Prop) : Prop :=
  ∀ y1 : Int32, y1 = x2 + 1 → K33 t0 y1 S
set_option maxHeartbeats 4000000 in
set_option maxRecDepth 100000 in
theorem b9_isLegal_b71 {p : Program} {l : Launch} {e : Env} {s : State} {m : MethodId} {args : Array Value} {below : List Frame} {meth : Method} {c : Code} {D : va_G} {cy : Nat → ClassId} {A : Nat → Prop} {o : Nat} {q : Nat → Nat} {K33 : Int32 → Int32 → MS → Prop} (x2 : Int32) (t0 : Int32) (S : MS) {Q : Int32 → MS → Prop} (C : Cx p s m args meth c cX9_isLegal 6 (some .boolean) wsX9_isLegal RX9 D cy nestWs A) (hK33 : ∀ (x1 : Int32) (x2 : Int32) (S : MS) (H : Heap) (locs : List Loc) (ls : Array Slot), K33 x1 x2 S → GW D A s (w9 o q cy S) H locs → lv_has ls 6 [(0, .ref o), (1, .int x1), (2, .int x2)] → W p l e ({ frames := 1, cells := 0, slots := 0, locals := 24 } : Room) s m args below meth c H locs 0 0 (MQ below (va_Qi Q (B1 D (w9 o q cy) A) A) args s 0 0 A) (F0 m 33 ls [])) (h : w9_isLegal_b71 K33 x2 t0 S Q) {H : Heap} {locs : List Loc} (hG : GW D A s (w9 o q cy S) H locs) {ls : Array Slot} (hl : lv_has ls 6 [(0, .ref o), (2, .int x2)]) : W p l e ({ frames := 1, cells := 0, slots := 0, locals := 24 } : Room) s m args below meth c H locs 0 0 (MQ below (va_Qi Q (B1 D (w9 o q cy) A) A) args s 0 0 A) (F0 m 71 ls [.int t0]) := by
  have hx := C.1
  have hb := C.2.1
  unfold w9_isLegal_b71 at h
  refine lv_istore_n (lv' := [(1, .int t0), (0, .ref o), (2, .int x2)]) hx hb dX9_isLegal_71 rfl hl (by decide) rfl (fun ls hl => ?_)
  obtain ⟨y1, ey1⟩ : ∃ y : Int32, y = x2 + 1 := ⟨_, rfl⟩
  replace h := h y1 ey1
  refine lv_iinc (v := y1) (lv' := [(2, .int y1), (1, .int t0), (0, .ref o)]) hx hb dX9_isLegal_72 hl (k := 2) rfl (by rw [ey1]; rfl) (by decide) rfl (fun ls hl => ?_)
  refine lv_goto (tgt := 33) hx hb dX9_isLegal_75 (by decide) ?_
  exact hK33 t0 y1 S _ _ _ h hG (lv_sub hl [2, 1, 0] rfl)
def w9_isLegal_b66 (K33 : Int32 → Int32 → MS → Prop) (x2 : Int32) (S : MS) (Q : Int32 → MS → Prop) : Prop :=
  w9_isLegal_b71 K33 x2 (1 : Int32) S Q
set_option maxHeartbeats 4000000 in
set_option maxRecDepth 100000 in
theorem b9_isLegal_b66 {p : Program} {l : Launch} {e : Env} {s : State} {m : MethodId} {args : Array Value} {below : List Frame} {meth : Method} {c : Code} {D : va_G} {cy : Nat → ClassId} {A : Nat → Prop} {o : Nat} {q : Nat → Nat} {K33 : Int32 → Int32 → MS → Prop} (x2 : Int32) (S : MS) {Q : Int32 → MS → Prop} (C : Cx p s m args meth c cX9_isLegal 6 (some .boolean) wsX9_isLegal RX9 D cy nestWs A) (hK33 : ∀ (x1 : Int32) (x2 : Int32) (S : MS) (H : Heap) (locs : List Loc) (ls : Array Slot), K33 x1 x2 S → GW D A s (w9 o q cy S) H locs → lv_has ls 6 [(0, .ref o), (1, .int x1), (2, .int x2)] → W p l e ({ frames := 1, cells := 0, slots := 0, locals := 24 } : Room) s m args below meth c H locs 0 0 (MQ below (va_Qi Q (B1 D (w9 o q cy) A) A) args s 0 0 A) (F0 m 33 ls [])) (h : w9_isLegal_b66 K33 x2 S Q) {H : Heap} {locs : List Loc} (hG : GW D A s (w9 o q cy S) H locs) {ls : Array Slot} (hl : lv_has ls 6 [(0, .ref o), (2, .int x2)]) : W p l e ({ frames := 1, cells := 0, slots := 0, locals := 24 } : Room) s m args below meth c H locs 0 0 (MQ below (va_Qi Q (B1 D (w9 o q cy) A) A) args s 0 0 A) (F0 m 66 ls []) := by
  have hx := C.1
  have hb := C.2.1
  unfold w9_isLegal_b66 at h
  refine lv_iconst (v := 1) hx hb dX9_isLegal_66 (by decide) ?_
  refine lv_goto (tgt := 71) hx hb dX9_isLegal_67 (by decide) ?_
  exact b9_isLegal_b71 (K33 := K33) x2 (1 : Int32) S C hK33 h hG hl
def w9_isLegal_d33 (K25 : Int32 → MS → Prop) (K33 : Int32 → Int32 → MS → Prop) (x1 : Int32) (x2 : Int32) (S : MS) (Q : Int32 → MS → Prop) : Prop :=
  (((fI S 25) ≤ x2 → K25 x1 S) ∧ (¬ (fI S 25) ≤ x2 → vp_in x2 128 ∧ ¬ (fI S 25) = 0 ∧ w9_joins x2 (((rA S 29 x2) + (1 : Int32)) - ((rA S 29 x2) + (1 : Int32)) / (fI S 25) * (fI S 25)) S (fun r4 S5 => ((¬ r4 = 0 → w9_isLegal_b66 K33 x2 S5 Q) ∧ (r4 = 0 → ((x1 = 0 → w9_isLegal_b71 K33 x2 (0 : Int32) S5 Q) ∧ (¬ x1 = 0 → w9_isLegal_b66 K33 x2 S5 Q)))))))
set_option maxHeartbeats 4000000 in
set_option maxRecDepth 100000 in
theorem b9_isLegal_d33 {p : Program} {l : Launch} {e : Env} {s : State} {m : MethodId} {args : Array Value} {below : List Frame} {meth : Method} {c : Code} {D : va_G} {cy : Nat → ClassId} {A : Nat → Prop} {o : Nat} {q : Nat → Nat} {K25 : Int32 → MS → Prop} {K33 : Int32 → Int32 → MS → Prop} (x1 : Int32) (x2 : Int32) (S : MS) {Q : Int32 → MS → Prop} (C : Cx p s m args meth c cX9_isLegal 6 (some .boolean) wsX9_isLegal RX9 D cy nestWs A) (hK25 : ∀ (x1 : Int32) (S : MS) (H : Heap) (locs : List Loc) (ls : Array Slot), K25 x1 S → GW D A s (w9 o q cy S) H locs → lv_has ls 6 [(0, .ref o), (1, .int x1)] → W p l e ({ frames := 1, cells := 0, slots := 0, locals := 24 } : Room) s m args below meth c H locs 0 0 (MQ below (va_Qi Q (B1 D (w9 o q cy) A) A) args s 0 0 A) (F0 m 25 ls [])) (hK33 : ∀ (x1 : Int32) (x2 : Int32) (S : MS) (H : Heap) (locs : List Loc) (ls : Array Slot), K33 x1 x2 S → GW D A s (w9 o q cy S) H locs → lv_has ls 6 [(0, .ref o), (1, .int x1), (2, .int x2)] → W p l e ({ frames := 1, cells := 0, slots := 0, locals := 24 } : Room) s m args below meth c H locs 0 0 (MQ below (va_Qi Q (B1 D (w9 o q cy) A) A) args s 0 0 A) (F0 m 33 ls [])) (h : w9_isLegal_d33 K25 K33 x1 x2 S Q) {H : Heap} {locs : List Loc} (hG : GW D A s (w9 o q cy S) H locs) {ls : Array Slot} (hl : lv_has ls 6 [(0, .ref o), (1, .int x1), (2, .int x2)]) : W p l e ({ frames := 1, cells := 0, slots := 0, locals := 24 } : Room) s m args below meth c H locs 0 0 (MQ below (va_Qi Q (B1 D (w9 o q cy) A) A) args s 0 0 A) (F0 m 33 ls []) := by
  have hx := C.1
  have hb := C.2.1
  unfold w9_isLegal_d33 at h
  refine lv_iload_n hx hb dX9_isLegal_33 rfl (lv_at hl 2 rfl) ?_
  refine lv_aload_n hx hb dX9_isLegal_34 rfl (lv_at hl 0 rfl) ?_
  refine x9g_25 C i9_isLegal_X9 k9_isLegal_273 hG dX9_isLegal_35 ?_
  refine lv_icmp_ge (tgt := 78) hx hb dX9_isLegal_38 (by decide) (fun c1 => ?_) (fun c1 => ?_)
  · replace h := h.1 c1
    refine lv_goto (tgt := 25) hx hb dX9_isLegal_78 (by decide) ?_
    exact hK25 x1 S _ _ _ h hG (lv_sub hl [0, 1] rfl)
  · replace h := h.2 c1
    refine lv_aload_n hx hb dX9_isLegal_41 rfl (lv_at hl 0 rfl) ?_
    refine lv_iload_n hx hb dX9_isLegal_42 rfl (lv_at hl 2 rfl) ?_
    refine lv_aload_n hx hb dX9_isLegal_43 rfl (lv_at hl 0 rfl) ?_
    refine x9g_29 C i9_isLegal_X9 k9_isLegal_80 hG dX9_isLegal_44 ?_
    refine lv_iload_n hx hb dX9_isLegal_47 rfl (lv_at hl 2 rfl) ?_
    obtain ⟨hv2, h⟩ := h
    refine x9l_29 C hG hv2 dX9_isLegal_48 ?_
    refine lv_iconst (v := 1) hx hb dX9_isLegal_49 (by decide) ?_
    refine lv_iadd hx hb dX9_isLegal_50 ?_
    refine lv_aload_n hx hb dX9_isLegal_51 rfl (lv_at hl 0 rfl) ?_
    refine x9g_25 C i9_isLegal_X9 k9_isLegal_273 hG dX9_isLegal_52 ?_
    obtain ⟨hz3, h⟩ := h
    refine lv_irem hx hb dX9_isLegal_55 hz3 ?_
    refine callVI (As := [.int x2, .int (((rA S 29 x2) + (1 : Int32)) - ((rA S 29 x2) + (1 : Int32)) / (fI S 25) * (fI S 25))]) (rest := []) C hG (c9_joins l D cy o q x2 (((rA S 29 x2) + (1 : Int32)) - ((rA S 29 x2) + (1 : Int32)) / (fI S 25) * (fI S 25)) S _ h) 2 gX9_isLegal_X9_joins rfl (by decide +kernel) ⟨⟨Nat.le_of_ble_eq_true rfl, Nat.le_of_ble_eq_true rfl⟩, rfl, rfl⟩ rfl rfl (Foc.all C.2.2.2.2.2.2.2.2.1) rfl hl.1 rfl (Nat.le_of_ble_eq_true rfl) dX9_isLegal_56 ⟨Nat.zero_le _, Nat.zero_le _⟩ (fun r4 S5 H locs h hG => ?_)
    have hG : GW D A s (w9 o q cy S5) H locs := hG
    refine lv_if_ne (tgt := 66) hx hb dX9_isLegal_59 (by decide) (fun c6 => ?_) (fun c6 => ?_)
    · replace h := h.1 c6
      exact b9_isLegal_b66 (K33 := K33) x2 S5 C hK33 h hG (lv_sub hl [0, 2] rfl)
    · replace h := h.2 c6
      refine lv_iload_n hx hb dX9_isLegal_62 rfl (lv_at hl 1 rfl) ?_
      refine lv_if_eq (tgt := 70) hx hb dX9_isLegal_63 (by decide) (fun c7 => ?_) (fun c7 => ?_)
      · replace h := h.1 c7
        refine lv_iconst (v := 0) hx hb dX9_isLegal_70 (by decide) ?_
        exact b9_isLegal_b71 (K33 := K33) x2 (0 : Int32) S5 C hK33 h hG (lv_sub hl [0, 2] rfl)
      · replace h := h.2 c7
        exact b9_isLegal_b66 (K33 := K33) x2 S5 C hK33 h hG (lv_sub hl [0, 2] rfl)
def w9_isLegal_F33 (K25 : Int32 → MS → Prop) (Q : Int32 → MS → Prop) (K : Int32 × Int32 × MS → Prop) (a : Int32 × Int32 × MS) : Prop := w9_isLegal_d33 K25 (fun y0 y1 y2 => K (y0, y1, y2)) a.1 a.2.1 a.2.2 Q
def w9_isLegal_b33 (K25 : Int32 → MS → Prop) (x1 : Int32) (x2 : Int32) (S : MS) (Q : Int32 → MS → Prop) : Prop := lp (w9_isLegal_F33 K25 Q) (x1, x2, S)
set_option maxHeartbeats 4000000 in
set_option maxRecDepth 100000 in
theorem b9_isLegal_b33 {p : Program} {l : Launch} {e : Env} {s : State} {m : MethodId} {args : Array Value} {below : List Frame} {meth : Method} {c : Code} {D : va_G} {cy : Nat → ClassId} {A : Nat → Prop} {o : Nat} {q : Nat → Nat} {K25 : Int32 → MS → Prop} (x1 : Int32) (x2 : Int32) (S : MS) {Q : Int32 → MS → Prop} (C : Cx p s m args meth c cX9_isLegal 6 (some .boolean) wsX9_isLegal RX9 D cy nestWs A) (hK25 : ∀ (x1 : Int32) (S : MS) (H : Heap) (locs : List Loc) (ls : Array Slot), K25 x1 S → GW D A s (w9 o q cy S) H locs → lv_has ls 6 [(0, .ref o), (1, .int x1)] → W p l e ({ frames := 1, cells := 0, slots := 0, locals := 24 } : Room) s m args below meth c H locs 0 0 (MQ below (va_Qi Q (B1 D (w9 o q cy) A) A) args s 0 0 A) (F0 m 25 ls [])) (h : w9_isLegal_b33 K25 x1 x2 S Q) {H : Heap} {locs : List Loc} (hG : GW D A s (w9 o q cy S) H locs) {ls : Array Slot} (hl : lv_has ls 6 [(0, .ref o), (1, .int x1), (2, .int x2)]) : W p l e ({ frames := 1, cells := 0, slots := 0, locals := 24 } : Room) s m args below meth c H locs 0 0 (MQ below (va_Qi Q (B1 D (w9 o q cy) A) A) args s 0 0 A) (F0 m 33 ls []) := by
  obtain ⟨k, hn⟩ := h
  induction k generalizing x1 x2 S H locs ls with
  | zero => exact hn.elim
  | succ k ih => exact b9_isLegal_d33 (K25 := K25) (K33 := fun y0 y1 y2 => itr (w9_isLegal_F33 K25 Q) k (y0, y1, y2)) x1 x2 S C hK25 (fun x1 x2 S H locs ls hk hG hl => ih x1 x2 S hG hl hk) hn hG hl
def w9_isLegal_d25 (K25 : Int32 → MS → Prop) (x1 : Int32) (S : MS) (Q : Int32 → MS → Prop) : Prop :=
  ((x1 = 0 → w9_isLegal_b83 (0 : Int32) S Q) ∧ (¬ x1 = 0 → w9_isLegal_b33 K25 (0 : Int32) (0 : Int32) S Q))
set_option maxHeartbeats 4000000 in
set_option maxRecDepth 100000 in
theorem b9_isLegal_d25 {p : Program} {l : Launch} {e : Env} {s : State} {m : MethodId} {args : Array Value} {below : List Frame} {meth : Method} {c : Code} {D : va_G} {cy : Nat → ClassId} {A : Nat → Prop} {o : Nat} {q : Nat → Nat} {K25 : Int32 → MS → Prop} (x1 : Int32) (S : MS) {Q : Int32 → MS → Prop} (C : Cx p s m args meth c cX9_isLegal 6 (some .boolean) wsX9_isLegal RX9 D cy nestWs A) (hK25 : ∀ (x1 : Int32) (S : MS) (H : Heap) (locs : List Loc) (ls : Array Slot), K25 x1 S → GW D A s (w9 o q cy S) H locs → lv_has ls 6 [(0, .ref o), (1, .int x1)] → W p l e ({ frames := 1, cells := 0, slots := 0, locals := 24 } : Room) s m args below meth c H locs 0 0 (MQ below (va_Qi Q (B1 D (w9 o q cy) A) A) args s 0 0 A) (F0 m 25 ls [])) (h : w9_isLegal_d25 K25 x1 S Q) {H : Heap} {locs : List Loc} (hG : GW D A s (w9 o q cy S) H locs) {ls : Array Slot} (hl : lv_has ls 6 [(0, .ref o), (1, .int x1)]) : W p l e ({ frames := 1, cells := 0, slots := 0, locals := 24 } : Room) s m args below meth c H locs 0 0 (MQ below (va_Qi Q (B1 D (w9 o q cy) A) A) args s 0 0 A) (F0 m 25 ls []) := by
  have hx := C.1
  have hb := C.2.1
  unfold w9_isLegal_d25 at h
  refine lv_iload_n hx hb dX9_isLegal_25 rfl (lv_at hl 1 rfl) ?_
  refine lv_if_eq (tgt := 81) hx hb dX9_isLegal_26 (by decide) (fun c1 => ?_) (fun c1 => ?_)
  · replace h := h.1 c1
    refine lv_iconst (v := 0) hx hb dX9_isLegal_81 (by decide) ?_
    refine lv_istore_n (lv' := [(2, .int (0 : Int32)), (0, .ref o), (1, .int x1)]) hx hb dX9_isLegal_82 rfl hl (by decide) rfl (fun ls hl => ?_)
    exact b9_isLegal_b83 (0 : Int32) S C h hG (lv_sub hl [1, 0] rfl)
  · replace h := h.2 c1
    refine lv_iconst (v := 0) hx hb dX9_isLegal_29 (by decide) ?_
    refine lv_istore_n (lv' := [(1, .int (0 : Int32)), (0, .ref o)]) hx hb dX9_isLegal_30 rfl hl (by decide) rfl (fun ls hl => ?_)
    refine lv_iconst (v := 0) hx hb dX9_isLegal_31 (by decide) ?_
    refine lv_istore_n (lv' := [(2, .int (0 : Int32)), (1, .int (0 : Int32)), (0, .ref o)]) hx hb dX9_isLegal_32 rfl hl (by decide) rfl (fun ls hl => ?_)
    exact b9_isLegal_b33 (K25 := K25) (0 : Int32) (0 : Int32) S C hK25 h hG (lv_sub hl [2, 1, 0] rfl)
def w9_isLegal_F25 (Q : Int32 → MS → Prop) (K : Int32 × MS → Prop) (a : Int32 × MS) : Prop := w9_isLegal_d25 (fun y0 y1 => K (y0, y1)) a.1 a.2 Q
def w9_isLegal_b25 (x1 : Int32) (S : MS) (Q : Int32 → MS → Prop) : Prop := lp (w9_isLegal_F25 Q) (x1, S)
set_option maxHeartbeats 4000000 in
set_option maxRecDepth 100000 in
theorem b9_isLegal_b25 {p : Program} {l : Launch} {e : Env} {s : State} {m : MethodId} {args : Array Value} {below : List Frame} {meth : Method} {c : Code} {D : va_G} {cy : Nat → ClassId} {A : Nat → Prop} {o : Nat} {q : Nat → Nat} (x1 : Int32) (S : MS) {Q : Int32 → MS → Prop} (C : Cx p s m args meth c cX9_isLegal 6 (some .boolean) wsX9_isLegal RX9 D cy nestWs A) (h : w9_isLegal_b25 x1 S Q) {H : Heap} {locs : List Loc} (hG : GW D A s (w9 o q cy S) H locs) {ls : Array Slot} (hl : lv_has ls 6 [(0, .ref o), (1, .int x1)]) : W p l e ({ frames := 1, cells := 0, slots := 0, locals := 24 } : Room) s m args below meth c H locs 0 0 (MQ below (va_Qi Q (B1 D (w9 o q cy) A) A) args s 0 0 A) (F0 m 25 ls []) := by
  obtain ⟨k, hn⟩ := h
  induction k generalizing x1 S H locs ls with
  | zero => exact hn.elim
  | succ k ih => exact b9_isLegal_d25 (K25 := fun y0 y1 => itr (w9_isLegal_F25 Q) k (y0, y1)) x1 S C (fun x1 S H locs ls hk hG hl => ih x1 S hG hl hk) hn hG hl
def w9_isLegal_d2 (K2 : Int32 → MS → Prop) (x1 : Int32) (S : MS) (Q : Int32 → MS → Prop) : Prop :=
  (((fI S 25) ≤ x1 → w9_isLegal_b25 (1 : Int32) S Q) ∧ (¬ (fI S 25) ≤ x1 → vp_in x1 128 ∧ ∀ S3 : MS, S3 = sA S 30 x1 x1 → ∀ y4 : Int32, y4 = x1 + 1 → K2 y4 S3))
set_option maxHeartbeats 4000000 in
set_option maxRecDepth 100000 in
theorem b9_isLegal_d2 {p : Program} {l : Launch} {e : Env} {s : State} {m : MethodId} {args : Array Value} {below : List Frame} {meth : Method} {c : Code} {D : va_G} {cy : Nat → ClassId} {A : Nat → Prop} {o : Nat} {q : Nat → Nat} {K2 : Int32 → MS → Prop} (x1 : Int32) (S : MS) {Q : Int32 → MS → Prop} (C : Cx p s m args meth c cX9_isLegal 6 (some .boolean) wsX9_isLegal RX9 D cy nestWs A) (hK2 : ∀ (x1 : Int32) (S : MS) (H : Heap) (locs : List Loc) (ls : Array Slot), K2 x1 S → GW D A s (w9 o q cy S) H locs → lv_has ls 6 [(0, .ref o), (1, .int x1)] → W p l e ({ frames := 1, cells := 0, slots := 0, locals := 24 } : Room) s m args below meth c H locs 0 0 (MQ below (va_Qi Q (B1 D (w9 o q cy) A) A) args s 0 0 A) (F0 m 2 ls [])) (h : w9_isLegal_d2 K2 x1 S Q) {H : Heap} {locs : List Loc} (hG : GW D A s (w9 o q cy S) H locs) {ls : Array Slot} (hl : lv_has ls 6 [(0, .ref o), (1, .int x1)]) : W p l e ({ frames := 1, cells := 0, slots := 0, locals := 24 } : Room) s m args below meth c H locs 0 0 (MQ below (va_Qi Q (B1 D (w9 o q cy) A) A) args s 0 0 A) (F0 m 2 ls []) := by
  have hx := C.1
  have hb := C.2.1
  unfold w9_isLegal_d2 at h
  refine lv_iload_n hx hb dX9_isLegal_2 rfl (lv_at hl 1 rfl) ?_
  refine lv_aload_n hx hb dX9_isLegal_3 rfl (lv_at hl 0 rfl) ?_
  refine x9g_25 C i9_isLegal_X9 k9_isLegal_273 hG dX9_isLegal_4 ?_
  refine lv_icmp_ge (tgt := 23) hx hb dX9_isLegal_7 (by decide) (fun c1 => ?_) (fun c1 => ?_)
  · replace h := h.1 c1
    refine lv_iconst (v := 1) hx hb dX9_isLegal_23 (by decide) ?_
    refine lv_istore_n (lv' := [(1, .int (1 : Int32)), (0, .ref o)]) hx hb dX9_isLegal_24 rfl hl (by decide) rfl (fun ls hl => ?_)
    exact b9_isLegal_b25 (1 : Int32) S C h hG (lv_sub hl [1, 0] rfl)
  · replace h := h.2 c1
    refine lv_aload_n hx hb dX9_isLegal_10 rfl (lv_at hl 0 rfl) ?_
    refine x9g_30 C i9_isLegal_X9 k9_isLegal_83 hG dX9_isLegal_11 ?_
    refine lv_iload_n hx hb dX9_isLegal_14 rfl (lv_at hl 1 rfl) ?_
    refine lv_iload_n hx hb dX9_isLegal_15 rfl (lv_at hl 1 rfl) ?_
    obtain ⟨hv2, h⟩ := h
    refine x9s_30 C hG hv2 dX9_isLegal_16 (fun S3 eS3 H locs hG => ?_)
    replace h := h S3 eS3
    obtain ⟨y4, ey4⟩ : ∃ y : Int32, y = x1 + 1 := ⟨_, rfl⟩
    replace h := h y4 ey4
    refine lv_iinc (v := y4) (lv' := [(1, .int y4), (0, .ref o)]) hx hb dX9_isLegal_17 hl (k := 1) rfl (by rw [ey4]; rfl) (by decide) rfl (fun ls hl => ?_)
    refine lv_goto (tgt := 2) hx hb dX9_isLegal_20 (by decide) ?_
    exact hK2 y4 S3 _ _ _ h hG (lv_sub hl [1, 0] rfl)
def w9_isLegal_F2 (Q : Int32 → MS → Prop) (K : Int32 × MS → Prop) (a : Int32 × MS) : Prop := w9_isLegal_d2 (fun y0 y1 => K (y0, y1)) a.1 a.2 Q
def w9_isLegal_b2 (x1 : Int32) (S : MS) (Q : Int32 → MS → Prop) : Prop := lp (w9_isLegal_F2 Q) (x1, S)
set_option maxHeartbeats 4000000 in
set_option maxRecDepth 100000 in
theorem b9_isLegal_b2 {p : Program} {l : Launch} {e : Env} {s : State} {m : MethodId} {args : Array Value} {below : List Frame} {meth : Method} {c : Code} {D : va_G} {cy : Nat → ClassId} {A : Nat → Prop} {o : Nat} {q : Nat → Nat} (x1 : Int32) (S : MS) {Q : Int32 → MS → Prop} (C : Cx p s m args meth c cX9_isLegal 6 (some .boolean) wsX9_isLegal RX9 D cy nestWs A) (h : w9_isLegal_b2 x1 S Q) {H : Heap} {locs : List Loc} (hG : GW D A s (w9 o q cy S) H locs) {ls : Array Slot} (hl : lv_has ls 6 [(0, .ref o), (1, .int x1)]) : W p l e ({ frames := 1, cells := 0, slots := 0, locals := 24 } : Room) s m args below meth c H locs 0 0 (MQ below (va_Qi Q (B1 D (w9 o q cy) A) A) args s 0 0 A) (F0 m 2 ls []) := by
  obtain ⟨k, hn⟩ := h
  induction k generalizing x1 S H locs ls with
  | zero => exact hn.elim
  | succ k ih => exact b9_isLegal_d2 (K2 := fun y0 y1 => itr (w9_isLegal_F2 Q) k (y0, y1)) x1 S C (fun x1 S H locs ls hk hG hl => ih x1 S hG hl hk) hn hG hl
def w9_isLegal (S : MS) (Q : Int32 → MS → Prop) : Prop :=
  w9_isLegal_b2 (0 : Int32) S Q
set_option maxHeartbeats 4000000 in
set_option maxRecDepth 100000 in
theorem c9_isLegal (l : Launch) (D : va_G) (cy : Nat → ClassId)  (o : Nat) (q : Nat → Nat) (S : MS) (Q : Int32 → MS → Prop) (h : w9_isLegal S Q) : MetI l yX9_isLegal wsX9_isLegal ({ frames := 1, cells := 0, slots := 0, locals := 24 } : Room) D cy nestWs (w9 o q cy) [.ref o] S Q := by
  refine MetI.mk RX9 cX9_isLegal 6 .boolean (by decide) rfl nestWs_ok rfl (Nat.le_of_ble_eq_true rfl) ?_
  intro p e s m below meth c A ls C hG hl
  have hl : lv_has ls 6 [(0, .ref o)] := hl
  have hx := C.1
  have hb := C.2.1
  unfold w9_isLegal at h
  refine lv_iconst (v := 0) hx hb dX9_isLegal_0 (by decide) ?_
  refine lv_istore_n (lv' := [(1, .int (0 : Int32)), (0, .ref o)]) hx hb dX9_isLegal_1 rfl hl (by decide) rfl (fun ls hl => ?_)
  exact b9_isLegal_b2 (0 : Int32) S C h hG (lv_sub hl [1, 0] rfl)
-- X9_firstFree
theorem i9_firstFree_X9 : ∀ w ∈ wsX90, w ∈ wsX9_firstFree := fun w h => List.mem_cons_of_mem _ (inG_X9 w h)
theorem k9_firstFree_80 : Cond.fieldLink RX9 80 "PaperBodiesModel" "partner" "[I" ∈ wsX9_firstFree := (List.mem_cons_of_mem _ mw_560)
theorem k9_firstFree_273 : Cond.fieldLink RX9 273 "PaperBodiesModel" "edges" "I" ∈ wsX9_firstFree := (List.mem_cons_of_mem _ mw_746)
def w9_firstFree_b25 (x1 : Int32) (S : MS) (Q : Int32 → Prop) : Prop :=
  Q x1
set_option maxHeartbeats 4000000 in
set_option maxRecDepth 100000 in
theorem b9_firstFree_b25 {p : Program} {l : Launch} {e : Env} {s : State} {m : MethodId} {args : Array Value} {below : List Frame} {meth : Method} {c : Code} {D : va_G} {cy : Nat → ClassId} {A : Nat → Prop} {o : Nat} {q : Nat → Nat} (x1 : Int32) (S : MS) {Q : Int32 → Prop} (C : Cx p s m args meth c cX9_firstFree 2 (some .int) wsX9_firstFree RX9 D cy nestWs A) (h : w9_firstFree_b25 x1 S Q) {H : Heap} {locs : List Loc} (hG : GW D A s (w9 o q cy S) H locs) {ls : Array Slot} (hl : lv_has ls 2 [(0, .ref o), (1, .int x1)]) : W p l e ({ frames := 0, cells := 0, slots := 0, locals := 0 } : Room) s m args below meth c H locs 0 0 (MQ below (va_Qi (fun r z => z = S ∧ Q r ) (B1 D (w9 o q cy) A) A) args s 0 0 A) (F0 m 25 ls []) := by
  have hx := C.1
  have hb := C.2.1
  unfold w9_firstFree_b25 at h
  refine lv_iload_n hx hb dX9_firstFree_25 rfl (lv_at hl 1 rfl) ?_
  exact retI (w := (w9 o q cy)) (S := S) C hG ⟨rfl, h⟩ dX9_firstFree_26
def w9_firstFree_d2 (K2 : Int32 → Prop) (x1 : Int32) (S : MS) (Q : Int32 → Prop) : Prop :=
  (((fI S 25) ≤ x1 → w9_firstFree_b25 x1 S Q) ∧ (¬ (fI S 25) ≤ x1 → vp_in x1 128 ∧ (((rA S 29 x1) < 0 → w9_firstFree_b25 x1 S Q) ∧ (¬ (rA S 29 x1) < 0 → ∀ y4 : Int32, y4 = x1 + 1 → K2 y4))))
set_option maxHeartbeats 4000000 in
set_option maxRecDepth 100000 in
theorem b9_firstFree_d2 {p : Program} {l : Launch} {e : Env} {s : State} {m : MethodId} {args : Array Value} {below : List Frame} {meth : Method} {c : Code} {D : va_G} {cy : Nat → ClassId} {A : Nat → Prop} {o : Nat} {q : Nat → Nat} {K2 : Int32 → Prop} (x1 : Int32) (S : MS) {Q : Int32 → Prop} (C : Cx p s m args meth c cX9_firstFree 2 (some .int) wsX9_firstFree RX9 D cy nestWs A) (hK2 : ∀ (x1 : Int32) (H : Heap) (locs : List Loc) (ls : Array Slot), K2 x1 → GW D A s (w9 o q cy S) H locs → lv_has ls 2 [(0, .ref o), (1, .int x1)] → W p l e ({ frames := 0, cells := 0, slots := 0, locals := 0 } : Room) s m args below meth c H locs 0 0 (MQ below (va_Qi (fun r z => z = S ∧ Q r ) (B1 D (w9 o q cy) A) A) args s 0 0 A) (F0 m 2 ls [])) (h : w9_firstFree_d2 K2 x1 S Q) {H : Heap} {locs : List Loc} (hG : GW D A s (w9 o q cy S) H locs) {ls : Array Slot} (hl : lv_has ls 2 [(0, .ref o), (1, .int x1)]) : W p l e ({ frames := 0, cells := 0, slots := 0, locals := 0 } : Room) s m args below meth c H locs 0 0 (MQ below (va_Qi (fun r z => z = S ∧ Q r ) (B1 D (w9 o q cy) A) A) args s 0 0 A) (F0 m 2 ls []) := by
  have hx := C.1
  have hb := C.2.1
  unfold w9_firstFree_d2 at h
  refine lv_iload_n hx hb dX9_firstFree_2 rfl (lv_at hl 1 rfl) ?_
  refine lv_aload_n hx hb dX9_firstFree_3 rfl (lv_at hl 0 rfl) ?_
  refine x9g_25 C i9_firstFree_X9 k9_firstFree_273 hG dX9_firstFree_4 ?_
  refine lv_icmp_ge (tgt := 25) hx hb dX9_firstFree_7 (by decide) (fun c1 => ?_) (fun c1 => ?_)
  · replace h := h.1 c1
    exact b9_firstFree_b25 x1 S C h hG hl
  · replace h := h.2 c1
    refine lv_aload_n hx hb dX9_firstFree_10 rfl (lv_at hl 0 rfl) ?_
    refine x9g_29 C i9_firstFree_X9 k9_firstFree_80 hG dX9_firstFree_11 ?_
    refine lv_iload_n hx hb dX9_firstFree_14 rfl (lv_at hl 1 rfl) ?_
    obtain ⟨hv2, h⟩ := h
    refine x9l_29 C hG hv2 dX9_firstFree_15 ?_
    refine lv_if_lt (tgt := 25) hx hb dX9_firstFree_16 (by decide) (fun c3 => ?_) (fun c3 => ?_)
    · replace h := h.1 c3
      exact b9_firstFree_b25 x1 S C h hG hl
    · replace h := h.2 c3
      obtain ⟨y4, ey4⟩ : ∃ y : Int32, y = x1 + 1 := ⟨_, rfl⟩
      replace h := h y4 ey4
      refine lv_iinc (v := y4) (lv' := [(1, .int y4), (0, .ref o)]) hx hb dX9_firstFree_19 hl (k := 1) rfl (by rw [ey4]; rfl) (by decide) rfl (fun ls hl => ?_)
      refine lv_goto (tgt := 2) hx hb dX9_firstFree_22 (by decide) ?_
      exact hK2 y4 _ _ _ h hG (lv_sub hl [1, 0] rfl)
def w9_firstFree_F2 (S : MS) (Q : Int32 → Prop) (K : Int32 → Prop) (a : Int32) : Prop := w9_firstFree_d2 (fun y0 => K (y0)) a S Q
def w9_firstFree_b2 (x1 : Int32) (S : MS) (Q : Int32 → Prop) : Prop := lp (w9_firstFree_F2 S Q) (x1)
set_option maxHeartbeats 4000000 in
set_option maxRecDepth 100000 in
theorem b9_firstFree_b2 {p : Program} {l : Launch} {e : Env} {s : State} {m : MethodId} {args : Array Value} {below : List Frame} {meth : Method} {c : Code} {D : va_G} {cy : Nat → ClassId} {A : Nat → Prop} {o : Nat} {q : Nat → Nat} (x1 : Int32) (S : MS) {Q : Int32 → Prop} (C : Cx p s m args meth c cX9_firstFree 2 (some .int) wsX9_firstFree RX9 D cy nestWs A) (h : w9_firstFree_b2 x1 S Q) {H : Heap} {locs : List Loc} (hG : GW D A s (w9 o q cy S) H locs) {ls : Array Slot} (hl : lv_has ls 2 [(0, .ref o), (1, .int x1)]) : W p l e ({ frames := 0, cells := 0, slots := 0, locals := 0 } : Room) s m args below meth c H locs 0 0 (MQ below (va_Qi (fun r z => z = S ∧ Q r ) (B1 D (w9 o q cy) A) A) args s 0 0 A) (F0 m 2 ls []) := by
  obtain ⟨k, hn⟩ := h
  induction k generalizing x1 H locs ls with
  | zero => exact hn.elim
  | succ k ih => exact b9_firstFree_d2 (K2 := fun y0 => itr (w9_firstFree_F2 S Q) k (y0)) x1 S C (fun x1 H locs ls hk hG hl => ih x1 hG hl hk) hn hG hl
def w9_firstFree (S : MS) (Q : Int32 → Prop) : Prop :=
  w9_firstFree_b2 (0 : Int32) S Q
set_option maxHeartbeats 4000000 in
set_option maxRecDepth 100000 in
theorem c9_firstFree (l : Launch) (D : va_G) (cy : Nat → ClassId)  (o : Nat) (q : Nat → Nat) (S : MS) (Q : Int32 → Prop) (h : w9_firstFree S Q) : MetI l yX9_firstFree wsX9_firstFree ({ frames := 0, cells := 0, slots := 0, locals := 0 } : Room) D cy nestWs (w9 o q cy) [.ref o] S (fun r z => z = S ∧ Q r ) := by
  refine MetI.mk RX9 cX9_firstFree 2 .int (by decide) rfl nestWs_ok rfl (Nat.le_of_ble_eq_true rfl) ?_
  intro p e s m below meth c A ls C hG hl
  have hl : lv_has ls 2 [(0, .ref o)] := hl
  have hx := C.1
  have hb := C.2.1
  unfold w9_firstFree at h
  refine lv_iconst (v := 0) hx hb dX9_firstFree_0 (by decide) ?_
  refine lv_istore_n (lv' := [(1, .int (0 : Int32)), (0, .ref o)]) hx hb dX9_firstFree_1 rfl hl (by decide) rfl (fun ls hl => ?_)
  exact b9_firstFree_b2 (0 : Int32) S C h hG (lv_sub hl [1, 0] rfl)
-- X9_keepFirst
theorem i9_keepFirst_X9 : ∀ w ∈ wsX90, w ∈ wsX9_keepFirst := fun w h => List.mem_cons_of_mem _ (inG_X9 w h)
theorem k9_keepFirst_80 : Cond.fieldLink RX9 80 "PaperBodiesModel" "partner" "[I" ∈ wsX9_keepFirst := (List.mem_cons_of_mem _ mw_560)
theorem k9_keepFirst_86 : Cond.fieldLink RX9 86 "PaperBodiesModel" "corner" "[I" ∈ wsX9_keepFirst := (List.mem_cons_of_mem _ mw_562)
theorem k9_keepFirst_98 : Cond.fieldLink RX9 98 "PaperBodiesModel" "heldGlued" "[I" ∈ wsX9_keepFirst := (List.mem_cons_of_mem _ mw_566)
theorem k9_keepFirst_101 : Cond.fieldLink RX9 101 "PaperBodiesModel" "heldCorner" "[I" ∈ wsX9_keepFirst := (List.mem_cons_of_mem _ mw_567)
theorem k9_keepFirst_273 : Cond.fieldLink RX9 273 "PaperBodiesModel" "edges" "I" ∈ wsX9_keepFirst := (List.mem_cons_of_mem _ mw_746)
def w9_keepFirst_d41 (K41 : Int32 → MS → Prop) (x1 : Int32) (S : MS) (Q : MS → Prop) : Prop :=
  (((5 : Int32) ≤ x1 → Q S) ∧ (¬ (5 : Int32) ≤ x1 → vp_in x1 5 ∧ ∀ S3 : MS, S3 = sA S 39 x1 (rA S 31 x1) → ∀ y4 : Int32, y4 = x1 + 1 → K41 y4 S3))
set_option maxHeartbeats 4000000 in
set_option maxRecDepth 100000 in
theorem b9_keepFirst_d41 {p : Program} {l : Launch} {e : Env} {s : State} {m : MethodId} {args : Array Value} {below : List Frame} {meth : Method} {c : Code} {D : va_G} {cy : Nat → ClassId} {A : Nat → Prop} {o : Nat} {q : Nat → Nat} {K41 : Int32 → MS → Prop} (x1 : Int32) (S : MS) {Q : MS → Prop} (C : Cx p s m args meth c cX9_keepFirst 2 (none) wsX9_keepFirst RX9 D cy nestWs A) (hK41 : ∀ (x1 : Int32) (S : MS) (H : Heap) (locs : List Loc) (ls : Array Slot), K41 x1 S → GW D A s (w9 o q cy S) H locs → lv_has ls 2 [(0, .ref o), (1, .int x1)] → W p l e ({ frames := 0, cells := 0, slots := 0, locals := 0 } : Room) s m args below meth c H locs 0 0 (MQ below (va_Qv Q (B1 D (w9 o q cy) A) A) args s 0 0 A) (F0 m 41 ls [])) (h : w9_keepFirst_d41 K41 x1 S Q) {H : Heap} {locs : List Loc} (hG : GW D A s (w9 o q cy S) H locs) {ls : Array Slot} (hl : lv_has ls 2 [(0, .ref o), (1, .int x1)]) : W p l e ({ frames := 0, cells := 0, slots := 0, locals := 0 } : Room) s m args below meth c H locs 0 0 (MQ below (va_Qv Q (B1 D (w9 o q cy) A) A) args s 0 0 A) (F0 m 41 ls []) := by
  have hx := C.1
  have hb := C.2.1
  unfold w9_keepFirst_d41 at h
  refine lv_iload_n hx hb dX9_keepFirst_41 rfl (lv_at hl 1 rfl) ?_
  refine lv_iconst (v := 5) hx hb dX9_keepFirst_42 (by decide) ?_
  refine lv_icmp_ge (tgt := 64) hx hb dX9_keepFirst_43 (by decide) (fun c1 => ?_) (fun c1 => ?_)
  · replace h := h.1 c1
    exact retV (w := (w9 o q cy)) (S := S) C hG h dX9_keepFirst_64
  · replace h := h.2 c1
    refine lv_aload_n hx hb dX9_keepFirst_46 rfl (lv_at hl 0 rfl) ?_
    refine x9g_39 C i9_keepFirst_X9 k9_keepFirst_101 hG dX9_keepFirst_47 ?_
    refine lv_iload_n hx hb dX9_keepFirst_50 rfl (lv_at hl 1 rfl) ?_
    refine lv_aload_n hx hb dX9_keepFirst_51 rfl (lv_at hl 0 rfl) ?_
    refine x9g_31 C i9_keepFirst_X9 k9_keepFirst_86 hG dX9_keepFirst_52 ?_
    refine lv_iload_n hx hb dX9_keepFirst_55 rfl (lv_at hl 1 rfl) ?_
    obtain ⟨hv2, h⟩ := h
    refine x9l_31 C hG hv2 dX9_keepFirst_56 ?_
    refine x9s_39 C hG hv2 dX9_keepFirst_57 (fun S3 eS3 H locs hG => ?_)
    replace h := h S3 eS3
    obtain ⟨y4, ey4⟩ : ∃ y : Int32, y = x1 + 1 := ⟨_, rfl⟩
    replace h := h y4 ey4
    refine lv_iinc (v := y4) (lv' := [(1, .int y4), (0, .ref o)]) hx hb dX9_keepFirst_58 hl (k := 1) rfl (by rw [ey4]; rfl) (by decide) rfl (fun ls hl => ?_)
    refine lv_goto (tgt := 41) hx hb dX9_keepFirst_61 (by decide) ?_
    exact hK41 y4 S3 _ _ _ h hG (lv_sub hl [1, 0] rfl)
def w9_keepFirst_F41 (Q : MS → Prop) (K : Int32 × MS → Prop) (a : Int32 × MS) : Prop := w9_keepFirst_d41 (fun y0 y1 => K (y0, y1)) a.1 a.2 Q
def w9_keepFirst_b41 (x1 : Int32) (S : MS) (Q : MS → Prop) : Prop := lp (w9_keepFirst_F41 Q) (x1, S)
set_option maxHeartbeats 4000000 in
set_option maxRecDepth 100000 in
theorem b9_keepFirst_b41 {p : Program} {l : Launch} {e : Env} {s : State} {m : MethodId} {args : Array Value} {below : List Frame} {meth : Method} {c : Code} {D : va_G} {cy : Nat → ClassId} {A : Nat → Prop} {o : Nat} {q : Nat → Nat} (x1 : Int32) (S : MS) {Q : MS → Prop} (C : Cx p s m args meth c cX9_keepFirst 2 (none) wsX9_keepFirst RX9 D cy nestWs A) (h : w9_keepFirst_b41 x1 S Q) {H : Heap} {locs : List Loc} (hG : GW D A s (w9 o q cy S) H locs) {ls : Array Slot} (hl : lv_has ls 2 [(0, .ref o), (1, .int x1)]) : W p l e ({ frames := 0, cells := 0, slots := 0, locals := 0 } : Room) s m args below meth c H locs 0 0 (MQ below (va_Qv Q (B1 D (w9 o q cy) A) A) args s 0 0 A) (F0 m 41 ls []) := by
  obtain ⟨k, hn⟩ := h
  induction k generalizing x1 S H locs ls with
  | zero => exact hn.elim
  | succ k ih => exact b9_keepFirst_d41 (K41 := fun y0 y1 => itr (w9_keepFirst_F41 Q) k (y0, y1)) x1 S C (fun x1 S H locs ls hk hG hl => ih x1 S hG hl hk) hn hG hl
def w9_keepFirst_b32 (K2 : Int32 → MS → Prop) (x1 : Int32) (t1 : Int32) (t2 : Int32) (S : MS) (Q : MS → Prop) : Prop :=
  vp_in t1 64 ∧ ∀ S2 : MS, S2 = sA S 38 t1 t2 → ∀ y3 : Int32, y3 = x1 + 1 → K2 y3 S2
set_option maxHeartbeats 4000000 in
set_option maxRecDepth 100000 in
theorem b9_keepFirst_b32 {p : Program} {l : Launch} {e : Env} {s : State} {m : MethodId} {args : Array Value} {below : List Frame} {meth : Method} {c : Code} {D : va_G} {cy : Nat → ClassId} {A : Nat → Prop} {o : Nat} {q : Nat → Nat} {K2 : Int32 → MS → Prop} (x1 : Int32) (t1 : Int32) (t2 : Int32) (S : MS) {Q : MS → Prop} (C : Cx p s m args meth c cX9_keepFirst 2 (none) wsX9_keepFirst RX9 D cy nestWs A) (hK2 : ∀ (x1 : Int32) (S : MS) (H : Heap) (locs : List Loc) (ls : Array Slot), K2 x1 S → GW D A s (w9 o q cy S) H locs → lv_has ls 2 [(0, .ref o), (1, .int x1)] → W p l e ({ frames := 0, cells := 0, slots := 0, locals := 0 } : Room) s m args below meth c H locs 0 0 (MQ below (va_Qv Q (B1 D (w9 o q cy) A) A) args s 0 0 A) (F0 m 2 ls [])) (h : w9_keepFirst_b32 K2 x1 t1 t2 S Q) {H : Heap} {locs : List Loc} (hG : GW D A s (w9 o q cy S) H locs) {ls : Array Slot} (hl : lv_has ls 2 [(0, .ref o), (1, .int x1)]) : W p l e ({ frames := 0, cells := 0, slots := 0, locals := 0 } : Room) s m args below meth c H locs 0 0 (MQ below (va_Qv Q (B1 D (w9 o q cy) A) A) args s 0 0 A) (F0 m 32 ls [.int t2, .int t1, .ref (q 38)]) := by
  have hx := C.1
  have hb := C.2.1
  unfold w9_keepFirst_b32 at h
  obtain ⟨hv1, h⟩ := h
  refine x9s_38 C hG hv1 dX9_keepFirst_32 (fun S2 eS2 H locs hG => ?_)
  replace h := h S2 eS2
  obtain ⟨y3, ey3⟩ : ∃ y : Int32, y = x1 + 1 := ⟨_, rfl⟩
  replace h := h y3 ey3
  refine lv_iinc (v := y3) (lv' := [(1, .int y3), (0, .ref o)]) hx hb dX9_keepFirst_33 hl (k := 1) rfl (by rw [ey3]; rfl) (by decide) rfl (fun ls hl => ?_)
  refine lv_goto (tgt := 2) hx hb dX9_keepFirst_36 (by decide) ?_
  exact hK2 y3 S2 _ _ _ h hG (lv_sub hl [1, 0] rfl)
def w9_keepFirst_d2 (K2 : Int32 → MS → Prop) (x1 : Int32) (S : MS) (Q : MS → Prop) : Prop :=
  (((64 : Int32) ≤ x1 → w9_keepFirst_b41 (0 : Int32) S Q) ∧ (¬ (64 : Int32) ≤ x1 → (((fI S 25) ≤ x1 → w9_keepFirst_b32 K2 x1 x1 (-9 : Int32) S Q) ∧ (¬ (fI S 25) ≤ x1 → vp_in x1 128 ∧ w9_keepFirst_b32 K2 x1 x1 (rA S 29 x1) S Q))))
set_option maxHeartbeats 4000000 in
set_option maxRecDepth 100000 in
theorem b9_keepFirst_d2 {p : Program} {l : Launch} {e : Env} {s : State} {m : MethodId} {args : Array Value} {below : List Frame} {meth : Method} {c : Code} {D : va_G} {cy : Nat → ClassId} {A : Nat → Prop} {o : Nat} {q : Nat → Nat} {K2 : Int32 → MS → Prop} (x1 : Int32) (S : MS) {Q : MS → Prop} (C : Cx p s m args meth c cX9_keepFirst 2 (none) wsX9_keepFirst RX9 D cy nestWs A) (hK2 : ∀ (x1 : Int32) (S : MS) (H : Heap) (locs : List Loc) (ls : Array Slot), K2 x1 S → GW D A s (w9 o q cy S) H locs → lv_has ls 2 [(0, .ref o), (1, .int x1)] → W p l e ({ frames := 0, cells := 0, slots := 0, locals := 0 } : Room) s m args below meth c H locs 0 0 (MQ below (va_Qv Q (B1 D (w9 o q cy) A) A) args s 0 0 A) (F0 m 2 ls [])) (h : w9_keepFirst_d2 K2 x1 S Q) {H : Heap} {locs : List Loc} (hG : GW D A s (w9 o q cy S) H locs) {ls : Array Slot} (hl : lv_has ls 2 [(0, .ref o), (1, .int x1)]) : W p l e ({ frames := 0, cells := 0, slots := 0, locals := 0 } : Room) s m args below meth c H locs 0 0 (MQ below (va_Qv Q (B1 D (w9 o q cy) A) A) args s 0 0 A) (F0 m 2 ls []) := by
  have hx := C.1
  have hb := C.2.1
  unfold w9_keepFirst_d2 at h
  refine lv_iload_n hx hb dX9_keepFirst_2 rfl (lv_at hl 1 rfl) ?_
  refine lv_bipush (v := 64) hx hb dX9_keepFirst_3 (by decide) ?_
  refine lv_icmp_ge (tgt := 39) hx hb dX9_keepFirst_5 (by decide) (fun c1 => ?_) (fun c1 => ?_)
  · replace h := h.1 c1
    refine lv_iconst (v := 0) hx hb dX9_keepFirst_39 (by decide) ?_
    refine lv_istore_n (lv' := [(1, .int (0 : Int32)), (0, .ref o)]) hx hb dX9_keepFirst_40 rfl hl (by decide) rfl (fun ls hl => ?_)
    exact b9_keepFirst_b41 (0 : Int32) S C h hG (lv_sub hl [1, 0] rfl)
  · replace h := h.2 c1
    refine lv_aload_n hx hb dX9_keepFirst_8 rfl (lv_at hl 0 rfl) ?_
    refine x9g_38 C i9_keepFirst_X9 k9_keepFirst_98 hG dX9_keepFirst_9 ?_
    refine lv_iload_n hx hb dX9_keepFirst_12 rfl (lv_at hl 1 rfl) ?_
    refine lv_iload_n hx hb dX9_keepFirst_13 rfl (lv_at hl 1 rfl) ?_
    refine lv_aload_n hx hb dX9_keepFirst_14 rfl (lv_at hl 0 rfl) ?_
    refine x9g_25 C i9_keepFirst_X9 k9_keepFirst_273 hG dX9_keepFirst_15 ?_
    refine lv_icmp_ge (tgt := 30) hx hb dX9_keepFirst_18 (by decide) (fun c2 => ?_) (fun c2 => ?_)
    · replace h := h.1 c2
      refine lv_bipush (v := -9) hx hb dX9_keepFirst_30 (by decide) ?_
      exact b9_keepFirst_b32 (K2 := K2) x1 x1 (-9 : Int32) S C hK2 h hG hl
    · replace h := h.2 c2
      refine lv_aload_n hx hb dX9_keepFirst_21 rfl (lv_at hl 0 rfl) ?_
      refine x9g_29 C i9_keepFirst_X9 k9_keepFirst_80 hG dX9_keepFirst_22 ?_
      refine lv_iload_n hx hb dX9_keepFirst_25 rfl (lv_at hl 1 rfl) ?_
      obtain ⟨hv3, h⟩ := h
      refine x9l_29 C hG hv3 dX9_keepFirst_26 ?_
      refine lv_goto (tgt := 32) hx hb dX9_keepFirst_27 (by decide) ?_
      exact b9_keepFirst_b32 (K2 := K2) x1 x1 (rA S 29 x1) S C hK2 h hG hl
def w9_keepFirst_F2 (Q : MS → Prop) (K : Int32 × MS → Prop) (a : Int32 × MS) : Prop := w9_keepFirst_d2 (fun y0 y1 => K (y0, y1)) a.1 a.2 Q
def w9_keepFirst_b2 (x1 : Int32) (S : MS) (Q : MS → Prop) : Prop := lp (w9_keepFirst_F2 Q) (x1, S)
set_option maxHeartbeats 4000000 in
set_option maxRecDepth 100000 in
theorem b9_keepFirst_b2 {p : Program} {l : Launch} {e : Env} {s : State} {m : MethodId} {args : Array Value} {below : List Frame} {meth : Method} {c : Code} {D : va_G} {cy : Nat → ClassId} {A : Nat → Prop} {o : Nat} {q : Nat → Nat} (x1 : Int32) (S : MS) {Q : MS → Prop} (C : Cx p s m args meth c cX9_keepFirst 2 (none) wsX9_keepFirst RX9 D cy nestWs A) (h : w9_keepFirst_b2 x1 S Q) {H : Heap} {locs : List Loc} (hG : GW D A s (w9 o q cy S) H locs) {ls : Array Slot} (hl : lv_has ls 2 [(0, .ref o), (1, .int x1)]) : W p l e ({ frames := 0, cells := 0, slots := 0, locals := 0 } : Room) s m args below meth c H locs 0 0 (MQ below (va_Qv Q (B1 D (w9 o q cy) A) A) args s 0 0 A) (F0 m 2 ls []) := by
  obtain ⟨k, hn⟩ := h
  induction k generalizing x1 S H locs ls with
  | zero => exact hn.elim
  | succ k ih => exact b9_keepFirst_d2 (K2 := fun y0 y1 => itr (w9_keepFirst_F2 Q) k (y0, y1)) x1 S C (fun x1 S H locs ls hk hG hl => ih x1 S hG hl hk) hn hG hl
def w9_keepFirst (S : MS) (Q : MS → Prop) : Prop :=
  w9_keepFirst_b2 (0 : Int32) S Q
set_option maxHeartbeats 4000000 in
set_option maxRecDepth 100000 in
theorem c9_keepFirst (l : Launch) (D : va_G) (cy : Nat → ClassId)  (o : Nat) (q : Nat → Nat) (S : MS) (Q : MS → Prop) (h : w9_keepFirst S Q) : MetV l yX9_keepFirst wsX9_keepFirst ({ frames := 0, cells := 0, slots := 0, locals := 0 } : Room) D cy nestWs (w9 o q cy) [.ref o] S Q := by
  refine MetV.mk RX9 cX9_keepFirst 2 (by decide) rfl nestWs_ok rfl (Nat.le_of_ble_eq_true rfl) ?_
  intro p e s m below meth c A ls C hG hl
  have hl : lv_has ls 2 [(0, .ref o)] := hl
  have hx := C.1
  have hb := C.2.1
  unfold w9_keepFirst at h
  refine lv_iconst (v := 0) hx hb dX9_keepFirst_0 (by decide) ?_
  refine lv_istore_n (lv' := [(1, .int (0 : Int32)), (0, .ref o)]) hx hb dX9_keepFirst_1 rfl hl (by decide) rfl (fun ls hl => ?_)
  exact b9_keepFirst_b2 (0 : Int32) S C h hG (lv_sub hl [1, 0] rfl)
-- X9_gluings
theorem i9_gluings_X9 : ∀ w ∈ wsX90, w ∈ wsX9_gluings := fun w h => List.mem_cons_of_mem _ (inG_X9 w h)
theorem k9_gluings_80 : Cond.fieldLink RX9 80 "PaperBodiesModel" "partner" "[I" ∈ wsX9_gluings := (List.mem_cons_of_mem _ mw_560)
theorem k9_gluings_89 : Cond.fieldLink RX9 89 "PaperBodiesModel" "firstGlued" "[I" ∈ wsX9_gluings := (List.mem_cons_of_mem _ mw_563)
theorem k9_gluings_92 : Cond.fieldLink RX9 92 "PaperBodiesModel" "firstCorner" "[I" ∈ wsX9_gluings := (List.mem_cons_of_mem _ mw_564)
theorem k9_gluings_95 : Cond.fieldLink RX9 95 "PaperBodiesModel" "glued" "[I" ∈ wsX9_gluings := (List.mem_cons_of_mem _ mw_565)
theorem k9_gluings_98 : Cond.fieldLink RX9 98 "PaperBodiesModel" "heldGlued" "[I" ∈ wsX9_gluings := (List.mem_cons_of_mem _ mw_566)
theorem k9_gluings_101 : Cond.fieldLink RX9 101 "PaperBodiesModel" "heldCorner" "[I" ∈ wsX9_gluings := (List.mem_cons_of_mem _ mw_567)
theorem k9_gluings_273 : Cond.fieldLink RX9 273 "PaperBodiesModel" "edges" "I" ∈ wsX9_gluings := (List.mem_cons_of_mem _ mw_746)
theorem k9_gluings_288 : Cond.fieldLink RX9 288 "PaperBodiesModel" "tries" "I" ∈ wsX9_gluings := (List.mem_cons_of_mem _ mw_765)
theorem k9_gluings_301 : Cond.fieldLink RX9 301 "PaperBodiesModel" "isFirst" "Z" ∈ wsX9_gluings := (List.mem_cons_of_mem _ mw_766)
def w9_gluings_d394 (K394 : Int32 → MS → Prop) (x4 : Int32) (x7 : Int32) (S : MS) (Q : Int32 → MS → Prop) : Prop :=
  (((5 : Int32) ≤ x7 → Q x4 S) ∧ (¬ (5 : Int32) ≤ x7 → vp_in x7 5 ∧ ∀ S3 : MS, S3 = sA S 35 x7 (rA S 39 x7) → ∀ y4 : Int32, y4 = x7 + 1 → K394 y4 S3))
set_option maxHeartbeats 4000000 in
set_option maxRecDepth 100000 in
theorem b9_gluings_d394 {p : Program} {l : Launch} {e : Env} {s : State} {m : MethodId} {args : Array Value} {below : List Frame} {meth : Method} {c : Code} {D : va_G} {cy : Nat → ClassId} {A : Nat → Prop} {o : Nat} {q : Nat → Nat} {K394 : Int32 → MS → Prop} (x4 : Int32) (x7 : Int32) (S : MS) {Q : Int32 → MS → Prop} (C : Cx p s m args meth c cX9_gluings 10 (some .int) wsX9_gluings RX9 D cy nestWs A) (hK394 : ∀ (x7 : Int32) (S : MS) (H : Heap) (locs : List Loc) (ls : Array Slot), K394 x7 S → GW D A s (w9 o q cy S) H locs → lv_has ls 10 [(0, .ref o), (4, .int x4), (7, .int x7)] → W p l e ({ frames := 5, cells := 0, slots := 0, locals := 119 } : Room) s m args below meth c H locs 0 0 (MQ below (va_Qi Q (B1 D (w9 o q cy) A) A) args s 0 0 A) (F0 m 394 ls [])) (h : w9_gluings_d394 K394 x4 x7 S Q) {H : Heap} {locs : List Loc} (hG : GW D A s (w9 o q cy S) H locs) {ls : Array Slot} (hl : lv_has ls 10 [(0, .ref o), (4, .int x4), (7, .int x7)]) : W p l e ({ frames := 5, cells := 0, slots := 0, locals := 119 } : Room) s m args below meth c H locs 0 0 (MQ below (va_Qi Q (B1 D (w9 o q cy) A) A) args s 0 0 A) (F0 m 394 ls []) := by
  have hx := C.1
  have hb := C.2.1
  unfold w9_gluings_d394 at h
  refine lv_iload hx hb dX9_gluings_394 (lv_at hl 2 rfl) ?_
  refine lv_iconst (v := 5) hx hb dX9_gluings_396 (by decide) ?_
  refine lv_icmp_ge (tgt := 420) hx hb dX9_gluings_397 (by decide) (fun c1 => ?_) (fun c1 => ?_)
  · replace h := h.1 c1
    refine lv_iload hx hb dX9_gluings_420 (lv_at hl 1 rfl) ?_
    exact retI (w := (w9 o q cy)) (S := S) C hG h dX9_gluings_422
  · replace h := h.2 c1
    refine lv_aload_n hx hb dX9_gluings_400 rfl (lv_at hl 0 rfl) ?_
    refine x9g_35 C i9_gluings_X9 k9_gluings_92 hG dX9_gluings_401 ?_
    refine lv_iload hx hb dX9_gluings_404 (lv_at hl 2 rfl) ?_
    refine lv_aload_n hx hb dX9_gluings_406 rfl (lv_at hl 0 rfl) ?_
    refine x9g_39 C i9_gluings_X9 k9_gluings_101 hG dX9_gluings_407 ?_
    refine lv_iload hx hb dX9_gluings_410 (lv_at hl 2 rfl) ?_
    obtain ⟨hv2, h⟩ := h
    refine x9l_39 C hG hv2 dX9_gluings_412 ?_
    refine x9s_35 C hG hv2 dX9_gluings_413 (fun S3 eS3 H locs hG => ?_)
    replace h := h S3 eS3
    obtain ⟨y4, ey4⟩ : ∃ y : Int32, y = x7 + 1 := ⟨_, rfl⟩
    replace h := h y4 ey4
    refine lv_iinc (v := y4) (lv' := [(7, .int y4), (0, .ref o), (4, .int x4)]) hx hb dX9_gluings_414 hl (k := 2) rfl (by rw [ey4]; rfl) (by decide) rfl (fun ls hl => ?_)
    refine lv_goto (tgt := 394) hx hb dX9_gluings_417 (by decide) ?_
    exact hK394 y4 S3 _ _ _ h hG (lv_sub hl [1, 2, 0] rfl)
def w9_gluings_F394 (x4 : Int32) (Q : Int32 → MS → Prop) (K : Int32 × MS → Prop) (a : Int32 × MS) : Prop := w9_gluings_d394 (fun y0 y1 => K (y0, y1)) x4 a.1 a.2 Q
def w9_gluings_b394 (x4 : Int32) (x7 : Int32) (S : MS) (Q : Int32 → MS → Prop) : Prop := lp (w9_gluings_F394 x4 Q) (x7, S)
set_option maxHeartbeats 4000000 in
set_option maxRecDepth 100000 in
theorem b9_gluings_b394 {p : Program} {l : Launch} {e : Env} {s : State} {m : MethodId} {args : Array Value} {below : List Frame} {meth : Method} {c : Code} {D : va_G} {cy : Nat → ClassId} {A : Nat → Prop} {o : Nat} {q : Nat → Nat} (x4 : Int32) (x7 : Int32) (S : MS) {Q : Int32 → MS → Prop} (C : Cx p s m args meth c cX9_gluings 10 (some .int) wsX9_gluings RX9 D cy nestWs A) (h : w9_gluings_b394 x4 x7 S Q) {H : Heap} {locs : List Loc} (hG : GW D A s (w9 o q cy S) H locs) {ls : Array Slot} (hl : lv_has ls 10 [(0, .ref o), (4, .int x4), (7, .int x7)]) : W p l e ({ frames := 5, cells := 0, slots := 0, locals := 119 } : Room) s m args below meth c H locs 0 0 (MQ below (va_Qi Q (B1 D (w9 o q cy) A) A) args s 0 0 A) (F0 m 394 ls []) := by
  obtain ⟨k, hn⟩ := h
  induction k generalizing x7 S H locs ls with
  | zero => exact hn.elim
  | succ k ih => exact b9_gluings_d394 (K394 := fun y0 y1 => itr (w9_gluings_F394 x4 Q) k (y0, y1)) x4 x7 S C (fun x7 S H locs ls hk hG hl => ih x7 S hG hl hk) hn hG hl
def w9_gluings_b384 (K352 : Int32 → MS → Prop) (x4 : Int32) (x7 : Int32) (t1 : Int32) (t2 : Int32) (S : MS) (Q : Int32 → MS → Prop) : Prop :=
  vp_in t1 64 ∧ ∀ S2 : MS, S2 = sA S 34 t1 t2 → ∀ y3 : Int32, y3 = x7 + 1 → K352 y3 S2
set_option maxHeartbeats 4000000 in
set_option maxRecDepth 100000 in
theorem b9_gluings_b384 {p : Program} {l : Launch} {e : Env} {s : State} {m : MethodId} {args : Array Value} {below : List Frame} {meth : Method} {c : Code} {D : va_G} {cy : Nat → ClassId} {A : Nat → Prop} {o : Nat} {q : Nat → Nat} {K352 : Int32 → MS → Prop} (x4 : Int32) (x7 : Int32) (t1 : Int32) (t2 : Int32) (S : MS) {Q : Int32 → MS → Prop} (C : Cx p s m args meth c cX9_gluings 10 (some .int) wsX9_gluings RX9 D cy nestWs A) (hK352 : ∀ (x7 : Int32) (S : MS) (H : Heap) (locs : List Loc) (ls : Array Slot), K352 x7 S → GW D A s (w9 o q cy S) H locs → lv_has ls 10 [(0, .ref o), (4, .int x4), (7, .int x7)] → W p l e ({ frames := 5, cells := 0, slots := 0, locals := 119 } : Room) s m args below meth c H locs 0 0 (MQ below (va_Qi Q (B1 D (w9 o q cy) A) A) args s 0 0 A) (F0 m 352 ls [])) (h : w9_gluings_b384 K352 x4 x7 t1 t2 S Q) {H : Heap} {locs : List Loc} (hG : GW D A s (w9 o q cy S) H locs) {ls : Array Slot} (hl : lv_has ls 10 [(0, .ref o), (4, .int x4), (7, .int x7)]) : W p l e ({ frames := 5, cells := 0, slots := 0, locals := 119 } : Room) s m args below meth c H locs 0 0 (MQ below (va_Qi Q (B1 D (w9 o q cy) A) A) args s 0 0 A) (F0 m 384 ls [.int t2, .int t1, .ref (q 34)]) := by
  have hx := C.1
  have hb := C.2.1
  unfold w9_gluings_b384 at h
  obtain ⟨hv1, h⟩ := h
  refine x9s_34 C hG hv1 dX9_gluings_384 (fun S2 eS2 H locs hG => ?_)
  replace h := h S2 eS2
  obtain ⟨y3, ey3⟩ : ∃ y : Int32, y = x7 + 1 := ⟨_, rfl⟩
  replace h := h y3 ey3
  refine lv_iinc (v := y3) (lv' := [(7, .int y3), (0, .ref o), (4, .int x4)]) hx hb dX9_gluings_385 hl (k := 2) rfl (by rw [ey3]; rfl) (by decide) rfl (fun ls hl => ?_)
  refine lv_goto (tgt := 352) hx hb dX9_gluings_388 (by decide) ?_
  exact hK352 y3 S2 _ _ _ h hG (lv_sub hl [1, 2, 0] rfl)
def w9_gluings_d352 (K352 : Int32 → MS → Prop) (x4 : Int32) (x7 : Int32) (S : MS) (Q : Int32 → MS → Prop) : Prop :=
  (((64 : Int32) ≤ x7 → w9_gluings_b394 x4 (0 : Int32) S Q) ∧ (¬ (64 : Int32) ≤ x7 → (((fI S 36) = 0 → w9_gluings_b384 K352 x4 x7 x7 (-9 : Int32) S Q) ∧ (¬ (fI S 36) = 0 → vp_in x7 64 ∧ w9_gluings_b384 K352 x4 x7 x7 (rA S 38 x7) S Q))))
set_option maxHeartbeats 4000000 in
set_option maxRecDepth 100000 in
theorem b9_gluings_d352 {p : Program} {l : Launch} {e : Env} {s : State} {m : MethodId} {args : Array Value} {below : List Frame} {meth : Method} {c : Code} {D : va_G} {cy : Nat → ClassId} {A : Nat → Prop} {o : Nat} {q : Nat → Nat} {K352 : Int32 → MS → Prop} (x4 : Int32) (x7 : Int32) (S : MS) {Q : Int32 → MS → Prop} (C : Cx p s m args meth c cX9_gluings 10 (some .int) wsX9_gluings RX9 D cy nestWs A) (hK352 : ∀ (x7 : Int32) (S : MS) (H : Heap) (locs : List Loc) (ls : Array Slot), K352 x7 S → GW D A s (w9 o q cy S) H locs → lv_has ls 10 [(0, .ref o), (4, .int x4), (7, .int x7)] → W p l e ({ frames := 5, cells := 0, slots := 0, locals := 119 } : Room) s m args below meth c H locs 0 0 (MQ below (va_Qi Q (B1 D (w9 o q cy) A) A) args s 0 0 A) (F0 m 352 ls [])) (h : w9_gluings_d352 K352 x4 x7 S Q) {H : Heap} {locs : List Loc} (hG : GW D A s (w9 o q cy S) H locs) {ls : Array Slot} (hl : lv_has ls 10 [(0, .ref o), (4, .int x4), (7, .int x7)]) : W p l e ({ frames := 5, cells := 0, slots := 0, locals := 119 } : Room) s m args below meth c H locs 0 0 (MQ below (va_Qi Q (B1 D (w9 o q cy) A) A) args s 0 0 A) (F0 m 352 ls []) := by
  have hx := C.1
  have hb := C.2.1
  unfold w9_gluings_d352 at h
  refine lv_iload hx hb dX9_gluings_352 (lv_at hl 2 rfl) ?_
  refine lv_bipush (v := 64) hx hb dX9_gluings_354 (by decide) ?_
  refine lv_icmp_ge (tgt := 391) hx hb dX9_gluings_356 (by decide) (fun c1 => ?_) (fun c1 => ?_)
  · replace h := h.1 c1
    refine lv_iconst (v := 0) hx hb dX9_gluings_391 (by decide) ?_
    refine lv_istore (lv' := [(7, .int (0 : Int32)), (0, .ref o), (4, .int x4)]) hx hb dX9_gluings_392 hl (by decide) rfl (fun ls hl => ?_)
    exact b9_gluings_b394 x4 (0 : Int32) S C h hG (lv_sub hl [1, 2, 0] rfl)
  · replace h := h.2 c1
    refine lv_aload_n hx hb dX9_gluings_359 rfl (lv_at hl 0 rfl) ?_
    refine x9g_34 C i9_gluings_X9 k9_gluings_89 hG dX9_gluings_360 ?_
    refine lv_iload hx hb dX9_gluings_363 (lv_at hl 2 rfl) ?_
    refine lv_aload_n hx hb dX9_gluings_365 rfl (lv_at hl 0 rfl) ?_
    refine x9g_36 C i9_gluings_X9 k9_gluings_301 hG dX9_gluings_366 ?_
    refine lv_if_eq (tgt := 382) hx hb dX9_gluings_369 (by decide) (fun c2 => ?_) (fun c2 => ?_)
    · replace h := h.1 c2
      refine lv_bipush (v := -9) hx hb dX9_gluings_382 (by decide) ?_
      exact b9_gluings_b384 (K352 := K352) x4 x7 x7 (-9 : Int32) S C hK352 h hG hl
    · replace h := h.2 c2
      refine lv_aload_n hx hb dX9_gluings_372 rfl (lv_at hl 0 rfl) ?_
      refine x9g_38 C i9_gluings_X9 k9_gluings_98 hG dX9_gluings_373 ?_
      refine lv_iload hx hb dX9_gluings_376 (lv_at hl 2 rfl) ?_
      obtain ⟨hv3, h⟩ := h
      refine x9l_38 C hG hv3 dX9_gluings_378 ?_
      refine lv_goto (tgt := 384) hx hb dX9_gluings_379 (by decide) ?_
      exact b9_gluings_b384 (K352 := K352) x4 x7 x7 (rA S 38 x7) S C hK352 h hG hl
def w9_gluings_F352 (x4 : Int32) (Q : Int32 → MS → Prop) (K : Int32 × MS → Prop) (a : Int32 × MS) : Prop := w9_gluings_d352 (fun y0 y1 => K (y0, y1)) x4 a.1 a.2 Q
def w9_gluings_b352 (x4 : Int32) (x7 : Int32) (S : MS) (Q : Int32 → MS → Prop) : Prop := lp (w9_gluings_F352 x4 Q) (x7, S)
set_option maxHeartbeats 4000000 in
set_option maxRecDepth 100000 in
theorem b9_gluings_b352 {p : Program} {l : Launch} {e : Env} {s : State} {m : MethodId} {args : Array Value} {below : List Frame} {meth : Method} {c : Code} {D : va_G} {cy : Nat → ClassId} {A : Nat → Prop} {o : Nat} {q : Nat → Nat} (x4 : Int32) (x7 : Int32) (S : MS) {Q : Int32 → MS → Prop} (C : Cx p s m args meth c cX9_gluings 10 (some .int) wsX9_gluings RX9 D cy nestWs A) (h : w9_gluings_b352 x4 x7 S Q) {H : Heap} {locs : List Loc} (hG : GW D A s (w9 o q cy S) H locs) {ls : Array Slot} (hl : lv_has ls 10 [(0, .ref o), (4, .int x4), (7, .int x7)]) : W p l e ({ frames := 5, cells := 0, slots := 0, locals := 119 } : Room) s m args below meth c H locs 0 0 (MQ below (va_Qi Q (B1 D (w9 o q cy) A) A) args s 0 0 A) (F0 m 352 ls []) := by
  obtain ⟨k, hn⟩ := h
  induction k generalizing x7 S H locs ls with
  | zero => exact hn.elim
  | succ k ih => exact b9_gluings_d352 (K352 := fun y0 y1 => itr (w9_gluings_F352 x4 Q) k (y0, y1)) x4 x7 S C (fun x7 S H locs ls hk hG hl => ih x7 S hG hl hk) hn hG hl
def w9_gluings_b346 (x4 : Int32) (t1 : Int32) (S : MS) (Q : Int32 → MS → Prop) : Prop :=
  (narrow .boolean (.int t1) = .int t1 ∧ fits .boolean (.int t1) = true) ∧ ∀ S2 : MS, S2 = sI S 36 t1 → w9_gluings_b352 x4 (0 : Int32) S2 Q
set_option maxHeartbeats 4000000 in
set_option maxRecDepth 100000 in
theorem b9_gluings_b346 {p : Program} {l : Launch} {e : Env} {s : State} {m : MethodId} {args : Array Value} {below : List Frame} {meth : Method} {c : Code} {D : va_G} {cy : Nat → ClassId} {A : Nat → Prop} {o : Nat} {q : Nat → Nat} (x4 : Int32) (t1 : Int32) (S : MS) {Q : Int32 → MS → Prop} (C : Cx p s m args meth c cX9_gluings 10 (some .int) wsX9_gluings RX9 D cy nestWs A) (h : w9_gluings_b346 x4 t1 S Q) {H : Heap} {locs : List Loc} (hG : GW D A s (w9 o q cy S) H locs) {ls : Array Slot} (hl : lv_has ls 10 [(0, .ref o), (4, .int x4)]) : W p l e ({ frames := 5, cells := 0, slots := 0, locals := 119 } : Room) s m args below meth c H locs 0 0 (MQ below (va_Qi Q (B1 D (w9 o q cy) A) A) args s 0 0 A) (F0 m 346 ls [.int t1, .ref o]) := by
  have hx := C.1
  have hb := C.2.1
  unfold w9_gluings_b346 at h
  obtain ⟨hz1, h⟩ := h
  refine x9p_36 C i9_gluings_X9 k9_gluings_301 hG hz1.1 hz1.2 dX9_gluings_346 (fun S2 eS2 H locs hG => ?_)
  replace h := h S2 eS2
  refine lv_iconst (v := 0) hx hb dX9_gluings_349 (by decide) ?_
  refine lv_istore (lv' := [(7, .int (0 : Int32)), (0, .ref o), (4, .int x4)]) hx hb dX9_gluings_350 hl (by decide) rfl (fun ls hl => ?_)
  exact b9_gluings_b352 x4 (0 : Int32) S2 C h hG (lv_sub hl [1, 2, 0] rfl)
def w9_gluings_b314 (K83 : Int32 → Int32 → Int32 → MS → Prop) (x2 : Int32) (x4 : Int32) (x5 : Int32) (x6 : Int32) (x7 : Int32) (S : MS) (Q : Int32 → MS → Prop) : Prop :=
  vp_in x6 128 ∧ ∀ S2 : MS, S2 = sA S 29 x6 (-9 : Int32) → vp_in x7 128 ∧ ∀ S4 : MS, S4 = sA S2 29 x7 (-9 : Int32) → K83 x4 x5 x6 S4
set_option maxHeartbeats 4000000 in
set_option maxRecDepth 100000 in
theorem b9_gluings_b314 {p : Program} {l : Launch} {e : Env} {s : State} {m : MethodId} {args : Array Value} {below : List Frame} {meth : Method} {c : Code} {D : va_G} {cy : Nat → ClassId} {A : Nat → Prop} {o : Nat} {q : Nat → Nat} {K83 : Int32 → Int32 → Int32 → MS → Prop} (x2 : Int32) (x4 : Int32) (x5 : Int32) (x6 : Int32) (x7 : Int32) (S : MS) {Q : Int32 → MS → Prop} (C : Cx p s m args meth c cX9_gluings 10 (some .int) wsX9_gluings RX9 D cy nestWs A) (hK83 : ∀ (x4 : Int32) (x5 : Int32) (x6 : Int32) (S : MS) (H : Heap) (locs : List Loc) (ls : Array Slot), K83 x4 x5 x6 S → GW D A s (w9 o q cy S) H locs → lv_has ls 10 [(0, .ref o), (2, .int x2), (4, .int x4), (5, .int x5), (6, .int x6)] → W p l e ({ frames := 5, cells := 0, slots := 0, locals := 119 } : Room) s m args below meth c H locs 0 0 (MQ below (va_Qi Q (B1 D (w9 o q cy) A) A) args s 0 0 A) (F0 m 83 ls [])) (h : w9_gluings_b314 K83 x2 x4 x5 x6 x7 S Q) {H : Heap} {locs : List Loc} (hG : GW D A s (w9 o q cy S) H locs) {ls : Array Slot} (hl : lv_has ls 10 [(0, .ref o), (2, .int x2), (4, .int x4), (5, .int x5), (6, .int x6), (7, .int x7)]) : W p l e ({ frames := 5, cells := 0, slots := 0, locals := 119 } : Room) s m args below meth c H locs 0 0 (MQ below (va_Qi Q (B1 D (w9 o q cy) A) A) args s 0 0 A) (F0 m 314 ls []) := by
  have hx := C.1
  have hb := C.2.1
  unfold w9_gluings_b314 at h
  refine lv_aload_n hx hb dX9_gluings_314 rfl (lv_at hl 0 rfl) ?_
  refine x9g_29 C i9_gluings_X9 k9_gluings_80 hG dX9_gluings_315 ?_
  refine lv_iload hx hb dX9_gluings_318 (lv_at hl 4 rfl) ?_
  refine lv_bipush (v := -9) hx hb dX9_gluings_320 (by decide) ?_
  obtain ⟨hv1, h⟩ := h
  refine x9s_29 C hG hv1 dX9_gluings_322 (fun S2 eS2 H locs hG => ?_)
  replace h := h S2 eS2
  refine lv_aload_n hx hb dX9_gluings_323 rfl (lv_at hl 0 rfl) ?_
  refine x9g_29 C i9_gluings_X9 k9_gluings_80 hG dX9_gluings_324 ?_
  refine lv_iload hx hb dX9_gluings_327 (lv_at hl 5 rfl) ?_
  refine lv_bipush (v := -9) hx hb dX9_gluings_329 (by decide) ?_
  obtain ⟨hv3, h⟩ := h
  refine x9s_29 C hG hv3 dX9_gluings_331 (fun S4 eS4 H locs hG => ?_)
  replace h := h S4 eS4
  refine lv_goto (tgt := 83) hx hb dX9_gluings_332 (by decide) ?_
  exact hK83 x4 x5 x6 S4 _ _ _ h hG (lv_sub hl [0, 1, 2, 3, 4] rfl)
def w9_gluings_b166 (K83 : Int32 → Int32 → Int32 → MS → Prop) (x2 : Int32) (x4 : Int32) (x5 : Int32) (x6 : Int32) (x7 : Int32) (x8 : Int32) (S : MS) (Q : Int32 → MS → Prop) : Prop :=
  ((¬ x8 = 0 → ((¬ (fI S 33) = x2 → ∀ S3 : MS, S3 = sI S 33 ((fI S 33) + (1 : Int32)) → vp_in x7 128 ∧ ∀ S5 : MS, S5 = sA S3 29 x7 x6 → vp_in x6 128 ∧ ∀ S7 : MS, S7 = sA S5 29 x6 x7 → w9_firstFree S7 (fun r8 => (((fI S7 25) ≤ r8 → w9_isLegal S7 (fun r11 S12 => ((r11 = 0 → w9_gluings_b314 K83 x2 x4 x5 x6 x7 S12 Q) ∧ (¬ r11 = 0 → ∀ y14 : Int32, y14 = x4 + 1 → ((¬ y14 = (1 : Int32) → w9_gluings_b314 K83 x2 y14 x5 x6 x7 S12 Q) ∧ (y14 = (1 : Int32) → w9_keepFirst S12 (fun S16 => w9_gluings_b314 K83 x2 y14 x5 x6 x7 S16 Q))))))) ∧ (¬ (fI S7 25) ≤ r8 → ∀ y17 : Int32, y17 = x5 + 1 → vp_in y17 64 ∧ ∀ S19 : MS, S19 = sA S7 37 y17 r8 → ∀ y20 : Int32, y20 = (r8 - (1 : Int32)) → K83 x4 y17 y20 S19)))) ∧ ((fI S 33) = x2 → Q (-6 : Int32) S))) ∧ (x8 = 0 → ∀ y21 : Int32, y21 = x5 + (-1) → ((y21 < 0 → K83 x4 y21 x6 S) ∧ (¬ y21 < 0 → vp_in y21 64 ∧ vp_in (rA S 37 y21) 128 ∧ ∀ y25 : Int32, y25 = (rA S 29 (rA S 37 y21)) → vp_in y25 128 ∧ ∀ S27 : MS, S27 = sA S 29 y25 (-9 : Int32) → vp_in (rA S27 37 y21) 128 ∧ ∀ S29 : MS, S29 = sA S27 29 (rA S27 37 y21) (-9 : Int32) → K83 x4 y21 y25 S29))))
set_option maxHeartbeats 4000000 in
set_option maxRecDepth 100000 in
theorem b9_gluings_b166 {p : Program} {l : Launch} {e : Env} {s : State} {m : MethodId} {args : Array Value} {below : List Frame} {meth : Method} {c : Code} {D : va_G} {cy : Nat → ClassId} {A : Nat → Prop} {o : Nat} {q : Nat → Nat} {K83 : Int32 → Int32 → Int32 → MS → Prop} (x2 : Int32) (x4 : Int32) (x5 : Int32) (x6 : Int32) (x7 : Int32) (x8 : Int32) (S : MS) {Q : Int32 → MS → Prop} (C : Cx p s m args meth c cX9_gluings 10 (some .int) wsX9_gluings RX9 D cy nestWs A) (hK83 : ∀ (x4 : Int32) (x5 : Int32) (x6 : Int32) (S : MS) (H : Heap) (locs : List Loc) (ls : Array Slot), K83 x4 x5 x6 S → GW D A s (w9 o q cy S) H locs → lv_has ls 10 [(0, .ref o), (2, .int x2), (4, .int x4), (5, .int x5), (6, .int x6)] → W p l e ({ frames := 5, cells := 0, slots := 0, locals := 119 } : Room) s m args below meth c H locs 0 0 (MQ below (va_Qi Q (B1 D (w9 o q cy) A) A) args s 0 0 A) (F0 m 83 ls [])) (h : w9_gluings_b166 K83 x2 x4 x5 x6 x7 x8 S Q) {H : Heap} {locs : List Loc} (hG : GW D A s (w9 o q cy S) H locs) {ls : Array Slot} (hl : lv_has ls 10 [(0, .ref o), (2, .int x2), (4, .int x4), (5, .int x5), (6, .int x6), (7, .int x7), (8, .int x8)]) : W p l e ({ frames := 5, cells := 0, slots := 0, locals := 119 } : Room) s m args below meth c H locs 0 0 (MQ below (va_Qi Q (B1 D (w9 o q cy) A) A) args s 0 0 A) (F0 m 166 ls []) := by
  have hx := C.1
  have hb := C.2.1
  unfold w9_gluings_b166 at h
  refine lv_iload hx hb dX9_gluings_166 (lv_at hl 6 rfl) ?_
  refine lv_if_ne (tgt := 219) hx hb dX9_gluings_168 (by decide) (fun c1 => ?_) (fun c1 => ?_)
  · replace h := h.1 c1
    refine lv_aload_n hx hb dX9_gluings_219 rfl (lv_at hl 0 rfl) ?_
    refine x9g_33 C i9_gluings_X9 k9_gluings_288 hG dX9_gluings_220 ?_
    refine lv_iload_n hx hb dX9_gluings_223 rfl (lv_at hl 1 rfl) ?_
    refine lv_icmp_ne (tgt := 230) hx hb dX9_gluings_224 (by decide) (fun c2 => ?_) (fun c2 => ?_)
    · replace h := h.1 c2
      refine lv_aload_n hx hb dX9_gluings_230 rfl (lv_at hl 0 rfl) ?_
      refine lv_dup hx hb dX9_gluings_231 rfl ?_
      refine x9g_33 C i9_gluings_X9 k9_gluings_288 hG dX9_gluings_232 ?_
      refine lv_iconst (v := 1) hx hb dX9_gluings_235 (by decide) ?_
      refine lv_iadd hx hb dX9_gluings_236 ?_
      refine x9p_33 C i9_gluings_X9 k9_gluings_288 hG dX9_gluings_237 (fun S3 eS3 H locs hG => ?_)
      replace h := h S3 eS3
      refine lv_aload_n hx hb dX9_gluings_240 rfl (lv_at hl 0 rfl) ?_
      refine x9g_29 C i9_gluings_X9 k9_gluings_80 hG dX9_gluings_241 ?_
      refine lv_iload hx hb dX9_gluings_244 (lv_at hl 5 rfl) ?_
      refine lv_iload hx hb dX9_gluings_246 (lv_at hl 4 rfl) ?_
      obtain ⟨hv4, h⟩ := h
      refine x9s_29 C hG hv4 dX9_gluings_248 (fun S5 eS5 H locs hG => ?_)
      replace h := h S5 eS5
      refine lv_aload_n hx hb dX9_gluings_249 rfl (lv_at hl 0 rfl) ?_
      refine x9g_29 C i9_gluings_X9 k9_gluings_80 hG dX9_gluings_250 ?_
      refine lv_iload hx hb dX9_gluings_253 (lv_at hl 4 rfl) ?_
      refine lv_iload hx hb dX9_gluings_255 (lv_at hl 5 rfl) ?_
      obtain ⟨hv6, h⟩ := h
      refine x9s_29 C hG hv6 dX9_gluings_257 (fun S7 eS7 H locs hG => ?_)
      replace h := h S7 eS7
      refine lv_aload_n hx hb dX9_gluings_258 rfl (lv_at hl 0 rfl) ?_
      refine callVI (As := []) (rest := []) C hG (c9_firstFree l D cy o q S7 _ h) 0 gX9_gluings_X9_firstFree rfl (by decide +kernel) ⟨⟨Nat.le_of_ble_eq_true rfl, Nat.le_of_ble_eq_true rfl⟩, rfl, rfl⟩ rfl rfl (Foc.all C.2.2.2.2.2.2.2.2.1) rfl hl.1 rfl (Nat.le_of_ble_eq_true rfl) dX9_gluings_259 ⟨Nat.zero_le _, Nat.zero_le _⟩ (fun r8 u9 H locs h hG => ?_)
      obtain ⟨eu9, h⟩ := h
      have eu9 : u9 = S7 := eu9
      subst u9
      have hG : GW D A s (w9 o q cy S7) H locs := hG
      refine lv_istore (lv' := [(9, .int r8), (0, .ref o), (2, .int x2), (4, .int x4), (5, .int x5), (6, .int x6), (7, .int x7), (8, .int x8)]) hx hb dX9_gluings_262 hl (by decide) rfl (fun ls hl => ?_)
      refine lv_iload hx hb dX9_gluings_264 (lv_at hl 0 rfl) ?_
      refine lv_aload_n hx hb dX9_gluings_266 rfl (lv_at hl 1 rfl) ?_
      refine x9g_25 C i9_gluings_X9 k9_gluings_273 hG dX9_gluings_267 ?_
      refine lv_icmp_ge (tgt := 294) hx hb dX9_gluings_270 (by decide) (fun c10 => ?_) (fun c10 => ?_)
      · replace h := h.1 c10
        refine lv_aload_n hx hb dX9_gluings_294 rfl (lv_at hl 1 rfl) ?_
        refine callVI (As := []) (rest := []) C hG (c9_isLegal l D cy o q S7 _ h) 0 gX9_gluings_X9_isLegal rfl (by decide +kernel) ⟨⟨Nat.le_of_ble_eq_true rfl, Nat.le_of_ble_eq_true rfl⟩, rfl, rfl⟩ rfl rfl (Foc.all C.2.2.2.2.2.2.2.2.1) rfl hl.1 rfl (Nat.le_of_ble_eq_true rfl) dX9_gluings_295 ⟨Nat.zero_le _, Nat.zero_le _⟩ (fun r11 S12 H locs h hG => ?_)
        have hG : GW D A s (w9 o q cy S12) H locs := hG
        refine lv_if_eq (tgt := 314) hx hb dX9_gluings_298 (by decide) (fun c13 => ?_) (fun c13 => ?_)
        · replace h := h.1 c13
          exact b9_gluings_b314 (K83 := K83) x2 x4 x5 x6 x7 S12 C hK83 h hG (lv_sub hl [1, 2, 3, 4, 5, 6] rfl)
        · replace h := h.2 c13
          obtain ⟨y14, ey14⟩ : ∃ y : Int32, y = x4 + 1 := ⟨_, rfl⟩
          replace h := h y14 ey14
          refine lv_iinc (v := y14) (lv' := [(4, .int y14), (9, .int r8), (0, .ref o), (2, .int x2), (5, .int x5), (6, .int x6), (7, .int x7), (8, .int x8)]) hx hb dX9_gluings_301 hl (k := 3) rfl (by rw [ey14]; rfl) (by decide) rfl (fun ls hl => ?_)
          refine lv_iload hx hb dX9_gluings_304 (lv_at hl 0 rfl) ?_
          refine lv_iconst (v := 1) hx hb dX9_gluings_306 (by decide) ?_
          refine lv_icmp_ne (tgt := 314) hx hb dX9_gluings_307 (by decide) (fun c15 => ?_) (fun c15 => ?_)
          · replace h := h.1 c15
            exact b9_gluings_b314 (K83 := K83) x2 y14 x5 x6 x7 S12 C hK83 h hG (lv_sub hl [2, 3, 0, 4, 5, 6] rfl)
          · replace h := h.2 c15
            refine lv_aload_n hx hb dX9_gluings_310 rfl (lv_at hl 2 rfl) ?_
            refine callVV (As := []) (rest := []) C hG (c9_keepFirst l D cy o q S12 _ h) 0 gX9_gluings_X9_keepFirst rfl (by decide +kernel) ⟨⟨Nat.le_of_ble_eq_true rfl, Nat.le_of_ble_eq_true rfl⟩, rfl, rfl⟩ rfl rfl (Foc.all C.2.2.2.2.2.2.2.2.1) rfl hl.1 rfl (Nat.le_of_ble_eq_true rfl) dX9_gluings_311 ⟨Nat.zero_le _, Nat.zero_le _⟩ (fun  S16 H locs h hG => ?_)
            have hG : GW D A s (w9 o q cy S16) H locs := hG
            exact b9_gluings_b314 (K83 := K83) x2 y14 x5 x6 x7 S16 C hK83 h hG (lv_sub hl [2, 3, 0, 4, 5, 6] rfl)
      · replace h := h.2 c10
        obtain ⟨y17, ey17⟩ : ∃ y : Int32, y = x5 + 1 := ⟨_, rfl⟩
        replace h := h y17 ey17
        refine lv_iinc (v := y17) (lv' := [(5, .int y17), (9, .int r8), (0, .ref o), (2, .int x2), (4, .int x4), (6, .int x6), (7, .int x7), (8, .int x8)]) hx hb dX9_gluings_273 hl (k := 4) rfl (by rw [ey17]; rfl) (by decide) rfl (fun ls hl => ?_)
        refine lv_aload_n hx hb dX9_gluings_276 rfl (lv_at hl 2 rfl) ?_
        refine x9g_37 C i9_gluings_X9 k9_gluings_95 hG dX9_gluings_277 ?_
        refine lv_iload hx hb dX9_gluings_280 (lv_at hl 0 rfl) ?_
        refine lv_iload hx hb dX9_gluings_282 (lv_at hl 1 rfl) ?_
        obtain ⟨hv18, h⟩ := h
        refine x9s_37 C hG hv18 dX9_gluings_284 (fun S19 eS19 H locs hG => ?_)
        replace h := h S19 eS19
        refine lv_iload hx hb dX9_gluings_285 (lv_at hl 1 rfl) ?_
        refine lv_iconst (v := 1) hx hb dX9_gluings_287 (by decide) ?_
        refine lv_isub hx hb dX9_gluings_288 ?_
        refine lv_topi (fun y20 ey20 => ?_)
        replace h := h y20 ey20
        refine lv_istore (lv' := [(6, .int y20), (5, .int y17), (9, .int r8), (0, .ref o), (2, .int x2), (4, .int x4), (7, .int x7), (8, .int x8)]) hx hb dX9_gluings_289 hl (by decide) rfl (fun ls hl => ?_)
        refine lv_goto (tgt := 83) hx hb dX9_gluings_291 (by decide) ?_
        exact hK83 x4 y17 y20 S19 _ _ _ h hG (lv_sub hl [3, 4, 5, 1, 0] rfl)
    · replace h := h.2 c2
      refine lv_bipush (v := -6) hx hb dX9_gluings_227 (by decide) ?_
      exact retI (w := (w9 o q cy)) (S := S) C hG h dX9_gluings_229
  · replace h := h.2 c1
    obtain ⟨y21, ey21⟩ : ∃ y : Int32, y = x5 + (-1) := ⟨_, rfl⟩
    replace h := h y21 ey21
    refine lv_iinc (v := y21) (lv' := [(5, .int y21), (0, .ref o), (2, .int x2), (4, .int x4), (6, .int x6), (7, .int x7), (8, .int x8)]) hx hb dX9_gluings_171 hl (k := 3) rfl (by rw [ey21]; rfl) (by decide) rfl (fun ls hl => ?_)
    refine lv_iload hx hb dX9_gluings_174 (lv_at hl 0 rfl) ?_
    refine lv_if_lt (tgt := 83) hx hb dX9_gluings_176 (by decide) (fun c22 => ?_) (fun c22 => ?_)
    · replace h := h.1 c22
      exact hK83 x4 y21 x6 S _ _ _ h hG (lv_sub hl [1, 2, 3, 0, 4] rfl)
    · replace h := h.2 c22
      refine lv_aload_n hx hb dX9_gluings_179 rfl (lv_at hl 1 rfl) ?_
      refine x9g_29 C i9_gluings_X9 k9_gluings_80 hG dX9_gluings_180 ?_
      refine lv_aload_n hx hb dX9_gluings_183 rfl (lv_at hl 1 rfl) ?_
      refine x9g_37 C i9_gluings_X9 k9_gluings_95 hG dX9_gluings_184 ?_
      refine lv_iload hx hb dX9_gluings_187 (lv_at hl 0 rfl) ?_
      obtain ⟨hv23, h⟩ := h
      refine x9l_37 C hG hv23 dX9_gluings_189 ?_
      obtain ⟨hv24, h⟩ := h
      refine x9l_29 C hG hv24 dX9_gluings_190 ?_
      refine lv_topi (fun y25 ey25 => ?_)
      replace h := h y25 ey25
      refine lv_istore (lv' := [(6, .int y25), (5, .int y21), (0, .ref o), (2, .int x2), (4, .int x4), (7, .int x7), (8, .int x8)]) hx hb dX9_gluings_191 hl (by decide) rfl (fun ls hl => ?_)
      refine lv_aload_n hx hb dX9_gluings_193 rfl (lv_at hl 2 rfl) ?_
      refine x9g_29 C i9_gluings_X9 k9_gluings_80 hG dX9_gluings_194 ?_
      refine lv_iload hx hb dX9_gluings_197 (lv_at hl 0 rfl) ?_
      refine lv_bipush (v := -9) hx hb dX9_gluings_199 (by decide) ?_
      obtain ⟨hv26, h⟩ := h
      refine x9s_29 C hG hv26 dX9_gluings_201 (fun S27 eS27 H locs hG => ?_)
      replace h := h S27 eS27
      refine lv_aload_n hx hb dX9_gluings_202 rfl (lv_at hl 2 rfl) ?_
      refine x9g_29 C i9_gluings_X9 k9_gluings_80 hG dX9_gluings_203 ?_
      refine lv_aload_n hx hb dX9_gluings_206 rfl (lv_at hl 2 rfl) ?_
      refine x9g_37 C i9_gluings_X9 k9_gluings_95 hG dX9_gluings_207 ?_
      refine lv_iload hx hb dX9_gluings_210 (lv_at hl 1 rfl) ?_
      refine x9l_37 C hG hv23 dX9_gluings_212 ?_
      refine lv_bipush (v := -9) hx hb dX9_gluings_213 (by decide) ?_
      obtain ⟨hv28, h⟩ := h
      refine x9s_29 C hG hv28 dX9_gluings_215 (fun S29 eS29 H locs hG => ?_)
      replace h := h S29 eS29
      refine lv_goto (tgt := 83) hx hb dX9_gluings_216 (by decide) ?_
      exact hK83 x4 y21 y25 S29 _ _ _ h hG (lv_sub hl [2, 3, 4, 1, 0] rfl)
def w9_gluings_b158 (K131 : Int32 → Int32 → Prop) (x2 : Int32) (x4 : Int32) (x5 : Int32) (x6 : Int32) (x7 : Int32) (x9 : Int32) (t0 : Int32) (S : MS) (Q : Int32 → MS → Prop) : Prop :=
  ∀ y1 : Int32, y1 = x9 + 1 → K131 t0 y1
set_option maxHeartbeats 4000000 in
set_option maxRecDepth 100000 in
theorem b9_gluings_b158 {p : Program} {l : Launch} {e : Env} {s : State} {m : MethodId} {args : Array Value} {below : List Frame} {meth : Method} {c : Code} {D : va_G} {cy : Nat → ClassId} {A : Nat → Prop} {o : Nat} {q : Nat → Nat} {K131 : Int32 → Int32 → Prop} (x2 : Int32) (x4 : Int32) (x5 : Int32) (x6 : Int32) (x7 : Int32) (x9 : Int32) (t0 : Int32) (S : MS) {Q : Int32 → MS → Prop} (C : Cx p s m args meth c cX9_gluings 10 (some .int) wsX9_gluings RX9 D cy nestWs A) (hK131 : ∀ (x8 : Int32) (x9 : Int32) (H : Heap) (locs : List Loc) (ls : Array Slot), K131 x8 x9 → GW D A s (w9 o q cy S) H locs → lv_has ls 10 [(0, .ref o), (2, .int x2), (4, .int x4), (5, .int x5), (6, .int x6), (7, .int x7), (8, .int x8), (9, .int x9)] → W p l e ({ frames := 5, cells := 0, slots := 0, locals := 119 } : Room) s m args below meth c H locs 0 0 (MQ below (va_Qi Q (B1 D (w9 o q cy) A) A) args s 0 0 A) (F0 m 131 ls [])) (h : w9_gluings_b158 K131 x2 x4 x5 x6 x7 x9 t0 S Q) {H : Heap} {locs : List Loc} (hG : GW D A s (w9 o q cy S) H locs) {ls : Array Slot} (hl : lv_has ls 10 [(0, .ref o), (2, .int x2), (4, .int x4), (5, .int x5), (6, .int x6), (7, .int x7), (9, .int x9)]) : W p l e ({ frames := 5, cells := 0, slots := 0, locals := 119 } : Room) s m args below meth c H locs 0 0 (MQ below (va_Qi Q (B1 D (w9 o q cy) A) A) args s 0 0 A) (F0 m 158 ls [.int t0]) := by
  have hx := C.1
  have hb := C.2.1
  unfold w9_gluings_b158 at h
  refine lv_istore (lv' := [(8, .int t0), (0, .ref o), (2, .int x2), (4, .int x4), (5, .int x5), (6, .int x6), (7, .int x7), (9, .int x9)]) hx hb dX9_gluings_158 hl (by decide) rfl (fun ls hl => ?_)
  obtain ⟨y1, ey1⟩ : ∃ y : Int32, y = x9 + 1 := ⟨_, rfl⟩
  replace h := h y1 ey1
  refine lv_iinc (v := y1) (lv' := [(9, .int y1), (8, .int t0), (0, .ref o), (2, .int x2), (4, .int x4), (5, .int x5), (6, .int x6), (7, .int x7)]) hx hb dX9_gluings_160 hl (k := 7) rfl (by rw [ey1]; rfl) (by decide) rfl (fun ls hl => ?_)
  refine lv_goto (tgt := 131) hx hb dX9_gluings_163 (by decide) ?_
  exact hK131 t0 y1 _ _ _ h hG (lv_sub hl [2, 3, 4, 5, 6, 7, 1, 0] rfl)
def w9_gluings_d131 (K83 : Int32 → Int32 → Int32 → MS → Prop) (K131 : Int32 → Int32 → Prop) (x2 : Int32) (x4 : Int32) (x5 : Int32) (x6 : Int32) (x7 : Int32) (x8 : Int32) (x9 : Int32) (S : MS) (Q : Int32 → MS → Prop) : Prop :=
  ((x6 < x9 → w9_gluings_b166 K83 x2 x4 x5 x6 x7 x8 S Q) ∧ (¬ x6 < x9 → ((x8 = 0 → w9_gluings_b166 K83 x2 x4 x5 x6 x7 x8 S Q) ∧ (¬ x8 = 0 → vp_in x9 128 ∧ ((0 ≤ (rA S 29 x9) → w9_gluings_b158 K131 x2 x4 x5 x6 x7 x9 (0 : Int32) S Q) ∧ (¬ 0 ≤ (rA S 29 x9) → w9_gluings_b158 K131 x2 x4 x5 x6 x7 x9 (1 : Int32) S Q))))))
set_option maxHeartbeats 4000000 in
set_option maxRecDepth 100000 in
theorem b9_gluings_d131 {p : Program} {l : Launch} {e : Env} {s : State} {m : MethodId} {args : Array Value} {below : List Frame} {meth : Method} {c : Code} {D : va_G} {cy : Nat → ClassId} {A : Nat → Prop} {o : Nat} {q : Nat → Nat} {K83 : Int32 → Int32 → Int32 → MS → Prop} {K131 : Int32 → Int32 → Prop} (x2 : Int32) (x4 : Int32) (x5 : Int32) (x6 : Int32) (x7 : Int32) (x8 : Int32) (x9 : Int32) (S : MS) {Q : Int32 → MS → Prop} (C : Cx p s m args meth c cX9_gluings 10 (some .int) wsX9_gluings RX9 D cy nestWs A) (hK83 : ∀ (x4 : Int32) (x5 : Int32) (x6 : Int32) (S : MS) (H : Heap) (locs : List Loc) (ls : Array Slot), K83 x4 x5 x6 S → GW D A s (w9 o q cy S) H locs → lv_has ls 10 [(0, .ref o), (2, .int x2), (4, .int x4), (5, .int x5), (6, .int x6)] → W p l e ({ frames := 5, cells := 0, slots := 0, locals := 119 } : Room) s m args below meth c H locs 0 0 (MQ below (va_Qi Q (B1 D (w9 o q cy) A) A) args s 0 0 A) (F0 m 83 ls [])) (hK131 : ∀ (x8 : Int32) (x9 : Int32) (H : Heap) (locs : List Loc) (ls : Array Slot), K131 x8 x9 → GW D A s (w9 o q cy S) H locs → lv_has ls 10 [(0, .ref o), (2, .int x2), (4, .int x4), (5, .int x5), (6, .int x6), (7, .int x7), (8, .int x8), (9, .int x9)] → W p l e ({ frames := 5, cells := 0, slots := 0, locals := 119 } : Room) s m args below meth c H locs 0 0 (MQ below (va_Qi Q (B1 D (w9 o q cy) A) A) args s 0 0 A) (F0 m 131 ls [])) (h : w9_gluings_d131 K83 K131 x2 x4 x5 x6 x7 x8 x9 S Q) {H : Heap} {locs : List Loc} (hG : GW D A s (w9 o q cy S) H locs) {ls : Array Slot} (hl : lv_has ls 10 [(0, .ref o), (2, .int x2), (4, .int x4), (5, .int x5), (6, .int x6), (7, .int x7), (8, .int x8), (9, .int x9)]) : W p l e ({ frames := 5, cells := 0, slots := 0, locals := 119 } : Room) s m args below meth c H locs 0 0 (MQ below (va_Qi Q (B1 D (w9 o q cy) A) A) args s 0 0 A) (F0 m 131 ls []) := by
  have hx := C.1
  have hb := C.2.1
  unfold w9_gluings_d131 at h
  refine lv_iload hx hb dX9_gluings_131 (lv_at hl 7 rfl) ?_
  refine lv_iload hx hb dX9_gluings_133 (lv_at hl 4 rfl) ?_
  refine lv_icmp_gt (tgt := 166) hx hb dX9_gluings_135 (by decide) (fun c1 => ?_) (fun c1 => ?_)
  · replace h := h.1 c1
    exact b9_gluings_b166 (K83 := K83) x2 x4 x5 x6 x7 x8 S C hK83 h hG (lv_sub hl [0, 1, 2, 3, 4, 5, 6] rfl)
  · replace h := h.2 c1
    refine lv_iload hx hb dX9_gluings_138 (lv_at hl 6 rfl) ?_
    refine lv_if_eq (tgt := 166) hx hb dX9_gluings_140 (by decide) (fun c2 => ?_) (fun c2 => ?_)
    · replace h := h.1 c2
      exact b9_gluings_b166 (K83 := K83) x2 x4 x5 x6 x7 x8 S C hK83 h hG (lv_sub hl [0, 1, 2, 3, 4, 5, 6] rfl)
    · replace h := h.2 c2
      refine lv_aload_n hx hb dX9_gluings_143 rfl (lv_at hl 0 rfl) ?_
      refine x9g_29 C i9_gluings_X9 k9_gluings_80 hG dX9_gluings_144 ?_
      refine lv_iload hx hb dX9_gluings_147 (lv_at hl 7 rfl) ?_
      obtain ⟨hv3, h⟩ := h
      refine x9l_29 C hG hv3 dX9_gluings_149 ?_
      refine lv_if_ge (tgt := 157) hx hb dX9_gluings_150 (by decide) (fun c4 => ?_) (fun c4 => ?_)
      · replace h := h.1 c4
        refine lv_iconst (v := 0) hx hb dX9_gluings_157 (by decide) ?_
        exact b9_gluings_b158 (K131 := K131) x2 x4 x5 x6 x7 x9 (0 : Int32) S C hK131 h hG (lv_sub hl [0, 1, 2, 3, 4, 5, 7] rfl)
      · replace h := h.2 c4
        refine lv_iconst (v := 1) hx hb dX9_gluings_153 (by decide) ?_
        refine lv_goto (tgt := 158) hx hb dX9_gluings_154 (by decide) ?_
        exact b9_gluings_b158 (K131 := K131) x2 x4 x5 x6 x7 x9 (1 : Int32) S C hK131 h hG (lv_sub hl [0, 1, 2, 3, 4, 5, 7] rfl)
def w9_gluings_F131 (K83 : Int32 → Int32 → Int32 → MS → Prop) (x2 : Int32) (x4 : Int32) (x5 : Int32) (x6 : Int32) (x7 : Int32) (S : MS) (Q : Int32 → MS → Prop) (K : Int32 × Int32 → Prop) (a : Int32 × Int32) : Prop := w9_gluings_d131 K83 (fun y0 y1 => K (y0, y1)) x2 x4 x5 x6 x7 a.1 a.2 S Q
def w9_gluings_b131 (K83 : Int32 → Int32 → Int32 → MS → Prop) (x2 : Int32) (x4 : Int32) (x5 : Int32) (x6 : Int32) (x7 : Int32) (x8 : Int32) (x9 : Int32) (S : MS) (Q : Int32 → MS → Prop) : Prop := lp (w9_gluings_F131 K83 x2 x4 x5 x6 x7 S Q) (x8, x9)
set_option maxHeartbeats 4000000 in
set_option maxRecDepth 100000 in
theorem b9_gluings_b131 {p : Program} {l : Launch} {e : Env} {s : State} {m : MethodId} {args : Array Value} {below : List Frame} {meth : Method} {c : Code} {D : va_G} {cy : Nat → ClassId} {A : Nat → Prop} {o : Nat} {q : Nat → Nat} {K83 : Int32 → Int32 → Int32 → MS → Prop} (x2 : Int32) (x4 : Int32) (x5 : Int32) (x6 : Int32) (x7 : Int32) (x8 : Int32) (x9 : Int32) (S : MS) {Q : Int32 → MS → Prop} (C : Cx p s m args meth c cX9_gluings 10 (some .int) wsX9_gluings RX9 D cy nestWs A) (hK83 : ∀ (x4 : Int32) (x5 : Int32) (x6 : Int32) (S : MS) (H : Heap) (locs : List Loc) (ls : Array Slot), K83 x4 x5 x6 S → GW D A s (w9 o q cy S) H locs → lv_has ls 10 [(0, .ref o), (2, .int x2), (4, .int x4), (5, .int x5), (6, .int x6)] → W p l e ({ frames := 5, cells := 0, slots := 0, locals := 119 } : Room) s m args below meth c H locs 0 0 (MQ below (va_Qi Q (B1 D (w9 o q cy) A) A) args s 0 0 A) (F0 m 83 ls [])) (h : w9_gluings_b131 K83 x2 x4 x5 x6 x7 x8 x9 S Q) {H : Heap} {locs : List Loc} (hG : GW D A s (w9 o q cy S) H locs) {ls : Array Slot} (hl : lv_has ls 10 [(0, .ref o), (2, .int x2), (4, .int x4), (5, .int x5), (6, .int x6), (7, .int x7), (8, .int x8), (9, .int x9)]) : W p l e ({ frames := 5, cells := 0, slots := 0, locals := 119 } : Room) s m args below meth c H locs 0 0 (MQ below (va_Qi Q (B1 D (w9 o q cy) A) A) args s 0 0 A) (F0 m 131 ls []) := by
  obtain ⟨k, hn⟩ := h
  induction k generalizing x8 x9 H locs ls with
  | zero => exact hn.elim
  | succ k ih => exact b9_gluings_d131 (K83 := K83) (K131 := fun y0 y1 => itr (w9_gluings_F131 K83 x2 x4 x5 x6 x7 S Q) k (y0, y1)) x2 x4 x5 x6 x7 x8 x9 S C hK83 (fun x8 x9 H locs ls hk hG hl => ih x8 x9 hG hl hk) hn hG hl
def w9_gluings_b123 (K83 : Int32 → Int32 → Int32 → MS → Prop) (x2 : Int32) (x4 : Int32) (x5 : Int32) (x6 : Int32) (x7 : Int32) (t0 : Int32) (S : MS) (Q : Int32 → MS → Prop) : Prop :=
  ∀ y1 : Int32, y1 = (x7 + (1 : Int32)) → w9_gluings_b131 K83 x2 x4 x5 x6 x7 t0 y1 S Q
set_option maxHeartbeats 4000000 in
set_option maxRecDepth 100000 in
theorem b9_gluings_b123 {p : Program} {l : Launch} {e : Env} {s : State} {m : MethodId} {args : Array Value} {below : List Frame} {meth : Method} {c : Code} {D : va_G} {cy : Nat → ClassId} {A : Nat → Prop} {o : Nat} {q : Nat → Nat} {K83 : Int32 → Int32 → Int32 → MS → Prop} (x2 : Int32) (x4 : Int32) (x5 : Int32) (x6 : Int32) (x7 : Int32) (t0 : Int32) (S : MS) {Q : Int32 → MS → Prop} (C : Cx p s m args meth c cX9_gluings 10 (some .int) wsX9_gluings RX9 D cy nestWs A) (hK83 : ∀ (x4 : Int32) (x5 : Int32) (x6 : Int32) (S : MS) (H : Heap) (locs : List Loc) (ls : Array Slot), K83 x4 x5 x6 S → GW D A s (w9 o q cy S) H locs → lv_has ls 10 [(0, .ref o), (2, .int x2), (4, .int x4), (5, .int x5), (6, .int x6)] → W p l e ({ frames := 5, cells := 0, slots := 0, locals := 119 } : Room) s m args below meth c H locs 0 0 (MQ below (va_Qi Q (B1 D (w9 o q cy) A) A) args s 0 0 A) (F0 m 83 ls [])) (h : w9_gluings_b123 K83 x2 x4 x5 x6 x7 t0 S Q) {H : Heap} {locs : List Loc} (hG : GW D A s (w9 o q cy S) H locs) {ls : Array Slot} (hl : lv_has ls 10 [(0, .ref o), (2, .int x2), (4, .int x4), (5, .int x5), (6, .int x6), (7, .int x7)]) : W p l e ({ frames := 5, cells := 0, slots := 0, locals := 119 } : Room) s m args below meth c H locs 0 0 (MQ below (va_Qi Q (B1 D (w9 o q cy) A) A) args s 0 0 A) (F0 m 123 ls [.int t0]) := by
  have hx := C.1
  have hb := C.2.1
  unfold w9_gluings_b123 at h
  refine lv_istore (lv' := [(8, .int t0), (0, .ref o), (2, .int x2), (4, .int x4), (5, .int x5), (6, .int x6), (7, .int x7)]) hx hb dX9_gluings_123 hl (by decide) rfl (fun ls hl => ?_)
  refine lv_iload hx hb dX9_gluings_125 (lv_at hl 6 rfl) ?_
  refine lv_iconst (v := 1) hx hb dX9_gluings_127 (by decide) ?_
  refine lv_iadd hx hb dX9_gluings_128 ?_
  refine lv_topi (fun y1 ey1 => ?_)
  replace h := h y1 ey1
  refine lv_istore (lv' := [(9, .int y1), (8, .int t0), (0, .ref o), (2, .int x2), (4, .int x4), (5, .int x5), (6, .int x6), (7, .int x7)]) hx hb dX9_gluings_129 hl (by decide) rfl (fun ls hl => ?_)
  exact b9_gluings_b131 (K83 := K83) x2 x4 x5 x6 x7 t0 y1 S C hK83 h hG (lv_sub hl [2, 3, 4, 5, 6, 7, 1, 0] rfl)
def w9_gluings_b122 (K83 : Int32 → Int32 → Int32 → MS → Prop) (x2 : Int32) (x4 : Int32) (x5 : Int32) (x6 : Int32) (x7 : Int32) (S : MS) (Q : Int32 → MS → Prop) : Prop :=
  w9_gluings_b123 K83 x2 x4 x5 x6 x7 (0 : Int32) S Q
set_option maxHeartbeats 4000000 in
set_option maxRecDepth 100000 in
theorem b9_gluings_b122 {p : Program} {l : Launch} {e : Env} {s : State} {m : MethodId} {args : Array Value} {below : List Frame} {meth : Method} {c : Code} {D : va_G} {cy : Nat → ClassId} {A : Nat → Prop} {o : Nat} {q : Nat → Nat} {K83 : Int32 → Int32 → Int32 → MS → Prop} (x2 : Int32) (x4 : Int32) (x5 : Int32) (x6 : Int32) (x7 : Int32) (S : MS) {Q : Int32 → MS → Prop} (C : Cx p s m args meth c cX9_gluings 10 (some .int) wsX9_gluings RX9 D cy nestWs A) (hK83 : ∀ (x4 : Int32) (x5 : Int32) (x6 : Int32) (S : MS) (H : Heap) (locs : List Loc) (ls : Array Slot), K83 x4 x5 x6 S → GW D A s (w9 o q cy S) H locs → lv_has ls 10 [(0, .ref o), (2, .int x2), (4, .int x4), (5, .int x5), (6, .int x6)] → W p l e ({ frames := 5, cells := 0, slots := 0, locals := 119 } : Room) s m args below meth c H locs 0 0 (MQ below (va_Qi Q (B1 D (w9 o q cy) A) A) args s 0 0 A) (F0 m 83 ls [])) (h : w9_gluings_b122 K83 x2 x4 x5 x6 x7 S Q) {H : Heap} {locs : List Loc} (hG : GW D A s (w9 o q cy S) H locs) {ls : Array Slot} (hl : lv_has ls 10 [(0, .ref o), (2, .int x2), (4, .int x4), (5, .int x5), (6, .int x6), (7, .int x7)]) : W p l e ({ frames := 5, cells := 0, slots := 0, locals := 119 } : Room) s m args below meth c H locs 0 0 (MQ below (va_Qi Q (B1 D (w9 o q cy) A) A) args s 0 0 A) (F0 m 122 ls []) := by
  have hx := C.1
  have hb := C.2.1
  unfold w9_gluings_b122 at h
  refine lv_iconst (v := 0) hx hb dX9_gluings_122 (by decide) ?_
  exact b9_gluings_b123 (K83 := K83) x2 x4 x5 x6 x7 (0 : Int32) S C hK83 h hG hl
def w9_gluings_d83 (K83 : Int32 → Int32 → Int32 → MS → Prop) (x2 : Int32) (x4 : Int32) (x5 : Int32) (x6 : Int32) (S : MS) (Q : Int32 → MS → Prop) : Prop :=
  ((x5 < 0 → ((x4 ≤ 0 → w9_gluings_b346 x4 (0 : Int32) S Q) ∧ (¬ x4 ≤ 0 → w9_gluings_b346 x4 (1 : Int32) S Q))) ∧ (¬ x5 < 0 → vp_in x5 64 ∧ ∀ y4 : Int32, y4 = (rA S 37 x5) → ∀ y5 : Int32, y5 = x6 + 2 → (((fI S 25) ≤ y4 → w9_gluings_b122 K83 x2 x4 x5 y5 y4 S Q) ∧ (¬ (fI S 25) ≤ y4 → (((fI S 25) ≤ y5 → w9_gluings_b122 K83 x2 x4 x5 y5 y4 S Q) ∧ (¬ (fI S 25) ≤ y5 → w9_gluings_b123 K83 x2 x4 x5 y5 y4 (1 : Int32) S Q))))))
set_option maxHeartbeats 4000000 in
set_option maxRecDepth 100000 in
theorem b9_gluings_d83 {p : Program} {l : Launch} {e : Env} {s : State} {m : MethodId} {args : Array Value} {below : List Frame} {meth : Method} {c : Code} {D : va_G} {cy : Nat → ClassId} {A : Nat → Prop} {o : Nat} {q : Nat → Nat} {K83 : Int32 → Int32 → Int32 → MS → Prop} (x2 : Int32) (x4 : Int32) (x5 : Int32) (x6 : Int32) (S : MS) {Q : Int32 → MS → Prop} (C : Cx p s m args meth c cX9_gluings 10 (some .int) wsX9_gluings RX9 D cy nestWs A) (hK83 : ∀ (x4 : Int32) (x5 : Int32) (x6 : Int32) (S : MS) (H : Heap) (locs : List Loc) (ls : Array Slot), K83 x4 x5 x6 S → GW D A s (w9 o q cy S) H locs → lv_has ls 10 [(0, .ref o), (2, .int x2), (4, .int x4), (5, .int x5), (6, .int x6)] → W p l e ({ frames := 5, cells := 0, slots := 0, locals := 119 } : Room) s m args below meth c H locs 0 0 (MQ below (va_Qi Q (B1 D (w9 o q cy) A) A) args s 0 0 A) (F0 m 83 ls [])) (h : w9_gluings_d83 K83 x2 x4 x5 x6 S Q) {H : Heap} {locs : List Loc} (hG : GW D A s (w9 o q cy S) H locs) {ls : Array Slot} (hl : lv_has ls 10 [(0, .ref o), (2, .int x2), (4, .int x4), (5, .int x5), (6, .int x6)]) : W p l e ({ frames := 5, cells := 0, slots := 0, locals := 119 } : Room) s m args below meth c H locs 0 0 (MQ below (va_Qi Q (B1 D (w9 o q cy) A) A) args s 0 0 A) (F0 m 83 ls []) := by
  have hx := C.1
  have hb := C.2.1
  unfold w9_gluings_d83 at h
  refine lv_iload hx hb dX9_gluings_83 (lv_at hl 3 rfl) ?_
  refine lv_if_lt (tgt := 335) hx hb dX9_gluings_85 (by decide) (fun c1 => ?_) (fun c1 => ?_)
  · replace h := h.1 c1
    refine lv_aload_n hx hb dX9_gluings_335 rfl (lv_at hl 0 rfl) ?_
    refine lv_iload hx hb dX9_gluings_336 (lv_at hl 2 rfl) ?_
    refine lv_if_le (tgt := 345) hx hb dX9_gluings_338 (by decide) (fun c2 => ?_) (fun c2 => ?_)
    · replace h := h.1 c2
      refine lv_iconst (v := 0) hx hb dX9_gluings_345 (by decide) ?_
      exact b9_gluings_b346 x4 (0 : Int32) S C h hG (lv_sub hl [0, 2] rfl)
    · replace h := h.2 c2
      refine lv_iconst (v := 1) hx hb dX9_gluings_341 (by decide) ?_
      refine lv_goto (tgt := 346) hx hb dX9_gluings_342 (by decide) ?_
      exact b9_gluings_b346 x4 (1 : Int32) S C h hG (lv_sub hl [0, 2] rfl)
  · replace h := h.2 c1
    refine lv_aload_n hx hb dX9_gluings_88 rfl (lv_at hl 0 rfl) ?_
    refine x9g_37 C i9_gluings_X9 k9_gluings_95 hG dX9_gluings_89 ?_
    refine lv_iload hx hb dX9_gluings_92 (lv_at hl 3 rfl) ?_
    obtain ⟨hv3, h⟩ := h
    refine x9l_37 C hG hv3 dX9_gluings_94 ?_
    refine lv_topi (fun y4 ey4 => ?_)
    replace h := h y4 ey4
    refine lv_istore (lv' := [(7, .int y4), (0, .ref o), (2, .int x2), (4, .int x4), (5, .int x5), (6, .int x6)]) hx hb dX9_gluings_95 hl (by decide) rfl (fun ls hl => ?_)
    obtain ⟨y5, ey5⟩ : ∃ y : Int32, y = x6 + 2 := ⟨_, rfl⟩
    replace h := h y5 ey5
    refine lv_iinc (v := y5) (lv' := [(6, .int y5), (7, .int y4), (0, .ref o), (2, .int x2), (4, .int x4), (5, .int x5)]) hx hb dX9_gluings_97 hl (k := 5) rfl (by rw [ey5]; rfl) (by decide) rfl (fun ls hl => ?_)
    refine lv_iload hx hb dX9_gluings_100 (lv_at hl 1 rfl) ?_
    refine lv_aload_n hx hb dX9_gluings_102 rfl (lv_at hl 2 rfl) ?_
    refine x9g_25 C i9_gluings_X9 k9_gluings_273 hG dX9_gluings_103 ?_
    refine lv_icmp_ge (tgt := 122) hx hb dX9_gluings_106 (by decide) (fun c6 => ?_) (fun c6 => ?_)
    · replace h := h.1 c6
      exact b9_gluings_b122 (K83 := K83) x2 x4 x5 y5 y4 S C hK83 h hG (lv_sub hl [2, 3, 4, 5, 0, 1] rfl)
    · replace h := h.2 c6
      refine lv_iload hx hb dX9_gluings_109 (lv_at hl 0 rfl) ?_
      refine lv_aload_n hx hb dX9_gluings_111 rfl (lv_at hl 2 rfl) ?_
      refine x9g_25 C i9_gluings_X9 k9_gluings_273 hG dX9_gluings_112 ?_
      refine lv_icmp_ge (tgt := 122) hx hb dX9_gluings_115 (by decide) (fun c7 => ?_) (fun c7 => ?_)
      · replace h := h.1 c7
        exact b9_gluings_b122 (K83 := K83) x2 x4 x5 y5 y4 S C hK83 h hG (lv_sub hl [2, 3, 4, 5, 0, 1] rfl)
      · replace h := h.2 c7
        refine lv_iconst (v := 1) hx hb dX9_gluings_118 (by decide) ?_
        refine lv_goto (tgt := 123) hx hb dX9_gluings_119 (by decide) ?_
        exact b9_gluings_b123 (K83 := K83) x2 x4 x5 y5 y4 (1 : Int32) S C hK83 h hG (lv_sub hl [2, 3, 4, 5, 0, 1] rfl)
def w9_gluings_F83 (x2 : Int32) (Q : Int32 → MS → Prop) (K : Int32 × Int32 × Int32 × MS → Prop) (a : Int32 × Int32 × Int32 × MS) : Prop := w9_gluings_d83 (fun y0 y1 y2 y3 => K (y0, y1, y2, y3)) x2 a.1 a.2.1 a.2.2.1 a.2.2.2 Q
def w9_gluings_b83 (x2 : Int32) (x4 : Int32) (x5 : Int32) (x6 : Int32) (S : MS) (Q : Int32 → MS → Prop) : Prop := lp (w9_gluings_F83 x2 Q) (x4, x5, x6, S)
set_option maxHeartbeats 4000000 in
set_option maxRecDepth 100000 in
theorem b9_gluings_b83 {p : Program} {l : Launch} {e : Env} {s : State} {m : MethodId} {args : Array Value} {below : List Frame} {meth : Method} {c : Code} {D : va_G} {cy : Nat → ClassId} {A : Nat → Prop} {o : Nat} {q : Nat → Nat} (x2 : Int32) (x4 : Int32) (x5 : Int32) (x6 : Int32) (S : MS) {Q : Int32 → MS → Prop} (C : Cx p s m args meth c cX9_gluings 10 (some .int) wsX9_gluings RX9 D cy nestWs A) (h : w9_gluings_b83 x2 x4 x5 x6 S Q) {H : Heap} {locs : List Loc} (hG : GW D A s (w9 o q cy S) H locs) {ls : Array Slot} (hl : lv_has ls 10 [(0, .ref o), (2, .int x2), (4, .int x4), (5, .int x5), (6, .int x6)]) : W p l e ({ frames := 5, cells := 0, slots := 0, locals := 119 } : Room) s m args below meth c H locs 0 0 (MQ below (va_Qi Q (B1 D (w9 o q cy) A) A) args s 0 0 A) (F0 m 83 ls []) := by
  obtain ⟨k, hn⟩ := h
  induction k generalizing x4 x5 x6 S H locs ls with
  | zero => exact hn.elim
  | succ k ih => exact b9_gluings_d83 (K83 := fun y0 y1 y2 y3 => itr (w9_gluings_F83 x2 Q) k (y0, y1, y2, y3)) x2 x4 x5 x6 S C (fun x4 x5 x6 S H locs ls hk hG hl => ih x4 x5 x6 S hG hl hk) hn hG hl
def w9_gluings_d33 (K33 : Int32 → MS → Prop) (x2 : Int32) (x4 : Int32) (S : MS) (Q : Int32 → MS → Prop) : Prop :=
  (((fI S 25) ≤ x4 → w9_firstFree S (fun r2 => ∀ S4 : MS, S4 = sA S 37 (0 : Int32) r2 → ∀ y5 : Int32, y5 = ((rA S4 37 (0 : Int32)) - (1 : Int32)) → w9_gluings_b83 x2 (0 : Int32) (0 : Int32) y5 S4 Q)) ∧ (¬ (fI S 25) ≤ x4 → vp_in x4 128 ∧ ∀ S7 : MS, S7 = sA S 29 x4 (-9 : Int32) → ∀ y8 : Int32, y8 = x4 + 1 → K33 y8 S7))
set_option maxHeartbeats 4000000 in
set_option maxRecDepth 100000 in
theorem b9_gluings_d33 {p : Program} {l : Launch} {e : Env} {s : State} {m : MethodId} {args : Array Value} {below : List Frame} {meth : Method} {c : Code} {D : va_G} {cy : Nat → ClassId} {A : Nat → Prop} {o : Nat} {q : Nat → Nat} {K33 : Int32 → MS → Prop} (x2 : Int32) (x4 : Int32) (S : MS) {Q : Int32 → MS → Prop} (C : Cx p s m args meth c cX9_gluings 10 (some .int) wsX9_gluings RX9 D cy nestWs A) (hK33 : ∀ (x4 : Int32) (S : MS) (H : Heap) (locs : List Loc) (ls : Array Slot), K33 x4 S → GW D A s (w9 o q cy S) H locs → lv_has ls 10 [(0, .ref o), (2, .int x2), (4, .int x4)] → W p l e ({ frames := 5, cells := 0, slots := 0, locals := 119 } : Room) s m args below meth c H locs 0 0 (MQ below (va_Qi Q (B1 D (w9 o q cy) A) A) args s 0 0 A) (F0 m 33 ls [])) (h : w9_gluings_d33 K33 x2 x4 S Q) {H : Heap} {locs : List Loc} (hG : GW D A s (w9 o q cy S) H locs) {ls : Array Slot} (hl : lv_has ls 10 [(0, .ref o), (2, .int x2), (4, .int x4)]) : W p l e ({ frames := 5, cells := 0, slots := 0, locals := 119 } : Room) s m args below meth c H locs 0 0 (MQ below (va_Qi Q (B1 D (w9 o q cy) A) A) args s 0 0 A) (F0 m 33 ls []) := by
  have hx := C.1
  have hb := C.2.1
  unfold w9_gluings_d33 at h
  refine lv_iload hx hb dX9_gluings_33 (lv_at hl 2 rfl) ?_
  refine lv_aload_n hx hb dX9_gluings_35 rfl (lv_at hl 0 rfl) ?_
  refine x9g_25 C i9_gluings_X9 k9_gluings_273 hG dX9_gluings_36 ?_
  refine lv_icmp_ge (tgt := 57) hx hb dX9_gluings_39 (by decide) (fun c1 => ?_) (fun c1 => ?_)
  · replace h := h.1 c1
    refine lv_iconst (v := 0) hx hb dX9_gluings_57 (by decide) ?_
    refine lv_istore (lv' := [(4, .int (0 : Int32)), (0, .ref o), (2, .int x2)]) hx hb dX9_gluings_58 hl (by decide) rfl (fun ls hl => ?_)
    refine lv_iconst (v := 0) hx hb dX9_gluings_60 (by decide) ?_
    refine lv_istore (lv' := [(5, .int (0 : Int32)), (4, .int (0 : Int32)), (0, .ref o), (2, .int x2)]) hx hb dX9_gluings_61 hl (by decide) rfl (fun ls hl => ?_)
    refine lv_aload_n hx hb dX9_gluings_63 rfl (lv_at hl 2 rfl) ?_
    refine x9g_37 C i9_gluings_X9 k9_gluings_95 hG dX9_gluings_64 ?_
    refine lv_iconst (v := 0) hx hb dX9_gluings_67 (by decide) ?_
    refine lv_aload_n hx hb dX9_gluings_68 rfl (lv_at hl 2 rfl) ?_
    refine callVI (As := []) (rest := [.int (0 : Int32), .ref (q 37)]) C hG (c9_firstFree l D cy o q S _ h) 0 gX9_gluings_X9_firstFree rfl (by decide +kernel) ⟨⟨Nat.le_of_ble_eq_true rfl, Nat.le_of_ble_eq_true rfl⟩, rfl, rfl⟩ rfl rfl (Foc.all C.2.2.2.2.2.2.2.2.1) rfl hl.1 rfl (Nat.le_of_ble_eq_true rfl) dX9_gluings_69 ⟨Nat.zero_le _, Nat.zero_le _⟩ (fun r2 u3 H locs h hG => ?_)
    obtain ⟨eu3, h⟩ := h
    have eu3 : u3 = S := eu3
    subst u3
    have hG : GW D A s (w9 o q cy S) H locs := hG
    refine x9s_37 C hG (by unfold vp_in; decide) dX9_gluings_72 (fun S4 eS4 H locs hG => ?_)
    replace h := h S4 eS4
    refine lv_aload_n hx hb dX9_gluings_73 rfl (lv_at hl 2 rfl) ?_
    refine x9g_37 C i9_gluings_X9 k9_gluings_95 hG dX9_gluings_74 ?_
    refine lv_iconst (v := 0) hx hb dX9_gluings_77 (by decide) ?_
    refine x9l_37 C hG (by unfold vp_in; decide) dX9_gluings_78 ?_
    refine lv_iconst (v := 1) hx hb dX9_gluings_79 (by decide) ?_
    refine lv_isub hx hb dX9_gluings_80 ?_
    refine lv_topi (fun y5 ey5 => ?_)
    replace h := h y5 ey5
    refine lv_istore (lv' := [(6, .int y5), (5, .int (0 : Int32)), (4, .int (0 : Int32)), (0, .ref o), (2, .int x2)]) hx hb dX9_gluings_81 hl (by decide) rfl (fun ls hl => ?_)
    exact b9_gluings_b83 x2 (0 : Int32) (0 : Int32) y5 S4 C h hG (lv_sub hl [3, 4, 2, 1, 0] rfl)
  · replace h := h.2 c1
    refine lv_aload_n hx hb dX9_gluings_42 rfl (lv_at hl 0 rfl) ?_
    refine x9g_29 C i9_gluings_X9 k9_gluings_80 hG dX9_gluings_43 ?_
    refine lv_iload hx hb dX9_gluings_46 (lv_at hl 2 rfl) ?_
    refine lv_bipush (v := -9) hx hb dX9_gluings_48 (by decide) ?_
    obtain ⟨hv6, h⟩ := h
    refine x9s_29 C hG hv6 dX9_gluings_50 (fun S7 eS7 H locs hG => ?_)
    replace h := h S7 eS7
    obtain ⟨y8, ey8⟩ : ∃ y : Int32, y = x4 + 1 := ⟨_, rfl⟩
    replace h := h y8 ey8
    refine lv_iinc (v := y8) (lv' := [(4, .int y8), (0, .ref o), (2, .int x2)]) hx hb dX9_gluings_51 hl (k := 2) rfl (by rw [ey8]; rfl) (by decide) rfl (fun ls hl => ?_)
    refine lv_goto (tgt := 33) hx hb dX9_gluings_54 (by decide) ?_
    exact hK33 y8 S7 _ _ _ h hG (lv_sub hl [1, 2, 0] rfl)
def w9_gluings_F33 (x2 : Int32) (Q : Int32 → MS → Prop) (K : Int32 × MS → Prop) (a : Int32 × MS) : Prop := w9_gluings_d33 (fun y0 y1 => K (y0, y1)) x2 a.1 a.2 Q
def w9_gluings_b33 (x2 : Int32) (x4 : Int32) (S : MS) (Q : Int32 → MS → Prop) : Prop := lp (w9_gluings_F33 x2 Q) (x4, S)
set_option maxHeartbeats 4000000 in
set_option maxRecDepth 100000 in
theorem b9_gluings_b33 {p : Program} {l : Launch} {e : Env} {s : State} {m : MethodId} {args : Array Value} {below : List Frame} {meth : Method} {c : Code} {D : va_G} {cy : Nat → ClassId} {A : Nat → Prop} {o : Nat} {q : Nat → Nat} (x2 : Int32) (x4 : Int32) (S : MS) {Q : Int32 → MS → Prop} (C : Cx p s m args meth c cX9_gluings 10 (some .int) wsX9_gluings RX9 D cy nestWs A) (h : w9_gluings_b33 x2 x4 S Q) {H : Heap} {locs : List Loc} (hG : GW D A s (w9 o q cy S) H locs) {ls : Array Slot} (hl : lv_has ls 10 [(0, .ref o), (2, .int x2), (4, .int x4)]) : W p l e ({ frames := 5, cells := 0, slots := 0, locals := 119 } : Room) s m args below meth c H locs 0 0 (MQ below (va_Qi Q (B1 D (w9 o q cy) A) A) args s 0 0 A) (F0 m 33 ls []) := by
  obtain ⟨k, hn⟩ := h
  induction k generalizing x4 S H locs ls with
  | zero => exact hn.elim
  | succ k ih => exact b9_gluings_d33 (K33 := fun y0 y1 => itr (w9_gluings_F33 x2 Q) k (y0, y1)) x2 x4 S C (fun x4 S H locs ls hk hG hl => ih x4 S hG hl hk) hn hG hl
def w9_gluings (x1 : Int32) (x2 : Int32) (S : MS) (Q : Int32 → MS → Prop) : Prop :=
  w9_in x2 (1 : Int32) (20000 : Int32) (fun r1 => ((¬ r1 = 0 → w9_askedRim x1 S (fun r3 S4 => ((0 ≤ r3 → ∀ S6 : MS, S6 = sI S4 33 (0 : Int32) → w9_gluings_b33 x2 (0 : Int32) S6 Q) ∧ (¬ 0 ≤ r3 → Q r3 S4)))) ∧ (r1 = 0 → Q (-1 : Int32) S)))
set_option maxHeartbeats 4000000 in
set_option maxRecDepth 100000 in
theorem c9_gluings (l : Launch) (D : va_G) (cy : Nat → ClassId)  (o : Nat) (q : Nat → Nat) (x1 : Int32) (x2 : Int32) (S : MS) (Q : Int32 → MS → Prop) (h : w9_gluings x1 x2 S Q) : MetI l yX9_gluings wsX9_gluings ({ frames := 5, cells := 0, slots := 0, locals := 119 } : Room) D cy nestWs (w9 o q cy) [.ref o, .int x1, .int x2] S Q := by
  refine MetI.mk RX9 cX9_gluings 10 .int (by decide) rfl nestWs_ok rfl (Nat.le_of_ble_eq_true rfl) ?_
  intro p e s m below meth c A ls C hG hl
  have hl : lv_has ls 10 [(0, .ref o), (1, .int x1), (2, .int x2)] := hl
  have hx := C.1
  have hb := C.2.1
  unfold w9_gluings at h
  refine lv_iload_n hx hb dX9_gluings_0 rfl (lv_at hl 2 rfl) ?_
  refine lv_iconst (v := 1) hx hb dX9_gluings_1 (by decide) ?_
  refine lv_sipush (v := 20000) hx hb dX9_gluings_2 (by decide) ?_
  refine callSI (As := [.int x2, .int (1 : Int32), .int (20000 : Int32)]) (rest := []) C hG (c9_in l D cy x2 (1 : Int32) (20000 : Int32) _ h) 3 gX9_gluings_X9_in rfl (by decide +kernel) ⟨⟨Nat.le_of_ble_eq_true rfl, Nat.le_of_ble_eq_true rfl⟩, rfl, rfl⟩ (Foc.none C.2.2.2.2.2.2.2.2.1) rfl hl.1 rfl (Nat.le_of_ble_eq_true rfl) dX9_gluings_5 ⟨Nat.zero_le _, Nat.zero_le _⟩ (fun r1 z H locs h hG => ?_)
  refine lv_if_ne (tgt := 13) hx hb dX9_gluings_8 (by decide) (fun c2 => ?_) (fun c2 => ?_)
  · replace h := h.1 c2
    refine lv_aload_n hx hb dX9_gluings_13 rfl (lv_at hl 0 rfl) ?_
    refine lv_iload_n hx hb dX9_gluings_14 rfl (lv_at hl 1 rfl) ?_
    refine callVI (As := [.int x1]) (rest := []) C hG (c9_askedRim l D cy o q x1 S _ h) 1 gX9_gluings_X9_askedRim rfl (by decide +kernel) ⟨⟨Nat.le_of_ble_eq_true rfl, Nat.le_of_ble_eq_true rfl⟩, rfl, rfl⟩ rfl rfl (Foc.all C.2.2.2.2.2.2.2.2.1) rfl hl.1 rfl (Nat.le_of_ble_eq_true rfl) dX9_gluings_15 ⟨Nat.zero_le _, Nat.zero_le _⟩ (fun r3 S4 H locs h hG => ?_)
    have hG : GW D A s (w9 o q cy S4) H locs := hG
    refine lv_istore_n (lv' := [(3, .int r3), (0, .ref o), (1, .int x1), (2, .int x2)]) hx hb dX9_gluings_18 rfl hl (by decide) rfl (fun ls hl => ?_)
    refine lv_iload_n hx hb dX9_gluings_19 rfl (lv_at hl 0 rfl) ?_
    refine lv_if_ge (tgt := 25) hx hb dX9_gluings_20 (by decide) (fun c5 => ?_) (fun c5 => ?_)
    · replace h := h.1 c5
      refine lv_aload_n hx hb dX9_gluings_25 rfl (lv_at hl 1 rfl) ?_
      refine lv_iconst (v := 0) hx hb dX9_gluings_26 (by decide) ?_
      refine x9p_33 C i9_gluings_X9 k9_gluings_288 hG dX9_gluings_27 (fun S6 eS6 H locs hG => ?_)
      replace h := h S6 eS6
      refine lv_iconst (v := 0) hx hb dX9_gluings_30 (by decide) ?_
      refine lv_istore (lv' := [(4, .int (0 : Int32)), (3, .int r3), (0, .ref o), (1, .int x1), (2, .int x2)]) hx hb dX9_gluings_31 hl (by decide) rfl (fun ls hl => ?_)
      exact b9_gluings_b33 x2 (0 : Int32) S6 C h hG (lv_sub hl [2, 4, 0] rfl)
    · replace h := h.2 c5
      refine lv_iload_n hx hb dX9_gluings_23 rfl (lv_at hl 0 rfl) ?_
      exact retI (w := (w9 o q cy)) (S := S4) C hG h dX9_gluings_24
  · replace h := h.2 c2
    refine lv_iconst (v := -1) hx hb dX9_gluings_11 (by decide) ?_
    exact retI (w := (w9 o q cy)) (S := S) C hG h dX9_gluings_12
-- X9_glued
theorem i9_glued_X9 : ∀ w ∈ wsX90, w ∈ wsX9_glued := fun w h => List.mem_cons_of_mem _ (inG_X9 w h)
theorem k9_glued_89 : Cond.fieldLink RX9 89 "PaperBodiesModel" "firstGlued" "[I" ∈ wsX9_glued := (List.mem_cons_of_mem _ mw_563)
def w9_glued_b21 (t0 : Int32) (S : MS) (Q : Int32 → Prop) : Prop :=
  Q t0
set_option maxHeartbeats 4000000 in
set_option maxRecDepth 100000 in
theorem b9_glued_b21 {p : Program} {l : Launch} {e : Env} {s : State} {m : MethodId} {args : Array Value} {below : List Frame} {meth : Method} {c : Code} {D : va_G} {cy : Nat → ClassId} {A : Nat → Prop} {o : Nat} {q : Nat → Nat} (t0 : Int32) (S : MS) {Q : Int32 → Prop} (C : Cx p s m args meth c cX9_glued 2 (some .int) wsX9_glued RX9 D cy nestWs A) (h : w9_glued_b21 t0 S Q) {H : Heap} {locs : List Loc} (hG : GW D A s (w9 o q cy S) H locs) {ls : Array Slot} (hl : lv_has ls 2 [(0, .ref o)]) : W p l e ({ frames := 1, cells := 0, slots := 0, locals := 22 } : Room) s m args below meth c H locs 0 0 (MQ below (va_Qi (fun r z => z = S ∧ Q r ) (B1 D (w9 o q cy) A) A) args s 0 0 A) (F0 m 21 ls [.int t0]) := by
  have hx := C.1
  have hb := C.2.1
  unfold w9_glued_b21 at h
  exact retI (w := (w9 o q cy)) (S := S) C hG ⟨rfl, h⟩ dX9_glued_21
def w9_glued (x1 : Int32) (S : MS) (Q : Int32 → Prop) : Prop :=
  w9_in x1 (0 : Int32) (63 : Int32) (fun r1 => ((r1 = 0 → w9_glued_b21 (-9 : Int32) S Q) ∧ (¬ r1 = 0 → vp_in x1 64 ∧ w9_glued_b21 (rA S 34 x1) S Q)))
set_option maxHeartbeats 4000000 in
set_option maxRecDepth 100000 in
theorem c9_glued (l : Launch) (D : va_G) (cy : Nat → ClassId)  (o : Nat) (q : Nat → Nat) (x1 : Int32) (S : MS) (Q : Int32 → Prop) (h : w9_glued x1 S Q) : MetI l yX9_glued wsX9_glued ({ frames := 1, cells := 0, slots := 0, locals := 22 } : Room) D cy nestWs (w9 o q cy) [.ref o, .int x1] S (fun r z => z = S ∧ Q r ) := by
  refine MetI.mk RX9 cX9_glued 2 .int (by decide) rfl nestWs_ok rfl (Nat.le_of_ble_eq_true rfl) ?_
  intro p e s m below meth c A ls C hG hl
  have hl : lv_has ls 2 [(0, .ref o), (1, .int x1)] := hl
  have hx := C.1
  have hb := C.2.1
  unfold w9_glued at h
  refine lv_iload_n hx hb dX9_glued_0 rfl (lv_at hl 1 rfl) ?_
  refine lv_iconst (v := 0) hx hb dX9_glued_1 (by decide) ?_
  refine lv_bipush (v := 63) hx hb dX9_glued_2 (by decide) ?_
  refine callSI (As := [.int x1, .int (0 : Int32), .int (63 : Int32)]) (rest := []) C hG (c9_in l D cy x1 (0 : Int32) (63 : Int32) _ h) 3 gX9_glued_X9_in rfl (by decide +kernel) ⟨⟨Nat.le_of_ble_eq_true rfl, Nat.le_of_ble_eq_true rfl⟩, rfl, rfl⟩ (Foc.none C.2.2.2.2.2.2.2.2.1) rfl hl.1 rfl (Nat.le_of_ble_eq_true rfl) dX9_glued_4 ⟨Nat.zero_le _, Nat.zero_le _⟩ (fun r1 z H locs h hG => ?_)
  refine lv_if_eq (tgt := 19) hx hb dX9_glued_7 (by decide) (fun c2 => ?_) (fun c2 => ?_)
  · replace h := h.1 c2
    refine lv_bipush (v := -9) hx hb dX9_glued_19 (by decide) ?_
    exact b9_glued_b21 (-9 : Int32) S C h hG (lv_sub hl [0] rfl)
  · replace h := h.2 c2
    refine lv_aload_n hx hb dX9_glued_10 rfl (lv_at hl 0 rfl) ?_
    refine x9g_34 C i9_glued_X9 k9_glued_89 hG dX9_glued_11 ?_
    refine lv_iload_n hx hb dX9_glued_14 rfl (lv_at hl 1 rfl) ?_
    obtain ⟨hv3, h⟩ := h
    refine x9l_34 C hG hv3 dX9_glued_15 ?_
    refine lv_goto (tgt := 21) hx hb dX9_glued_16 (by decide) ?_
    exact b9_glued_b21 (rA S 34 x1) S C h hG (lv_sub hl [0] rfl)
-- X9_corners
theorem i9_corners_X9 : ∀ w ∈ wsX90, w ∈ wsX9_corners := fun w h => List.mem_cons_of_mem _ (inG_X9 w h)
theorem k9_corners_92 : Cond.fieldLink RX9 92 "PaperBodiesModel" "firstCorner" "[I" ∈ wsX9_corners := (List.mem_cons_of_mem _ mw_564)
theorem k9_corners_301 : Cond.fieldLink RX9 301 "PaperBodiesModel" "isFirst" "Z" ∈ wsX9_corners := (List.mem_cons_of_mem _ mw_766)
def w9_corners_b31 (t0 : Int32) (S : MS) (Q : Int32 → Prop) : Prop :=
  Q t0
set_option maxHeartbeats 4000000 in
set_option maxRecDepth 100000 in
theorem b9_corners_b31 {p : Program} {l : Launch} {e : Env} {s : State} {m : MethodId} {args : Array Value} {below : List Frame} {meth : Method} {c : Code} {D : va_G} {cy : Nat → ClassId} {A : Nat → Prop} {o : Nat} {q : Nat → Nat} (t0 : Int32) (S : MS) {Q : Int32 → Prop} (C : Cx p s m args meth c cX9_corners 2 (some .int) wsX9_corners RX9 D cy nestWs A) (h : w9_corners_b31 t0 S Q) {H : Heap} {locs : List Loc} (hG : GW D A s (w9 o q cy S) H locs) {ls : Array Slot} (hl : lv_has ls 2 [(0, .ref o)]) : W p l e ({ frames := 1, cells := 0, slots := 0, locals := 22 } : Room) s m args below meth c H locs 0 0 (MQ below (va_Qi (fun r z => z = S ∧ Q r ) (B1 D (w9 o q cy) A) A) args s 0 0 A) (F0 m 31 ls [.int t0]) := by
  have hx := C.1
  have hb := C.2.1
  unfold w9_corners_b31 at h
  exact retI (w := (w9 o q cy)) (S := S) C hG ⟨rfl, h⟩ dX9_corners_31
def w9_corners (x1 : Int32) (S : MS) (Q : Int32 → Prop) : Prop :=
  w9_in x1 (1 : Int32) (4 : Int32) (fun r1 => ((¬ r1 = 0 → (((fI S 36) = 0 → w9_corners_b31 (-9 : Int32) S Q) ∧ (¬ (fI S 36) = 0 → vp_in x1 5 ∧ w9_corners_b31 (rA S 35 x1) S Q))) ∧ (r1 = 0 → w9_corners_b31 (-1 : Int32) S Q)))
set_option maxHeartbeats 4000000 in
set_option maxRecDepth 100000 in
theorem c9_corners (l : Launch) (D : va_G) (cy : Nat → ClassId)  (o : Nat) (q : Nat → Nat) (x1 : Int32) (S : MS) (Q : Int32 → Prop) (h : w9_corners x1 S Q) : MetI l yX9_corners wsX9_corners ({ frames := 1, cells := 0, slots := 0, locals := 22 } : Room) D cy nestWs (w9 o q cy) [.ref o, .int x1] S (fun r z => z = S ∧ Q r ) := by
  refine MetI.mk RX9 cX9_corners 2 .int (by decide) rfl nestWs_ok rfl (Nat.le_of_ble_eq_true rfl) ?_
  intro p e s m below meth c A ls C hG hl
  have hl : lv_has ls 2 [(0, .ref o), (1, .int x1)] := hl
  have hx := C.1
  have hb := C.2.1
  unfold w9_corners at h
  refine lv_iload_n hx hb dX9_corners_0 rfl (lv_at hl 1 rfl) ?_
  refine lv_iconst (v := 1) hx hb dX9_corners_1 (by decide) ?_
  refine lv_iconst (v := 4) hx hb dX9_corners_2 (by decide) ?_
  refine callSI (As := [.int x1, .int (1 : Int32), .int (4 : Int32)]) (rest := []) C hG (c9_in l D cy x1 (1 : Int32) (4 : Int32) _ h) 3 gX9_corners_X9_in rfl (by decide +kernel) ⟨⟨Nat.le_of_ble_eq_true rfl, Nat.le_of_ble_eq_true rfl⟩, rfl, rfl⟩ (Foc.none C.2.2.2.2.2.2.2.2.1) rfl hl.1 rfl (Nat.le_of_ble_eq_true rfl) dX9_corners_3 ⟨Nat.zero_le _, Nat.zero_le _⟩ (fun r1 z H locs h hG => ?_)
  refine lv_if_ne (tgt := 13) hx hb dX9_corners_6 (by decide) (fun c2 => ?_) (fun c2 => ?_)
  · replace h := h.1 c2
    refine lv_aload_n hx hb dX9_corners_13 rfl (lv_at hl 0 rfl) ?_
    refine x9g_36 C i9_corners_X9 k9_corners_301 hG dX9_corners_14 ?_
    refine lv_if_eq (tgt := 29) hx hb dX9_corners_17 (by decide) (fun c3 => ?_) (fun c3 => ?_)
    · replace h := h.1 c3
      refine lv_bipush (v := -9) hx hb dX9_corners_29 (by decide) ?_
      exact b9_corners_b31 (-9 : Int32) S C h hG (lv_sub hl [0] rfl)
    · replace h := h.2 c3
      refine lv_aload_n hx hb dX9_corners_20 rfl (lv_at hl 0 rfl) ?_
      refine x9g_35 C i9_corners_X9 k9_corners_92 hG dX9_corners_21 ?_
      refine lv_iload_n hx hb dX9_corners_24 rfl (lv_at hl 1 rfl) ?_
      obtain ⟨hv4, h⟩ := h
      refine x9l_35 C hG hv4 dX9_corners_25 ?_
      refine lv_goto (tgt := 31) hx hb dX9_corners_26 (by decide) ?_
      exact b9_corners_b31 (rA S 35 x1) S C h hG (lv_sub hl [0] rfl)
  · replace h := h.2 c2
    refine lv_iconst (v := -1) hx hb dX9_corners_9 (by decide) ?_
    refine lv_goto (tgt := 31) hx hb dX9_corners_10 (by decide) ?_
    exact b9_corners_b31 (-1 : Int32) S C h hG (lv_sub hl [0] rfl)
