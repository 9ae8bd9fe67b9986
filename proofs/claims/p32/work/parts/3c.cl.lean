-- X1_digestInto
theorem i1_digestInto_X1 : ∀ w ∈ wsX10, w ∈ wsX1_digestInto := fun w h => List.mem_cons_of_mem _ (inG_X1 w h)
theorem k1_digestInto_11 : Cond.fieldLink RX1 11 "PaperBodies$Box" "lengths" "[I" ∈ wsX1_digestInto := (List.mem_cons_of_mem _ mw_43)
theorem k1_digestInto_92 : Cond.constantLong RX1 92 (31) ∈ wsX1_digestInto := (List.mem_cons_of_mem _ mw_100)
def w1_digestInto_d20 (K20 : Int64 → Int32 → Prop) (x3 : Int64) (x5 : Int32) (S : MS) (Q : Int64 → Prop) : Prop :=
  (((3 : Int32) ≤ x5 → Q x3) ∧ (¬ (3 : Int32) ≤ x5 → vp_in x5 3 ∧ ∀ y3 : Int64, y3 = (((31 : Int64) * x3) + (rA S 0 x5).toInt64) → ∀ y4 : Int32, y4 = x5 + 1 → K20 y3 y4))
set_option maxHeartbeats 4000000 in
set_option maxRecDepth 100000 in
theorem b1_digestInto_d20 {p : Program} {l : Launch} {e : Env} {s : State} {m : MethodId} {args : Array Value} {below : List Frame} {meth : Method} {c : Code} {D : va_G} {cy : Nat → ClassId} {A : Nat → Prop} {o : Nat} {q : Nat → Nat} {K20 : Int64 → Int32 → Prop} (x3 : Int64) (x5 : Int32) (S : MS) {Q : Int64 → Prop} (C : Cx p s m args meth c cX1_digestInto 6 (some .long) wsX1_digestInto RX1 D cy nestWs A) (hK20 : ∀ (x3 : Int64) (x5 : Int32) (H : Heap) (locs : List Loc) (ls : Array Slot), K20 x3 x5 → GW D A s (w1 o q cy S) H locs → lv_has ls 6 [(0, .ref o), (3, .long x3), (5, .int x5)] → W p l e ({ frames := 1, cells := 0, slots := 0, locals := 20 } : Room) s m args below meth c H locs 0 0 (MQ below (va_Ql (fun r z => z = S ∧ Q r ) (B1 D (w1 o q cy) A) A) args s 0 0 A) (F0 m 20 ls [])) (h : w1_digestInto_d20 K20 x3 x5 S Q) {H : Heap} {locs : List Loc} (hG : GW D A s (w1 o q cy S) H locs) {ls : Array Slot} (hl : lv_has ls 6 [(0, .ref o), (3, .long x3), (5, .int x5)]) : W p l e ({ frames := 1, cells := 0, slots := 0, locals := 20 } : Room) s m args below meth c H locs 0 0 (MQ below (va_Ql (fun r z => z = S ∧ Q r ) (B1 D (w1 o q cy) A) A) args s 0 0 A) (F0 m 20 ls []) := by
  have hx := C.1
  have hb := C.2.1
  unfold w1_digestInto_d20 at h
  refine lv_iload hx hb dX1_digestInto_20 (lv_at hl 2 rfl) ?_
  refine lv_iconst (v := 3) hx hb dX1_digestInto_22 (by decide) ?_
  refine lv_icmp_ge (tgt := 47) hx hb dX1_digestInto_23 (by decide) (fun c1 => ?_) (fun c1 => ?_)
  · replace h := h.1 c1
    refine lv_lload_n hx hb dX1_digestInto_47 rfl (lv_at hl 1 rfl) ?_
    exact retL (w := (w1 o q cy)) (S := S) C hG ⟨rfl, h⟩ dX1_digestInto_48
  · replace h := h.2 c1
    refine lv_ldc2 (v := 31) hx hb C.2.2.2.1 (C.2.2.2.2.1 _ k1_digestInto_92) dX1_digestInto_26 ?_
    refine lv_lload_n hx hb dX1_digestInto_29 rfl (lv_at hl 1 rfl) ?_
    refine lv_lmul hx hb dX1_digestInto_30 ?_
    refine lv_aload_n hx hb dX1_digestInto_31 rfl (lv_at hl 0 rfl) ?_
    refine gx_get C i1_digestInto_X1 hG 0 rfl rfl 0 (by decide) k1_digestInto_11 rfl dX1_digestInto_32 ?_
    refine lv_iload hx hb dX1_digestInto_35 (lv_at hl 2 rfl) ?_
    obtain ⟨hv2, h⟩ := h
    refine gx_ald C hG 1 rfl hv2 dX1_digestInto_37 ?_
    refine lv_i2l hx hb dX1_digestInto_38 rfl ?_
    refine lv_ladd hx hb dX1_digestInto_39 ?_
    refine lv_topl (fun y3 ey3 => ?_)
    replace h := h y3 ey3
    refine lv_lstore_n (lv' := [(3, .long y3), (0, .ref o), (5, .int x5)]) hx hb dX1_digestInto_40 rfl hl (by decide) rfl (fun ls hl => ?_)
    obtain ⟨y4, ey4⟩ : ∃ y : Int32, y = x5 + 1 := ⟨_, rfl⟩
    replace h := h y4 ey4
    refine lv_iinc (v := y4) (lv' := [(5, .int y4), (3, .long y3), (0, .ref o)]) hx hb dX1_digestInto_41 hl (k := 2) rfl (by rw [ey4]; rfl) (by decide) rfl (fun ls hl => ?_)
    refine lv_goto (tgt := 20) hx hb dX1_digestInto_44 (by decide) ?_
    exact hK20 y3 y4 _ _ _ h hG (lv_sub hl [2, 1, 0] rfl)
def w1_digestInto_F20 (S : MS) (Q : Int64 → Prop) (K : Int64 × Int32 → Prop) (a : Int64 × Int32) : Prop := w1_digestInto_d20 (fun y0 y1 => K (y0, y1)) a.1 a.2 S Q
def w1_digestInto_b20 (x3 : Int64) (x5 : Int32) (S : MS) (Q : Int64 → Prop) : Prop := lp (w1_digestInto_F20 S Q) (x3, x5)
set_option maxHeartbeats 4000000 in
set_option maxRecDepth 100000 in
theorem b1_digestInto_b20 {p : Program} {l : Launch} {e : Env} {s : State} {m : MethodId} {args : Array Value} {below : List Frame} {meth : Method} {c : Code} {D : va_G} {cy : Nat → ClassId} {A : Nat → Prop} {o : Nat} {q : Nat → Nat} (x3 : Int64) (x5 : Int32) (S : MS) {Q : Int64 → Prop} (C : Cx p s m args meth c cX1_digestInto 6 (some .long) wsX1_digestInto RX1 D cy nestWs A) (h : w1_digestInto_b20 x3 x5 S Q) {H : Heap} {locs : List Loc} (hG : GW D A s (w1 o q cy S) H locs) {ls : Array Slot} (hl : lv_has ls 6 [(0, .ref o), (3, .long x3), (5, .int x5)]) : W p l e ({ frames := 1, cells := 0, slots := 0, locals := 20 } : Room) s m args below meth c H locs 0 0 (MQ below (va_Ql (fun r z => z = S ∧ Q r ) (B1 D (w1 o q cy) A) A) args s 0 0 A) (F0 m 20 ls []) := by
  obtain ⟨k, hn⟩ := h
  induction k generalizing x3 x5 H locs ls with
  | zero => exact hn.elim
  | succ k ih => exact b1_digestInto_d20 (K20 := fun y0 y1 => itr (w1_digestInto_F20 S Q) k (y0, y1)) x3 x5 S C (fun x3 x5 H locs ls hk hG hl => ih x3 x5 hG hl hk) hn hG hl
def w1_digestInto (x1 : Int64) (S : MS) (Q : Int64 → Prop) : Prop :=
  w1_isThere S (fun r1 => ((¬ r1 = 0 → w1_digestInto_b20 x1 (0 : Int32) S Q) ∧ (r1 = 0 → Q (((31 : Int64) * x1) - (1 : Int64)))))
set_option maxHeartbeats 4000000 in
set_option maxRecDepth 100000 in
theorem c1_digestInto (l : Launch) (D : va_G) (cy : Nat → ClassId)  (o : Nat) (q : Nat → Nat) (x1 : Int64) (S : MS) (Q : Int64 → Prop) (h : w1_digestInto x1 S Q) : MetL l yX1_digestInto wsX1_digestInto ({ frames := 1, cells := 0, slots := 0, locals := 20 } : Room) D cy nestWs (w1 o q cy) [.ref o, .long x1] S (fun r z => z = S ∧ Q r ) := by
  refine MetL.mk RX1 cX1_digestInto 6 (by decide) rfl nestWs_ok rfl (Nat.le_of_ble_eq_true rfl) ?_
  intro p e s m below meth c A ls C hG hl
  have hl : lv_has ls 6 [(0, .ref o), (1, .long x1)] := hl
  have hx := C.1
  have hb := C.2.1
  unfold w1_digestInto at h
  refine lv_aload_n hx hb dX1_digestInto_0 rfl (lv_at hl 0 rfl) ?_
  refine callVI (As := []) (rest := []) C hG (c1_isThere l D cy o q S _ h) 0 gX1_digestInto_X1_isThere rfl (by decide +kernel) ⟨⟨Nat.le_of_ble_eq_true rfl, Nat.le_of_ble_eq_true rfl⟩, rfl, rfl⟩ rfl rfl (Foc.all C.2.2.2.2.2.2.2.2.1) rfl hl.1 rfl (Nat.le_of_ble_eq_true rfl) dX1_digestInto_1 ⟨Nat.zero_le _, Nat.zero_le _⟩ (fun r1 u2 H locs h hG => ?_)
  obtain ⟨eu2, h⟩ := h
  have eu2 : u2 = S := eu2
  subst u2
  have hG : GW D A s (w1 o q cy S) H locs := hG
  refine lv_if_ne (tgt := 15) hx hb dX1_digestInto_4 (by decide) (fun c3 => ?_) (fun c3 => ?_)
  · replace h := h.1 c3
    refine lv_lload_n hx hb dX1_digestInto_15 rfl (lv_at hl 1 rfl) ?_
    refine lv_lstore_n (lv' := [(3, .long x1), (0, .ref o), (1, .long x1)]) hx hb dX1_digestInto_16 rfl hl (by decide) rfl (fun ls hl => ?_)
    refine lv_iconst (v := 0) hx hb dX1_digestInto_17 (by decide) ?_
    refine lv_istore (lv' := [(5, .int (0 : Int32)), (3, .long x1), (0, .ref o), (1, .long x1)]) hx hb dX1_digestInto_18 hl (by decide) rfl (fun ls hl => ?_)
    exact b1_digestInto_b20 x1 (0 : Int32) S C h hG (lv_sub hl [2, 1, 0] rfl)
  · replace h := h.2 c3
    refine lv_ldc2 (v := 31) hx hb C.2.2.2.1 (C.2.2.2.2.1 _ k1_digestInto_92) dX1_digestInto_7 ?_
    refine lv_lload_n hx hb dX1_digestInto_10 rfl (lv_at hl 1 rfl) ?_
    refine lv_lmul hx hb dX1_digestInto_11 ?_
    refine lv_lconst (v := 1) hx hb dX1_digestInto_12 (by decide) ?_
    refine lv_lsub hx hb dX1_digestInto_13 ?_
    exact retL (w := (w1 o q cy)) (S := S) C hG ⟨rfl, h⟩ dX1_digestInto_14
-- X2_isThere
theorem i2_isThere_X2 : ∀ w ∈ wsX20, w ∈ wsX2_isThere := fun w h => List.mem_cons_of_mem _ (inG_X2 w h)
theorem k2_isThere_11 : Cond.fieldLink RX2 11 "PaperBodies$Figure" "kind" "I" ∈ wsX2_isThere := (List.mem_cons_of_mem _ mw_106)
def w2_isThere_b13 (t0 : Int32) (S : MS) (Q : Int32 → Prop) : Prop :=
  narrow .boolean (.int t0) = .int t0 ∧ Q t0
set_option maxHeartbeats 4000000 in
set_option maxRecDepth 100000 in
theorem b2_isThere_b13 {p : Program} {l : Launch} {e : Env} {s : State} {m : MethodId} {args : Array Value} {below : List Frame} {meth : Method} {c : Code} {D : va_G} {cy : Nat → ClassId} {A : Nat → Prop} {o : Nat} {q : Nat → Nat} (t0 : Int32) (S : MS) {Q : Int32 → Prop} (C : Cx p s m args meth c cX2_isThere 1 (some .boolean) wsX2_isThere RX2 D cy nestWs A) (h : w2_isThere_b13 t0 S Q) {H : Heap} {locs : List Loc} (hG : GW D A s (w2 o q cy S) H locs) {ls : Array Slot} (hl : lv_has ls 1 [(0, .ref o)]) : W p l e ({ frames := 0, cells := 0, slots := 0, locals := 0 } : Room) s m args below meth c H locs 0 0 (MQ below (va_Qi (fun r z => z = S ∧ Q r ) (B1 D (w2 o q cy) A) A) args s 0 0 A) (F0 m 13 ls [.int t0]) := by
  have hx := C.1
  have hb := C.2.1
  unfold w2_isThere_b13 at h
  exact retZ (w := (w2 o q cy)) (S := S) C hG ⟨h.1, ⟨rfl, h.2⟩⟩ dX2_isThere_13
def w2_isThere (S : MS) (Q : Int32 → Prop) : Prop :=
  (((fI S 0) = (-1 : Int32) → w2_isThere_b13 (0 : Int32) S Q) ∧ (¬ (fI S 0) = (-1 : Int32) → w2_isThere_b13 (1 : Int32) S Q))
set_option maxHeartbeats 4000000 in
set_option maxRecDepth 100000 in
theorem c2_isThere (l : Launch) (D : va_G) (cy : Nat → ClassId)  (o : Nat) (q : Nat → Nat) (S : MS) (Q : Int32 → Prop) (h : w2_isThere S Q) : MetI l yX2_isThere wsX2_isThere ({ frames := 0, cells := 0, slots := 0, locals := 0 } : Room) D cy nestWs (w2 o q cy) [.ref o] S (fun r z => z = S ∧ Q r ) := by
  refine MetI.mk RX2 cX2_isThere 1 .boolean (by decide) rfl nestWs_ok rfl (Nat.le_of_ble_eq_true rfl) ?_
  intro p e s m below meth c A ls C hG hl
  have hl : lv_has ls 1 [(0, .ref o)] := hl
  have hx := C.1
  have hb := C.2.1
  unfold w2_isThere at h
  refine lv_aload_n hx hb dX2_isThere_0 rfl (lv_at hl 0 rfl) ?_
  refine gx_get C i2_isThere_X2 hG 0 rfl rfl 0 (by decide) k2_isThere_11 rfl dX2_isThere_1 ?_
  refine lv_iconst (v := -1) hx hb dX2_isThere_4 (by decide) ?_
  refine lv_icmp_eq (tgt := 12) hx hb dX2_isThere_5 (by decide) (fun c1 => ?_) (fun c1 => ?_)
  · replace h := h.1 c1
    refine lv_iconst (v := 0) hx hb dX2_isThere_12 (by decide) ?_
    exact b2_isThere_b13 (0 : Int32) S C h hG hl
  · replace h := h.2 c1
    refine lv_iconst (v := 1) hx hb dX2_isThere_8 (by decide) ?_
    refine lv_goto (tgt := 13) hx hb dX2_isThere_9 (by decide) ?_
    exact b2_isThere_b13 (1 : Int32) S C h hG hl
-- X2_isOf
theorem i2_isOf_X2 : ∀ w ∈ wsX20, w ∈ wsX2_isOf := fun w h => List.mem_cons_of_mem _ (inG_X2 w h)
theorem k2_isOf_11 : Cond.fieldLink RX2 11 "PaperBodies$Figure" "kind" "I" ∈ wsX2_isOf := (List.mem_cons_of_mem _ mw_106)
def w2_isOf_b26 (t0 : Int32) (S : MS) (Q : Int32 → Prop) : Prop :=
  narrow .boolean (.int t0) = .int t0 ∧ Q t0
set_option maxHeartbeats 4000000 in
set_option maxRecDepth 100000 in
theorem b2_isOf_b26 {p : Program} {l : Launch} {e : Env} {s : State} {m : MethodId} {args : Array Value} {below : List Frame} {meth : Method} {c : Code} {D : va_G} {cy : Nat → ClassId} {A : Nat → Prop} {o : Nat} {q : Nat → Nat} (t0 : Int32) (S : MS) {Q : Int32 → Prop} (C : Cx p s m args meth c cX2_isOf 2 (some .boolean) wsX2_isOf RX2 D cy nestWs A) (h : w2_isOf_b26 t0 S Q) {H : Heap} {locs : List Loc} (hG : GW D A s (w2 o q cy S) H locs) {ls : Array Slot} (hl : lv_has ls 2 [(0, .ref o)]) : W p l e ({ frames := 0, cells := 0, slots := 0, locals := 0 } : Room) s m args below meth c H locs 0 0 (MQ below (va_Qi (fun r z => z = S ∧ Q r ) (B1 D (w2 o q cy) A) A) args s 0 0 A) (F0 m 26 ls [.int t0]) := by
  have hx := C.1
  have hb := C.2.1
  unfold w2_isOf_b26 at h
  exact retZ (w := (w2 o q cy)) (S := S) C hG ⟨h.1, ⟨rfl, h.2⟩⟩ dX2_isOf_26
def w2_isOf_b25 (S : MS) (Q : Int32 → Prop) : Prop :=
  w2_isOf_b26 (0 : Int32) S Q
set_option maxHeartbeats 4000000 in
set_option maxRecDepth 100000 in
theorem b2_isOf_b25 {p : Program} {l : Launch} {e : Env} {s : State} {m : MethodId} {args : Array Value} {below : List Frame} {meth : Method} {c : Code} {D : va_G} {cy : Nat → ClassId} {A : Nat → Prop} {o : Nat} {q : Nat → Nat} (S : MS) {Q : Int32 → Prop} (C : Cx p s m args meth c cX2_isOf 2 (some .boolean) wsX2_isOf RX2 D cy nestWs A) (h : w2_isOf_b25 S Q) {H : Heap} {locs : List Loc} (hG : GW D A s (w2 o q cy S) H locs) {ls : Array Slot} (hl : lv_has ls 2 [(0, .ref o)]) : W p l e ({ frames := 0, cells := 0, slots := 0, locals := 0 } : Room) s m args below meth c H locs 0 0 (MQ below (va_Qi (fun r z => z = S ∧ Q r ) (B1 D (w2 o q cy) A) A) args s 0 0 A) (F0 m 25 ls []) := by
  have hx := C.1
  have hb := C.2.1
  unfold w2_isOf_b25 at h
  refine lv_iconst (v := 0) hx hb dX2_isOf_25 (by decide) ?_
  exact b2_isOf_b26 (0 : Int32) S C h hG hl
def w2_isOf_b21 (S : MS) (Q : Int32 → Prop) : Prop :=
  w2_isOf_b26 (1 : Int32) S Q
set_option maxHeartbeats 4000000 in
set_option maxRecDepth 100000 in
theorem b2_isOf_b21 {p : Program} {l : Launch} {e : Env} {s : State} {m : MethodId} {args : Array Value} {below : List Frame} {meth : Method} {c : Code} {D : va_G} {cy : Nat → ClassId} {A : Nat → Prop} {o : Nat} {q : Nat → Nat} (S : MS) {Q : Int32 → Prop} (C : Cx p s m args meth c cX2_isOf 2 (some .boolean) wsX2_isOf RX2 D cy nestWs A) (h : w2_isOf_b21 S Q) {H : Heap} {locs : List Loc} (hG : GW D A s (w2 o q cy S) H locs) {ls : Array Slot} (hl : lv_has ls 2 [(0, .ref o)]) : W p l e ({ frames := 0, cells := 0, slots := 0, locals := 0 } : Room) s m args below meth c H locs 0 0 (MQ below (va_Qi (fun r z => z = S ∧ Q r ) (B1 D (w2 o q cy) A) A) args s 0 0 A) (F0 m 21 ls []) := by
  have hx := C.1
  have hb := C.2.1
  unfold w2_isOf_b21 at h
  refine lv_iconst (v := 1) hx hb dX2_isOf_21 (by decide) ?_
  refine lv_goto (tgt := 26) hx hb dX2_isOf_22 (by decide) ?_
  exact b2_isOf_b26 (1 : Int32) S C h hG hl
def w2_isOf (x1 : Int32) (S : MS) (Q : Int32 → Prop) : Prop :=
  (((fI S 0) = x1 → w2_isOf_b21 S Q) ∧ (¬ (fI S 0) = x1 → ((¬ x1 = (2 : Int32) → w2_isOf_b25 S Q) ∧ (x1 = (2 : Int32) → ((¬ (fI S 0) = (3 : Int32) → w2_isOf_b25 S Q) ∧ ((fI S 0) = (3 : Int32) → w2_isOf_b21 S Q))))))
set_option maxHeartbeats 4000000 in
set_option maxRecDepth 100000 in
theorem c2_isOf (l : Launch) (D : va_G) (cy : Nat → ClassId)  (o : Nat) (q : Nat → Nat) (x1 : Int32) (S : MS) (Q : Int32 → Prop) (h : w2_isOf x1 S Q) : MetI l yX2_isOf wsX2_isOf ({ frames := 0, cells := 0, slots := 0, locals := 0 } : Room) D cy nestWs (w2 o q cy) [.ref o, .int x1] S (fun r z => z = S ∧ Q r ) := by
  refine MetI.mk RX2 cX2_isOf 2 .boolean (by decide) rfl nestWs_ok rfl (Nat.le_of_ble_eq_true rfl) ?_
  intro p e s m below meth c A ls C hG hl
  have hl : lv_has ls 2 [(0, .ref o), (1, .int x1)] := hl
  have hx := C.1
  have hb := C.2.1
  unfold w2_isOf at h
  refine lv_aload_n hx hb dX2_isOf_0 rfl (lv_at hl 0 rfl) ?_
  refine gx_get C i2_isOf_X2 hG 0 rfl rfl 0 (by decide) k2_isOf_11 rfl dX2_isOf_1 ?_
  refine lv_iload_n hx hb dX2_isOf_4 rfl (lv_at hl 1 rfl) ?_
  refine lv_icmp_eq (tgt := 21) hx hb dX2_isOf_5 (by decide) (fun c1 => ?_) (fun c1 => ?_)
  · replace h := h.1 c1
    exact b2_isOf_b21 S C h hG (lv_sub hl [0] rfl)
  · replace h := h.2 c1
    refine lv_iload_n hx hb dX2_isOf_8 rfl (lv_at hl 1 rfl) ?_
    refine lv_iconst (v := 2) hx hb dX2_isOf_9 (by decide) ?_
    refine lv_icmp_ne (tgt := 25) hx hb dX2_isOf_10 (by decide) (fun c2 => ?_) (fun c2 => ?_)
    · replace h := h.1 c2
      exact b2_isOf_b25 S C h hG (lv_sub hl [0] rfl)
    · replace h := h.2 c2
      refine lv_aload_n hx hb dX2_isOf_13 rfl (lv_at hl 0 rfl) ?_
      refine gx_get C i2_isOf_X2 hG 0 rfl rfl 0 (by decide) k2_isOf_11 rfl dX2_isOf_14 ?_
      refine lv_iconst (v := 3) hx hb dX2_isOf_17 (by decide) ?_
      refine lv_icmp_ne (tgt := 25) hx hb dX2_isOf_18 (by decide) (fun c3 => ?_) (fun c3 => ?_)
      · replace h := h.1 c3
        exact b2_isOf_b25 S C h hG (lv_sub hl [0] rfl)
      · replace h := h.2 c3
        exact b2_isOf_b21 S C h hG (lv_sub hl [0] rfl)
-- X2_putPlain
theorem i2_putPlain_X2 : ∀ w ∈ wsX20, w ∈ wsX2_putPlain := fun w h => List.mem_cons_of_mem _ (inG_X2 w h)
theorem k2_putPlain_11 : Cond.fieldLink RX2 11 "PaperBodies$Figure" "kind" "I" ∈ wsX2_putPlain := (List.mem_cons_of_mem _ mw_106)
theorem k2_putPlain_15 : Cond.fieldLink RX2 15 "PaperBodies$Figure" "set" "J" ∈ wsX2_putPlain := (List.mem_cons_of_mem _ mw_110)
def w2_putPlain_b25 (t1 : Int32) (S : MS) (Q : MS → Prop) : Prop :=
  ∀ S1 : MS, S1 = sI S 0 t1 → Q S1
set_option maxHeartbeats 4000000 in
set_option maxRecDepth 100000 in
theorem b2_putPlain_b25 {p : Program} {l : Launch} {e : Env} {s : State} {m : MethodId} {args : Array Value} {below : List Frame} {meth : Method} {c : Code} {D : va_G} {cy : Nat → ClassId} {A : Nat → Prop} {o : Nat} {q : Nat → Nat} (t1 : Int32) (S : MS) {Q : MS → Prop} (C : Cx p s m args meth c cX2_putPlain 3 (none) wsX2_putPlain RX2 D cy nestWs A) (h : w2_putPlain_b25 t1 S Q) {H : Heap} {locs : List Loc} (hG : GW D A s (w2 o q cy S) H locs) {ls : Array Slot} (hl : lv_has ls 3 [(0, .ref o)]) : W p l e ({ frames := 3, cells := 0, slots := 0, locals := 64 } : Room) s m args below meth c H locs 0 0 (MQ below (va_Qv Q (B1 D (w2 o q cy) A) A) args s 0 0 A) (F0 m 25 ls [.int t1, .ref o]) := by
  have hx := C.1
  have hb := C.2.1
  unfold w2_putPlain_b25 at h
  refine gx_put (ty := .int) (ws' := w2 o q cy (sI S 0 t1)) C i2_putPlain_X2 tyX2 tyX2_ok nmX2 hG 0 rfl rfl 0 (by decide) k2_putPlain_11 rfl (by decide +kernel) rfl rfl (Nat.le_of_ble_eq_true rfl) dX2_putPlain_25 rfl (fun H locs hG => ?_)
  obtain ⟨S1, eS1⟩ : ∃ z : MS, z = sI S 0 t1 := ⟨_, rfl⟩
  rw [← eS1] at hG
  replace h := h S1 eS1
  exact retV (w := (w2 o q cy)) (S := S1) C hG h dX2_putPlain_28
def w2_putPlain_b20 (S : MS) (Q : MS → Prop) : Prop :=
  w2_putPlain_b25 (1 : Int32) S Q
set_option maxHeartbeats 4000000 in
set_option maxRecDepth 100000 in
theorem b2_putPlain_b20 {p : Program} {l : Launch} {e : Env} {s : State} {m : MethodId} {args : Array Value} {below : List Frame} {meth : Method} {c : Code} {D : va_G} {cy : Nat → ClassId} {A : Nat → Prop} {o : Nat} {q : Nat → Nat} (S : MS) {Q : MS → Prop} (C : Cx p s m args meth c cX2_putPlain 3 (none) wsX2_putPlain RX2 D cy nestWs A) (h : w2_putPlain_b20 S Q) {H : Heap} {locs : List Loc} (hG : GW D A s (w2 o q cy S) H locs) {ls : Array Slot} (hl : lv_has ls 3 [(0, .ref o)]) : W p l e ({ frames := 3, cells := 0, slots := 0, locals := 64 } : Room) s m args below meth c H locs 0 0 (MQ below (va_Qv Q (B1 D (w2 o q cy) A) A) args s 0 0 A) (F0 m 20 ls [.ref o]) := by
  have hx := C.1
  have hb := C.2.1
  unfold w2_putPlain_b20 at h
  refine lv_iconst (v := 1) hx hb dX2_putPlain_20 (by decide) ?_
  refine lv_goto (tgt := 25) hx hb dX2_putPlain_21 (by decide) ?_
  exact b2_putPlain_b25 (1 : Int32) S C h hG hl
def w2_putPlain (x1 : Int64) (S : MS) (Q : MS → Prop) : Prop :=
  ∀ S1 : MS, S1 = sJ S 1 x1 → w0_isLying x1 (fun r2 => ((¬ r2 = 0 → w2_putPlain_b20 S1 Q) ∧ (r2 = 0 → w0_isStanding x1 (fun r4 => ((r4 = 0 → w2_putPlain_b25 (0 : Int32) S1 Q) ∧ (¬ r4 = 0 → w2_putPlain_b20 S1 Q))))))
set_option maxHeartbeats 4000000 in
set_option maxRecDepth 100000 in
theorem c2_putPlain (l : Launch) (D : va_G) (cy : Nat → ClassId)  (o : Nat) (q : Nat → Nat) (x1 : Int64) (S : MS) (Q : MS → Prop) (h : w2_putPlain x1 S Q) : MetV l yX2_putPlain wsX2_putPlain ({ frames := 3, cells := 0, slots := 0, locals := 64 } : Room) D cy nestWs (w2 o q cy) [.ref o, .long x1] S Q := by
  refine MetV.mk RX2 cX2_putPlain 3 (by decide) rfl nestWs_ok rfl (Nat.le_of_ble_eq_true rfl) ?_
  intro p e s m below meth c A ls C hG hl
  have hl : lv_has ls 3 [(0, .ref o), (1, .long x1)] := hl
  have hx := C.1
  have hb := C.2.1
  unfold w2_putPlain at h
  refine lv_aload_n hx hb dX2_putPlain_0 rfl (lv_at hl 0 rfl) ?_
  refine lv_lload_n hx hb dX2_putPlain_1 rfl (lv_at hl 1 rfl) ?_
  refine gx_put (ty := .long) (ws' := w2 o q cy (sJ S 1 x1)) C i2_putPlain_X2 tyX2 tyX2_ok nmX2 hG 0 rfl rfl 1 (by decide) k2_putPlain_15 rfl (by decide +kernel) rfl rfl (Nat.le_of_ble_eq_true rfl) dX2_putPlain_2 rfl (fun H locs hG => ?_)
  obtain ⟨S1, eS1⟩ : ∃ z : MS, z = sJ S 1 x1 := ⟨_, rfl⟩
  rw [← eS1] at hG
  replace h := h S1 eS1
  refine lv_aload_n hx hb dX2_putPlain_5 rfl (lv_at hl 0 rfl) ?_
  refine lv_lload_n hx hb dX2_putPlain_6 rfl (lv_at hl 1 rfl) ?_
  refine callSI (As := [.long x1]) (rest := [.ref o]) C hG (c0_isLying l D cy x1 _ h) 1 gX2_putPlain_X0_isLying rfl (by decide +kernel) ⟨⟨Nat.le_of_ble_eq_true rfl, Nat.le_of_ble_eq_true rfl⟩, rfl, rfl⟩ (Foc.none C.2.2.2.2.2.2.2.2.1) rfl hl.1 rfl (Nat.le_of_ble_eq_true rfl) dX2_putPlain_7 ⟨Nat.zero_le _, Nat.zero_le _⟩ (fun r2 z H locs h hG => ?_)
  refine lv_if_ne (tgt := 20) hx hb dX2_putPlain_10 (by decide) (fun c3 => ?_) (fun c3 => ?_)
  · replace h := h.1 c3
    exact b2_putPlain_b20 S1 C h hG (lv_sub hl [0] rfl)
  · replace h := h.2 c3
    refine lv_lload_n hx hb dX2_putPlain_13 rfl (lv_at hl 1 rfl) ?_
    refine callSI (As := [.long x1]) (rest := [.ref o]) C hG (c0_isStanding l D cy x1 _ h) 1 gX2_putPlain_X0_isStanding rfl (by decide +kernel) ⟨⟨Nat.le_of_ble_eq_true rfl, Nat.le_of_ble_eq_true rfl⟩, rfl, rfl⟩ (Foc.none C.2.2.2.2.2.2.2.2.1) rfl hl.1 rfl (Nat.le_of_ble_eq_true rfl) dX2_putPlain_14 ⟨Nat.zero_le _, Nat.zero_le _⟩ (fun r4 z H locs h hG => ?_)
    refine lv_if_eq (tgt := 24) hx hb dX2_putPlain_17 (by decide) (fun c5 => ?_) (fun c5 => ?_)
    · replace h := h.1 c5
      refine lv_iconst (v := 0) hx hb dX2_putPlain_24 (by decide) ?_
      exact b2_putPlain_b25 (0 : Int32) S1 C h hG (lv_sub hl [0] rfl)
    · replace h := h.2 c5
      exact b2_putPlain_b20 S1 C h hG (lv_sub hl [0] rfl)
-- X2_putNet
theorem i2_putNet_X2 : ∀ w ∈ wsX20, w ∈ wsX2_putNet := fun w h => List.mem_cons_of_mem _ (inG_X2 w h)
theorem k2_putNet_11 : Cond.fieldLink RX2 11 "PaperBodies$Figure" "kind" "I" ∈ wsX2_putNet := (List.mem_cons_of_mem _ mw_106)
theorem k2_putNet_15 : Cond.fieldLink RX2 15 "PaperBodies$Figure" "set" "J" ∈ wsX2_putNet := (List.mem_cons_of_mem _ mw_110)
theorem k2_putNet_34 : Cond.fieldLink RX2 34 "PaperBodies$Figure" "leastCell" "I" ∈ wsX2_putNet := (List.mem_cons_of_mem _ mw_116)
theorem k2_putNet_41 : Cond.fieldLink RX2 41 "PaperBodies$Figure" "boxLength" "I" ∈ wsX2_putNet := (List.mem_cons_of_mem _ mw_117)
def w2_putNet_b19 (x3 : Int32) (t1 : Int32) (S : MS) (V1 : MS) (Q : MS → Prop) : Prop :=
  ∀ S1 : MS, S1 = sI S 0 t1 → ∀ S2 : MS, S2 = sI S1 2 x3 → w1_length (0 : Int32) V1 (fun r3 => ∀ S5 : MS, S5 = sI S2 3 r3 → Q S5)
set_option maxHeartbeats 4000000 in
set_option maxRecDepth 100000 in
theorem b2_putNet_b19 {p : Program} {l : Launch} {e : Env} {s : State} {m : MethodId} {args : Array Value} {below : List Frame} {meth : Method} {c : Code} {D : va_G} {cy : Nat → ClassId} {A : Nat → Prop} {o : Nat} {q : Nat → Nat} {o1 : Nat} {q1 : Nat → Nat} (x3 : Int32) (t1 : Int32) (S : MS) (V1 : MS) {Q : MS → Prop} (C : Cx p s m args meth c cX2_putNet 5 (none) wsX2_putNet RX2 D cy nestWs A) (h : w2_putNet_b19 x3 t1 S V1 Q) {H : Heap} {locs : List Loc} (hG : GW D A s (w2 o q cy S ++ w1 o1 q1 cy V1) H locs) {ls : Array Slot} (hl : lv_has ls 5 [(0, .ref o), (3, .int x3), (4, .ref o1)]) : W p l e ({ frames := 2, cells := 0, slots := 0, locals := 43 } : Room) s m args below meth c H locs 0 0 (MQ below (va_Qv (fun z => z.2 = V1 ∧ Q z.1) (B1 D (fun z : MS × MS => (w2 o q cy z.1 ++ w1 o1 q1 cy z.2 : va_W)) A) A) args s 0 0 A) (F0 m 19 ls [.int t1, .ref o]) := by
  have hx := C.1
  have hb := C.2.1
  unfold w2_putNet_b19 at h
  refine gx_put (ty := .int) (ws' := w2 o q cy (sI S 0 t1) ++ w1 o1 q1 cy V1) C i2_putNet_X2 tyX2 tyX2_ok nmX2 hG 0 rfl rfl 0 (by decide) k2_putNet_11 rfl (by decide +kernel) rfl rfl (Nat.le_of_ble_eq_true rfl) dX2_putNet_19 rfl (fun H locs hG => ?_)
  obtain ⟨S1, eS1⟩ : ∃ z : MS, z = sI S 0 t1 := ⟨_, rfl⟩
  rw [← eS1] at hG
  replace h := h S1 eS1
  refine lv_aload_n hx hb dX2_putNet_22 rfl (lv_at hl 0 rfl) ?_
  refine lv_iload_n hx hb dX2_putNet_23 rfl (lv_at hl 1 rfl) ?_
  refine gx_put (ty := .int) (ws' := w2 o q cy (sI S1 2 x3) ++ w1 o1 q1 cy V1) C i2_putNet_X2 tyX2 tyX2_ok nmX2 hG 0 rfl rfl 2 (by decide) k2_putNet_34 rfl (by decide +kernel) rfl rfl (Nat.le_of_ble_eq_true rfl) dX2_putNet_24 rfl (fun H locs hG => ?_)
  obtain ⟨S2, eS2⟩ : ∃ z : MS, z = sI S1 2 x3 := ⟨_, rfl⟩
  rw [← eS2] at hG
  replace h := h S2 eS2
  refine lv_aload_n hx hb dX2_putNet_27 rfl (lv_at hl 0 rfl) ?_
  refine lv_aload hx hb dX2_putNet_28 (lv_at hl 2 rfl) ?_
  refine lv_iconst (v := 0) hx hb dX2_putNet_30 (by decide) ?_
  refine callVI (As := [.int (0 : Int32)]) (rest := [.ref o]) C hG (c1_length l D cy o1 q1 (0 : Int32) V1 _ h) 1 gX2_putNet_X1_length rfl (by decide +kernel) ⟨⟨Nat.le_of_ble_eq_true rfl, Nat.le_of_ble_eq_true rfl⟩, rfl, rfl⟩ rfl rfl (Foc.pq (rv := fun z : MS => (w2 o q cy S2 ++ w1 o1 q1 cy z : va_W)) C.2.2.2.2.2.2.2.2.1 [1, 2, 3, 4, 5, 6, 7] [0] [0, 1, 2, 3, 4, 5, 6, 7] rfl rfl rfl rfl rfl (by decide) rfl (fun _ => rfl) (fun _ => rfl)) rfl hl.1 rfl (Nat.le_of_ble_eq_true rfl) dX2_putNet_31 ⟨Nat.zero_le _, Nat.zero_le _⟩ (fun r3 u4 H locs h hG => ?_)
  obtain ⟨eu4, h⟩ := h
  have eu4 : u4 = V1 := eu4
  subst u4
  have hG : GW D A s (w2 o q cy S2 ++ w1 o1 q1 cy V1) H locs := hG
  refine gx_put (ty := .int) (ws' := w2 o q cy (sI S2 3 r3) ++ w1 o1 q1 cy V1) C i2_putNet_X2 tyX2 tyX2_ok nmX2 hG 0 rfl rfl 3 (by decide) k2_putNet_41 rfl (by decide +kernel) rfl rfl (Nat.le_of_ble_eq_true rfl) dX2_putNet_34 rfl (fun H locs hG => ?_)
  obtain ⟨S5, eS5⟩ : ∃ z : MS, z = sI S2 3 r3 := ⟨_, rfl⟩
  rw [← eS5] at hG
  replace h := h S5 eS5
  exact retV (w := (fun z : MS × MS => (w2 o q cy z.1 ++ w1 o1 q1 cy z.2 : va_W))) (S := (S5, V1)) (Qp := (fun z => z.2 = V1 ∧ Q z.1)) C hG ⟨rfl, h⟩ dX2_putNet_37
def w2_putNet (x1 : Int64) (x3 : Int32) (S : MS) (V1 : MS) (Q : MS → Prop) : Prop :=
  ∀ S1 : MS, S1 = sJ S 1 x1 → w1_isCube V1 (fun r2 => ((r2 = 0 → w2_putNet_b19 x3 (2 : Int32) S1 V1 Q) ∧ (¬ r2 = 0 → w2_putNet_b19 x3 (3 : Int32) S1 V1 Q)))
set_option maxHeartbeats 4000000 in
set_option maxRecDepth 100000 in
theorem c2_putNet (l : Launch) (D : va_G) (cy : Nat → ClassId)  (o : Nat) (q : Nat → Nat) (o1 : Nat) (q1 : Nat → Nat) (x1 : Int64) (x3 : Int32) (S : MS) (V1 : MS) (Q : MS → Prop) (h : w2_putNet x1 x3 S V1 Q) : MetV l yX2_putNet wsX2_putNet ({ frames := 2, cells := 0, slots := 0, locals := 43 } : Room) D cy nestWs (fun z : MS × MS => (w2 o q cy z.1 ++ w1 o1 q1 cy z.2 : va_W)) [.ref o, .long x1, .int x3, .ref o1] (S, V1) (fun z => z.2 = V1 ∧ Q z.1) := by
  refine MetV.mk RX2 cX2_putNet 5 (by decide) rfl nestWs_ok rfl (Nat.le_of_ble_eq_true rfl) ?_
  intro p e s m below meth c A ls C hG hl
  have hl : lv_has ls 5 [(0, .ref o), (1, .long x1), (3, .int x3), (4, .ref o1)] := hl
  have hx := C.1
  have hb := C.2.1
  unfold w2_putNet at h
  refine lv_aload_n hx hb dX2_putNet_0 rfl (lv_at hl 0 rfl) ?_
  refine lv_lload_n hx hb dX2_putNet_1 rfl (lv_at hl 1 rfl) ?_
  refine gx_put (ty := .long) (ws' := w2 o q cy (sJ S 1 x1) ++ w1 o1 q1 cy V1) C i2_putNet_X2 tyX2 tyX2_ok nmX2 hG 0 rfl rfl 1 (by decide) k2_putNet_15 rfl (by decide +kernel) rfl rfl (Nat.le_of_ble_eq_true rfl) dX2_putNet_2 rfl (fun H locs hG => ?_)
  obtain ⟨S1, eS1⟩ : ∃ z : MS, z = sJ S 1 x1 := ⟨_, rfl⟩
  rw [← eS1] at hG
  replace h := h S1 eS1
  refine lv_aload_n hx hb dX2_putNet_5 rfl (lv_at hl 0 rfl) ?_
  refine lv_aload hx hb dX2_putNet_6 (lv_at hl 3 rfl) ?_
  refine callVI (As := []) (rest := [.ref o]) C hG (c1_isCube l D cy o1 q1 V1 _ h) 0 gX2_putNet_X1_isCube rfl (by decide +kernel) ⟨⟨Nat.le_of_ble_eq_true rfl, Nat.le_of_ble_eq_true rfl⟩, rfl, rfl⟩ rfl rfl (Foc.pq (rv := fun z : MS => (w2 o q cy S1 ++ w1 o1 q1 cy z : va_W)) C.2.2.2.2.2.2.2.2.1 [1, 2, 3, 4, 5, 6, 7] [0] [0, 1, 2, 3, 4, 5, 6, 7] rfl rfl rfl rfl rfl (by decide) rfl (fun _ => rfl) (fun _ => rfl)) rfl hl.1 rfl (Nat.le_of_ble_eq_true rfl) dX2_putNet_8 ⟨Nat.zero_le _, Nat.zero_le _⟩ (fun r2 u3 H locs h hG => ?_)
  obtain ⟨eu3, h⟩ := h
  have eu3 : u3 = V1 := eu3
  subst u3
  have hG : GW D A s (w2 o q cy S1 ++ w1 o1 q1 cy V1) H locs := hG
  refine lv_if_eq (tgt := 18) hx hb dX2_putNet_11 (by decide) (fun c4 => ?_) (fun c4 => ?_)
  · replace h := h.1 c4
    refine lv_iconst (v := 2) hx hb dX2_putNet_18 (by decide) ?_
    exact b2_putNet_b19 x3 (2 : Int32) S1 V1 C h hG (lv_sub hl [0, 2, 3] rfl)
  · replace h := h.2 c4
    refine lv_iconst (v := 3) hx hb dX2_putNet_14 (by decide) ?_
    refine lv_goto (tgt := 19) hx hb dX2_putNet_15 (by decide) ?_
    exact b2_putNet_b19 x3 (3 : Int32) S1 V1 C h hG (lv_sub hl [0, 2, 3] rfl)
-- X2_takeAway
theorem i2_takeAway_X2 : ∀ w ∈ wsX20, w ∈ wsX2_takeAway := fun w h => List.mem_cons_of_mem _ (inG_X2 w h)
theorem k2_takeAway_11 : Cond.fieldLink RX2 11 "PaperBodies$Figure" "kind" "I" ∈ wsX2_takeAway := (List.mem_cons_of_mem _ mw_106)
theorem k2_takeAway_15 : Cond.fieldLink RX2 15 "PaperBodies$Figure" "set" "J" ∈ wsX2_takeAway := (List.mem_cons_of_mem _ mw_110)
def w2_takeAway (S : MS) (Q : MS → Prop) : Prop :=
  ∀ S1 : MS, S1 = sI S 0 (-1 : Int32) → ∀ S2 : MS, S2 = sJ S1 1 (0 : Int64) → Q S2
set_option maxHeartbeats 4000000 in
set_option maxRecDepth 100000 in
theorem c2_takeAway (l : Launch) (D : va_G) (cy : Nat → ClassId)  (o : Nat) (q : Nat → Nat) (S : MS) (Q : MS → Prop) (h : w2_takeAway S Q) : MetV l yX2_takeAway wsX2_takeAway ({ frames := 0, cells := 0, slots := 0, locals := 0 } : Room) D cy nestWs (w2 o q cy) [.ref o] S Q := by
  refine MetV.mk RX2 cX2_takeAway 1 (by decide) rfl nestWs_ok rfl (Nat.le_of_ble_eq_true rfl) ?_
  intro p e s m below meth c A ls C hG hl
  have hl : lv_has ls 1 [(0, .ref o)] := hl
  have hx := C.1
  have hb := C.2.1
  unfold w2_takeAway at h
  refine lv_aload_n hx hb dX2_takeAway_0 rfl (lv_at hl 0 rfl) ?_
  refine lv_iconst (v := -1) hx hb dX2_takeAway_1 (by decide) ?_
  refine gx_put (ty := .int) (ws' := w2 o q cy (sI S 0 (-1 : Int32))) C i2_takeAway_X2 tyX2 tyX2_ok nmX2 hG 0 rfl rfl 0 (by decide) k2_takeAway_11 rfl (by decide +kernel) rfl rfl (Nat.le_of_ble_eq_true rfl) dX2_takeAway_2 rfl (fun H locs hG => ?_)
  obtain ⟨S1, eS1⟩ : ∃ z : MS, z = sI S 0 (-1 : Int32) := ⟨_, rfl⟩
  rw [← eS1] at hG
  replace h := h S1 eS1
  refine lv_aload_n hx hb dX2_takeAway_5 rfl (lv_at hl 0 rfl) ?_
  refine lv_lconst (v := 0) hx hb dX2_takeAway_6 (by decide) ?_
  refine gx_put (ty := .long) (ws' := w2 o q cy (sJ S1 1 (0 : Int64))) C i2_takeAway_X2 tyX2 tyX2_ok nmX2 hG 0 rfl rfl 1 (by decide) k2_takeAway_15 rfl (by decide +kernel) rfl rfl (Nat.le_of_ble_eq_true rfl) dX2_takeAway_7 rfl (fun H locs hG => ?_)
  obtain ⟨S2, eS2⟩ : ∃ z : MS, z = sJ S1 1 (0 : Int64) := ⟨_, rfl⟩
  rw [← eS2] at hG
  replace h := h S2 eS2
  exact retV (w := (w2 o q cy)) (S := S2) C hG h dX2_takeAway_10
-- X2_digestInto
theorem i2_digestInto_X2 : ∀ w ∈ wsX20, w ∈ wsX2_digestInto := fun w h => List.mem_cons_of_mem _ (inG_X2 w h)
theorem k2_digestInto_11 : Cond.fieldLink RX2 11 "PaperBodies$Figure" "kind" "I" ∈ wsX2_digestInto := (List.mem_cons_of_mem _ mw_106)
theorem k2_digestInto_15 : Cond.fieldLink RX2 15 "PaperBodies$Figure" "set" "J" ∈ wsX2_digestInto := (List.mem_cons_of_mem _ mw_110)
theorem k2_digestInto_44 : Cond.constantLong RX2 44 (31) ∈ wsX2_digestInto := (List.mem_cons_of_mem _ mw_124)
def w2_digestInto_b33 (t0 : Int64) (S : MS) (Q : Int64 → Prop) : Prop :=
  Q t0
set_option maxHeartbeats 4000000 in
set_option maxRecDepth 100000 in
theorem b2_digestInto_b33 {p : Program} {l : Launch} {e : Env} {s : State} {m : MethodId} {args : Array Value} {below : List Frame} {meth : Method} {c : Code} {D : va_G} {cy : Nat → ClassId} {A : Nat → Prop} {o : Nat} {q : Nat → Nat} (t0 : Int64) (S : MS) {Q : Int64 → Prop} (C : Cx p s m args meth c cX2_digestInto 5 (some .long) wsX2_digestInto RX2 D cy nestWs A) (h : w2_digestInto_b33 t0 S Q) {H : Heap} {locs : List Loc} (hG : GW D A s (w2 o q cy S) H locs) {ls : Array Slot} (hl : lv_has ls 5 [(0, .ref o)]) : W p l e ({ frames := 1, cells := 0, slots := 0, locals := 20 } : Room) s m args below meth c H locs 0 0 (MQ below (va_Ql (fun r z => z = S ∧ Q r ) (B1 D (w2 o q cy) A) A) args s 0 0 A) (F0 m 33 ls [.long t0]) := by
  have hx := C.1
  have hb := C.2.1
  unfold w2_digestInto_b33 at h
  exact retL (w := (w2 o q cy)) (S := S) C hG ⟨rfl, h⟩ dX2_digestInto_33
def w2_digestInto (x1 : Int64) (S : MS) (Q : Int64 → Prop) : Prop :=
  ∀ y1 : Int64, y1 = (((31 : Int64) * x1) + (fI S 0).toInt64) → w2_isThere S (fun r2 => ((r2 = 0 → w2_digestInto_b33 y1 S Q) ∧ (¬ r2 = 0 → w2_digestInto_b33 (((31 : Int64) * y1) + (fJ S 1)) S Q)))
set_option maxHeartbeats 4000000 in
set_option maxRecDepth 100000 in
theorem c2_digestInto (l : Launch) (D : va_G) (cy : Nat → ClassId)  (o : Nat) (q : Nat → Nat) (x1 : Int64) (S : MS) (Q : Int64 → Prop) (h : w2_digestInto x1 S Q) : MetL l yX2_digestInto wsX2_digestInto ({ frames := 1, cells := 0, slots := 0, locals := 20 } : Room) D cy nestWs (w2 o q cy) [.ref o, .long x1] S (fun r z => z = S ∧ Q r ) := by
  refine MetL.mk RX2 cX2_digestInto 5 (by decide) rfl nestWs_ok rfl (Nat.le_of_ble_eq_true rfl) ?_
  intro p e s m below meth c A ls C hG hl
  have hl : lv_has ls 5 [(0, .ref o), (1, .long x1)] := hl
  have hx := C.1
  have hb := C.2.1
  unfold w2_digestInto at h
  refine lv_ldc2 (v := 31) hx hb C.2.2.2.1 (C.2.2.2.2.1 _ k2_digestInto_44) dX2_digestInto_0 ?_
  refine lv_lload_n hx hb dX2_digestInto_3 rfl (lv_at hl 1 rfl) ?_
  refine lv_lmul hx hb dX2_digestInto_4 ?_
  refine lv_aload_n hx hb dX2_digestInto_5 rfl (lv_at hl 0 rfl) ?_
  refine gx_get C i2_digestInto_X2 hG 0 rfl rfl 0 (by decide) k2_digestInto_11 rfl dX2_digestInto_6 ?_
  refine lv_i2l hx hb dX2_digestInto_9 rfl ?_
  refine lv_ladd hx hb dX2_digestInto_10 ?_
  refine lv_topl (fun y1 ey1 => ?_)
  replace h := h y1 ey1
  refine lv_lstore_n (lv' := [(3, .long y1), (0, .ref o), (1, .long x1)]) hx hb dX2_digestInto_11 rfl hl (by decide) rfl (fun ls hl => ?_)
  refine lv_aload_n hx hb dX2_digestInto_12 rfl (lv_at hl 1 rfl) ?_
  refine callVI (As := []) (rest := []) C hG (c2_isThere l D cy o q S _ h) 0 gX2_digestInto_X2_isThere rfl (by decide +kernel) ⟨⟨Nat.le_of_ble_eq_true rfl, Nat.le_of_ble_eq_true rfl⟩, rfl, rfl⟩ rfl rfl (Foc.all C.2.2.2.2.2.2.2.2.1) rfl hl.1 rfl (Nat.le_of_ble_eq_true rfl) dX2_digestInto_13 ⟨Nat.zero_le _, Nat.zero_le _⟩ (fun r2 u3 H locs h hG => ?_)
  obtain ⟨eu3, h⟩ := h
  have eu3 : u3 = S := eu3
  subst u3
  have hG : GW D A s (w2 o q cy S) H locs := hG
  refine lv_if_eq (tgt := 32) hx hb dX2_digestInto_16 (by decide) (fun c4 => ?_) (fun c4 => ?_)
  · replace h := h.1 c4
    refine lv_lload_n hx hb dX2_digestInto_32 rfl (lv_at hl 0 rfl) ?_
    exact b2_digestInto_b33 y1 S C h hG (lv_sub hl [1] rfl)
  · replace h := h.2 c4
    refine lv_ldc2 (v := 31) hx hb C.2.2.2.1 (C.2.2.2.2.1 _ k2_digestInto_44) dX2_digestInto_19 ?_
    refine lv_lload_n hx hb dX2_digestInto_22 rfl (lv_at hl 0 rfl) ?_
    refine lv_lmul hx hb dX2_digestInto_23 ?_
    refine lv_aload_n hx hb dX2_digestInto_24 rfl (lv_at hl 1 rfl) ?_
    refine gx_get C i2_digestInto_X2 hG 0 rfl rfl 1 (by decide) k2_digestInto_15 rfl dX2_digestInto_25 ?_
    refine lv_ladd hx hb dX2_digestInto_28 ?_
    refine lv_goto (tgt := 33) hx hb dX2_digestInto_29 (by decide) ?_
    exact b2_digestInto_b33 (((31 : Int64) * y1) + (fJ S 1)) S C h hG (lv_sub hl [1] rfl)
-- X3_toldPartner
theorem i3_toldPartner_X3 : ∀ w ∈ wsX30, w ∈ wsX3_toldPartner := fun w h => List.mem_cons_of_mem _ (inG_X3 w h)
theorem k3_toldPartner_27 : Cond.fieldLink RX3 27 "PaperBodies$Gluer" "keptPartners" "[I" ∈ wsX3_toldPartner := (List.mem_cons_of_mem _ mw_136)
theorem k3_toldPartner_33 : Cond.fieldLink RX3 33 "PaperBodies$Gluer" "keptEdges" "I" ∈ wsX3_toldPartner := (List.mem_cons_of_mem _ mw_139)
def w3_toldPartner_b23 (t0 : Int32) (S : MS) (Q : Int32 → Prop) : Prop :=
  Q t0
set_option maxHeartbeats 4000000 in
set_option maxRecDepth 100000 in
theorem b3_toldPartner_b23 {p : Program} {l : Launch} {e : Env} {s : State} {m : MethodId} {args : Array Value} {below : List Frame} {meth : Method} {c : Code} {D : va_G} {cy : Nat → ClassId} {A : Nat → Prop} {o : Nat} {q : Nat → Nat} (t0 : Int32) (S : MS) {Q : Int32 → Prop} (C : Cx p s m args meth c cX3_toldPartner 2 (some .int) wsX3_toldPartner RX3 D cy nestWs A) (h : w3_toldPartner_b23 t0 S Q) {H : Heap} {locs : List Loc} (hG : GW D A s (w3 o q cy S) H locs) {ls : Array Slot} (hl : lv_has ls 2 [(0, .ref o)]) : W p l e ({ frames := 0, cells := 0, slots := 0, locals := 0 } : Room) s m args below meth c H locs 0 0 (MQ below (va_Qi (fun r z => z = S ∧ Q r ) (B1 D (w3 o q cy) A) A) args s 0 0 A) (F0 m 23 ls [.int t0]) := by
  have hx := C.1
  have hb := C.2.1
  unfold w3_toldPartner_b23 at h
  exact retI (w := (w3 o q cy)) (S := S) C hG ⟨rfl, h⟩ dX3_toldPartner_23
def w3_toldPartner_b21 (S : MS) (Q : Int32 → Prop) : Prop :=
  w3_toldPartner_b23 (-9 : Int32) S Q
set_option maxHeartbeats 4000000 in
set_option maxRecDepth 100000 in
theorem b3_toldPartner_b21 {p : Program} {l : Launch} {e : Env} {s : State} {m : MethodId} {args : Array Value} {below : List Frame} {meth : Method} {c : Code} {D : va_G} {cy : Nat → ClassId} {A : Nat → Prop} {o : Nat} {q : Nat → Nat} (S : MS) {Q : Int32 → Prop} (C : Cx p s m args meth c cX3_toldPartner 2 (some .int) wsX3_toldPartner RX3 D cy nestWs A) (h : w3_toldPartner_b21 S Q) {H : Heap} {locs : List Loc} (hG : GW D A s (w3 o q cy S) H locs) {ls : Array Slot} (hl : lv_has ls 2 [(0, .ref o)]) : W p l e ({ frames := 0, cells := 0, slots := 0, locals := 0 } : Room) s m args below meth c H locs 0 0 (MQ below (va_Qi (fun r z => z = S ∧ Q r ) (B1 D (w3 o q cy) A) A) args s 0 0 A) (F0 m 21 ls []) := by
  have hx := C.1
  have hb := C.2.1
  unfold w3_toldPartner_b21 at h
  refine lv_bipush (v := -9) hx hb dX3_toldPartner_21 (by decide) ?_
  exact b3_toldPartner_b23 (-9 : Int32) S C h hG hl
def w3_toldPartner (x1 : Int32) (S : MS) (Q : Int32 → Prop) : Prop :=
  ((x1 < 0 → w3_toldPartner_b21 S Q) ∧ (¬ x1 < 0 → (((fI S 8) ≤ x1 → w3_toldPartner_b21 S Q) ∧ (¬ (fI S 8) ≤ x1 → vp_in x1 50 ∧ w3_toldPartner_b23 (rA S 5 x1) S Q))))
set_option maxHeartbeats 4000000 in
set_option maxRecDepth 100000 in
theorem c3_toldPartner (l : Launch) (D : va_G) (cy : Nat → ClassId)  (o : Nat) (q : Nat → Nat) (x1 : Int32) (S : MS) (Q : Int32 → Prop) (h : w3_toldPartner x1 S Q) : MetI l yX3_toldPartner wsX3_toldPartner ({ frames := 0, cells := 0, slots := 0, locals := 0 } : Room) D cy nestWs (w3 o q cy) [.ref o, .int x1] S (fun r z => z = S ∧ Q r ) := by
  refine MetI.mk RX3 cX3_toldPartner 2 .int (by decide) rfl nestWs_ok rfl (Nat.le_of_ble_eq_true rfl) ?_
  intro p e s m below meth c A ls C hG hl
  have hl : lv_has ls 2 [(0, .ref o), (1, .int x1)] := hl
  have hx := C.1
  have hb := C.2.1
  unfold w3_toldPartner at h
  refine lv_iload_n hx hb dX3_toldPartner_0 rfl (lv_at hl 1 rfl) ?_
  refine lv_if_lt (tgt := 21) hx hb dX3_toldPartner_1 (by decide) (fun c1 => ?_) (fun c1 => ?_)
  · replace h := h.1 c1
    exact b3_toldPartner_b21 S C h hG (lv_sub hl [0] rfl)
  · replace h := h.2 c1
    refine lv_iload_n hx hb dX3_toldPartner_4 rfl (lv_at hl 1 rfl) ?_
    refine lv_aload_n hx hb dX3_toldPartner_5 rfl (lv_at hl 0 rfl) ?_
    refine gx_get C i3_toldPartner_X3 hG 0 rfl rfl 8 (by decide) k3_toldPartner_33 rfl dX3_toldPartner_6 ?_
    refine lv_icmp_ge (tgt := 21) hx hb dX3_toldPartner_9 (by decide) (fun c2 => ?_) (fun c2 => ?_)
    · replace h := h.1 c2
      exact b3_toldPartner_b21 S C h hG (lv_sub hl [0] rfl)
    · replace h := h.2 c2
      refine lv_aload_n hx hb dX3_toldPartner_12 rfl (lv_at hl 0 rfl) ?_
      refine gx_get C i3_toldPartner_X3 hG 0 rfl rfl 5 (by decide) k3_toldPartner_27 rfl dX3_toldPartner_13 ?_
      refine lv_iload_n hx hb dX3_toldPartner_16 rfl (lv_at hl 1 rfl) ?_
      obtain ⟨hv3, h⟩ := h
      refine gx_ald C hG 6 rfl hv3 dX3_toldPartner_17 ?_
      refine lv_goto (tgt := 23) hx hb dX3_toldPartner_18 (by decide) ?_
      exact b3_toldPartner_b23 (rA S 5 x1) S C h hG (lv_sub hl [0] rfl)
-- X3_toldCorners
theorem i3_toldCorners_X3 : ∀ w ∈ wsX30, w ∈ wsX3_toldCorners := fun w h => List.mem_cons_of_mem _ (inG_X3 w h)
theorem k3_toldCorners_30 : Cond.fieldLink RX3 30 "PaperBodies$Gluer" "keptCorners" "[I" ∈ wsX3_toldCorners := (List.mem_cons_of_mem _ mw_137)
theorem k3_toldCorners_33 : Cond.fieldLink RX3 33 "PaperBodies$Gluer" "keptEdges" "I" ∈ wsX3_toldCorners := (List.mem_cons_of_mem _ mw_139)
theorem k3_toldCorners_37 : Cond.initialized yX8_within.cls ∈ wsX3_toldCorners ∧ Cond.static yX8_within ∈ wsX3_toldCorners := ⟨(List.mem_cons_of_mem _ mw_13), (List.mem_cons_of_mem _ mw_14)⟩
def w3_toldCorners_b27 (t0 : Int32) (S : MS) (Q : Int32 → Prop) : Prop :=
  Q t0
set_option maxHeartbeats 4000000 in
set_option maxRecDepth 100000 in
theorem b3_toldCorners_b27 {p : Program} {l : Launch} {e : Env} {s : State} {m : MethodId} {args : Array Value} {below : List Frame} {meth : Method} {c : Code} {D : va_G} {cy : Nat → ClassId} {A : Nat → Prop} {o : Nat} {q : Nat → Nat} (t0 : Int32) (S : MS) {Q : Int32 → Prop} (C : Cx p s m args meth c cX3_toldCorners 2 (some .int) wsX3_toldCorners RX3 D cy nestWs A) (h : w3_toldCorners_b27 t0 S Q) {H : Heap} {locs : List Loc} (hG : GW D A s (w3 o q cy S) H locs) {ls : Array Slot} (hl : lv_has ls 2 [(0, .ref o)]) : W p l e ({ frames := 1, cells := 0, slots := 0, locals := 22 } : Room) s m args below meth c H locs 0 0 (MQ below (va_Qi (fun r z => z = S ∧ Q r ) (B1 D (w3 o q cy) A) A) args s 0 0 A) (F0 m 27 ls [.int t0]) := by
  have hx := C.1
  have hb := C.2.1
  unfold w3_toldCorners_b27 at h
  exact retI (w := (w3 o q cy)) (S := S) C hG ⟨rfl, h⟩ dX3_toldCorners_27
def w3_toldCorners_b25 (S : MS) (Q : Int32 → Prop) : Prop :=
  w3_toldCorners_b27 (-9 : Int32) S Q
set_option maxHeartbeats 4000000 in
set_option maxRecDepth 100000 in
theorem b3_toldCorners_b25 {p : Program} {l : Launch} {e : Env} {s : State} {m : MethodId} {args : Array Value} {below : List Frame} {meth : Method} {c : Code} {D : va_G} {cy : Nat → ClassId} {A : Nat → Prop} {o : Nat} {q : Nat → Nat} (S : MS) {Q : Int32 → Prop} (C : Cx p s m args meth c cX3_toldCorners 2 (some .int) wsX3_toldCorners RX3 D cy nestWs A) (h : w3_toldCorners_b25 S Q) {H : Heap} {locs : List Loc} (hG : GW D A s (w3 o q cy S) H locs) {ls : Array Slot} (hl : lv_has ls 2 [(0, .ref o)]) : W p l e ({ frames := 1, cells := 0, slots := 0, locals := 22 } : Room) s m args below meth c H locs 0 0 (MQ below (va_Qi (fun r z => z = S ∧ Q r ) (B1 D (w3 o q cy) A) A) args s 0 0 A) (F0 m 25 ls []) := by
  have hx := C.1
  have hb := C.2.1
  unfold w3_toldCorners_b25 at h
  refine lv_bipush (v := -9) hx hb dX3_toldCorners_25 (by decide) ?_
  exact b3_toldCorners_b27 (-9 : Int32) S C h hG hl
def w3_toldCorners (x1 : Int32) (S : MS) (Q : Int32 → Prop) : Prop :=
  (((fI S 8) ≤ 0 → w3_toldCorners_b25 S Q) ∧ (¬ (fI S 8) ≤ 0 → w8_within x1 (1 : Int32) (4 : Int32) (fun r2 => ((r2 = 0 → w3_toldCorners_b25 S Q) ∧ (¬ r2 = 0 → vp_in x1 5 ∧ w3_toldCorners_b27 (rA S 6 x1) S Q)))))
set_option maxHeartbeats 4000000 in
set_option maxRecDepth 100000 in
theorem c3_toldCorners (l : Launch) (D : va_G) (cy : Nat → ClassId)  (o : Nat) (q : Nat → Nat) (x1 : Int32) (S : MS) (Q : Int32 → Prop) (h : w3_toldCorners x1 S Q) : MetI l yX3_toldCorners wsX3_toldCorners ({ frames := 1, cells := 0, slots := 0, locals := 22 } : Room) D cy nestWs (w3 o q cy) [.ref o, .int x1] S (fun r z => z = S ∧ Q r ) := by
  refine MetI.mk RX3 cX3_toldCorners 2 .int (by decide) rfl nestWs_ok rfl (Nat.le_of_ble_eq_true rfl) ?_
  intro p e s m below meth c A ls C hG hl
  have hl : lv_has ls 2 [(0, .ref o), (1, .int x1)] := hl
  have hx := C.1
  have hb := C.2.1
  unfold w3_toldCorners at h
  refine lv_aload_n hx hb dX3_toldCorners_0 rfl (lv_at hl 0 rfl) ?_
  refine gx_get C i3_toldCorners_X3 hG 0 rfl rfl 8 (by decide) k3_toldCorners_33 rfl dX3_toldCorners_1 ?_
  refine lv_if_le (tgt := 25) hx hb dX3_toldCorners_4 (by decide) (fun c1 => ?_) (fun c1 => ?_)
  · replace h := h.1 c1
    exact b3_toldCorners_b25 S C h hG (lv_sub hl [0] rfl)
  · replace h := h.2 c1
    refine lv_iload_n hx hb dX3_toldCorners_7 rfl (lv_at hl 1 rfl) ?_
    refine lv_iconst (v := 1) hx hb dX3_toldCorners_8 (by decide) ?_
    refine lv_iconst (v := 4) hx hb dX3_toldCorners_9 (by decide) ?_
    refine callSNI (As := [.int x1, .int (1 : Int32), .int (4 : Int32)]) (rest := []) (host := "PaperBodies") C hG (c8_within l D cy x1 (1 : Int32) (4 : Int32) _ h) 3 gX3_toldCorners_X8_within_n37 rfl (by decide +kernel) k3_toldCorners_37.1 k3_toldCorners_37.2 (by decide +kernel) ⟨⟨Nat.le_of_ble_eq_true rfl, Nat.le_of_ble_eq_true rfl⟩, rfl, rfl⟩ (Foc.none C.2.2.2.2.2.2.2.2.1) rfl hl.1 rfl (Nat.le_of_ble_eq_true rfl) dX3_toldCorners_10 ⟨Nat.zero_le _, Nat.zero_le _⟩ (fun r2 z H locs h hG => ?_)
    refine lv_if_eq (tgt := 25) hx hb dX3_toldCorners_13 (by decide) (fun c3 => ?_) (fun c3 => ?_)
    · replace h := h.1 c3
      exact b3_toldCorners_b25 S C h hG (lv_sub hl [0] rfl)
    · replace h := h.2 c3
      refine lv_aload_n hx hb dX3_toldCorners_16 rfl (lv_at hl 0 rfl) ?_
      refine gx_get C i3_toldCorners_X3 hG 0 rfl rfl 6 (by decide) k3_toldCorners_30 rfl dX3_toldCorners_17 ?_
      refine lv_iload_n hx hb dX3_toldCorners_20 rfl (lv_at hl 1 rfl) ?_
      obtain ⟨hv4, h⟩ := h
      refine gx_ald C hG 7 rfl hv4 dX3_toldCorners_21 ?_
      refine lv_goto (tgt := 27) hx hb dX3_toldCorners_22 (by decide) ?_
      exact b3_toldCorners_b27 (rA S 6 x1) S C h hG (lv_sub hl [0] rfl)
-- J7_fill_53178
def w7_fill_53178_d5 (n : Nat) (K5 : Int32 → (Nat → Int32) → Prop) (x1 : Int32) (x2 : Int32) (x3 : Int32) (V1 : (Nat → Int32)) (Q : (Nat → Int32) → Prop) : Prop :=
  ((x3 ≤ x2 → Q V1) ∧ (¬ x3 ≤ x2 → vp_in x2 n ∧ ∀ S3 : (Nat → Int32), S3 = upd V1 x2.toNatClampNeg x1 → ∀ y4 : Int32, y4 = x2 + 1 → K5 y4 S3))
set_option maxHeartbeats 4000000 in
set_option maxRecDepth 100000 in
theorem b7_fill_53178_d5 {p : Program} {l : Launch} {e : Env} {s : State} {m : MethodId} {args : Array Value} {below : List Frame} {meth : Method} {c : Code} {D : va_G} {cy : Nat → ClassId} {A : Nat → Prop} {o1 : Nat} {n : Nat} {K5 : Int32 → (Nat → Int32) → Prop} (x1 : Int32) (x2 : Int32) (x3 : Int32) (V1 : (Nat → Int32)) {Q : (Nat → Int32) → Prop} (C : Cx p s m args meth c cJ7_fill_53178 4 (none) wsJ7_fill_53178 RJ7 D cy nestWs A) (hK5 : ∀ (x2 : Int32) (V1 : (Nat → Int32)) (H : Heap) (locs : List Loc) (ls : Array Slot), K5 x2 V1 → GW D A s (([(o1, .inl (cy 0, n, .inl V1))] : va_W)) H locs → lv_has ls 4 [(0, .ref o1), (1, .int x1), (2, .int x2), (3, .int x3)] → W p l e ({ frames := 0, cells := 0, slots := 0, locals := 0 } : Room) s m args below meth c H locs 0 0 (MQ below (va_Qv Q (B1 D (fun z : (Nat → Int32) => ([(o1, .inl (cy 0, n, .inl z))] : va_W)) A) A) args s 0 0 A) (F0 m 5 ls [])) (h : w7_fill_53178_d5 n K5 x1 x2 x3 V1 Q) {H : Heap} {locs : List Loc} (hG : GW D A s (([(o1, .inl (cy 0, n, .inl V1))] : va_W)) H locs) {ls : Array Slot} (hl : lv_has ls 4 [(0, .ref o1), (1, .int x1), (2, .int x2), (3, .int x3)]) : W p l e ({ frames := 0, cells := 0, slots := 0, locals := 0 } : Room) s m args below meth c H locs 0 0 (MQ below (va_Qv Q (B1 D (fun z : (Nat → Int32) => ([(o1, .inl (cy 0, n, .inl z))] : va_W)) A) A) args s 0 0 A) (F0 m 5 ls []) := by
  have hx := C.1
  have hb := C.2.1
  unfold w7_fill_53178_d5 at h
  refine lv_iload_n hx hb dJ7_fill_53178_5 rfl (lv_at hl 2 rfl) ?_
  refine lv_iload_n hx hb dJ7_fill_53178_6 rfl (lv_at hl 3 rfl) ?_
  refine lv_icmp_ge (tgt := 20) hx hb dJ7_fill_53178_7 (by decide) (fun c1 => ?_) (fun c1 => ?_)
  · replace h := h.1 c1
    exact retV (w := (fun z : (Nat → Int32) => ([(o1, .inl (cy 0, n, .inl z))] : va_W))) (S := V1) C hG h dJ7_fill_53178_20
  · replace h := h.2 c1
    refine lv_aload_n hx hb dJ7_fill_53178_10 rfl (lv_at hl 0 rfl) ?_
    refine lv_iload_n hx hb dJ7_fill_53178_11 rfl (lv_at hl 2 rfl) ?_
    refine lv_iload_n hx hb dJ7_fill_53178_12 rfl (lv_at hl 1 rfl) ?_
    obtain ⟨hv2, h⟩ := h
    refine gx_ast (ws' := ([(o1, .inl (cy 0, n, .inl (upd V1 x2.toNatClampNeg x1)))] : va_W)) C hG 0 rfl hv2 dJ7_fill_53178_13 rfl (fun H locs hG => ?_)
    obtain ⟨S3, eS3⟩ : ∃ z : (Nat → Int32), z = upd V1 x2.toNatClampNeg x1 := ⟨_, rfl⟩
    rw [← eS3] at hG
    replace h := h S3 eS3
    obtain ⟨y4, ey4⟩ : ∃ y : Int32, y = x2 + 1 := ⟨_, rfl⟩
    replace h := h y4 ey4
    refine lv_iinc (v := y4) (lv' := [(2, .int y4), (0, .ref o1), (1, .int x1), (3, .int x3)]) hx hb dJ7_fill_53178_14 hl (k := 2) rfl (by rw [ey4]; rfl) (by decide) rfl (fun ls hl => ?_)
    refine lv_goto (tgt := 5) hx hb dJ7_fill_53178_17 (by decide) ?_
    exact hK5 y4 S3 _ _ _ h hG (lv_sub hl [1, 2, 0, 3] rfl)
def w7_fill_53178_F5 (n : Nat) (x1 : Int32) (x3 : Int32) (Q : (Nat → Int32) → Prop) (K : Int32 × (Nat → Int32) → Prop) (a : Int32 × (Nat → Int32)) : Prop := w7_fill_53178_d5 n (fun y0 y1 => K (y0, y1)) x1 a.1 x3 a.2 Q
def w7_fill_53178_b5 (n : Nat) (x1 : Int32) (x2 : Int32) (x3 : Int32) (V1 : (Nat → Int32)) (Q : (Nat → Int32) → Prop) : Prop := lp (w7_fill_53178_F5 n x1 x3 Q) (x2, V1)
set_option maxHeartbeats 4000000 in
set_option maxRecDepth 100000 in
theorem b7_fill_53178_b5 {p : Program} {l : Launch} {e : Env} {s : State} {m : MethodId} {args : Array Value} {below : List Frame} {meth : Method} {c : Code} {D : va_G} {cy : Nat → ClassId} {A : Nat → Prop} {o1 : Nat} {n : Nat} (x1 : Int32) (x2 : Int32) (x3 : Int32) (V1 : (Nat → Int32)) {Q : (Nat → Int32) → Prop} (C : Cx p s m args meth c cJ7_fill_53178 4 (none) wsJ7_fill_53178 RJ7 D cy nestWs A) (h : w7_fill_53178_b5 n x1 x2 x3 V1 Q) {H : Heap} {locs : List Loc} (hG : GW D A s (([(o1, .inl (cy 0, n, .inl V1))] : va_W)) H locs) {ls : Array Slot} (hl : lv_has ls 4 [(0, .ref o1), (1, .int x1), (2, .int x2), (3, .int x3)]) : W p l e ({ frames := 0, cells := 0, slots := 0, locals := 0 } : Room) s m args below meth c H locs 0 0 (MQ below (va_Qv Q (B1 D (fun z : (Nat → Int32) => ([(o1, .inl (cy 0, n, .inl z))] : va_W)) A) A) args s 0 0 A) (F0 m 5 ls []) := by
  obtain ⟨k, hn⟩ := h
  induction k generalizing x2 V1 H locs ls with
  | zero => exact hn.elim
  | succ k ih => exact b7_fill_53178_d5 (K5 := fun y0 y1 => itr (w7_fill_53178_F5 n x1 x3 Q) k (y0, y1)) x1 x2 x3 V1 C (fun x2 V1 H locs ls hk hG hl => ih x2 V1 hG hl hk) hn hG hl
def w7_fill_53178 (n : Nat) (x1 : Int32) (V1 : (Nat → Int32)) (Q : (Nat → Int32) → Prop) : Prop :=
  ∀ y1 : Int32, y1 = (nI n) → w7_fill_53178_b5 n x1 (0 : Int32) y1 V1 Q
set_option maxHeartbeats 4000000 in
set_option maxRecDepth 100000 in
theorem c7_fill_53178 (l : Launch) (D : va_G) (cy : Nat → ClassId)  (o1 : Nat) (n : Nat) (x1 : Int32) (V1 : (Nat → Int32)) (Q : (Nat → Int32) → Prop) (h : w7_fill_53178 n x1 V1 Q) : MetV l yJ7_fill_53178 wsJ7_fill_53178 ({ frames := 0, cells := 0, slots := 0, locals := 0 } : Room) D cy nestWs (fun z : (Nat → Int32) => ([(o1, .inl (cy 0, n, .inl z))] : va_W)) [.ref o1, .int x1] V1 Q := by
  refine MetV.mk RJ7 cJ7_fill_53178 4 (by decide) rfl nestWs_ok rfl (Nat.le_of_ble_eq_true rfl) ?_
  intro p e s m below meth c A ls C hG hl
  have hl : lv_has ls 4 [(0, .ref o1), (1, .int x1)] := hl
  have hx := C.1
  have hb := C.2.1
  unfold w7_fill_53178 at h
  refine lv_iconst (v := 0) hx hb dJ7_fill_53178_0 (by decide) ?_
  refine lv_istore_n (lv' := [(2, .int (0 : Int32)), (0, .ref o1), (1, .int x1)]) hx hb dJ7_fill_53178_1 rfl hl (by decide) rfl (fun ls hl => ?_)
  refine lv_aload_n hx hb dJ7_fill_53178_2 rfl (lv_at hl 1 rfl) ?_
  refine gx_alen C hG 0 rfl dJ7_fill_53178_3 ?_
  refine lv_topi (fun y1 ey1 => ?_)
  replace h := h y1 ey1
  refine lv_istore_n (lv' := [(3, .int y1), (2, .int (0 : Int32)), (0, .ref o1), (1, .int x1)]) hx hb dJ7_fill_53178_4 rfl hl (by decide) rfl (fun ls hl => ?_)
  exact b7_fill_53178_b5 x1 (0 : Int32) y1 V1 C h hG (lv_sub hl [2, 3, 1, 0] rfl)
-- X3_isFree
theorem i3_isFree_X3 : ∀ w ∈ wsX30, w ∈ wsX3_isFree := fun w h => List.mem_cons_of_mem _ (inG_X3 w h)
theorem k3_isFree_9 : Cond.fieldLink RX3 9 "PaperBodies$Gluer" "partners" "[I" ∈ wsX3_isFree := (List.mem_cons_of_mem _ mw_131)
def w3_isFree_b26 (t0 : Int32) (S : MS) (Q : Int32 → Prop) : Prop :=
  narrow .boolean (.int t0) = .int t0 ∧ Q t0
set_option maxHeartbeats 4000000 in
set_option maxRecDepth 100000 in
theorem b3_isFree_b26 {p : Program} {l : Launch} {e : Env} {s : State} {m : MethodId} {args : Array Value} {below : List Frame} {meth : Method} {c : Code} {D : va_G} {cy : Nat → ClassId} {A : Nat → Prop} {o : Nat} {q : Nat → Nat} (t0 : Int32) (S : MS) {Q : Int32 → Prop} (C : Cx p s m args meth c cX3_isFree 2 (some .boolean) wsX3_isFree RX3 D cy nestWs A) (h : w3_isFree_b26 t0 S Q) {H : Heap} {locs : List Loc} (hG : GW D A s (w3 o q cy S) H locs) {ls : Array Slot} (hl : lv_has ls 2 [(0, .ref o)]) : W p l e ({ frames := 0, cells := 0, slots := 0, locals := 0 } : Room) s m args below meth c H locs 0 0 (MQ below (va_Qi (fun r z => z = S ∧ Q r ) (B1 D (w3 o q cy) A) A) args s 0 0 A) (F0 m 26 ls [.int t0]) := by
  have hx := C.1
  have hb := C.2.1
  unfold w3_isFree_b26 at h
  exact retZ (w := (w3 o q cy)) (S := S) C hG ⟨h.1, ⟨rfl, h.2⟩⟩ dX3_isFree_26
def w3_isFree_b25 (S : MS) (Q : Int32 → Prop) : Prop :=
  w3_isFree_b26 (0 : Int32) S Q
set_option maxHeartbeats 4000000 in
set_option maxRecDepth 100000 in
theorem b3_isFree_b25 {p : Program} {l : Launch} {e : Env} {s : State} {m : MethodId} {args : Array Value} {below : List Frame} {meth : Method} {c : Code} {D : va_G} {cy : Nat → ClassId} {A : Nat → Prop} {o : Nat} {q : Nat → Nat} (S : MS) {Q : Int32 → Prop} (C : Cx p s m args meth c cX3_isFree 2 (some .boolean) wsX3_isFree RX3 D cy nestWs A) (h : w3_isFree_b25 S Q) {H : Heap} {locs : List Loc} (hG : GW D A s (w3 o q cy S) H locs) {ls : Array Slot} (hl : lv_has ls 2 [(0, .ref o)]) : W p l e ({ frames := 0, cells := 0, slots := 0, locals := 0 } : Room) s m args below meth c H locs 0 0 (MQ below (va_Qi (fun r z => z = S ∧ Q r ) (B1 D (w3 o q cy) A) A) args s 0 0 A) (F0 m 25 ls []) := by
  have hx := C.1
  have hb := C.2.1
  unfold w3_isFree_b25 at h
  refine lv_iconst (v := 0) hx hb dX3_isFree_25 (by decide) ?_
  exact b3_isFree_b26 (0 : Int32) S C h hG hl
def w3_isFree (x1 : Int32) (S : MS) (Q : Int32 → Prop) : Prop :=
  ((x1 < 0 → w3_isFree_b25 S Q) ∧ (¬ x1 < 0 → (((50 : Int32) ≤ x1 → w3_isFree_b25 S Q) ∧ (¬ (50 : Int32) ≤ x1 → vp_in x1 50 ∧ ((¬ (rA S 0 x1) = (-9 : Int32) → w3_isFree_b25 S Q) ∧ ((rA S 0 x1) = (-9 : Int32) → w3_isFree_b26 (1 : Int32) S Q))))))
set_option maxHeartbeats 4000000 in
set_option maxRecDepth 100000 in
theorem c3_isFree (l : Launch) (D : va_G) (cy : Nat → ClassId)  (o : Nat) (q : Nat → Nat) (x1 : Int32) (S : MS) (Q : Int32 → Prop) (h : w3_isFree x1 S Q) : MetI l yX3_isFree wsX3_isFree ({ frames := 0, cells := 0, slots := 0, locals := 0 } : Room) D cy nestWs (w3 o q cy) [.ref o, .int x1] S (fun r z => z = S ∧ Q r ) := by
  refine MetI.mk RX3 cX3_isFree 2 .boolean (by decide) rfl nestWs_ok rfl (Nat.le_of_ble_eq_true rfl) ?_
  intro p e s m below meth c A ls C hG hl
  have hl : lv_has ls 2 [(0, .ref o), (1, .int x1)] := hl
  have hx := C.1
  have hb := C.2.1
  unfold w3_isFree at h
  refine lv_iload_n hx hb dX3_isFree_0 rfl (lv_at hl 1 rfl) ?_
  refine lv_if_lt (tgt := 25) hx hb dX3_isFree_1 (by decide) (fun c1 => ?_) (fun c1 => ?_)
  · replace h := h.1 c1
    exact b3_isFree_b25 S C h hG (lv_sub hl [0] rfl)
  · replace h := h.2 c1
    refine lv_iload_n hx hb dX3_isFree_4 rfl (lv_at hl 1 rfl) ?_
    refine lv_bipush (v := 50) hx hb dX3_isFree_5 (by decide) ?_
    refine lv_icmp_ge (tgt := 25) hx hb dX3_isFree_7 (by decide) (fun c2 => ?_) (fun c2 => ?_)
    · replace h := h.1 c2
      exact b3_isFree_b25 S C h hG (lv_sub hl [0] rfl)
    · replace h := h.2 c2
      refine lv_aload_n hx hb dX3_isFree_10 rfl (lv_at hl 0 rfl) ?_
      refine gx_get C i3_isFree_X3 hG 0 rfl rfl 0 (by decide) k3_isFree_9 rfl dX3_isFree_11 ?_
      refine lv_iload_n hx hb dX3_isFree_14 rfl (lv_at hl 1 rfl) ?_
      obtain ⟨hv3, h⟩ := h
      refine gx_ald C hG 1 rfl hv3 dX3_isFree_15 ?_
      refine lv_bipush (v := -9) hx hb dX3_isFree_16 (by decide) ?_
      refine lv_icmp_ne (tgt := 25) hx hb dX3_isFree_18 (by decide) (fun c4 => ?_) (fun c4 => ?_)
      · replace h := h.1 c4
        exact b3_isFree_b25 S C h hG (lv_sub hl [0] rfl)
      · replace h := h.2 c4
        refine lv_iconst (v := 1) hx hb dX3_isFree_21 (by decide) ?_
        refine lv_goto (tgt := 26) hx hb dX3_isFree_22 (by decide) ?_
        exact b3_isFree_b26 (1 : Int32) S C h hG (lv_sub hl [0] rfl)
-- X4_hasEdge
theorem i4_hasEdge_X4 : ∀ w ∈ wsX40, w ∈ wsX4_hasEdge := fun w h => List.mem_cons_of_mem _ (inG_X4 w h)
theorem k4_hasEdge_27 : Cond.fieldLink RX4 27 "PaperBodies$Rim" "length" "I" ∈ wsX4_hasEdge := (List.mem_cons_of_mem _ mw_144)
def w4_hasEdge_b17 (t0 : Int32) (S : MS) (Q : Int32 → Prop) : Prop :=
  narrow .boolean (.int t0) = .int t0 ∧ Q t0
set_option maxHeartbeats 4000000 in
set_option maxRecDepth 100000 in
theorem b4_hasEdge_b17 {p : Program} {l : Launch} {e : Env} {s : State} {m : MethodId} {args : Array Value} {below : List Frame} {meth : Method} {c : Code} {D : va_G} {cy : Nat → ClassId} {A : Nat → Prop} {o : Nat} {q : Nat → Nat} (t0 : Int32) (S : MS) {Q : Int32 → Prop} (C : Cx p s m args meth c cX4_hasEdge 2 (some .boolean) wsX4_hasEdge RX4 D cy nestWs A) (h : w4_hasEdge_b17 t0 S Q) {H : Heap} {locs : List Loc} (hG : GW D A s (w4 o q cy S) H locs) {ls : Array Slot} (hl : lv_has ls 2 [(0, .ref o)]) : W p l e ({ frames := 0, cells := 0, slots := 0, locals := 0 } : Room) s m args below meth c H locs 0 0 (MQ below (va_Qi (fun r z => z = S ∧ Q r ) (B1 D (w4 o q cy) A) A) args s 0 0 A) (F0 m 17 ls [.int t0]) := by
  have hx := C.1
  have hb := C.2.1
  unfold w4_hasEdge_b17 at h
  exact retZ (w := (w4 o q cy)) (S := S) C hG ⟨h.1, ⟨rfl, h.2⟩⟩ dX4_hasEdge_17
def w4_hasEdge_b16 (S : MS) (Q : Int32 → Prop) : Prop :=
  w4_hasEdge_b17 (0 : Int32) S Q
set_option maxHeartbeats 4000000 in
set_option maxRecDepth 100000 in
theorem b4_hasEdge_b16 {p : Program} {l : Launch} {e : Env} {s : State} {m : MethodId} {args : Array Value} {below : List Frame} {meth : Method} {c : Code} {D : va_G} {cy : Nat → ClassId} {A : Nat → Prop} {o : Nat} {q : Nat → Nat} (S : MS) {Q : Int32 → Prop} (C : Cx p s m args meth c cX4_hasEdge 2 (some .boolean) wsX4_hasEdge RX4 D cy nestWs A) (h : w4_hasEdge_b16 S Q) {H : Heap} {locs : List Loc} (hG : GW D A s (w4 o q cy S) H locs) {ls : Array Slot} (hl : lv_has ls 2 [(0, .ref o)]) : W p l e ({ frames := 0, cells := 0, slots := 0, locals := 0 } : Room) s m args below meth c H locs 0 0 (MQ below (va_Qi (fun r z => z = S ∧ Q r ) (B1 D (w4 o q cy) A) A) args s 0 0 A) (F0 m 16 ls []) := by
  have hx := C.1
  have hb := C.2.1
  unfold w4_hasEdge_b16 at h
  refine lv_iconst (v := 0) hx hb dX4_hasEdge_16 (by decide) ?_
  exact b4_hasEdge_b17 (0 : Int32) S C h hG hl
def w4_hasEdge (x1 : Int32) (S : MS) (Q : Int32 → Prop) : Prop :=
  ((x1 < 0 → w4_hasEdge_b16 S Q) ∧ (¬ x1 < 0 → (((fI S 3) ≤ x1 → w4_hasEdge_b16 S Q) ∧ (¬ (fI S 3) ≤ x1 → w4_hasEdge_b17 (1 : Int32) S Q))))
set_option maxHeartbeats 4000000 in
set_option maxRecDepth 100000 in
theorem c4_hasEdge (l : Launch) (D : va_G) (cy : Nat → ClassId)  (o : Nat) (q : Nat → Nat) (x1 : Int32) (S : MS) (Q : Int32 → Prop) (h : w4_hasEdge x1 S Q) : MetI l yX4_hasEdge wsX4_hasEdge ({ frames := 0, cells := 0, slots := 0, locals := 0 } : Room) D cy nestWs (w4 o q cy) [.ref o, .int x1] S (fun r z => z = S ∧ Q r ) := by
  refine MetI.mk RX4 cX4_hasEdge 2 .boolean (by decide) rfl nestWs_ok rfl (Nat.le_of_ble_eq_true rfl) ?_
  intro p e s m below meth c A ls C hG hl
  have hl : lv_has ls 2 [(0, .ref o), (1, .int x1)] := hl
  have hx := C.1
  have hb := C.2.1
  unfold w4_hasEdge at h
  refine lv_iload_n hx hb dX4_hasEdge_0 rfl (lv_at hl 1 rfl) ?_
  refine lv_if_lt (tgt := 16) hx hb dX4_hasEdge_1 (by decide) (fun c1 => ?_) (fun c1 => ?_)
  · replace h := h.1 c1
    exact b4_hasEdge_b16 S C h hG (lv_sub hl [0] rfl)
  · replace h := h.2 c1
    refine lv_iload_n hx hb dX4_hasEdge_4 rfl (lv_at hl 1 rfl) ?_
    refine lv_aload_n hx hb dX4_hasEdge_5 rfl (lv_at hl 0 rfl) ?_
    refine gx_get C i4_hasEdge_X4 hG 0 rfl rfl 3 (by decide) k4_hasEdge_27 rfl dX4_hasEdge_6 ?_
    refine lv_icmp_ge (tgt := 16) hx hb dX4_hasEdge_9 (by decide) (fun c2 => ?_) (fun c2 => ?_)
    · replace h := h.1 c2
      exact b4_hasEdge_b16 S C h hG (lv_sub hl [0] rfl)
    · replace h := h.2 c2
      refine lv_iconst (v := 1) hx hb dX4_hasEdge_12 (by decide) ?_
      refine lv_goto (tgt := 17) hx hb dX4_hasEdge_13 (by decide) ?_
      exact b4_hasEdge_b17 (1 : Int32) S C h hG (lv_sub hl [0] rfl)
-- X4_angleAt
theorem i4_angleAt_X4 : ∀ w ∈ wsX40, w ∈ wsX4_angleAt := fun w h => List.mem_cons_of_mem _ (inG_X4 w h)
theorem k4_angleAt_15 : Cond.fieldLink RX4 15 "PaperBodies$Rim" "angles" "[I" ∈ wsX4_angleAt := (List.mem_cons_of_mem _ mw_146)
def w4_angleAt_b18 (t0 : Int32) (S : MS) (Q : Int32 → Prop) : Prop :=
  Q t0
set_option maxHeartbeats 4000000 in
set_option maxRecDepth 100000 in
theorem b4_angleAt_b18 {p : Program} {l : Launch} {e : Env} {s : State} {m : MethodId} {args : Array Value} {below : List Frame} {meth : Method} {c : Code} {D : va_G} {cy : Nat → ClassId} {A : Nat → Prop} {o : Nat} {q : Nat → Nat} (t0 : Int32) (S : MS) {Q : Int32 → Prop} (C : Cx p s m args meth c cX4_angleAt 2 (some .int) wsX4_angleAt RX4 D cy nestWs A) (h : w4_angleAt_b18 t0 S Q) {H : Heap} {locs : List Loc} (hG : GW D A s (w4 o q cy S) H locs) {ls : Array Slot} (hl : lv_has ls 2 [(0, .ref o)]) : W p l e ({ frames := 1, cells := 0, slots := 0, locals := 21 } : Room) s m args below meth c H locs 0 0 (MQ below (va_Qi (fun r z => z = S ∧ Q r ) (B1 D (w4 o q cy) A) A) args s 0 0 A) (F0 m 18 ls [.int t0]) := by
  have hx := C.1
  have hb := C.2.1
  unfold w4_angleAt_b18 at h
  exact retI (w := (w4 o q cy)) (S := S) C hG ⟨rfl, h⟩ dX4_angleAt_18
def w4_angleAt (x1 : Int32) (S : MS) (Q : Int32 → Prop) : Prop :=
  w4_hasEdge x1 S (fun r1 => ((r1 = 0 → w4_angleAt_b18 (0 : Int32) S Q) ∧ (¬ r1 = 0 → vp_in x1 50 ∧ w4_angleAt_b18 (rA S 1 x1) S Q)))
set_option maxHeartbeats 4000000 in
set_option maxRecDepth 100000 in
theorem c4_angleAt (l : Launch) (D : va_G) (cy : Nat → ClassId)  (o : Nat) (q : Nat → Nat) (x1 : Int32) (S : MS) (Q : Int32 → Prop) (h : w4_angleAt x1 S Q) : MetI l yX4_angleAt wsX4_angleAt ({ frames := 1, cells := 0, slots := 0, locals := 21 } : Room) D cy nestWs (w4 o q cy) [.ref o, .int x1] S (fun r z => z = S ∧ Q r ) := by
  refine MetI.mk RX4 cX4_angleAt 2 .int (by decide) rfl nestWs_ok rfl (Nat.le_of_ble_eq_true rfl) ?_
  intro p e s m below meth c A ls C hG hl
  have hl : lv_has ls 2 [(0, .ref o), (1, .int x1)] := hl
  have hx := C.1
  have hb := C.2.1
  unfold w4_angleAt at h
  refine lv_aload_n hx hb dX4_angleAt_0 rfl (lv_at hl 0 rfl) ?_
  refine lv_iload_n hx hb dX4_angleAt_1 rfl (lv_at hl 1 rfl) ?_
  refine callVI (As := [.int x1]) (rest := []) C hG (c4_hasEdge l D cy o q x1 S _ h) 1 gX4_angleAt_X4_hasEdge rfl (by decide +kernel) ⟨⟨Nat.le_of_ble_eq_true rfl, Nat.le_of_ble_eq_true rfl⟩, rfl, rfl⟩ rfl rfl (Foc.all C.2.2.2.2.2.2.2.2.1) rfl hl.1 rfl (Nat.le_of_ble_eq_true rfl) dX4_angleAt_2 ⟨Nat.zero_le _, Nat.zero_le _⟩ (fun r1 u2 H locs h hG => ?_)
  obtain ⟨eu2, h⟩ := h
  have eu2 : u2 = S := eu2
  subst u2
  have hG : GW D A s (w4 o q cy S) H locs := hG
  refine lv_if_eq (tgt := 17) hx hb dX4_angleAt_5 (by decide) (fun c3 => ?_) (fun c3 => ?_)
  · replace h := h.1 c3
    refine lv_iconst (v := 0) hx hb dX4_angleAt_17 (by decide) ?_
    exact b4_angleAt_b18 (0 : Int32) S C h hG (lv_sub hl [0] rfl)
  · replace h := h.2 c3
    refine lv_aload_n hx hb dX4_angleAt_8 rfl (lv_at hl 0 rfl) ?_
    refine gx_get C i4_angleAt_X4 hG 0 rfl rfl 1 (by decide) k4_angleAt_15 rfl dX4_angleAt_9 ?_
    refine lv_iload_n hx hb dX4_angleAt_12 rfl (lv_at hl 1 rfl) ?_
    obtain ⟨hv4, h⟩ := h
    refine gx_ald C hG 2 rfl hv4 dX4_angleAt_13 ?_
    refine lv_goto (tgt := 18) hx hb dX4_angleAt_14 (by decide) ?_
    exact b4_angleAt_b18 (rA S 1 x1) S C h hG (lv_sub hl [0] rfl)
-- X3_gatherCorners
theorem i3_gatherCorners_X3 : ∀ w ∈ wsX30, w ∈ wsX3_gatherCorners := fun w h => List.mem_cons_of_mem _ (inG_X3 w h)
theorem k3_gatherCorners_9 : Cond.fieldLink RX3 9 "PaperBodies$Gluer" "partners" "[I" ∈ wsX3_gatherCorners := (List.mem_cons_of_mem _ mw_131)
theorem k3_gatherCorners_15 : Cond.fieldLink RX3 15 "PaperBodies$Gluer" "together" "[I" ∈ wsX3_gatherCorners := (List.mem_cons_of_mem _ mw_132)
theorem k3_gatherCorners_18 : Cond.fieldLink RX3 18 "PaperBodies$Gluer" "quarters" "[I" ∈ wsX3_gatherCorners := (List.mem_cons_of_mem _ mw_133)
theorem k3_gatherCorners_52 : Cond.fieldLink RX3 52 "PaperBodies$Gluer" "edges" "I" ∈ wsX3_gatherCorners := (List.mem_cons_of_mem _ mw_152)
def w3_gatherCorners_b70 (K2 : Int32 → MS → Prop) (x2 : Int32) (S : MS) (V1 : MS) (Q : MS → Prop) : Prop :=
  vp_in x2 50 ∧ vp_in (rA S 1 x2) 50 ∧ w4_angleAt x2 V1 (fun r3 => ∀ S5 : MS, S5 = sA S 2 (rA S 1 x2) ((rA S 2 (rA S 1 x2)) + r3) → ∀ y6 : Int32, y6 = x2 + 1 → K2 y6 S5)
set_option maxHeartbeats 4000000 in
set_option maxRecDepth 100000 in
theorem b3_gatherCorners_b70 {p : Program} {l : Launch} {e : Env} {s : State} {m : MethodId} {args : Array Value} {below : List Frame} {meth : Method} {c : Code} {D : va_G} {cy : Nat → ClassId} {A : Nat → Prop} {o : Nat} {q : Nat → Nat} {o1 : Nat} {q1 : Nat → Nat} {K2 : Int32 → MS → Prop} (x2 : Int32) (S : MS) (V1 : MS) {Q : MS → Prop} (C : Cx p s m args meth c cX3_gatherCorners 4 (none) wsX3_gatherCorners RX3 D cy nestWs A) (hK2 : ∀ (x2 : Int32) (S : MS) (H : Heap) (locs : List Loc) (ls : Array Slot), K2 x2 S → GW D A s (w3 o q cy S ++ w4 o1 q1 cy V1) H locs → lv_has ls 4 [(0, .ref o), (1, .ref o1), (2, .int x2)] → W p l e ({ frames := 2, cells := 0, slots := 0, locals := 42 } : Room) s m args below meth c H locs 0 0 (MQ below (va_Qv (fun z => z.2 = V1 ∧ Q z.1) (B1 D (fun z : MS × MS => (w3 o q cy z.1 ++ w4 o1 q1 cy z.2 : va_W)) A) A) args s 0 0 A) (F0 m 2 ls [])) (h : w3_gatherCorners_b70 K2 x2 S V1 Q) {H : Heap} {locs : List Loc} (hG : GW D A s (w3 o q cy S ++ w4 o1 q1 cy V1) H locs) {ls : Array Slot} (hl : lv_has ls 4 [(0, .ref o), (1, .ref o1), (2, .int x2)]) : W p l e ({ frames := 2, cells := 0, slots := 0, locals := 42 } : Room) s m args below meth c H locs 0 0 (MQ below (va_Qv (fun z => z.2 = V1 ∧ Q z.1) (B1 D (fun z : MS × MS => (w3 o q cy z.1 ++ w4 o1 q1 cy z.2 : va_W)) A) A) args s 0 0 A) (F0 m 70 ls []) := by
  have hx := C.1
  have hb := C.2.1
  unfold w3_gatherCorners_b70 at h
  refine lv_aload_n hx hb dX3_gatherCorners_70 rfl (lv_at hl 0 rfl) ?_
  refine gx_get C i3_gatherCorners_X3 hG 0 rfl rfl 2 (by decide) k3_gatherCorners_18 rfl dX3_gatherCorners_71 ?_
  refine lv_aload_n hx hb dX3_gatherCorners_74 rfl (lv_at hl 0 rfl) ?_
  refine gx_get C i3_gatherCorners_X3 hG 0 rfl rfl 1 (by decide) k3_gatherCorners_15 rfl dX3_gatherCorners_75 ?_
  refine lv_iload_n hx hb dX3_gatherCorners_78 rfl (lv_at hl 2 rfl) ?_
  obtain ⟨hv1, h⟩ := h
  refine gx_ald C hG 2 rfl hv1 dX3_gatherCorners_79 ?_
  refine lv_dup2_11 hx hb dX3_gatherCorners_80 rfl rfl ?_
  obtain ⟨hv2, h⟩ := h
  refine gx_ald C hG 3 rfl hv2 dX3_gatherCorners_81 ?_
  refine lv_aload_n hx hb dX3_gatherCorners_82 rfl (lv_at hl 1 rfl) ?_
  refine lv_iload_n hx hb dX3_gatherCorners_83 rfl (lv_at hl 2 rfl) ?_
  refine callVI (As := [.int x2]) (rest := [.int (rA S 2 (rA S 1 x2)), .int (rA S 1 x2), .ref (q 2)]) C hG (c4_angleAt l D cy o1 q1 x2 V1 _ h) 1 gX3_gatherCorners_X4_angleAt rfl (by decide +kernel) ⟨⟨Nat.le_of_ble_eq_true rfl, Nat.le_of_ble_eq_true rfl⟩, rfl, rfl⟩ rfl rfl (Foc.pq (rv := fun z : MS => (w3 o q cy S ++ w4 o1 q1 cy z : va_W)) C.2.2.2.2.2.2.2.2.1 [8, 9, 10, 11] [0, 1, 2, 3, 4, 5, 6, 7] [0, 1, 2, 3, 4, 5, 6, 7, 8, 9, 10, 11] rfl rfl rfl rfl rfl (by decide) rfl (fun _ => rfl) (fun _ => rfl)) rfl hl.1 rfl (Nat.le_of_ble_eq_true rfl) dX3_gatherCorners_84 ⟨Nat.zero_le _, Nat.zero_le _⟩ (fun r3 u4 H locs h hG => ?_)
  obtain ⟨eu4, h⟩ := h
  have eu4 : u4 = V1 := eu4
  subst u4
  have hG : GW D A s (w3 o q cy S ++ w4 o1 q1 cy V1) H locs := hG
  refine lv_iadd hx hb dX3_gatherCorners_87 ?_
  refine gx_ast (ws' := w3 o q cy (sA S 2 (rA S 1 x2) ((rA S 2 (rA S 1 x2)) + r3)) ++ w4 o1 q1 cy V1) C hG 3 rfl hv2 dX3_gatherCorners_88 rfl (fun H locs hG => ?_)
  obtain ⟨S5, eS5⟩ : ∃ z : MS, z = sA S 2 (rA S 1 x2) ((rA S 2 (rA S 1 x2)) + r3) := ⟨_, rfl⟩
  rw [← eS5] at hG
  replace h := h S5 eS5
  obtain ⟨y6, ey6⟩ : ∃ y : Int32, y = x2 + 1 := ⟨_, rfl⟩
  replace h := h y6 ey6
  refine lv_iinc (v := y6) (lv' := [(2, .int y6), (0, .ref o), (1, .ref o1)]) hx hb dX3_gatherCorners_89 hl (k := 2) rfl (by rw [ey6]; rfl) (by decide) rfl (fun ls hl => ?_)
  refine lv_goto (tgt := 2) hx hb dX3_gatherCorners_92 (by decide) ?_
  exact hK2 y6 S5 _ _ _ h hG (lv_sub hl [1, 2, 0] rfl)
def w3_gatherCorners_b52 (K2 : Int32 → MS → Prop) (x2 : Int32) (t1 : Int32) (t2 : Int32) (S : MS) (V1 : MS) (Q : MS → Prop) : Prop :=
  vp_in t1 50 ∧ ∀ S2 : MS, S2 = sA S 1 t1 t2 → vp_in x2 50 ∧ ((¬ (rA S2 1 x2) = x2 → w3_gatherCorners_b70 K2 x2 S2 V1 Q) ∧ ((rA S2 1 x2) = x2 → ∀ S5 : MS, S5 = sA S2 2 x2 (0 : Int32) → w3_gatherCorners_b70 K2 x2 S5 V1 Q))
set_option maxHeartbeats 4000000 in
set_option maxRecDepth 100000 in
theorem b3_gatherCorners_b52 {p : Program} {l : Launch} {e : Env} {s : State} {m : MethodId} {args : Array Value} {below : List Frame} {meth : Method} {c : Code} {D : va_G} {cy : Nat → ClassId} {A : Nat → Prop} {o : Nat} {q : Nat → Nat} {o1 : Nat} {q1 : Nat → Nat} {K2 : Int32 → MS → Prop} (x2 : Int32) (t1 : Int32) (t2 : Int32) (S : MS) (V1 : MS) {Q : MS → Prop} (C : Cx p s m args meth c cX3_gatherCorners 4 (none) wsX3_gatherCorners RX3 D cy nestWs A) (hK2 : ∀ (x2 : Int32) (S : MS) (H : Heap) (locs : List Loc) (ls : Array Slot), K2 x2 S → GW D A s (w3 o q cy S ++ w4 o1 q1 cy V1) H locs → lv_has ls 4 [(0, .ref o), (1, .ref o1), (2, .int x2)] → W p l e ({ frames := 2, cells := 0, slots := 0, locals := 42 } : Room) s m args below meth c H locs 0 0 (MQ below (va_Qv (fun z => z.2 = V1 ∧ Q z.1) (B1 D (fun z : MS × MS => (w3 o q cy z.1 ++ w4 o1 q1 cy z.2 : va_W)) A) A) args s 0 0 A) (F0 m 2 ls [])) (h : w3_gatherCorners_b52 K2 x2 t1 t2 S V1 Q) {H : Heap} {locs : List Loc} (hG : GW D A s (w3 o q cy S ++ w4 o1 q1 cy V1) H locs) {ls : Array Slot} (hl : lv_has ls 4 [(0, .ref o), (1, .ref o1), (2, .int x2)]) : W p l e ({ frames := 2, cells := 0, slots := 0, locals := 42 } : Room) s m args below meth c H locs 0 0 (MQ below (va_Qv (fun z => z.2 = V1 ∧ Q z.1) (B1 D (fun z : MS × MS => (w3 o q cy z.1 ++ w4 o1 q1 cy z.2 : va_W)) A) A) args s 0 0 A) (F0 m 52 ls [.int t2, .int t1, .ref (q 1)]) := by
  have hx := C.1
  have hb := C.2.1
  unfold w3_gatherCorners_b52 at h
  obtain ⟨hv1, h⟩ := h
  refine gx_ast (ws' := w3 o q cy (sA S 1 t1 t2) ++ w4 o1 q1 cy V1) C hG 2 rfl hv1 dX3_gatherCorners_52 rfl (fun H locs hG => ?_)
  obtain ⟨S2, eS2⟩ : ∃ z : MS, z = sA S 1 t1 t2 := ⟨_, rfl⟩
  rw [← eS2] at hG
  replace h := h S2 eS2
  refine lv_aload_n hx hb dX3_gatherCorners_53 rfl (lv_at hl 0 rfl) ?_
  refine gx_get C i3_gatherCorners_X3 hG 0 rfl rfl 1 (by decide) k3_gatherCorners_15 rfl dX3_gatherCorners_54 ?_
  refine lv_iload_n hx hb dX3_gatherCorners_57 rfl (lv_at hl 2 rfl) ?_
  obtain ⟨hv3, h⟩ := h
  refine gx_ald C hG 2 rfl hv3 dX3_gatherCorners_58 ?_
  refine lv_iload_n hx hb dX3_gatherCorners_59 rfl (lv_at hl 2 rfl) ?_
  refine lv_icmp_ne (tgt := 70) hx hb dX3_gatherCorners_60 (by decide) (fun c4 => ?_) (fun c4 => ?_)
  · replace h := h.1 c4
    exact b3_gatherCorners_b70 (K2 := K2) x2 S2 V1 C hK2 h hG hl
  · replace h := h.2 c4
    refine lv_aload_n hx hb dX3_gatherCorners_63 rfl (lv_at hl 0 rfl) ?_
    refine gx_get C i3_gatherCorners_X3 hG 0 rfl rfl 2 (by decide) k3_gatherCorners_18 rfl dX3_gatherCorners_64 ?_
    refine lv_iload_n hx hb dX3_gatherCorners_67 rfl (lv_at hl 2 rfl) ?_
    refine lv_iconst (v := 0) hx hb dX3_gatherCorners_68 (by decide) ?_
    refine gx_ast (ws' := w3 o q cy (sA S2 2 x2 (0 : Int32)) ++ w4 o1 q1 cy V1) C hG 3 rfl hv3 dX3_gatherCorners_69 rfl (fun H locs hG => ?_)
    obtain ⟨S5, eS5⟩ : ∃ z : MS, z = sA S2 2 x2 (0 : Int32) := ⟨_, rfl⟩
    rw [← eS5] at hG
    replace h := h S5 eS5
    exact b3_gatherCorners_b70 (K2 := K2) x2 S5 V1 C hK2 h hG hl
def w3_gatherCorners_b51 (K2 : Int32 → MS → Prop) (x2 : Int32) (t1 : Int32) (S : MS) (V1 : MS) (Q : MS → Prop) : Prop :=
  w3_gatherCorners_b52 K2 x2 t1 x2 S V1 Q
set_option maxHeartbeats 4000000 in
set_option maxRecDepth 100000 in
theorem b3_gatherCorners_b51 {p : Program} {l : Launch} {e : Env} {s : State} {m : MethodId} {args : Array Value} {below : List Frame} {meth : Method} {c : Code} {D : va_G} {cy : Nat → ClassId} {A : Nat → Prop} {o : Nat} {q : Nat → Nat} {o1 : Nat} {q1 : Nat → Nat} {K2 : Int32 → MS → Prop} (x2 : Int32) (t1 : Int32) (S : MS) (V1 : MS) {Q : MS → Prop} (C : Cx p s m args meth c cX3_gatherCorners 4 (none) wsX3_gatherCorners RX3 D cy nestWs A) (hK2 : ∀ (x2 : Int32) (S : MS) (H : Heap) (locs : List Loc) (ls : Array Slot), K2 x2 S → GW D A s (w3 o q cy S ++ w4 o1 q1 cy V1) H locs → lv_has ls 4 [(0, .ref o), (1, .ref o1), (2, .int x2)] → W p l e ({ frames := 2, cells := 0, slots := 0, locals := 42 } : Room) s m args below meth c H locs 0 0 (MQ below (va_Qv (fun z => z.2 = V1 ∧ Q z.1) (B1 D (fun z : MS × MS => (w3 o q cy z.1 ++ w4 o1 q1 cy z.2 : va_W)) A) A) args s 0 0 A) (F0 m 2 ls [])) (h : w3_gatherCorners_b51 K2 x2 t1 S V1 Q) {H : Heap} {locs : List Loc} (hG : GW D A s (w3 o q cy S ++ w4 o1 q1 cy V1) H locs) {ls : Array Slot} (hl : lv_has ls 4 [(0, .ref o), (1, .ref o1), (2, .int x2)]) : W p l e ({ frames := 2, cells := 0, slots := 0, locals := 42 } : Room) s m args below meth c H locs 0 0 (MQ below (va_Qv (fun z => z.2 = V1 ∧ Q z.1) (B1 D (fun z : MS × MS => (w3 o q cy z.1 ++ w4 o1 q1 cy z.2 : va_W)) A) A) args s 0 0 A) (F0 m 51 ls [.int t1, .ref (q 1)]) := by
  have hx := C.1
  have hb := C.2.1
  unfold w3_gatherCorners_b51 at h
  refine lv_iload_n hx hb dX3_gatherCorners_51 rfl (lv_at hl 2 rfl) ?_
  exact b3_gatherCorners_b52 (K2 := K2) x2 t1 x2 S V1 C hK2 h hG hl
def w3_gatherCorners_b27 (K2 : Int32 → MS → Prop) (x2 : Int32) (t0 : Int32) (S : MS) (V1 : MS) (Q : MS → Prop) : Prop :=
  ((t0 < 0 → w3_gatherCorners_b51 K2 x2 x2 S V1 Q) ∧ (¬ t0 < 0 → ((x2 ≤ t0 → w3_gatherCorners_b51 K2 x2 x2 S V1 Q) ∧ (¬ x2 ≤ t0 → vp_in t0 50 ∧ w3_gatherCorners_b52 K2 x2 x2 (rA S 1 t0) S V1 Q))))
set_option maxHeartbeats 4000000 in
set_option maxRecDepth 100000 in
theorem b3_gatherCorners_b27 {p : Program} {l : Launch} {e : Env} {s : State} {m : MethodId} {args : Array Value} {below : List Frame} {meth : Method} {c : Code} {D : va_G} {cy : Nat → ClassId} {A : Nat → Prop} {o : Nat} {q : Nat → Nat} {o1 : Nat} {q1 : Nat → Nat} {K2 : Int32 → MS → Prop} (x2 : Int32) (t0 : Int32) (S : MS) (V1 : MS) {Q : MS → Prop} (C : Cx p s m args meth c cX3_gatherCorners 4 (none) wsX3_gatherCorners RX3 D cy nestWs A) (hK2 : ∀ (x2 : Int32) (S : MS) (H : Heap) (locs : List Loc) (ls : Array Slot), K2 x2 S → GW D A s (w3 o q cy S ++ w4 o1 q1 cy V1) H locs → lv_has ls 4 [(0, .ref o), (1, .ref o1), (2, .int x2)] → W p l e ({ frames := 2, cells := 0, slots := 0, locals := 42 } : Room) s m args below meth c H locs 0 0 (MQ below (va_Qv (fun z => z.2 = V1 ∧ Q z.1) (B1 D (fun z : MS × MS => (w3 o q cy z.1 ++ w4 o1 q1 cy z.2 : va_W)) A) A) args s 0 0 A) (F0 m 2 ls [])) (h : w3_gatherCorners_b27 K2 x2 t0 S V1 Q) {H : Heap} {locs : List Loc} (hG : GW D A s (w3 o q cy S ++ w4 o1 q1 cy V1) H locs) {ls : Array Slot} (hl : lv_has ls 4 [(0, .ref o), (1, .ref o1), (2, .int x2)]) : W p l e ({ frames := 2, cells := 0, slots := 0, locals := 42 } : Room) s m args below meth c H locs 0 0 (MQ below (va_Qv (fun z => z.2 = V1 ∧ Q z.1) (B1 D (fun z : MS × MS => (w3 o q cy z.1 ++ w4 o1 q1 cy z.2 : va_W)) A) A) args s 0 0 A) (F0 m 27 ls [.int t0]) := by
  have hx := C.1
  have hb := C.2.1
  unfold w3_gatherCorners_b27 at h
  refine lv_istore_n (lv' := [(3, .int t0), (0, .ref o), (1, .ref o1), (2, .int x2)]) hx hb dX3_gatherCorners_27 rfl hl (by decide) rfl (fun ls hl => ?_)
  refine lv_aload_n hx hb dX3_gatherCorners_28 rfl (lv_at hl 1 rfl) ?_
  refine gx_get C i3_gatherCorners_X3 hG 0 rfl rfl 1 (by decide) k3_gatherCorners_15 rfl dX3_gatherCorners_29 ?_
  refine lv_iload_n hx hb dX3_gatherCorners_32 rfl (lv_at hl 3 rfl) ?_
  refine lv_iload_n hx hb dX3_gatherCorners_33 rfl (lv_at hl 0 rfl) ?_
  refine lv_if_lt (tgt := 51) hx hb dX3_gatherCorners_34 (by decide) (fun c1 => ?_) (fun c1 => ?_)
  · replace h := h.1 c1
    exact b3_gatherCorners_b51 (K2 := K2) x2 x2 S V1 C hK2 h hG (lv_sub hl [1, 2, 3] rfl)
  · replace h := h.2 c1
    refine lv_iload_n hx hb dX3_gatherCorners_37 rfl (lv_at hl 0 rfl) ?_
    refine lv_iload_n hx hb dX3_gatherCorners_38 rfl (lv_at hl 3 rfl) ?_
    refine lv_icmp_ge (tgt := 51) hx hb dX3_gatherCorners_39 (by decide) (fun c2 => ?_) (fun c2 => ?_)
    · replace h := h.1 c2
      exact b3_gatherCorners_b51 (K2 := K2) x2 x2 S V1 C hK2 h hG (lv_sub hl [1, 2, 3] rfl)
    · replace h := h.2 c2
      refine lv_aload_n hx hb dX3_gatherCorners_42 rfl (lv_at hl 1 rfl) ?_
      refine gx_get C i3_gatherCorners_X3 hG 0 rfl rfl 1 (by decide) k3_gatherCorners_15 rfl dX3_gatherCorners_43 ?_
      refine lv_iload_n hx hb dX3_gatherCorners_46 rfl (lv_at hl 0 rfl) ?_
      obtain ⟨hv3, h⟩ := h
      refine gx_ald C hG 2 rfl hv3 dX3_gatherCorners_47 ?_
      refine lv_goto (tgt := 52) hx hb dX3_gatherCorners_48 (by decide) ?_
      exact b3_gatherCorners_b52 (K2 := K2) x2 x2 (rA S 1 t0) S V1 C hK2 h hG (lv_sub hl [1, 2, 3] rfl)
def w3_gatherCorners_d2 (K2 : Int32 → MS → Prop) (x2 : Int32) (S : MS) (V1 : MS) (Q : MS → Prop) : Prop :=
  (((fI S 7) ≤ x2 → Q S) ∧ (¬ (fI S 7) ≤ x2 → ((x2 ≤ 0 → w3_gatherCorners_b27 K2 x2 (-9 : Int32) S V1 Q) ∧ (¬ x2 ≤ 0 → vp_in (x2 - (1 : Int32)) 50 ∧ w3_gatherCorners_b27 K2 x2 (rA S 0 (x2 - (1 : Int32))) S V1 Q))))
set_option maxHeartbeats 4000000 in
set_option maxRecDepth 100000 in
theorem b3_gatherCorners_d2 {p : Program} {l : Launch} {e : Env} {s : State} {m : MethodId} {args : Array Value} {below : List Frame} {meth : Method} {c : Code} {D : va_G} {cy : Nat → ClassId} {A : Nat → Prop} {o : Nat} {q : Nat → Nat} {o1 : Nat} {q1 : Nat → Nat} {K2 : Int32 → MS → Prop} (x2 : Int32) (S : MS) (V1 : MS) {Q : MS → Prop} (C : Cx p s m args meth c cX3_gatherCorners 4 (none) wsX3_gatherCorners RX3 D cy nestWs A) (hK2 : ∀ (x2 : Int32) (S : MS) (H : Heap) (locs : List Loc) (ls : Array Slot), K2 x2 S → GW D A s (w3 o q cy S ++ w4 o1 q1 cy V1) H locs → lv_has ls 4 [(0, .ref o), (1, .ref o1), (2, .int x2)] → W p l e ({ frames := 2, cells := 0, slots := 0, locals := 42 } : Room) s m args below meth c H locs 0 0 (MQ below (va_Qv (fun z => z.2 = V1 ∧ Q z.1) (B1 D (fun z : MS × MS => (w3 o q cy z.1 ++ w4 o1 q1 cy z.2 : va_W)) A) A) args s 0 0 A) (F0 m 2 ls [])) (h : w3_gatherCorners_d2 K2 x2 S V1 Q) {H : Heap} {locs : List Loc} (hG : GW D A s (w3 o q cy S ++ w4 o1 q1 cy V1) H locs) {ls : Array Slot} (hl : lv_has ls 4 [(0, .ref o), (1, .ref o1), (2, .int x2)]) : W p l e ({ frames := 2, cells := 0, slots := 0, locals := 42 } : Room) s m args below meth c H locs 0 0 (MQ below (va_Qv (fun z => z.2 = V1 ∧ Q z.1) (B1 D (fun z : MS × MS => (w3 o q cy z.1 ++ w4 o1 q1 cy z.2 : va_W)) A) A) args s 0 0 A) (F0 m 2 ls []) := by
  have hx := C.1
  have hb := C.2.1
  unfold w3_gatherCorners_d2 at h
  refine lv_iload_n hx hb dX3_gatherCorners_2 rfl (lv_at hl 2 rfl) ?_
  refine lv_aload_n hx hb dX3_gatherCorners_3 rfl (lv_at hl 0 rfl) ?_
  refine gx_get C i3_gatherCorners_X3 hG 0 rfl rfl 7 (by decide) k3_gatherCorners_52 rfl dX3_gatherCorners_4 ?_
  refine lv_icmp_ge (tgt := 95) hx hb dX3_gatherCorners_7 (by decide) (fun c1 => ?_) (fun c1 => ?_)
  · replace h := h.1 c1
    exact retV (w := (fun z : MS × MS => (w3 o q cy z.1 ++ w4 o1 q1 cy z.2 : va_W))) (S := (S, V1)) (Qp := (fun z => z.2 = V1 ∧ Q z.1)) C hG ⟨rfl, h⟩ dX3_gatherCorners_95
  · replace h := h.2 c1
    refine lv_iload_n hx hb dX3_gatherCorners_10 rfl (lv_at hl 2 rfl) ?_
    refine lv_if_le (tgt := 25) hx hb dX3_gatherCorners_11 (by decide) (fun c2 => ?_) (fun c2 => ?_)
    · replace h := h.1 c2
      refine lv_bipush (v := -9) hx hb dX3_gatherCorners_25 (by decide) ?_
      exact b3_gatherCorners_b27 (K2 := K2) x2 (-9 : Int32) S V1 C hK2 h hG hl
    · replace h := h.2 c2
      refine lv_aload_n hx hb dX3_gatherCorners_14 rfl (lv_at hl 0 rfl) ?_
      refine gx_get C i3_gatherCorners_X3 hG 0 rfl rfl 0 (by decide) k3_gatherCorners_9 rfl dX3_gatherCorners_15 ?_
      refine lv_iload_n hx hb dX3_gatherCorners_18 rfl (lv_at hl 2 rfl) ?_
      refine lv_iconst (v := 1) hx hb dX3_gatherCorners_19 (by decide) ?_
      refine lv_isub hx hb dX3_gatherCorners_20 ?_
      obtain ⟨hv3, h⟩ := h
      refine gx_ald C hG 1 rfl hv3 dX3_gatherCorners_21 ?_
      refine lv_goto (tgt := 27) hx hb dX3_gatherCorners_22 (by decide) ?_
      exact b3_gatherCorners_b27 (K2 := K2) x2 (rA S 0 (x2 - (1 : Int32))) S V1 C hK2 h hG hl
def w3_gatherCorners_F2 (V1 : MS) (Q : MS → Prop) (K : Int32 × MS → Prop) (a : Int32 × MS) : Prop := w3_gatherCorners_d2 (fun y0 y1 => K (y0, y1)) a.1 a.2 V1 Q
def w3_gatherCorners_b2 (x2 : Int32) (S : MS) (V1 : MS) (Q : MS → Prop) : Prop := lp (w3_gatherCorners_F2 V1 Q) (x2, S)
set_option maxHeartbeats 4000000 in
set_option maxRecDepth 100000 in
theorem b3_gatherCorners_b2 {p : Program} {l : Launch} {e : Env} {s : State} {m : MethodId} {args : Array Value} {below : List Frame} {meth : Method} {c : Code} {D : va_G} {cy : Nat → ClassId} {A : Nat → Prop} {o : Nat} {q : Nat → Nat} {o1 : Nat} {q1 : Nat → Nat} (x2 : Int32) (S : MS) (V1 : MS) {Q : MS → Prop} (C : Cx p s m args meth c cX3_gatherCorners 4 (none) wsX3_gatherCorners RX3 D cy nestWs A) (h : w3_gatherCorners_b2 x2 S V1 Q) {H : Heap} {locs : List Loc} (hG : GW D A s (w3 o q cy S ++ w4 o1 q1 cy V1) H locs) {ls : Array Slot} (hl : lv_has ls 4 [(0, .ref o), (1, .ref o1), (2, .int x2)]) : W p l e ({ frames := 2, cells := 0, slots := 0, locals := 42 } : Room) s m args below meth c H locs 0 0 (MQ below (va_Qv (fun z => z.2 = V1 ∧ Q z.1) (B1 D (fun z : MS × MS => (w3 o q cy z.1 ++ w4 o1 q1 cy z.2 : va_W)) A) A) args s 0 0 A) (F0 m 2 ls []) := by
  obtain ⟨k, hn⟩ := h
  induction k generalizing x2 S H locs ls with
  | zero => exact hn.elim
  | succ k ih => exact b3_gatherCorners_d2 (K2 := fun y0 y1 => itr (w3_gatherCorners_F2 V1 Q) k (y0, y1)) x2 S V1 C (fun x2 S H locs ls hk hG hl => ih x2 S hG hl hk) hn hG hl
def w3_gatherCorners (S : MS) (V1 : MS) (Q : MS → Prop) : Prop :=
  w3_gatherCorners_b2 (0 : Int32) S V1 Q
set_option maxHeartbeats 4000000 in
set_option maxRecDepth 100000 in
theorem c3_gatherCorners (l : Launch) (D : va_G) (cy : Nat → ClassId)  (o : Nat) (q : Nat → Nat) (o1 : Nat) (q1 : Nat → Nat) (S : MS) (V1 : MS) (Q : MS → Prop) (h : w3_gatherCorners S V1 Q) : MetV l yX3_gatherCorners wsX3_gatherCorners ({ frames := 2, cells := 0, slots := 0, locals := 42 } : Room) D cy nestWs (fun z : MS × MS => (w3 o q cy z.1 ++ w4 o1 q1 cy z.2 : va_W)) [.ref o, .ref o1] (S, V1) (fun z => z.2 = V1 ∧ Q z.1) := by
  refine MetV.mk RX3 cX3_gatherCorners 4 (by decide) rfl nestWs_ok rfl (Nat.le_of_ble_eq_true rfl) ?_
  intro p e s m below meth c A ls C hG hl
  have hl : lv_has ls 4 [(0, .ref o), (1, .ref o1)] := hl
  have hx := C.1
  have hb := C.2.1
  unfold w3_gatherCorners at h
  refine lv_iconst (v := 0) hx hb dX3_gatherCorners_0 (by decide) ?_
  refine lv_istore_n (lv' := [(2, .int (0 : Int32)), (0, .ref o), (1, .ref o1)]) hx hb dX3_gatherCorners_1 rfl hl (by decide) rfl (fun ls hl => ?_)
  exact b3_gatherCorners_b2 (0 : Int32) S V1 C h hG (lv_sub hl [1, 2, 0] rfl)
-- X3_isLegal
theorem i3_isLegal_X3 : ∀ w ∈ wsX30, w ∈ wsX3_isLegal := fun w h => List.mem_cons_of_mem _ (inG_X3 w h)
theorem k3_isLegal_15 : Cond.fieldLink RX3 15 "PaperBodies$Gluer" "together" "[I" ∈ wsX3_isLegal := (List.mem_cons_of_mem _ mw_132)
theorem k3_isLegal_18 : Cond.fieldLink RX3 18 "PaperBodies$Gluer" "quarters" "[I" ∈ wsX3_isLegal := (List.mem_cons_of_mem _ mw_133)
theorem k3_isLegal_52 : Cond.fieldLink RX3 52 "PaperBodies$Gluer" "edges" "I" ∈ wsX3_isLegal := (List.mem_cons_of_mem _ mw_152)
def w3_isLegal_b32 (K2 : Int32 → Prop) (x1 : Int32) (S : MS) (Q : Int32 → Prop) : Prop :=
  ∀ y1 : Int32, y1 = x1 + 1 → K2 y1
set_option maxHeartbeats 4000000 in
set_option maxRecDepth 100000 in
theorem b3_isLegal_b32 {p : Program} {l : Launch} {e : Env} {s : State} {m : MethodId} {args : Array Value} {below : List Frame} {meth : Method} {c : Code} {D : va_G} {cy : Nat → ClassId} {A : Nat → Prop} {o : Nat} {q : Nat → Nat} {K2 : Int32 → Prop} (x1 : Int32) (S : MS) {Q : Int32 → Prop} (C : Cx p s m args meth c cX3_isLegal 2 (some .boolean) wsX3_isLegal RX3 D cy nestWs A) (hK2 : ∀ (x1 : Int32) (H : Heap) (locs : List Loc) (ls : Array Slot), K2 x1 → GW D A s (w3 o q cy S) H locs → lv_has ls 2 [(0, .ref o), (1, .int x1)] → W p l e ({ frames := 0, cells := 0, slots := 0, locals := 0 } : Room) s m args below meth c H locs 0 0 (MQ below (va_Qi (fun r z => z = S ∧ Q r ) (B1 D (w3 o q cy) A) A) args s 0 0 A) (F0 m 2 ls [])) (h : w3_isLegal_b32 K2 x1 S Q) {H : Heap} {locs : List Loc} (hG : GW D A s (w3 o q cy S) H locs) {ls : Array Slot} (hl : lv_has ls 2 [(0, .ref o), (1, .int x1)]) : W p l e ({ frames := 0, cells := 0, slots := 0, locals := 0 } : Room) s m args below meth c H locs 0 0 (MQ below (va_Qi (fun r z => z = S ∧ Q r ) (B1 D (w3 o q cy) A) A) args s 0 0 A) (F0 m 32 ls []) := by
  have hx := C.1
  have hb := C.2.1
  unfold w3_isLegal_b32 at h
  obtain ⟨y1, ey1⟩ : ∃ y : Int32, y = x1 + 1 := ⟨_, rfl⟩
  replace h := h y1 ey1
  refine lv_iinc (v := y1) (lv' := [(1, .int y1), (0, .ref o)]) hx hb dX3_isLegal_32 hl (k := 1) rfl (by rw [ey1]; rfl) (by decide) rfl (fun ls hl => ?_)
  refine lv_goto (tgt := 2) hx hb dX3_isLegal_35 (by decide) ?_
  exact hK2 y1 _ _ _ h hG (lv_sub hl [1, 0] rfl)
def w3_isLegal_d2 (K2 : Int32 → Prop) (x1 : Int32) (S : MS) (Q : Int32 → Prop) : Prop :=
  (((fI S 7) ≤ x1 → Q (1 : Int32)) ∧ (¬ (fI S 7) ≤ x1 → vp_in x1 50 ∧ ((¬ (rA S 1 x1) = x1 → w3_isLegal_b32 K2 x1 S Q) ∧ ((rA S 1 x1) = x1 → (((rA S 2 x1) ≤ (4 : Int32) → w3_isLegal_b32 K2 x1 S Q) ∧ (¬ (rA S 2 x1) ≤ (4 : Int32) → Q (0 : Int32)))))))
set_option maxHeartbeats 4000000 in
set_option maxRecDepth 100000 in
theorem b3_isLegal_d2 {p : Program} {l : Launch} {e : Env} {s : State} {m : MethodId} {args : Array Value} {below : List Frame} {meth : Method} {c : Code} {D : va_G} {cy : Nat → ClassId} {A : Nat → Prop} {o : Nat} {q : Nat → Nat} {K2 : Int32 → Prop} (x1 : Int32) (S : MS) {Q : Int32 → Prop} (C : Cx p s m args meth c cX3_isLegal 2 (some .boolean) wsX3_isLegal RX3 D cy nestWs A) (hK2 : ∀ (x1 : Int32) (H : Heap) (locs : List Loc) (ls : Array Slot), K2 x1 → GW D A s (w3 o q cy S) H locs → lv_has ls 2 [(0, .ref o), (1, .int x1)] → W p l e ({ frames := 0, cells := 0, slots := 0, locals := 0 } : Room) s m args below meth c H locs 0 0 (MQ below (va_Qi (fun r z => z = S ∧ Q r ) (B1 D (w3 o q cy) A) A) args s 0 0 A) (F0 m 2 ls [])) (h : w3_isLegal_d2 K2 x1 S Q) {H : Heap} {locs : List Loc} (hG : GW D A s (w3 o q cy S) H locs) {ls : Array Slot} (hl : lv_has ls 2 [(0, .ref o), (1, .int x1)]) : W p l e ({ frames := 0, cells := 0, slots := 0, locals := 0 } : Room) s m args below meth c H locs 0 0 (MQ below (va_Qi (fun r z => z = S ∧ Q r ) (B1 D (w3 o q cy) A) A) args s 0 0 A) (F0 m 2 ls []) := by
  have hx := C.1
  have hb := C.2.1
  unfold w3_isLegal_d2 at h
  refine lv_iload_n hx hb dX3_isLegal_2 rfl (lv_at hl 1 rfl) ?_
  refine lv_aload_n hx hb dX3_isLegal_3 rfl (lv_at hl 0 rfl) ?_
  refine gx_get C i3_isLegal_X3 hG 0 rfl rfl 7 (by decide) k3_isLegal_52 rfl dX3_isLegal_4 ?_
  refine lv_icmp_ge (tgt := 38) hx hb dX3_isLegal_7 (by decide) (fun c1 => ?_) (fun c1 => ?_)
  · replace h := h.1 c1
    refine lv_iconst (v := 1) hx hb dX3_isLegal_38 (by decide) ?_
    exact retZ (w := (w3 o q cy)) (S := S) C hG ⟨rfl, ⟨rfl, h⟩⟩ dX3_isLegal_39
  · replace h := h.2 c1
    refine lv_aload_n hx hb dX3_isLegal_10 rfl (lv_at hl 0 rfl) ?_
    refine gx_get C i3_isLegal_X3 hG 0 rfl rfl 1 (by decide) k3_isLegal_15 rfl dX3_isLegal_11 ?_
    refine lv_iload_n hx hb dX3_isLegal_14 rfl (lv_at hl 1 rfl) ?_
    obtain ⟨hv2, h⟩ := h
    refine gx_ald C hG 2 rfl hv2 dX3_isLegal_15 ?_
    refine lv_iload_n hx hb dX3_isLegal_16 rfl (lv_at hl 1 rfl) ?_
    refine lv_icmp_ne (tgt := 32) hx hb dX3_isLegal_17 (by decide) (fun c3 => ?_) (fun c3 => ?_)
    · replace h := h.1 c3
      exact b3_isLegal_b32 (K2 := K2) x1 S C hK2 h hG hl
    · replace h := h.2 c3
      refine lv_aload_n hx hb dX3_isLegal_20 rfl (lv_at hl 0 rfl) ?_
      refine gx_get C i3_isLegal_X3 hG 0 rfl rfl 2 (by decide) k3_isLegal_18 rfl dX3_isLegal_21 ?_
      refine lv_iload_n hx hb dX3_isLegal_24 rfl (lv_at hl 1 rfl) ?_
      refine gx_ald C hG 3 rfl hv2 dX3_isLegal_25 ?_
      refine lv_iconst (v := 4) hx hb dX3_isLegal_26 (by decide) ?_
      refine lv_icmp_le (tgt := 32) hx hb dX3_isLegal_27 (by decide) (fun c4 => ?_) (fun c4 => ?_)
      · replace h := h.1 c4
        exact b3_isLegal_b32 (K2 := K2) x1 S C hK2 h hG hl
      · replace h := h.2 c4
        refine lv_iconst (v := 0) hx hb dX3_isLegal_30 (by decide) ?_
        exact retZ (w := (w3 o q cy)) (S := S) C hG ⟨rfl, ⟨rfl, h⟩⟩ dX3_isLegal_31
def w3_isLegal_F2 (S : MS) (Q : Int32 → Prop) (K : Int32 → Prop) (a : Int32) : Prop := w3_isLegal_d2 (fun y0 => K (y0)) a S Q
def w3_isLegal_b2 (x1 : Int32) (S : MS) (Q : Int32 → Prop) : Prop := lp (w3_isLegal_F2 S Q) (x1)
set_option maxHeartbeats 4000000 in
set_option maxRecDepth 100000 in
theorem b3_isLegal_b2 {p : Program} {l : Launch} {e : Env} {s : State} {m : MethodId} {args : Array Value} {below : List Frame} {meth : Method} {c : Code} {D : va_G} {cy : Nat → ClassId} {A : Nat → Prop} {o : Nat} {q : Nat → Nat} (x1 : Int32) (S : MS) {Q : Int32 → Prop} (C : Cx p s m args meth c cX3_isLegal 2 (some .boolean) wsX3_isLegal RX3 D cy nestWs A) (h : w3_isLegal_b2 x1 S Q) {H : Heap} {locs : List Loc} (hG : GW D A s (w3 o q cy S) H locs) {ls : Array Slot} (hl : lv_has ls 2 [(0, .ref o), (1, .int x1)]) : W p l e ({ frames := 0, cells := 0, slots := 0, locals := 0 } : Room) s m args below meth c H locs 0 0 (MQ below (va_Qi (fun r z => z = S ∧ Q r ) (B1 D (w3 o q cy) A) A) args s 0 0 A) (F0 m 2 ls []) := by
  obtain ⟨k, hn⟩ := h
  induction k generalizing x1 H locs ls with
  | zero => exact hn.elim
  | succ k ih => exact b3_isLegal_d2 (K2 := fun y0 => itr (w3_isLegal_F2 S Q) k (y0)) x1 S C (fun x1 H locs ls hk hG hl => ih x1 hG hl hk) hn hG hl
def w3_isLegal (S : MS) (Q : Int32 → Prop) : Prop :=
  w3_isLegal_b2 (0 : Int32) S Q
set_option maxHeartbeats 4000000 in
set_option maxRecDepth 100000 in
theorem c3_isLegal (l : Launch) (D : va_G) (cy : Nat → ClassId)  (o : Nat) (q : Nat → Nat) (S : MS) (Q : Int32 → Prop) (h : w3_isLegal S Q) : MetI l yX3_isLegal wsX3_isLegal ({ frames := 0, cells := 0, slots := 0, locals := 0 } : Room) D cy nestWs (w3 o q cy) [.ref o] S (fun r z => z = S ∧ Q r ) := by
  refine MetI.mk RX3 cX3_isLegal 2 .boolean (by decide) rfl nestWs_ok rfl (Nat.le_of_ble_eq_true rfl) ?_
  intro p e s m below meth c A ls C hG hl
  have hl : lv_has ls 2 [(0, .ref o)] := hl
  have hx := C.1
  have hb := C.2.1
  unfold w3_isLegal at h
  refine lv_iconst (v := 0) hx hb dX3_isLegal_0 (by decide) ?_
  refine lv_istore_n (lv' := [(1, .int (0 : Int32)), (0, .ref o)]) hx hb dX3_isLegal_1 rfl hl (by decide) rfl (fun ls hl => ?_)
  exact b3_isLegal_b2 (0 : Int32) S C h hG (lv_sub hl [1, 0] rfl)
-- X3_cornersWith
theorem i3_cornersWith_X3 : ∀ w ∈ wsX30, w ∈ wsX3_cornersWith := fun w h => List.mem_cons_of_mem _ (inG_X3 w h)
theorem k3_cornersWith_15 : Cond.fieldLink RX3 15 "PaperBodies$Gluer" "together" "[I" ∈ wsX3_cornersWith := (List.mem_cons_of_mem _ mw_132)
theorem k3_cornersWith_18 : Cond.fieldLink RX3 18 "PaperBodies$Gluer" "quarters" "[I" ∈ wsX3_cornersWith := (List.mem_cons_of_mem _ mw_133)
theorem k3_cornersWith_52 : Cond.fieldLink RX3 52 "PaperBodies$Gluer" "edges" "I" ∈ wsX3_cornersWith := (List.mem_cons_of_mem _ mw_152)
def w3_cornersWith_b38 (K4 : Int32 → Int32 → Prop) (x1 : Int32) (x3 : Int32) (t0 : Int32) (t1 : Int32) (S : MS) (Q : Int32 → Prop) : Prop :=
  ∀ y1 : Int32, y1 = (t0 + t1) → ∀ y2 : Int32, y2 = x3 + 1 → K4 y1 y2
set_option maxHeartbeats 4000000 in
set_option maxRecDepth 100000 in
theorem b3_cornersWith_b38 {p : Program} {l : Launch} {e : Env} {s : State} {m : MethodId} {args : Array Value} {below : List Frame} {meth : Method} {c : Code} {D : va_G} {cy : Nat → ClassId} {A : Nat → Prop} {o : Nat} {q : Nat → Nat} {K4 : Int32 → Int32 → Prop} (x1 : Int32) (x3 : Int32) (t0 : Int32) (t1 : Int32) (S : MS) {Q : Int32 → Prop} (C : Cx p s m args meth c cX3_cornersWith 4 (some .int) wsX3_cornersWith RX3 D cy nestWs A) (hK4 : ∀ (x2 : Int32) (x3 : Int32) (H : Heap) (locs : List Loc) (ls : Array Slot), K4 x2 x3 → GW D A s (w3 o q cy S) H locs → lv_has ls 4 [(0, .ref o), (1, .int x1), (2, .int x2), (3, .int x3)] → W p l e ({ frames := 0, cells := 0, slots := 0, locals := 0 } : Room) s m args below meth c H locs 0 0 (MQ below (va_Qi (fun r z => z = S ∧ Q r ) (B1 D (w3 o q cy) A) A) args s 0 0 A) (F0 m 4 ls [])) (h : w3_cornersWith_b38 K4 x1 x3 t0 t1 S Q) {H : Heap} {locs : List Loc} (hG : GW D A s (w3 o q cy S) H locs) {ls : Array Slot} (hl : lv_has ls 4 [(0, .ref o), (1, .int x1), (3, .int x3)]) : W p l e ({ frames := 0, cells := 0, slots := 0, locals := 0 } : Room) s m args below meth c H locs 0 0 (MQ below (va_Qi (fun r z => z = S ∧ Q r ) (B1 D (w3 o q cy) A) A) args s 0 0 A) (F0 m 38 ls [.int t1, .int t0]) := by
  have hx := C.1
  have hb := C.2.1
  unfold w3_cornersWith_b38 at h
  refine lv_iadd hx hb dX3_cornersWith_38 ?_
  refine lv_topi (fun y1 ey1 => ?_)
  replace h := h y1 ey1
  refine lv_istore_n (lv' := [(2, .int y1), (0, .ref o), (1, .int x1), (3, .int x3)]) hx hb dX3_cornersWith_39 rfl hl (by decide) rfl (fun ls hl => ?_)
  obtain ⟨y2, ey2⟩ : ∃ y : Int32, y = x3 + 1 := ⟨_, rfl⟩
  replace h := h y2 ey2
  refine lv_iinc (v := y2) (lv' := [(3, .int y2), (2, .int y1), (0, .ref o), (1, .int x1)]) hx hb dX3_cornersWith_40 hl (k := 3) rfl (by rw [ey2]; rfl) (by decide) rfl (fun ls hl => ?_)
  refine lv_goto (tgt := 4) hx hb dX3_cornersWith_43 (by decide) ?_
  exact hK4 y1 y2 _ _ _ h hG (lv_sub hl [2, 3, 1, 0] rfl)
def w3_cornersWith_b37 (K4 : Int32 → Int32 → Prop) (x1 : Int32) (x3 : Int32) (t0 : Int32) (S : MS) (Q : Int32 → Prop) : Prop :=
  w3_cornersWith_b38 K4 x1 x3 t0 (0 : Int32) S Q
set_option maxHeartbeats 4000000 in
set_option maxRecDepth 100000 in
theorem b3_cornersWith_b37 {p : Program} {l : Launch} {e : Env} {s : State} {m : MethodId} {args : Array Value} {below : List Frame} {meth : Method} {c : Code} {D : va_G} {cy : Nat → ClassId} {A : Nat → Prop} {o : Nat} {q : Nat → Nat} {K4 : Int32 → Int32 → Prop} (x1 : Int32) (x3 : Int32) (t0 : Int32) (S : MS) {Q : Int32 → Prop} (C : Cx p s m args meth c cX3_cornersWith 4 (some .int) wsX3_cornersWith RX3 D cy nestWs A) (hK4 : ∀ (x2 : Int32) (x3 : Int32) (H : Heap) (locs : List Loc) (ls : Array Slot), K4 x2 x3 → GW D A s (w3 o q cy S) H locs → lv_has ls 4 [(0, .ref o), (1, .int x1), (2, .int x2), (3, .int x3)] → W p l e ({ frames := 0, cells := 0, slots := 0, locals := 0 } : Room) s m args below meth c H locs 0 0 (MQ below (va_Qi (fun r z => z = S ∧ Q r ) (B1 D (w3 o q cy) A) A) args s 0 0 A) (F0 m 4 ls [])) (h : w3_cornersWith_b37 K4 x1 x3 t0 S Q) {H : Heap} {locs : List Loc} (hG : GW D A s (w3 o q cy S) H locs) {ls : Array Slot} (hl : lv_has ls 4 [(0, .ref o), (1, .int x1), (3, .int x3)]) : W p l e ({ frames := 0, cells := 0, slots := 0, locals := 0 } : Room) s m args below meth c H locs 0 0 (MQ below (va_Qi (fun r z => z = S ∧ Q r ) (B1 D (w3 o q cy) A) A) args s 0 0 A) (F0 m 37 ls [.int t0]) := by
  have hx := C.1
  have hb := C.2.1
  unfold w3_cornersWith_b37 at h
  refine lv_iconst (v := 0) hx hb dX3_cornersWith_37 (by decide) ?_
  exact b3_cornersWith_b38 (K4 := K4) x1 x3 t0 (0 : Int32) S C hK4 h hG hl
def w3_cornersWith_d4 (K4 : Int32 → Int32 → Prop) (x1 : Int32) (x2 : Int32) (x3 : Int32) (S : MS) (Q : Int32 → Prop) : Prop :=
  (((fI S 7) ≤ x3 → Q x2) ∧ (¬ (fI S 7) ≤ x3 → vp_in x3 50 ∧ ((¬ (rA S 1 x3) = x3 → w3_cornersWith_b37 K4 x1 x3 x2 S Q) ∧ ((rA S 1 x3) = x3 → ((¬ (rA S 2 x3) = x1 → w3_cornersWith_b37 K4 x1 x3 x2 S Q) ∧ ((rA S 2 x3) = x1 → w3_cornersWith_b38 K4 x1 x3 x2 (1 : Int32) S Q))))))
set_option maxHeartbeats 4000000 in
set_option maxRecDepth 100000 in
theorem b3_cornersWith_d4 {p : Program} {l : Launch} {e : Env} {s : State} {m : MethodId} {args : Array Value} {below : List Frame} {meth : Method} {c : Code} {D : va_G} {cy : Nat → ClassId} {A : Nat → Prop} {o : Nat} {q : Nat → Nat} {K4 : Int32 → Int32 → Prop} (x1 : Int32) (x2 : Int32) (x3 : Int32) (S : MS) {Q : Int32 → Prop} (C : Cx p s m args meth c cX3_cornersWith 4 (some .int) wsX3_cornersWith RX3 D cy nestWs A) (hK4 : ∀ (x2 : Int32) (x3 : Int32) (H : Heap) (locs : List Loc) (ls : Array Slot), K4 x2 x3 → GW D A s (w3 o q cy S) H locs → lv_has ls 4 [(0, .ref o), (1, .int x1), (2, .int x2), (3, .int x3)] → W p l e ({ frames := 0, cells := 0, slots := 0, locals := 0 } : Room) s m args below meth c H locs 0 0 (MQ below (va_Qi (fun r z => z = S ∧ Q r ) (B1 D (w3 o q cy) A) A) args s 0 0 A) (F0 m 4 ls [])) (h : w3_cornersWith_d4 K4 x1 x2 x3 S Q) {H : Heap} {locs : List Loc} (hG : GW D A s (w3 o q cy S) H locs) {ls : Array Slot} (hl : lv_has ls 4 [(0, .ref o), (1, .int x1), (2, .int x2), (3, .int x3)]) : W p l e ({ frames := 0, cells := 0, slots := 0, locals := 0 } : Room) s m args below meth c H locs 0 0 (MQ below (va_Qi (fun r z => z = S ∧ Q r ) (B1 D (w3 o q cy) A) A) args s 0 0 A) (F0 m 4 ls []) := by
  have hx := C.1
  have hb := C.2.1
  unfold w3_cornersWith_d4 at h
  refine lv_iload_n hx hb dX3_cornersWith_4 rfl (lv_at hl 3 rfl) ?_
  refine lv_aload_n hx hb dX3_cornersWith_5 rfl (lv_at hl 0 rfl) ?_
  refine gx_get C i3_cornersWith_X3 hG 0 rfl rfl 7 (by decide) k3_cornersWith_52 rfl dX3_cornersWith_6 ?_
  refine lv_icmp_ge (tgt := 46) hx hb dX3_cornersWith_9 (by decide) (fun c1 => ?_) (fun c1 => ?_)
  · replace h := h.1 c1
    refine lv_iload_n hx hb dX3_cornersWith_46 rfl (lv_at hl 2 rfl) ?_
    exact retI (w := (w3 o q cy)) (S := S) C hG ⟨rfl, h⟩ dX3_cornersWith_47
  · replace h := h.2 c1
    refine lv_iload_n hx hb dX3_cornersWith_12 rfl (lv_at hl 2 rfl) ?_
    refine lv_aload_n hx hb dX3_cornersWith_13 rfl (lv_at hl 0 rfl) ?_
    refine gx_get C i3_cornersWith_X3 hG 0 rfl rfl 1 (by decide) k3_cornersWith_15 rfl dX3_cornersWith_14 ?_
    refine lv_iload_n hx hb dX3_cornersWith_17 rfl (lv_at hl 3 rfl) ?_
    obtain ⟨hv2, h⟩ := h
    refine gx_ald C hG 2 rfl hv2 dX3_cornersWith_18 ?_
    refine lv_iload_n hx hb dX3_cornersWith_19 rfl (lv_at hl 3 rfl) ?_
    refine lv_icmp_ne (tgt := 37) hx hb dX3_cornersWith_20 (by decide) (fun c3 => ?_) (fun c3 => ?_)
    · replace h := h.1 c3
      exact b3_cornersWith_b37 (K4 := K4) x1 x3 x2 S C hK4 h hG (lv_sub hl [0, 1, 3] rfl)
    · replace h := h.2 c3
      refine lv_aload_n hx hb dX3_cornersWith_23 rfl (lv_at hl 0 rfl) ?_
      refine gx_get C i3_cornersWith_X3 hG 0 rfl rfl 2 (by decide) k3_cornersWith_18 rfl dX3_cornersWith_24 ?_
      refine lv_iload_n hx hb dX3_cornersWith_27 rfl (lv_at hl 3 rfl) ?_
      refine gx_ald C hG 3 rfl hv2 dX3_cornersWith_28 ?_
      refine lv_iload_n hx hb dX3_cornersWith_29 rfl (lv_at hl 1 rfl) ?_
      refine lv_icmp_ne (tgt := 37) hx hb dX3_cornersWith_30 (by decide) (fun c4 => ?_) (fun c4 => ?_)
      · replace h := h.1 c4
        exact b3_cornersWith_b37 (K4 := K4) x1 x3 x2 S C hK4 h hG (lv_sub hl [0, 1, 3] rfl)
      · replace h := h.2 c4
        refine lv_iconst (v := 1) hx hb dX3_cornersWith_33 (by decide) ?_
        refine lv_goto (tgt := 38) hx hb dX3_cornersWith_34 (by decide) ?_
        exact b3_cornersWith_b38 (K4 := K4) x1 x3 x2 (1 : Int32) S C hK4 h hG (lv_sub hl [0, 1, 3] rfl)
def w3_cornersWith_F4 (x1 : Int32) (S : MS) (Q : Int32 → Prop) (K : Int32 × Int32 → Prop) (a : Int32 × Int32) : Prop := w3_cornersWith_d4 (fun y0 y1 => K (y0, y1)) x1 a.1 a.2 S Q
def w3_cornersWith_b4 (x1 : Int32) (x2 : Int32) (x3 : Int32) (S : MS) (Q : Int32 → Prop) : Prop := lp (w3_cornersWith_F4 x1 S Q) (x2, x3)
set_option maxHeartbeats 4000000 in
set_option maxRecDepth 100000 in
theorem b3_cornersWith_b4 {p : Program} {l : Launch} {e : Env} {s : State} {m : MethodId} {args : Array Value} {below : List Frame} {meth : Method} {c : Code} {D : va_G} {cy : Nat → ClassId} {A : Nat → Prop} {o : Nat} {q : Nat → Nat} (x1 : Int32) (x2 : Int32) (x3 : Int32) (S : MS) {Q : Int32 → Prop} (C : Cx p s m args meth c cX3_cornersWith 4 (some .int) wsX3_cornersWith RX3 D cy nestWs A) (h : w3_cornersWith_b4 x1 x2 x3 S Q) {H : Heap} {locs : List Loc} (hG : GW D A s (w3 o q cy S) H locs) {ls : Array Slot} (hl : lv_has ls 4 [(0, .ref o), (1, .int x1), (2, .int x2), (3, .int x3)]) : W p l e ({ frames := 0, cells := 0, slots := 0, locals := 0 } : Room) s m args below meth c H locs 0 0 (MQ below (va_Qi (fun r z => z = S ∧ Q r ) (B1 D (w3 o q cy) A) A) args s 0 0 A) (F0 m 4 ls []) := by
  obtain ⟨k, hn⟩ := h
  induction k generalizing x2 x3 H locs ls with
  | zero => exact hn.elim
  | succ k ih => exact b3_cornersWith_d4 (K4 := fun y0 y1 => itr (w3_cornersWith_F4 x1 S Q) k (y0, y1)) x1 x2 x3 S C (fun x2 x3 H locs ls hk hG hl => ih x2 x3 hG hl hk) hn hG hl
def w3_cornersWith (x1 : Int32) (S : MS) (Q : Int32 → Prop) : Prop :=
  w3_cornersWith_b4 x1 (0 : Int32) (0 : Int32) S Q
set_option maxHeartbeats 4000000 in
set_option maxRecDepth 100000 in
theorem c3_cornersWith (l : Launch) (D : va_G) (cy : Nat → ClassId)  (o : Nat) (q : Nat → Nat) (x1 : Int32) (S : MS) (Q : Int32 → Prop) (h : w3_cornersWith x1 S Q) : MetI l yX3_cornersWith wsX3_cornersWith ({ frames := 0, cells := 0, slots := 0, locals := 0 } : Room) D cy nestWs (w3 o q cy) [.ref o, .int x1] S (fun r z => z = S ∧ Q r ) := by
  refine MetI.mk RX3 cX3_cornersWith 4 .int (by decide) rfl nestWs_ok rfl (Nat.le_of_ble_eq_true rfl) ?_
  intro p e s m below meth c A ls C hG hl
  have hl : lv_has ls 4 [(0, .ref o), (1, .int x1)] := hl
  have hx := C.1
  have hb := C.2.1
  unfold w3_cornersWith at h
  refine lv_iconst (v := 0) hx hb dX3_cornersWith_0 (by decide) ?_
  refine lv_istore_n (lv' := [(2, .int (0 : Int32)), (0, .ref o), (1, .int x1)]) hx hb dX3_cornersWith_1 rfl hl (by decide) rfl (fun ls hl => ?_)
  refine lv_iconst (v := 0) hx hb dX3_cornersWith_2 (by decide) ?_
  refine lv_istore_n (lv' := [(3, .int (0 : Int32)), (2, .int (0 : Int32)), (0, .ref o), (1, .int x1)]) hx hb dX3_cornersWith_3 rfl hl (by decide) rfl (fun ls hl => ?_)
  exact b3_cornersWith_b4 x1 (0 : Int32) (0 : Int32) S C h hG (lv_sub hl [2, 3, 1, 0] rfl)
-- X3_judge
theorem i3_judge_X3 : ∀ w ∈ wsX30, w ∈ wsX3_judge := fun w h => List.mem_cons_of_mem _ (inG_X3 w h)
theorem k3_judge_9 : Cond.fieldLink RX3 9 "PaperBodies$Gluer" "partners" "[I" ∈ wsX3_judge := (List.mem_cons_of_mem _ mw_131)
theorem k3_judge_21 : Cond.fieldLink RX3 21 "PaperBodies$Gluer" "firstPartners" "[I" ∈ wsX3_judge := (List.mem_cons_of_mem _ mw_134)
theorem k3_judge_24 : Cond.fieldLink RX3 24 "PaperBodies$Gluer" "firstCorners" "[I" ∈ wsX3_judge := (List.mem_cons_of_mem _ mw_135)
theorem k3_judge_55 : Cond.fieldLink RX3 55 "PaperBodies$Gluer" "legalOnes" "I" ∈ wsX3_judge := (List.mem_cons_of_mem _ mw_158)
theorem k3_judge_75 : (Cond.methodLink RX3 75 arraycopyName ∈ wsX3_judge ∧ Cond.native arraycopyName ∈ wsX3_judge) ∧ (Cond.static arraycopyName ∈ wsX3_judge ∧ Cond.initialized "java/lang/System" ∈ wsX3_judge) := ⟨⟨(List.mem_cons_of_mem _ mw_159), (List.mem_cons_of_mem _ mw_160)⟩, ⟨(List.mem_cons_of_mem _ mw_161), (List.mem_cons_of_mem _ mw_162)⟩⟩
def w3_judge_b59 (S : MS) (V1 : MS) (Q : MS → Prop) : Prop :=
  ∀ S1 : MS, S1 = sI S 9 ((fI S 9) + (1 : Int32)) → Q S1
set_option maxHeartbeats 4000000 in
set_option maxRecDepth 100000 in
theorem b3_judge_b59 {p : Program} {l : Launch} {e : Env} {s : State} {m : MethodId} {args : Array Value} {below : List Frame} {meth : Method} {c : Code} {D : va_G} {cy : Nat → ClassId} {A : Nat → Prop} {o : Nat} {q : Nat → Nat} {o1 : Nat} {q1 : Nat → Nat} (S : MS) (V1 : MS) {Q : MS → Prop} (C : Cx p s m args meth c cX3_judge 3 (none) wsX3_judge RX3 D cy nestWs A) (h : w3_judge_b59 S V1 Q) {H : Heap} {locs : List Loc} (hG : GW D A s (w3 o q cy S ++ w4 o1 q1 cy V1) H locs) {ls : Array Slot} (hl : lv_has ls 3 [(0, .ref o)]) : W p l e ({ frames := 3, cells := 0, slots := 0, locals := 65 } : Room) s m args below meth c H locs 0 0 (MQ below (va_Qv (fun z => z.2 = V1 ∧ Q z.1) (B1 D (fun z : MS × MS => (w3 o q cy z.1 ++ w4 o1 q1 cy z.2 : va_W)) A) A) args s 0 0 A) (F0 m 59 ls []) := by
  have hx := C.1
  have hb := C.2.1
  unfold w3_judge_b59 at h
  refine lv_aload_n hx hb dX3_judge_59 rfl (lv_at hl 0 rfl) ?_
  refine lv_dup hx hb dX3_judge_60 rfl ?_
  refine gx_get C i3_judge_X3 hG 0 rfl rfl 9 (by decide) k3_judge_55 rfl dX3_judge_61 ?_
  refine lv_iconst (v := 1) hx hb dX3_judge_64 (by decide) ?_
  refine lv_iadd hx hb dX3_judge_65 ?_
  refine gx_put (ty := .int) (ws' := w3 o q cy (sI S 9 ((fI S 9) + (1 : Int32))) ++ w4 o1 q1 cy V1) C i3_judge_X3 tyX3 tyX3_ok nmX3 hG 0 rfl rfl 9 (by decide) k3_judge_55 rfl (by decide +kernel) rfl rfl (Nat.le_of_ble_eq_true rfl) dX3_judge_66 rfl (fun H locs hG => ?_)
  obtain ⟨S1, eS1⟩ : ∃ z : MS, z = sI S 9 ((fI S 9) + (1 : Int32)) := ⟨_, rfl⟩
  rw [← eS1] at hG
  replace h := h S1 eS1
  exact retV (w := (fun z : MS × MS => (w3 o q cy z.1 ++ w4 o1 q1 cy z.2 : va_W))) (S := (S1, V1)) (Qp := (fun z => z.2 = V1 ∧ Q z.1)) C hG ⟨rfl, h⟩ dX3_judge_69
def w3_judge_d37 (K37 : Int32 → MS → Prop) (x2 : Int32) (S : MS) (V1 : MS) (Q : MS → Prop) : Prop :=
  (((4 : Int32) < x2 → w3_judge_b59 S V1 Q) ∧ (¬ (4 : Int32) < x2 → w3_cornersWith x2 S (fun r2 => vp_in x2 5 ∧ ∀ S5 : MS, S5 = sA S 4 x2 r2 → ∀ y6 : Int32, y6 = x2 + 1 → K37 y6 S5)))
set_option maxHeartbeats 4000000 in
set_option maxRecDepth 100000 in
theorem b3_judge_d37 {p : Program} {l : Launch} {e : Env} {s : State} {m : MethodId} {args : Array Value} {below : List Frame} {meth : Method} {c : Code} {D : va_G} {cy : Nat → ClassId} {A : Nat → Prop} {o : Nat} {q : Nat → Nat} {o1 : Nat} {q1 : Nat → Nat} {K37 : Int32 → MS → Prop} (x2 : Int32) (S : MS) (V1 : MS) {Q : MS → Prop} (C : Cx p s m args meth c cX3_judge 3 (none) wsX3_judge RX3 D cy nestWs A) (hK37 : ∀ (x2 : Int32) (S : MS) (H : Heap) (locs : List Loc) (ls : Array Slot), K37 x2 S → GW D A s (w3 o q cy S ++ w4 o1 q1 cy V1) H locs → lv_has ls 3 [(0, .ref o), (2, .int x2)] → W p l e ({ frames := 3, cells := 0, slots := 0, locals := 65 } : Room) s m args below meth c H locs 0 0 (MQ below (va_Qv (fun z => z.2 = V1 ∧ Q z.1) (B1 D (fun z : MS × MS => (w3 o q cy z.1 ++ w4 o1 q1 cy z.2 : va_W)) A) A) args s 0 0 A) (F0 m 37 ls [])) (h : w3_judge_d37 K37 x2 S V1 Q) {H : Heap} {locs : List Loc} (hG : GW D A s (w3 o q cy S ++ w4 o1 q1 cy V1) H locs) {ls : Array Slot} (hl : lv_has ls 3 [(0, .ref o), (2, .int x2)]) : W p l e ({ frames := 3, cells := 0, slots := 0, locals := 65 } : Room) s m args below meth c H locs 0 0 (MQ below (va_Qv (fun z => z.2 = V1 ∧ Q z.1) (B1 D (fun z : MS × MS => (w3 o q cy z.1 ++ w4 o1 q1 cy z.2 : va_W)) A) A) args s 0 0 A) (F0 m 37 ls []) := by
  have hx := C.1
  have hb := C.2.1
  unfold w3_judge_d37 at h
  refine lv_iload_n hx hb dX3_judge_37 rfl (lv_at hl 1 rfl) ?_
  refine lv_iconst (v := 4) hx hb dX3_judge_38 (by decide) ?_
  refine lv_icmp_gt (tgt := 59) hx hb dX3_judge_39 (by decide) (fun c1 => ?_) (fun c1 => ?_)
  · replace h := h.1 c1
    exact b3_judge_b59 S V1 C h hG (lv_sub hl [0] rfl)
  · replace h := h.2 c1
    refine lv_aload_n hx hb dX3_judge_42 rfl (lv_at hl 0 rfl) ?_
    refine gx_get C i3_judge_X3 hG 0 rfl rfl 4 (by decide) k3_judge_24 rfl dX3_judge_43 ?_
    refine lv_iload_n hx hb dX3_judge_46 rfl (lv_at hl 1 rfl) ?_
    refine lv_aload_n hx hb dX3_judge_47 rfl (lv_at hl 0 rfl) ?_
    refine lv_iload_n hx hb dX3_judge_48 rfl (lv_at hl 1 rfl) ?_
    refine callVI (As := [.int x2]) (rest := [.int x2, .ref (q 4)]) C hG (c3_cornersWith l D cy o q x2 S _ h) 1 gX3_judge_X3_cornersWith rfl (by decide +kernel) ⟨⟨Nat.le_of_ble_eq_true rfl, Nat.le_of_ble_eq_true rfl⟩, rfl, rfl⟩ rfl rfl (Foc.pq (rv := fun z : MS => (w3 o q cy z ++ w4 o1 q1 cy V1 : va_W)) C.2.2.2.2.2.2.2.2.1 [0, 1, 2, 3, 4, 5, 6, 7] [8, 9, 10, 11] [4, 5, 6, 7, 8, 9, 10, 11, 0, 1, 2, 3] rfl rfl rfl rfl rfl (by decide) rfl (fun _ => rfl) (fun _ => rfl)) rfl hl.1 rfl (Nat.le_of_ble_eq_true rfl) dX3_judge_49 ⟨Nat.zero_le _, Nat.zero_le _⟩ (fun r2 u3 H locs h hG => ?_)
    obtain ⟨eu3, h⟩ := h
    have eu3 : u3 = S := eu3
    subst u3
    have hG : GW D A s (w3 o q cy S ++ w4 o1 q1 cy V1) H locs := hG
    obtain ⟨hv4, h⟩ := h
    refine gx_ast (ws' := w3 o q cy (sA S 4 x2 r2) ++ w4 o1 q1 cy V1) C hG 5 rfl hv4 dX3_judge_52 rfl (fun H locs hG => ?_)
    obtain ⟨S5, eS5⟩ : ∃ z : MS, z = sA S 4 x2 r2 := ⟨_, rfl⟩
    rw [← eS5] at hG
    replace h := h S5 eS5
    obtain ⟨y6, ey6⟩ : ∃ y : Int32, y = x2 + 1 := ⟨_, rfl⟩
    replace h := h y6 ey6
    refine lv_iinc (v := y6) (lv' := [(2, .int y6), (0, .ref o)]) hx hb dX3_judge_53 hl (k := 1) rfl (by rw [ey6]; rfl) (by decide) rfl (fun ls hl => ?_)
    refine lv_goto (tgt := 37) hx hb dX3_judge_56 (by decide) ?_
    exact hK37 y6 S5 _ _ _ h hG (lv_sub hl [1, 0] rfl)
def w3_judge_F37 (V1 : MS) (Q : MS → Prop) (K : Int32 × MS → Prop) (a : Int32 × MS) : Prop := w3_judge_d37 (fun y0 y1 => K (y0, y1)) a.1 a.2 V1 Q
def w3_judge_b37 (x2 : Int32) (S : MS) (V1 : MS) (Q : MS → Prop) : Prop := lp (w3_judge_F37 V1 Q) (x2, S)
set_option maxHeartbeats 4000000 in
set_option maxRecDepth 100000 in
theorem b3_judge_b37 {p : Program} {l : Launch} {e : Env} {s : State} {m : MethodId} {args : Array Value} {below : List Frame} {meth : Method} {c : Code} {D : va_G} {cy : Nat → ClassId} {A : Nat → Prop} {o : Nat} {q : Nat → Nat} {o1 : Nat} {q1 : Nat → Nat} (x2 : Int32) (S : MS) (V1 : MS) {Q : MS → Prop} (C : Cx p s m args meth c cX3_judge 3 (none) wsX3_judge RX3 D cy nestWs A) (h : w3_judge_b37 x2 S V1 Q) {H : Heap} {locs : List Loc} (hG : GW D A s (w3 o q cy S ++ w4 o1 q1 cy V1) H locs) {ls : Array Slot} (hl : lv_has ls 3 [(0, .ref o), (2, .int x2)]) : W p l e ({ frames := 3, cells := 0, slots := 0, locals := 65 } : Room) s m args below meth c H locs 0 0 (MQ below (va_Qv (fun z => z.2 = V1 ∧ Q z.1) (B1 D (fun z : MS × MS => (w3 o q cy z.1 ++ w4 o1 q1 cy z.2 : va_W)) A) A) args s 0 0 A) (F0 m 37 ls []) := by
  obtain ⟨k, hn⟩ := h
  induction k generalizing x2 S H locs ls with
  | zero => exact hn.elim
  | succ k ih => exact b3_judge_d37 (K37 := fun y0 y1 => itr (w3_judge_F37 V1 Q) k (y0, y1)) x2 S V1 C (fun x2 S H locs ls hk hG hl => ih x2 S hG hl hk) hn hG hl
def w3_judge (S : MS) (V1 : MS) (Q : MS → Prop) : Prop :=
  w3_gatherCorners S V1 (fun S1 => w3_isLegal S1 (fun r3 => ((¬ r3 = 0 → ((¬ (fI S1 9) = 0 → w3_judge_b59 S1 V1 Q) ∧ ((fI S1 9) = 0 → (¬ (0 : Int32) < 0 ∧ ¬ (0 : Int32) < 0 ∧ ¬ (50 : Int32) < 0 ∧ (0 : Int32).toNatClampNeg + (50 : Int32).toNatClampNeg ≤ 50 ∧ (0 : Int32).toNatClampNeg + (50 : Int32).toNatClampNeg ≤ 50) ∧ ∀ S8 : MS, S8 = pA S1 3 (va_cpy (aI S1 0) (aI S1 3) (0 : Int32).toNatClampNeg (0 : Int32).toNatClampNeg (50 : Int32).toNatClampNeg) → w3_judge_b37 (1 : Int32) S8 V1 Q))) ∧ (r3 = 0 → Q S1))))
set_option maxHeartbeats 4000000 in
set_option maxRecDepth 100000 in
theorem c3_judge (l : Launch) (D : va_G) (cy : Nat → ClassId)  (o : Nat) (q : Nat → Nat) (o1 : Nat) (q1 : Nat → Nat) (S : MS) (V1 : MS) (Q : MS → Prop) (h : w3_judge S V1 Q) : MetV l yX3_judge wsX3_judge ({ frames := 3, cells := 0, slots := 0, locals := 65 } : Room) D cy nestWs (fun z : MS × MS => (w3 o q cy z.1 ++ w4 o1 q1 cy z.2 : va_W)) [.ref o, .ref o1] (S, V1) (fun z => z.2 = V1 ∧ Q z.1) := by
  refine MetV.mk RX3 cX3_judge 3 (by decide) rfl nestWs_ok rfl (Nat.le_of_ble_eq_true rfl) ?_
  intro p e s m below meth c A ls C hG hl
  have hl : lv_has ls 3 [(0, .ref o), (1, .ref o1)] := hl
  have hx := C.1
  have hb := C.2.1
  unfold w3_judge at h
  refine lv_aload_n hx hb dX3_judge_0 rfl (lv_at hl 0 rfl) ?_
  refine lv_aload_n hx hb dX3_judge_1 rfl (lv_at hl 1 rfl) ?_
  refine callVV (As := [.ref o1]) (rest := []) C hG (c3_gatherCorners l D cy o q o1 q1 S V1 _ h) 1 gX3_judge_X3_gatherCorners rfl (by decide +kernel) ⟨⟨Nat.le_of_ble_eq_true rfl, Nat.le_of_ble_eq_true rfl⟩, rfl, rfl⟩ rfl rfl (Foc.all (w' := (fun z : MS × MS => (w3 o q cy z.1 ++ w4 o1 q1 cy z.2 : va_W))) (S' := (S, V1)) C.2.2.2.2.2.2.2.2.1) rfl hl.1 rfl (Nat.le_of_ble_eq_true rfl) dX3_judge_2 ⟨Nat.zero_le _, Nat.zero_le _⟩ (fun  z H locs h hG => ?_)
  obtain ⟨S1, u2⟩ := z
  obtain ⟨eu2, h⟩ := h
  have eu2 : u2 = V1 := eu2
  replace h := h
  subst u2
  have hG : GW D A s (w3 o q cy S1 ++ w4 o1 q1 cy V1) H locs := hG
  refine lv_aload_n hx hb dX3_judge_5 rfl (lv_at hl 0 rfl) ?_
  refine callVI (As := []) (rest := []) C hG (c3_isLegal l D cy o q S1 _ h) 0 gX3_judge_X3_isLegal rfl (by decide +kernel) ⟨⟨Nat.le_of_ble_eq_true rfl, Nat.le_of_ble_eq_true rfl⟩, rfl, rfl⟩ rfl rfl (Foc.pq (rv := fun z : MS => (w3 o q cy z ++ w4 o1 q1 cy V1 : va_W)) C.2.2.2.2.2.2.2.2.1 [0, 1, 2, 3, 4, 5, 6, 7] [8, 9, 10, 11] [4, 5, 6, 7, 8, 9, 10, 11, 0, 1, 2, 3] rfl rfl rfl rfl rfl (by decide) rfl (fun _ => rfl) (fun _ => rfl)) rfl hl.1 rfl (Nat.le_of_ble_eq_true rfl) dX3_judge_6 ⟨Nat.zero_le _, Nat.zero_le _⟩ (fun r3 u4 H locs h hG => ?_)
  obtain ⟨eu4, h⟩ := h
  have eu4 : u4 = S1 := eu4
  subst u4
  have hG : GW D A s (w3 o q cy S1 ++ w4 o1 q1 cy V1) H locs := hG
  refine lv_if_ne (tgt := 13) hx hb dX3_judge_9 (by decide) (fun c5 => ?_) (fun c5 => ?_)
  · replace h := h.1 c5
    refine lv_aload_n hx hb dX3_judge_13 rfl (lv_at hl 0 rfl) ?_
    refine gx_get C i3_judge_X3 hG 0 rfl rfl 9 (by decide) k3_judge_55 rfl dX3_judge_14 ?_
    refine lv_if_ne (tgt := 59) hx hb dX3_judge_17 (by decide) (fun c6 => ?_) (fun c6 => ?_)
    · replace h := h.1 c6
      exact b3_judge_b59 S1 V1 C h hG (lv_sub hl [0] rfl)
    · replace h := h.2 c6
      refine lv_aload_n hx hb dX3_judge_20 rfl (lv_at hl 0 rfl) ?_
      refine gx_get C i3_judge_X3 hG 0 rfl rfl 0 (by decide) k3_judge_9 rfl dX3_judge_21 ?_
      refine lv_iconst (v := 0) hx hb dX3_judge_24 (by decide) ?_
      refine lv_aload_n hx hb dX3_judge_25 rfl (lv_at hl 0 rfl) ?_
      refine gx_get C i3_judge_X3 hG 0 rfl rfl 3 (by decide) k3_judge_21 rfl dX3_judge_26 ?_
      refine lv_iconst (v := 0) hx hb dX3_judge_29 (by decide) ?_
      refine lv_bipush (v := 50) hx hb dX3_judge_30 (by decide) ?_
      obtain ⟨hv7, h⟩ := h
      refine gx_copy (ws' := w3 o q cy (pA S1 3 (va_cpy (aI S1 0) (aI S1 3) (0 : Int32).toNatClampNeg (0 : Int32).toNatClampNeg (50 : Int32).toNatClampNeg)) ++ w4 o1 q1 cy V1) C hG (hl.1) (C.2.2.2.2.1 _ k3_judge_75.1.1) (C.2.2.2.2.1 _ k3_judge_75.1.2) (C.2.2.2.2.1 _ k3_judge_75.2.1) (C.2.2.2.2.1 _ k3_judge_75.2.2) 1 4 rfl rfl hv7 (Nat.le_of_ble_eq_true rfl) (Nat.le_of_ble_eq_true rfl) dX3_judge_32 rfl (fun H locs hG => ?_)
      obtain ⟨S8, eS8⟩ : ∃ z : MS, z = pA S1 3 (va_cpy (aI S1 0) (aI S1 3) (0 : Int32).toNatClampNeg (0 : Int32).toNatClampNeg (50 : Int32).toNatClampNeg) := ⟨_, rfl⟩
      rw [← eS8] at hG
      replace h := h S8 eS8
      refine lv_iconst (v := 1) hx hb dX3_judge_35 (by decide) ?_
      refine lv_istore_n (lv' := [(2, .int (1 : Int32)), (0, .ref o), (1, .ref o1)]) hx hb dX3_judge_36 rfl hl (by decide) rfl (fun ls hl => ?_)
      exact b3_judge_b37 (1 : Int32) S8 V1 C h hG (lv_sub hl [1, 0] rfl)
  · replace h := h.2 c5
    exact retV (w := (fun z : MS × MS => (w3 o q cy z.1 ++ w4 o1 q1 cy z.2 : va_W))) (S := (S1, V1)) (Qp := (fun z => z.2 = V1 ∧ Q z.1)) C hG ⟨rfl, h⟩ dX3_judge_12
-- X3_countTry
theorem i3_countTry_X3 : ∀ w ∈ wsX30, w ∈ wsX3_countTry := fun w h => List.mem_cons_of_mem _ (inG_X3 w h)
theorem k3_countTry_58 : Cond.fieldLink RX3 58 "PaperBodies$Gluer" "triesMade" "I" ∈ wsX3_countTry := (List.mem_cons_of_mem _ mw_175)
theorem k3_countTry_61 : Cond.fieldLink RX3 61 "PaperBodies$Gluer" "mostTries" "I" ∈ wsX3_countTry := (List.mem_cons_of_mem _ mw_176)
theorem k3_countTry_64 : Cond.fieldLink RX3 64 "PaperBodies$Gluer" "spent" "Z" ∈ wsX3_countTry := (List.mem_cons_of_mem _ mw_177)
def w3_countTry (S : MS) (Q : Int32 → MS → Prop) : Prop :=
  (((fI S 10) < (fI S 11) → ∀ S2 : MS, S2 = sI S 10 ((fI S 10) + (1 : Int32)) → Q (1 : Int32) S2) ∧ (¬ (fI S 10) < (fI S 11) → ∀ S3 : MS, S3 = sI S 12 (1 : Int32) → Q (0 : Int32) S3))
set_option maxHeartbeats 4000000 in
set_option maxRecDepth 100000 in
theorem c3_countTry (l : Launch) (D : va_G) (cy : Nat → ClassId)  (o : Nat) (q : Nat → Nat) (S : MS) (Q : Int32 → MS → Prop) (h : w3_countTry S Q) : MetI l yX3_countTry wsX3_countTry ({ frames := 0, cells := 0, slots := 0, locals := 0 } : Room) D cy nestWs (w3 o q cy) [.ref o] S Q := by
  refine MetI.mk RX3 cX3_countTry 1 .boolean (by decide) rfl nestWs_ok rfl (Nat.le_of_ble_eq_true rfl) ?_
  intro p e s m below meth c A ls C hG hl
  have hl : lv_has ls 1 [(0, .ref o)] := hl
  have hx := C.1
  have hb := C.2.1
  unfold w3_countTry at h
  refine lv_aload_n hx hb dX3_countTry_0 rfl (lv_at hl 0 rfl) ?_
  refine gx_get C i3_countTry_X3 hG 0 rfl rfl 10 (by decide) k3_countTry_58 rfl dX3_countTry_1 ?_
  refine lv_aload_n hx hb dX3_countTry_4 rfl (lv_at hl 0 rfl) ?_
  refine gx_get C i3_countTry_X3 hG 0 rfl rfl 11 (by decide) k3_countTry_61 rfl dX3_countTry_5 ?_
  refine lv_icmp_lt (tgt := 18) hx hb dX3_countTry_8 (by decide) (fun c1 => ?_) (fun c1 => ?_)
  · replace h := h.1 c1
    refine lv_aload_n hx hb dX3_countTry_18 rfl (lv_at hl 0 rfl) ?_
    refine lv_dup hx hb dX3_countTry_19 rfl ?_
    refine gx_get C i3_countTry_X3 hG 0 rfl rfl 10 (by decide) k3_countTry_58 rfl dX3_countTry_20 ?_
    refine lv_iconst (v := 1) hx hb dX3_countTry_23 (by decide) ?_
    refine lv_iadd hx hb dX3_countTry_24 ?_
    refine gx_put (ty := .int) (ws' := w3 o q cy (sI S 10 ((fI S 10) + (1 : Int32)))) C i3_countTry_X3 tyX3 tyX3_ok nmX3 hG 0 rfl rfl 10 (by decide) k3_countTry_58 rfl (by decide +kernel) rfl rfl (Nat.le_of_ble_eq_true rfl) dX3_countTry_25 rfl (fun H locs hG => ?_)
    obtain ⟨S2, eS2⟩ : ∃ z : MS, z = sI S 10 ((fI S 10) + (1 : Int32)) := ⟨_, rfl⟩
    rw [← eS2] at hG
    replace h := h S2 eS2
    refine lv_iconst (v := 1) hx hb dX3_countTry_28 (by decide) ?_
    exact retZ (w := (w3 o q cy)) (S := S2) C hG ⟨rfl, h⟩ dX3_countTry_29
  · replace h := h.2 c1
    refine lv_aload_n hx hb dX3_countTry_11 rfl (lv_at hl 0 rfl) ?_
    refine lv_iconst (v := 1) hx hb dX3_countTry_12 (by decide) ?_
    refine gx_put (ty := .boolean) (ws' := w3 o q cy (sI S 12 (1 : Int32))) C i3_countTry_X3 tyX3 tyX3_ok nmX3 hG 0 rfl rfl 12 (by decide) k3_countTry_64 rfl (by decide +kernel) rfl rfl (Nat.le_of_ble_eq_true rfl) dX3_countTry_13 rfl (fun H locs hG => ?_)
    obtain ⟨S3, eS3⟩ : ∃ z : MS, z = sI S 12 (1 : Int32) := ⟨_, rfl⟩
    rw [← eS3] at hG
    replace h := h S3 eS3
    refine lv_iconst (v := 0) hx hb dX3_countTry_16 (by decide) ?_
    exact retZ (w := (w3 o q cy)) (S := S3) C hG ⟨rfl, h⟩ dX3_countTry_17
