-- X3_pairFrom
theorem i3_pairFrom_X3 : ∀ w ∈ wsX30, w ∈ wsX3_pairFrom := fun w h => List.mem_cons_of_mem _ (inG_X3 w h)
theorem k3_pairFrom_9 : Cond.fieldLink RX3 9 "PaperBodies$Gluer" "partners" "[I" ∈ wsX3_pairFrom := (List.mem_cons_of_mem _ mw_131)
theorem k3_pairFrom_52 : Cond.fieldLink RX3 52 "PaperBodies$Gluer" "edges" "I" ∈ wsX3_pairFrom := (List.mem_cons_of_mem _ mw_152)
theorem k3_pairFrom_64 : Cond.fieldLink RX3 64 "PaperBodies$Gluer" "spent" "Z" ∈ wsX3_pairFrom := (List.mem_cons_of_mem _ mw_177)
def w3_pairFrom_b164 (Rec : Int32 → Int32 → MS → MS → (MS → Prop) → Prop) (V1 : MS) (V2 : MS) (Q : MS → Prop) : Prop :=
  Q V1
set_option maxHeartbeats 4000000 in
set_option maxRecDepth 100000 in
theorem b3_pairFrom_b164 {p : Program} {l : Launch} {e : Env} {s : State} {m : MethodId} {args : Array Value} {below : List Frame} {meth : Method} {c : Code} {D : va_G} {cy : Nat → ClassId} {A : Nat → Prop} {o1 : Nat} {q1 : Nat → Nat} {o2 : Nat} {q2 : Nat → Nat} {n : Nat} {Rec : Int32 → Int32 → MS → MS → (MS → Prop) → Prop} (V1 : MS) (V2 : MS) {Q : MS → Prop} (C : Cx p s m args meth c cX3_pairFrom 7 (none) wsX3_pairFrom RX3 D cy nestWs A) (hRec : ∀ (x2 : Int32) (x3 : Int32) (V1 : MS) (V2 : MS) (Q : MS → Prop), Rec x2 x3 V1 V2 Q → MetV l yX3_pairFrom wsX3_pairFrom ({ frames := 4 + n, cells := 0, slots := 0, locals := 87 + n * 26 } : Room) D cy nestWs (fun z : MS × MS => (w3 o1 q1 cy z.1 ++ w4 o2 q2 cy z.2 : va_W)) [.ref o1, .ref o2, .int x2, .int x3] (V1, V2) (fun z => z.2 = V2 ∧ Q z.1)) (h : w3_pairFrom_b164 Rec V1 V2 Q) {H : Heap} {locs : List Loc} (hG : GW D A s (w3 o1 q1 cy V1 ++ w4 o2 q2 cy V2) H locs) {ls : Array Slot} (hl : lv_has ls 7 [(0, .ref o1)]) : W p l e ({ frames := 4 + (n + 1), cells := 0, slots := 0, locals := 87 + (n + 1) * 26 } : Room) s m args below meth c H locs 0 0 (MQ below (va_Qv (fun z => z.2 = V2 ∧ Q z.1) (B1 D (fun z : MS × MS => (w3 o1 q1 cy z.1 ++ w4 o2 q2 cy z.2 : va_W)) A) A) args s 0 0 A) (F0 m 164 ls []) := by
  have hx := C.1
  have hb := C.2.1
  unfold w3_pairFrom_b164 at h
  exact retV (w := (fun z : MS × MS => (w3 o1 q1 cy z.1 ++ w4 o2 q2 cy z.2 : va_W))) (S := (V1, V2)) (Qp := (fun z => z.2 = V2 ∧ Q z.1)) C hG ⟨rfl, h⟩ dX3_pairFrom_164
def w3_pairFrom_b158 (Rec : Int32 → Int32 → MS → MS → (MS → Prop) → Prop) (K55 : Int32 → MS → Prop) (x3 : Int32) (x4 : Int32) (x5 : Int32) (V1 : MS) (V2 : MS) (Q : MS → Prop) : Prop :=
  ∀ y1 : Int32, y1 = x5 + 1 → K55 y1 V1
set_option maxHeartbeats 4000000 in
set_option maxRecDepth 100000 in
theorem b3_pairFrom_b158 {p : Program} {l : Launch} {e : Env} {s : State} {m : MethodId} {args : Array Value} {below : List Frame} {meth : Method} {c : Code} {D : va_G} {cy : Nat → ClassId} {A : Nat → Prop} {o1 : Nat} {q1 : Nat → Nat} {o2 : Nat} {q2 : Nat → Nat} {n : Nat} {Rec : Int32 → Int32 → MS → MS → (MS → Prop) → Prop} {K55 : Int32 → MS → Prop} (x3 : Int32) (x4 : Int32) (x5 : Int32) (V1 : MS) (V2 : MS) {Q : MS → Prop} (C : Cx p s m args meth c cX3_pairFrom 7 (none) wsX3_pairFrom RX3 D cy nestWs A) (hRec : ∀ (x2 : Int32) (x3 : Int32) (V1 : MS) (V2 : MS) (Q : MS → Prop), Rec x2 x3 V1 V2 Q → MetV l yX3_pairFrom wsX3_pairFrom ({ frames := 4 + n, cells := 0, slots := 0, locals := 87 + n * 26 } : Room) D cy nestWs (fun z : MS × MS => (w3 o1 q1 cy z.1 ++ w4 o2 q2 cy z.2 : va_W)) [.ref o1, .ref o2, .int x2, .int x3] (V1, V2) (fun z => z.2 = V2 ∧ Q z.1)) (hK55 : ∀ (x5 : Int32) (V1 : MS) (H : Heap) (locs : List Loc) (ls : Array Slot), K55 x5 V1 → GW D A s (w3 o1 q1 cy V1 ++ w4 o2 q2 cy V2) H locs → lv_has ls 7 [(0, .ref o1), (1, .ref o2), (3, .int x3), (4, .int x4), (5, .int x5)] → W p l e ({ frames := 4 + (n + 1), cells := 0, slots := 0, locals := 87 + (n + 1) * 26 } : Room) s m args below meth c H locs 0 0 (MQ below (va_Qv (fun z => z.2 = V2 ∧ Q z.1) (B1 D (fun z : MS × MS => (w3 o1 q1 cy z.1 ++ w4 o2 q2 cy z.2 : va_W)) A) A) args s 0 0 A) (F0 m 55 ls [])) (h : w3_pairFrom_b158 Rec K55 x3 x4 x5 V1 V2 Q) {H : Heap} {locs : List Loc} (hG : GW D A s (w3 o1 q1 cy V1 ++ w4 o2 q2 cy V2) H locs) {ls : Array Slot} (hl : lv_has ls 7 [(0, .ref o1), (1, .ref o2), (3, .int x3), (4, .int x4), (5, .int x5)]) : W p l e ({ frames := 4 + (n + 1), cells := 0, slots := 0, locals := 87 + (n + 1) * 26 } : Room) s m args below meth c H locs 0 0 (MQ below (va_Qv (fun z => z.2 = V2 ∧ Q z.1) (B1 D (fun z : MS × MS => (w3 o1 q1 cy z.1 ++ w4 o2 q2 cy z.2 : va_W)) A) A) args s 0 0 A) (F0 m 158 ls []) := by
  have hx := C.1
  have hb := C.2.1
  unfold w3_pairFrom_b158 at h
  obtain ⟨y1, ey1⟩ : ∃ y : Int32, y = x5 + 1 := ⟨_, rfl⟩
  replace h := h y1 ey1
  refine lv_iinc (v := y1) (lv' := [(5, .int y1), (0, .ref o1), (1, .ref o2), (3, .int x3), (4, .int x4)]) hx hb dX3_pairFrom_158 hl (k := 4) rfl (by rw [ey1]; rfl) (by decide) rfl (fun ls hl => ?_)
  refine lv_goto (tgt := 55) hx hb dX3_pairFrom_161 (by decide) ?_
  exact hK55 y1 V1 _ _ _ h hG (lv_sub hl [1, 2, 3, 4, 0] rfl)
def w3_pairFrom_b96 (Rec : Int32 → Int32 → MS → MS → (MS → Prop) → Prop) (K55 : Int32 → MS → Prop) (x3 : Int32) (x4 : Int32) (x5 : Int32) (t0 : Int32) (V1 : MS) (V2 : MS) (Q : MS → Prop) : Prop :=
  ((t0 = 0 → w3_pairFrom_b158 Rec K55 x3 x4 x5 V1 V2 Q) ∧ (¬ t0 = 0 → w3_countTry V1 (fun r2 S3 => ((r2 = 0 → w3_pairFrom_b158 Rec K55 x3 x4 x5 S3 V2 Q) ∧ (¬ r2 = 0 → vp_in x4 50 ∧ ∀ S6 : MS, S6 = sA S3 0 x4 x5 → vp_in x5 50 ∧ ∀ S8 : MS, S8 = sA S6 0 x5 x4 → Rec (x4 + (1 : Int32)) (x3 + (1 : Int32)) S8 V2 (fun S9 => ∀ S11 : MS, S11 = sA S9 0 x4 (-9 : Int32) → ∀ S12 : MS, S12 = sA S11 0 x5 (-9 : Int32) → w3_pairFrom_b158 Rec K55 x3 x4 x5 S12 V2 Q))))))
set_option maxHeartbeats 4000000 in
set_option maxRecDepth 100000 in
theorem b3_pairFrom_b96 {p : Program} {l : Launch} {e : Env} {s : State} {m : MethodId} {args : Array Value} {below : List Frame} {meth : Method} {c : Code} {D : va_G} {cy : Nat → ClassId} {A : Nat → Prop} {o1 : Nat} {q1 : Nat → Nat} {o2 : Nat} {q2 : Nat → Nat} {n : Nat} {Rec : Int32 → Int32 → MS → MS → (MS → Prop) → Prop} {K55 : Int32 → MS → Prop} (x3 : Int32) (x4 : Int32) (x5 : Int32) (t0 : Int32) (V1 : MS) (V2 : MS) {Q : MS → Prop} (C : Cx p s m args meth c cX3_pairFrom 7 (none) wsX3_pairFrom RX3 D cy nestWs A) (hRec : ∀ (x2 : Int32) (x3 : Int32) (V1 : MS) (V2 : MS) (Q : MS → Prop), Rec x2 x3 V1 V2 Q → MetV l yX3_pairFrom wsX3_pairFrom ({ frames := 4 + n, cells := 0, slots := 0, locals := 87 + n * 26 } : Room) D cy nestWs (fun z : MS × MS => (w3 o1 q1 cy z.1 ++ w4 o2 q2 cy z.2 : va_W)) [.ref o1, .ref o2, .int x2, .int x3] (V1, V2) (fun z => z.2 = V2 ∧ Q z.1)) (hK55 : ∀ (x5 : Int32) (V1 : MS) (H : Heap) (locs : List Loc) (ls : Array Slot), K55 x5 V1 → GW D A s (w3 o1 q1 cy V1 ++ w4 o2 q2 cy V2) H locs → lv_has ls 7 [(0, .ref o1), (1, .ref o2), (3, .int x3), (4, .int x4), (5, .int x5)] → W p l e ({ frames := 4 + (n + 1), cells := 0, slots := 0, locals := 87 + (n + 1) * 26 } : Room) s m args below meth c H locs 0 0 (MQ below (va_Qv (fun z => z.2 = V2 ∧ Q z.1) (B1 D (fun z : MS × MS => (w3 o1 q1 cy z.1 ++ w4 o2 q2 cy z.2 : va_W)) A) A) args s 0 0 A) (F0 m 55 ls [])) (h : w3_pairFrom_b96 Rec K55 x3 x4 x5 t0 V1 V2 Q) {H : Heap} {locs : List Loc} (hG : GW D A s (w3 o1 q1 cy V1 ++ w4 o2 q2 cy V2) H locs) {ls : Array Slot} (hl : lv_has ls 7 [(0, .ref o1), (1, .ref o2), (3, .int x3), (4, .int x4), (5, .int x5)]) : W p l e ({ frames := 4 + (n + 1), cells := 0, slots := 0, locals := 87 + (n + 1) * 26 } : Room) s m args below meth c H locs 0 0 (MQ below (va_Qv (fun z => z.2 = V2 ∧ Q z.1) (B1 D (fun z : MS × MS => (w3 o1 q1 cy z.1 ++ w4 o2 q2 cy z.2 : va_W)) A) A) args s 0 0 A) (F0 m 96 ls [.int t0]) := by
  have hx := C.1
  have hb := C.2.1
  unfold w3_pairFrom_b96 at h
  refine lv_istore (lv' := [(6, .int t0), (0, .ref o1), (1, .ref o2), (3, .int x3), (4, .int x4), (5, .int x5)]) hx hb dX3_pairFrom_96 hl (by decide) rfl (fun ls hl => ?_)
  refine lv_iload hx hb dX3_pairFrom_98 (lv_at hl 0 rfl) ?_
  refine lv_if_eq (tgt := 158) hx hb dX3_pairFrom_100 (by decide) (fun c1 => ?_) (fun c1 => ?_)
  · replace h := h.1 c1
    exact b3_pairFrom_b158 (K55 := K55) x3 x4 x5 V1 V2 C hRec hK55 h hG (lv_sub hl [1, 2, 3, 4, 5] rfl)
  · replace h := h.2 c1
    refine lv_aload_n hx hb dX3_pairFrom_103 rfl (lv_at hl 1 rfl) ?_
    refine callVI (As := []) (rest := []) C hG (c3_countTry l D cy o1 q1 V1 _ h) 0 gX3_pairFrom_X3_countTry rfl (by decide +kernel) ⟨⟨by dsimp only; omega, by dsimp only; omega⟩, rfl, rfl⟩ rfl rfl (Foc.pq (rv := fun z : MS => (w3 o1 q1 cy z ++ w4 o2 q2 cy V2 : va_W)) C.2.2.2.2.2.2.2.2.1 [0, 1, 2, 3, 4, 5, 6, 7] [8, 9, 10, 11] [4, 5, 6, 7, 8, 9, 10, 11, 0, 1, 2, 3] rfl rfl rfl rfl rfl (by decide) rfl (fun _ => rfl) (fun _ => rfl)) rfl hl.1 rfl (Nat.le_of_ble_eq_true rfl) dX3_pairFrom_104 ⟨Nat.zero_le _, Nat.zero_le _⟩ (fun r2 S3 H locs h hG => ?_)
    have hG : GW D A s (w3 o1 q1 cy S3 ++ w4 o2 q2 cy V2) H locs := hG
    refine lv_if_eq (tgt := 158) hx hb dX3_pairFrom_107 (by decide) (fun c4 => ?_) (fun c4 => ?_)
    · replace h := h.1 c4
      exact b3_pairFrom_b158 (K55 := K55) x3 x4 x5 S3 V2 C hRec hK55 h hG (lv_sub hl [1, 2, 3, 4, 5] rfl)
    · replace h := h.2 c4
      refine lv_aload_n hx hb dX3_pairFrom_110 rfl (lv_at hl 1 rfl) ?_
      refine gx_get C i3_pairFrom_X3 hG 0 rfl rfl 0 (by decide) k3_pairFrom_9 rfl dX3_pairFrom_111 ?_
      refine lv_iload hx hb dX3_pairFrom_114 (lv_at hl 4 rfl) ?_
      refine lv_iload hx hb dX3_pairFrom_116 (lv_at hl 5 rfl) ?_
      obtain ⟨hv5, h⟩ := h
      refine gx_ast (ws' := w3 o1 q1 cy (sA S3 0 x4 x5) ++ w4 o2 q2 cy V2) C hG 1 rfl hv5 dX3_pairFrom_118 rfl (fun H locs hG => ?_)
      obtain ⟨S6, eS6⟩ : ∃ z : MS, z = sA S3 0 x4 x5 := ⟨_, rfl⟩
      rw [← eS6] at hG
      replace h := h S6 eS6
      refine lv_aload_n hx hb dX3_pairFrom_119 rfl (lv_at hl 1 rfl) ?_
      refine gx_get C i3_pairFrom_X3 hG 0 rfl rfl 0 (by decide) k3_pairFrom_9 rfl dX3_pairFrom_120 ?_
      refine lv_iload hx hb dX3_pairFrom_123 (lv_at hl 5 rfl) ?_
      refine lv_iload hx hb dX3_pairFrom_125 (lv_at hl 4 rfl) ?_
      obtain ⟨hv7, h⟩ := h
      refine gx_ast (ws' := w3 o1 q1 cy (sA S6 0 x5 x4) ++ w4 o2 q2 cy V2) C hG 1 rfl hv7 dX3_pairFrom_127 rfl (fun H locs hG => ?_)
      obtain ⟨S8, eS8⟩ : ∃ z : MS, z = sA S6 0 x5 x4 := ⟨_, rfl⟩
      rw [← eS8] at hG
      replace h := h S8 eS8
      refine lv_aload_n hx hb dX3_pairFrom_128 rfl (lv_at hl 1 rfl) ?_
      refine lv_aload_n hx hb dX3_pairFrom_129 rfl (lv_at hl 2 rfl) ?_
      refine lv_iload hx hb dX3_pairFrom_130 (lv_at hl 4 rfl) ?_
      refine lv_iconst (v := 1) hx hb dX3_pairFrom_132 (by decide) ?_
      refine lv_iadd hx hb dX3_pairFrom_133 ?_
      refine lv_iload_n hx hb dX3_pairFrom_134 rfl (lv_at hl 3 rfl) ?_
      refine lv_iconst (v := 1) hx hb dX3_pairFrom_135 (by decide) ?_
      refine lv_iadd hx hb dX3_pairFrom_136 ?_
      refine callSV (As := [.ref o1, .ref o2, .int (x4 + (1 : Int32)), .int (x3 + (1 : Int32))]) (rest := []) C hG (hRec (x4 + (1 : Int32)) (x3 + (1 : Int32)) S8 V2 _ h) 4 gX3_pairFrom_X3_pairFrom rfl (by decide +kernel) ⟨⟨by dsimp only; omega, by dsimp only; omega⟩, rfl, rfl⟩ (Foc.all (w' := (fun z : MS × MS => (w3 o1 q1 cy z.1 ++ w4 o2 q2 cy z.2 : va_W))) (S' := (S8, V2)) C.2.2.2.2.2.2.2.2.1) rfl hl.1 rfl (Nat.le_of_ble_eq_true rfl) dX3_pairFrom_137 ⟨Nat.zero_le _, Nat.zero_le _⟩ (fun  z H locs h hG => ?_)
      obtain ⟨S9, u10⟩ := z
      obtain ⟨eu10, h⟩ := h
      have eu10 : u10 = V2 := eu10
      replace h := h
      subst u10
      have hG : GW D A s (w3 o1 q1 cy S9 ++ w4 o2 q2 cy V2) H locs := hG
      refine lv_aload_n hx hb dX3_pairFrom_140 rfl (lv_at hl 1 rfl) ?_
      refine gx_get C i3_pairFrom_X3 hG 0 rfl rfl 0 (by decide) k3_pairFrom_9 rfl dX3_pairFrom_141 ?_
      refine lv_iload hx hb dX3_pairFrom_144 (lv_at hl 4 rfl) ?_
      refine lv_bipush (v := -9) hx hb dX3_pairFrom_146 (by decide) ?_
      refine gx_ast (ws' := w3 o1 q1 cy (sA S9 0 x4 (-9 : Int32)) ++ w4 o2 q2 cy V2) C hG 1 rfl hv5 dX3_pairFrom_148 rfl (fun H locs hG => ?_)
      obtain ⟨S11, eS11⟩ : ∃ z : MS, z = sA S9 0 x4 (-9 : Int32) := ⟨_, rfl⟩
      rw [← eS11] at hG
      replace h := h S11 eS11
      refine lv_aload_n hx hb dX3_pairFrom_149 rfl (lv_at hl 1 rfl) ?_
      refine gx_get C i3_pairFrom_X3 hG 0 rfl rfl 0 (by decide) k3_pairFrom_9 rfl dX3_pairFrom_150 ?_
      refine lv_iload hx hb dX3_pairFrom_153 (lv_at hl 5 rfl) ?_
      refine lv_bipush (v := -9) hx hb dX3_pairFrom_155 (by decide) ?_
      refine gx_ast (ws' := w3 o1 q1 cy (sA S11 0 x5 (-9 : Int32)) ++ w4 o2 q2 cy V2) C hG 1 rfl hv7 dX3_pairFrom_157 rfl (fun H locs hG => ?_)
      obtain ⟨S12, eS12⟩ : ∃ z : MS, z = sA S11 0 x5 (-9 : Int32) := ⟨_, rfl⟩
      rw [← eS12] at hG
      replace h := h S12 eS12
      exact b3_pairFrom_b158 (K55 := K55) x3 x4 x5 S12 V2 C hRec hK55 h hG (lv_sub hl [1, 2, 3, 4, 5] rfl)
def w3_pairFrom_d55 (Rec : Int32 → Int32 → MS → MS → (MS → Prop) → Prop) (K55 : Int32 → MS → Prop) (x3 : Int32) (x4 : Int32) (x5 : Int32) (V1 : MS) (V2 : MS) (Q : MS → Prop) : Prop :=
  (((fI V1 7) ≤ x5 → w3_pairFrom_b164 Rec V1 V2 Q) ∧ (¬ (fI V1 7) ≤ x5 → w3_isFree x5 V1 (fun r2 => ((r2 = 0 → w3_pairFrom_b164 Rec V1 V2 Q) ∧ (¬ r2 = 0 → ((¬ (fI V1 12) = 0 → w3_pairFrom_b164 Rec V1 V2 Q) ∧ ((fI V1 12) = 0 → ((¬ ((x5 - x4) &&& (1 : Int32)) = (1 : Int32) → w3_pairFrom_b96 Rec K55 x3 x4 x5 (0 : Int32) V1 V2 Q) ∧ (((x5 - x4) &&& (1 : Int32)) = (1 : Int32) → w3_pairFrom_b96 Rec K55 x3 x4 x5 (1 : Int32) V1 V2 Q)))))))))
set_option maxHeartbeats 4000000 in
set_option maxRecDepth 100000 in
theorem b3_pairFrom_d55 {p : Program} {l : Launch} {e : Env} {s : State} {m : MethodId} {args : Array Value} {below : List Frame} {meth : Method} {c : Code} {D : va_G} {cy : Nat → ClassId} {A : Nat → Prop} {o1 : Nat} {q1 : Nat → Nat} {o2 : Nat} {q2 : Nat → Nat} {n : Nat} {Rec : Int32 → Int32 → MS → MS → (MS → Prop) → Prop} {K55 : Int32 → MS → Prop} (x3 : Int32) (x4 : Int32) (x5 : Int32) (V1 : MS) (V2 : MS) {Q : MS → Prop} (C : Cx p s m args meth c cX3_pairFrom 7 (none) wsX3_pairFrom RX3 D cy nestWs A) (hRec : ∀ (x2 : Int32) (x3 : Int32) (V1 : MS) (V2 : MS) (Q : MS → Prop), Rec x2 x3 V1 V2 Q → MetV l yX3_pairFrom wsX3_pairFrom ({ frames := 4 + n, cells := 0, slots := 0, locals := 87 + n * 26 } : Room) D cy nestWs (fun z : MS × MS => (w3 o1 q1 cy z.1 ++ w4 o2 q2 cy z.2 : va_W)) [.ref o1, .ref o2, .int x2, .int x3] (V1, V2) (fun z => z.2 = V2 ∧ Q z.1)) (hK55 : ∀ (x5 : Int32) (V1 : MS) (H : Heap) (locs : List Loc) (ls : Array Slot), K55 x5 V1 → GW D A s (w3 o1 q1 cy V1 ++ w4 o2 q2 cy V2) H locs → lv_has ls 7 [(0, .ref o1), (1, .ref o2), (3, .int x3), (4, .int x4), (5, .int x5)] → W p l e ({ frames := 4 + (n + 1), cells := 0, slots := 0, locals := 87 + (n + 1) * 26 } : Room) s m args below meth c H locs 0 0 (MQ below (va_Qv (fun z => z.2 = V2 ∧ Q z.1) (B1 D (fun z : MS × MS => (w3 o1 q1 cy z.1 ++ w4 o2 q2 cy z.2 : va_W)) A) A) args s 0 0 A) (F0 m 55 ls [])) (h : w3_pairFrom_d55 Rec K55 x3 x4 x5 V1 V2 Q) {H : Heap} {locs : List Loc} (hG : GW D A s (w3 o1 q1 cy V1 ++ w4 o2 q2 cy V2) H locs) {ls : Array Slot} (hl : lv_has ls 7 [(0, .ref o1), (1, .ref o2), (3, .int x3), (4, .int x4), (5, .int x5)]) : W p l e ({ frames := 4 + (n + 1), cells := 0, slots := 0, locals := 87 + (n + 1) * 26 } : Room) s m args below meth c H locs 0 0 (MQ below (va_Qv (fun z => z.2 = V2 ∧ Q z.1) (B1 D (fun z : MS × MS => (w3 o1 q1 cy z.1 ++ w4 o2 q2 cy z.2 : va_W)) A) A) args s 0 0 A) (F0 m 55 ls []) := by
  have hx := C.1
  have hb := C.2.1
  unfold w3_pairFrom_d55 at h
  refine lv_iload hx hb dX3_pairFrom_55 (lv_at hl 4 rfl) ?_
  refine lv_aload_n hx hb dX3_pairFrom_57 rfl (lv_at hl 0 rfl) ?_
  refine gx_get C i3_pairFrom_X3 hG 0 rfl rfl 7 (by decide) k3_pairFrom_52 rfl dX3_pairFrom_58 ?_
  refine lv_icmp_ge (tgt := 164) hx hb dX3_pairFrom_61 (by decide) (fun c1 => ?_) (fun c1 => ?_)
  · replace h := h.1 c1
    exact b3_pairFrom_b164 V1 V2 C hRec h hG (lv_sub hl [0] rfl)
  · replace h := h.2 c1
    refine lv_aload_n hx hb dX3_pairFrom_64 rfl (lv_at hl 0 rfl) ?_
    refine lv_iload hx hb dX3_pairFrom_65 (lv_at hl 4 rfl) ?_
    refine callVI (As := [.int x5]) (rest := []) C hG (c3_isFree l D cy o1 q1 x5 V1 _ h) 1 gX3_pairFrom_X3_isFree rfl (by decide +kernel) ⟨⟨by dsimp only; omega, by dsimp only; omega⟩, rfl, rfl⟩ rfl rfl (Foc.pq (rv := fun z : MS => (w3 o1 q1 cy z ++ w4 o2 q2 cy V2 : va_W)) C.2.2.2.2.2.2.2.2.1 [0, 1, 2, 3, 4, 5, 6, 7] [8, 9, 10, 11] [4, 5, 6, 7, 8, 9, 10, 11, 0, 1, 2, 3] rfl rfl rfl rfl rfl (by decide) rfl (fun _ => rfl) (fun _ => rfl)) rfl hl.1 rfl (Nat.le_of_ble_eq_true rfl) dX3_pairFrom_67 ⟨Nat.zero_le _, Nat.zero_le _⟩ (fun r2 u3 H locs h hG => ?_)
    obtain ⟨eu3, h⟩ := h
    have eu3 : u3 = V1 := eu3
    subst u3
    have hG : GW D A s (w3 o1 q1 cy V1 ++ w4 o2 q2 cy V2) H locs := hG
    refine lv_if_eq (tgt := 164) hx hb dX3_pairFrom_70 (by decide) (fun c4 => ?_) (fun c4 => ?_)
    · replace h := h.1 c4
      exact b3_pairFrom_b164 V1 V2 C hRec h hG (lv_sub hl [0] rfl)
    · replace h := h.2 c4
      refine lv_aload_n hx hb dX3_pairFrom_73 rfl (lv_at hl 0 rfl) ?_
      refine gx_get C i3_pairFrom_X3 hG 0 rfl rfl 12 (by decide) k3_pairFrom_64 rfl dX3_pairFrom_74 ?_
      refine lv_if_ne (tgt := 164) hx hb dX3_pairFrom_77 (by decide) (fun c5 => ?_) (fun c5 => ?_)
      · replace h := h.1 c5
        exact b3_pairFrom_b164 V1 V2 C hRec h hG (lv_sub hl [0] rfl)
      · replace h := h.2 c5
        refine lv_iload hx hb dX3_pairFrom_80 (lv_at hl 4 rfl) ?_
        refine lv_iload hx hb dX3_pairFrom_82 (lv_at hl 3 rfl) ?_
        refine lv_isub hx hb dX3_pairFrom_84 ?_
        refine lv_iconst (v := 1) hx hb dX3_pairFrom_85 (by decide) ?_
        refine lv_iand hx hb dX3_pairFrom_86 ?_
        refine lv_iconst (v := 1) hx hb dX3_pairFrom_87 (by decide) ?_
        refine lv_icmp_ne (tgt := 95) hx hb dX3_pairFrom_88 (by decide) (fun c6 => ?_) (fun c6 => ?_)
        · replace h := h.1 c6
          refine lv_iconst (v := 0) hx hb dX3_pairFrom_95 (by decide) ?_
          exact b3_pairFrom_b96 (K55 := K55) x3 x4 x5 (0 : Int32) V1 V2 C hRec hK55 h hG hl
        · replace h := h.2 c6
          refine lv_iconst (v := 1) hx hb dX3_pairFrom_91 (by decide) ?_
          refine lv_goto (tgt := 96) hx hb dX3_pairFrom_92 (by decide) ?_
          exact b3_pairFrom_b96 (K55 := K55) x3 x4 x5 (1 : Int32) V1 V2 C hRec hK55 h hG hl
def w3_pairFrom_F55 (Rec : Int32 → Int32 → MS → MS → (MS → Prop) → Prop) (x3 : Int32) (x4 : Int32) (V2 : MS) (Q : MS → Prop) (K : Int32 × MS → Prop) (a : Int32 × MS) : Prop := w3_pairFrom_d55 Rec (fun y0 y1 => K (y0, y1)) x3 x4 a.1 a.2 V2 Q
def w3_pairFrom_b55 (Rec : Int32 → Int32 → MS → MS → (MS → Prop) → Prop) (x3 : Int32) (x4 : Int32) (x5 : Int32) (V1 : MS) (V2 : MS) (Q : MS → Prop) : Prop := lp (w3_pairFrom_F55 Rec x3 x4 V2 Q) (x5, V1)
set_option maxHeartbeats 4000000 in
set_option maxRecDepth 100000 in
theorem b3_pairFrom_b55 {p : Program} {l : Launch} {e : Env} {s : State} {m : MethodId} {args : Array Value} {below : List Frame} {meth : Method} {c : Code} {D : va_G} {cy : Nat → ClassId} {A : Nat → Prop} {o1 : Nat} {q1 : Nat → Nat} {o2 : Nat} {q2 : Nat → Nat} {n : Nat} {Rec : Int32 → Int32 → MS → MS → (MS → Prop) → Prop} (x3 : Int32) (x4 : Int32) (x5 : Int32) (V1 : MS) (V2 : MS) {Q : MS → Prop} (C : Cx p s m args meth c cX3_pairFrom 7 (none) wsX3_pairFrom RX3 D cy nestWs A) (hRec : ∀ (x2 : Int32) (x3 : Int32) (V1 : MS) (V2 : MS) (Q : MS → Prop), Rec x2 x3 V1 V2 Q → MetV l yX3_pairFrom wsX3_pairFrom ({ frames := 4 + n, cells := 0, slots := 0, locals := 87 + n * 26 } : Room) D cy nestWs (fun z : MS × MS => (w3 o1 q1 cy z.1 ++ w4 o2 q2 cy z.2 : va_W)) [.ref o1, .ref o2, .int x2, .int x3] (V1, V2) (fun z => z.2 = V2 ∧ Q z.1)) (h : w3_pairFrom_b55 Rec x3 x4 x5 V1 V2 Q) {H : Heap} {locs : List Loc} (hG : GW D A s (w3 o1 q1 cy V1 ++ w4 o2 q2 cy V2) H locs) {ls : Array Slot} (hl : lv_has ls 7 [(0, .ref o1), (1, .ref o2), (3, .int x3), (4, .int x4), (5, .int x5)]) : W p l e ({ frames := 4 + (n + 1), cells := 0, slots := 0, locals := 87 + (n + 1) * 26 } : Room) s m args below meth c H locs 0 0 (MQ below (va_Qv (fun z => z.2 = V2 ∧ Q z.1) (B1 D (fun z : MS × MS => (w3 o1 q1 cy z.1 ++ w4 o2 q2 cy z.2 : va_W)) A) A) args s 0 0 A) (F0 m 55 ls []) := by
  obtain ⟨k, hn⟩ := h
  induction k generalizing x5 V1 H locs ls with
  | zero => exact hn.elim
  | succ k ih => exact b3_pairFrom_d55 (K55 := fun y0 y1 => itr (w3_pairFrom_F55 Rec x3 x4 V2 Q) k (y0, y1)) x3 x4 x5 V1 V2 C hRec (fun x5 V1 H locs ls hk hG hl => ih x5 V1 hG hl hk) hn hG hl
def w3_pairFrom_b27 (Rec : Int32 → Int32 → MS → MS → (MS → Prop) → Prop) (x3 : Int32) (x4 : Int32) (V1 : MS) (V2 : MS) (Q : MS → Prop) : Prop :=
  ((x4 < (fI V1 7) → ((x3 < (25 : Int32) → ∀ y3 : Int32, y3 = (x4 + (1 : Int32)) → w3_pairFrom_b55 Rec x3 x4 y3 V1 V2 Q) ∧ (¬ x3 < (25 : Int32) → Q V1))) ∧ (¬ x4 < (fI V1 7) → w3_judge V1 V2 (fun S4 => Q S4)))
set_option maxHeartbeats 4000000 in
set_option maxRecDepth 100000 in
theorem b3_pairFrom_b27 {p : Program} {l : Launch} {e : Env} {s : State} {m : MethodId} {args : Array Value} {below : List Frame} {meth : Method} {c : Code} {D : va_G} {cy : Nat → ClassId} {A : Nat → Prop} {o1 : Nat} {q1 : Nat → Nat} {o2 : Nat} {q2 : Nat → Nat} {n : Nat} {Rec : Int32 → Int32 → MS → MS → (MS → Prop) → Prop} (x3 : Int32) (x4 : Int32) (V1 : MS) (V2 : MS) {Q : MS → Prop} (C : Cx p s m args meth c cX3_pairFrom 7 (none) wsX3_pairFrom RX3 D cy nestWs A) (hRec : ∀ (x2 : Int32) (x3 : Int32) (V1 : MS) (V2 : MS) (Q : MS → Prop), Rec x2 x3 V1 V2 Q → MetV l yX3_pairFrom wsX3_pairFrom ({ frames := 4 + n, cells := 0, slots := 0, locals := 87 + n * 26 } : Room) D cy nestWs (fun z : MS × MS => (w3 o1 q1 cy z.1 ++ w4 o2 q2 cy z.2 : va_W)) [.ref o1, .ref o2, .int x2, .int x3] (V1, V2) (fun z => z.2 = V2 ∧ Q z.1)) (h : w3_pairFrom_b27 Rec x3 x4 V1 V2 Q) {H : Heap} {locs : List Loc} (hG : GW D A s (w3 o1 q1 cy V1 ++ w4 o2 q2 cy V2) H locs) {ls : Array Slot} (hl : lv_has ls 7 [(0, .ref o1), (1, .ref o2), (3, .int x3), (4, .int x4)]) : W p l e ({ frames := 4 + (n + 1), cells := 0, slots := 0, locals := 87 + (n + 1) * 26 } : Room) s m args below meth c H locs 0 0 (MQ below (va_Qv (fun z => z.2 = V2 ∧ Q z.1) (B1 D (fun z : MS × MS => (w3 o1 q1 cy z.1 ++ w4 o2 q2 cy z.2 : va_W)) A) A) args s 0 0 A) (F0 m 27 ls []) := by
  have hx := C.1
  have hb := C.2.1
  unfold w3_pairFrom_b27 at h
  refine lv_iload hx hb dX3_pairFrom_27 (lv_at hl 3 rfl) ?_
  refine lv_aload_n hx hb dX3_pairFrom_29 rfl (lv_at hl 0 rfl) ?_
  refine gx_get C i3_pairFrom_X3 hG 0 rfl rfl 7 (by decide) k3_pairFrom_52 rfl dX3_pairFrom_30 ?_
  refine lv_icmp_lt (tgt := 42) hx hb dX3_pairFrom_33 (by decide) (fun c1 => ?_) (fun c1 => ?_)
  · replace h := h.1 c1
    refine lv_iload_n hx hb dX3_pairFrom_42 rfl (lv_at hl 2 rfl) ?_
    refine lv_bipush (v := 25) hx hb dX3_pairFrom_43 (by decide) ?_
    refine lv_icmp_lt (tgt := 49) hx hb dX3_pairFrom_45 (by decide) (fun c2 => ?_) (fun c2 => ?_)
    · replace h := h.1 c2
      refine lv_iload hx hb dX3_pairFrom_49 (lv_at hl 3 rfl) ?_
      refine lv_iconst (v := 1) hx hb dX3_pairFrom_51 (by decide) ?_
      refine lv_iadd hx hb dX3_pairFrom_52 ?_
      refine lv_topi (fun y3 ey3 => ?_)
      replace h := h y3 ey3
      refine lv_istore (lv' := [(5, .int y3), (0, .ref o1), (1, .ref o2), (3, .int x3), (4, .int x4)]) hx hb dX3_pairFrom_53 hl (by decide) rfl (fun ls hl => ?_)
      exact b3_pairFrom_b55 x3 x4 y3 V1 V2 C hRec h hG (lv_sub hl [1, 2, 3, 4, 0] rfl)
    · replace h := h.2 c2
      exact retV (w := (fun z : MS × MS => (w3 o1 q1 cy z.1 ++ w4 o2 q2 cy z.2 : va_W))) (S := (V1, V2)) (Qp := (fun z => z.2 = V2 ∧ Q z.1)) C hG ⟨rfl, h⟩ dX3_pairFrom_48
  · replace h := h.2 c1
    refine lv_aload_n hx hb dX3_pairFrom_36 rfl (lv_at hl 0 rfl) ?_
    refine lv_aload_n hx hb dX3_pairFrom_37 rfl (lv_at hl 1 rfl) ?_
    refine callVV (As := [.ref o2]) (rest := []) C hG (c3_judge l D cy o1 q1 o2 q2 V1 V2 _ h) 1 gX3_pairFrom_X3_judge rfl (by decide +kernel) ⟨⟨by dsimp only; omega, by dsimp only; omega⟩, rfl, rfl⟩ rfl rfl (Foc.all (w' := (fun z : MS × MS => (w3 o1 q1 cy z.1 ++ w4 o2 q2 cy z.2 : va_W))) (S' := (V1, V2)) C.2.2.2.2.2.2.2.2.1) rfl hl.1 rfl (Nat.le_of_ble_eq_true rfl) dX3_pairFrom_38 ⟨Nat.zero_le _, Nat.zero_le _⟩ (fun  z H locs h hG => ?_)
    obtain ⟨S4, u5⟩ := z
    obtain ⟨eu5, h⟩ := h
    have eu5 : u5 = V2 := eu5
    replace h := h
    subst u5
    have hG : GW D A s (w3 o1 q1 cy S4 ++ w4 o2 q2 cy V2) H locs := hG
    exact retV (w := (fun z : MS × MS => (w3 o1 q1 cy z.1 ++ w4 o2 q2 cy z.2 : va_W))) (S := (S4, V2)) (Qp := (fun z => z.2 = V2 ∧ Q z.1)) C hG ⟨rfl, h⟩ dX3_pairFrom_41
def w3_pairFrom_d3 (Rec : Int32 → Int32 → MS → MS → (MS → Prop) → Prop) (K3 : Int32 → Prop) (x3 : Int32) (x4 : Int32) (V1 : MS) (V2 : MS) (Q : MS → Prop) : Prop :=
  (((fI V1 7) ≤ x4 → w3_pairFrom_b27 Rec x3 x4 V1 V2 Q) ∧ (¬ (fI V1 7) ≤ x4 → w3_isFree x4 V1 (fun r2 => ((¬ r2 = 0 → w3_pairFrom_b27 Rec x3 x4 V1 V2 Q) ∧ (r2 = 0 → ∀ y5 : Int32, y5 = x4 + 1 → K3 y5)))))
set_option maxHeartbeats 4000000 in
set_option maxRecDepth 100000 in
theorem b3_pairFrom_d3 {p : Program} {l : Launch} {e : Env} {s : State} {m : MethodId} {args : Array Value} {below : List Frame} {meth : Method} {c : Code} {D : va_G} {cy : Nat → ClassId} {A : Nat → Prop} {o1 : Nat} {q1 : Nat → Nat} {o2 : Nat} {q2 : Nat → Nat} {n : Nat} {Rec : Int32 → Int32 → MS → MS → (MS → Prop) → Prop} {K3 : Int32 → Prop} (x3 : Int32) (x4 : Int32) (V1 : MS) (V2 : MS) {Q : MS → Prop} (C : Cx p s m args meth c cX3_pairFrom 7 (none) wsX3_pairFrom RX3 D cy nestWs A) (hRec : ∀ (x2 : Int32) (x3 : Int32) (V1 : MS) (V2 : MS) (Q : MS → Prop), Rec x2 x3 V1 V2 Q → MetV l yX3_pairFrom wsX3_pairFrom ({ frames := 4 + n, cells := 0, slots := 0, locals := 87 + n * 26 } : Room) D cy nestWs (fun z : MS × MS => (w3 o1 q1 cy z.1 ++ w4 o2 q2 cy z.2 : va_W)) [.ref o1, .ref o2, .int x2, .int x3] (V1, V2) (fun z => z.2 = V2 ∧ Q z.1)) (hK3 : ∀ (x4 : Int32) (H : Heap) (locs : List Loc) (ls : Array Slot), K3 x4 → GW D A s (w3 o1 q1 cy V1 ++ w4 o2 q2 cy V2) H locs → lv_has ls 7 [(0, .ref o1), (1, .ref o2), (3, .int x3), (4, .int x4)] → W p l e ({ frames := 4 + (n + 1), cells := 0, slots := 0, locals := 87 + (n + 1) * 26 } : Room) s m args below meth c H locs 0 0 (MQ below (va_Qv (fun z => z.2 = V2 ∧ Q z.1) (B1 D (fun z : MS × MS => (w3 o1 q1 cy z.1 ++ w4 o2 q2 cy z.2 : va_W)) A) A) args s 0 0 A) (F0 m 3 ls [])) (h : w3_pairFrom_d3 Rec K3 x3 x4 V1 V2 Q) {H : Heap} {locs : List Loc} (hG : GW D A s (w3 o1 q1 cy V1 ++ w4 o2 q2 cy V2) H locs) {ls : Array Slot} (hl : lv_has ls 7 [(0, .ref o1), (1, .ref o2), (3, .int x3), (4, .int x4)]) : W p l e ({ frames := 4 + (n + 1), cells := 0, slots := 0, locals := 87 + (n + 1) * 26 } : Room) s m args below meth c H locs 0 0 (MQ below (va_Qv (fun z => z.2 = V2 ∧ Q z.1) (B1 D (fun z : MS × MS => (w3 o1 q1 cy z.1 ++ w4 o2 q2 cy z.2 : va_W)) A) A) args s 0 0 A) (F0 m 3 ls []) := by
  have hx := C.1
  have hb := C.2.1
  unfold w3_pairFrom_d3 at h
  refine lv_iload hx hb dX3_pairFrom_3 (lv_at hl 3 rfl) ?_
  refine lv_aload_n hx hb dX3_pairFrom_5 rfl (lv_at hl 0 rfl) ?_
  refine gx_get C i3_pairFrom_X3 hG 0 rfl rfl 7 (by decide) k3_pairFrom_52 rfl dX3_pairFrom_6 ?_
  refine lv_icmp_ge (tgt := 27) hx hb dX3_pairFrom_9 (by decide) (fun c1 => ?_) (fun c1 => ?_)
  · replace h := h.1 c1
    exact b3_pairFrom_b27 x3 x4 V1 V2 C hRec h hG hl
  · replace h := h.2 c1
    refine lv_aload_n hx hb dX3_pairFrom_12 rfl (lv_at hl 0 rfl) ?_
    refine lv_iload hx hb dX3_pairFrom_13 (lv_at hl 3 rfl) ?_
    refine callVI (As := [.int x4]) (rest := []) C hG (c3_isFree l D cy o1 q1 x4 V1 _ h) 1 gX3_pairFrom_X3_isFree rfl (by decide +kernel) ⟨⟨by dsimp only; omega, by dsimp only; omega⟩, rfl, rfl⟩ rfl rfl (Foc.pq (rv := fun z : MS => (w3 o1 q1 cy z ++ w4 o2 q2 cy V2 : va_W)) C.2.2.2.2.2.2.2.2.1 [0, 1, 2, 3, 4, 5, 6, 7] [8, 9, 10, 11] [4, 5, 6, 7, 8, 9, 10, 11, 0, 1, 2, 3] rfl rfl rfl rfl rfl (by decide) rfl (fun _ => rfl) (fun _ => rfl)) rfl hl.1 rfl (Nat.le_of_ble_eq_true rfl) dX3_pairFrom_15 ⟨Nat.zero_le _, Nat.zero_le _⟩ (fun r2 u3 H locs h hG => ?_)
    obtain ⟨eu3, h⟩ := h
    have eu3 : u3 = V1 := eu3
    subst u3
    have hG : GW D A s (w3 o1 q1 cy V1 ++ w4 o2 q2 cy V2) H locs := hG
    refine lv_if_ne (tgt := 27) hx hb dX3_pairFrom_18 (by decide) (fun c4 => ?_) (fun c4 => ?_)
    · replace h := h.1 c4
      exact b3_pairFrom_b27 x3 x4 V1 V2 C hRec h hG hl
    · replace h := h.2 c4
      obtain ⟨y5, ey5⟩ : ∃ y : Int32, y = x4 + 1 := ⟨_, rfl⟩
      replace h := h y5 ey5
      refine lv_iinc (v := y5) (lv' := [(4, .int y5), (0, .ref o1), (1, .ref o2), (3, .int x3)]) hx hb dX3_pairFrom_21 hl (k := 3) rfl (by rw [ey5]; rfl) (by decide) rfl (fun ls hl => ?_)
      refine lv_goto (tgt := 3) hx hb dX3_pairFrom_24 (by decide) ?_
      exact hK3 y5 _ _ _ h hG (lv_sub hl [1, 2, 3, 0] rfl)
def w3_pairFrom_F3 (Rec : Int32 → Int32 → MS → MS → (MS → Prop) → Prop) (x3 : Int32) (V1 : MS) (V2 : MS) (Q : MS → Prop) (K : Int32 → Prop) (a : Int32) : Prop := w3_pairFrom_d3 Rec (fun y0 => K (y0)) x3 a V1 V2 Q
def w3_pairFrom_b3 (Rec : Int32 → Int32 → MS → MS → (MS → Prop) → Prop) (x3 : Int32) (x4 : Int32) (V1 : MS) (V2 : MS) (Q : MS → Prop) : Prop := lp (w3_pairFrom_F3 Rec x3 V1 V2 Q) (x4)
set_option maxHeartbeats 4000000 in
set_option maxRecDepth 100000 in
theorem b3_pairFrom_b3 {p : Program} {l : Launch} {e : Env} {s : State} {m : MethodId} {args : Array Value} {below : List Frame} {meth : Method} {c : Code} {D : va_G} {cy : Nat → ClassId} {A : Nat → Prop} {o1 : Nat} {q1 : Nat → Nat} {o2 : Nat} {q2 : Nat → Nat} {n : Nat} {Rec : Int32 → Int32 → MS → MS → (MS → Prop) → Prop} (x3 : Int32) (x4 : Int32) (V1 : MS) (V2 : MS) {Q : MS → Prop} (C : Cx p s m args meth c cX3_pairFrom 7 (none) wsX3_pairFrom RX3 D cy nestWs A) (hRec : ∀ (x2 : Int32) (x3 : Int32) (V1 : MS) (V2 : MS) (Q : MS → Prop), Rec x2 x3 V1 V2 Q → MetV l yX3_pairFrom wsX3_pairFrom ({ frames := 4 + n, cells := 0, slots := 0, locals := 87 + n * 26 } : Room) D cy nestWs (fun z : MS × MS => (w3 o1 q1 cy z.1 ++ w4 o2 q2 cy z.2 : va_W)) [.ref o1, .ref o2, .int x2, .int x3] (V1, V2) (fun z => z.2 = V2 ∧ Q z.1)) (h : w3_pairFrom_b3 Rec x3 x4 V1 V2 Q) {H : Heap} {locs : List Loc} (hG : GW D A s (w3 o1 q1 cy V1 ++ w4 o2 q2 cy V2) H locs) {ls : Array Slot} (hl : lv_has ls 7 [(0, .ref o1), (1, .ref o2), (3, .int x3), (4, .int x4)]) : W p l e ({ frames := 4 + (n + 1), cells := 0, slots := 0, locals := 87 + (n + 1) * 26 } : Room) s m args below meth c H locs 0 0 (MQ below (va_Qv (fun z => z.2 = V2 ∧ Q z.1) (B1 D (fun z : MS × MS => (w3 o1 q1 cy z.1 ++ w4 o2 q2 cy z.2 : va_W)) A) A) args s 0 0 A) (F0 m 3 ls []) := by
  obtain ⟨k, hn⟩ := h
  induction k generalizing x4 H locs ls with
  | zero => exact hn.elim
  | succ k ih => exact b3_pairFrom_d3 (K3 := fun y0 => itr (w3_pairFrom_F3 Rec x3 V1 V2 Q) k (y0)) x3 x4 V1 V2 C hRec (fun x4 H locs ls hk hG hl => ih x4 hG hl hk) hn hG hl
def w3_pairFrom_r (Rec : Int32 → Int32 → MS → MS → (MS → Prop) → Prop) (x2 : Int32) (x3 : Int32) (V1 : MS) (V2 : MS) (Q : MS → Prop) : Prop :=
  w3_pairFrom_b3 Rec x3 x2 V1 V2 Q
def w3_pairFrom : Nat → Int32 → Int32 → MS → MS → (MS → Prop) → Prop
  | 0 => fun _ _ _ _ _ => False
  | n + 1 => w3_pairFrom_r (w3_pairFrom n)
set_option maxHeartbeats 4000000 in
set_option maxRecDepth 100000 in
theorem c3_pairFrom_n (l : Launch) (D : va_G) (cy : Nat → ClassId) (o1 : Nat) (q1 : Nat → Nat) (o2 : Nat) (q2 : Nat → Nat) (n : Nat) : ∀ (x2 : Int32) (x3 : Int32) (V1 : MS) (V2 : MS) (Q : MS → Prop) (h : w3_pairFrom n x2 x3 V1 V2 Q), MetV l yX3_pairFrom wsX3_pairFrom ({ frames := 4 + n, cells := 0, slots := 0, locals := 87 + n * 26 } : Room) D cy nestWs (fun z : MS × MS => (w3 o1 q1 cy z.1 ++ w4 o2 q2 cy z.2 : va_W)) [.ref o1, .ref o2, .int x2, .int x3] (V1, V2) (fun z => z.2 = V2 ∧ Q z.1) := by
  induction n with
  | zero => intro x2 x3 V1 V2 Q h; exact h.elim
  | succ n ih =>
    intro x2 x3 V1 V2 Q h
    have hRec := ih
    replace h : w3_pairFrom_r (w3_pairFrom n) x2 x3 V1 V2 Q := h
    generalize w3_pairFrom n = Rec at h hRec
    refine MetV.mk RX3 cX3_pairFrom 7 (by decide) rfl nestWs_ok rfl (Nat.le_of_ble_eq_true rfl) ?_
    intro p e s m below meth c A ls C hG hl
    have hl : lv_has ls 7 [(0, .ref o1), (1, .ref o2), (2, .int x2), (3, .int x3)] := hl
    have hx := C.1
    have hb := C.2.1
    unfold w3_pairFrom_r at h
    refine lv_iload_n hx hb dX3_pairFrom_0 rfl (lv_at hl 2 rfl) ?_
    refine lv_istore (lv' := [(4, .int x2), (0, .ref o1), (1, .ref o2), (2, .int x2), (3, .int x3)]) hx hb dX3_pairFrom_1 hl (by decide) rfl (fun ls hl => ?_)
    exact b3_pairFrom_b3 x3 x2 V1 V2 C hRec h hG (lv_sub hl [1, 2, 4, 0] rfl)
theorem c3_pairFrom (l : Launch) (D : va_G) (cy : Nat → ClassId) (o1 : Nat) (q1 : Nat → Nat) (o2 : Nat) (q2 : Nat → Nat) (x2 : Int32) (x3 : Int32) (V1 : MS) (V2 : MS) (Q : MS → Prop) (h : w3_pairFrom 27 x2 x3 V1 V2 Q) : MetV l yX3_pairFrom wsX3_pairFrom ({ frames := 31, cells := 0, slots := 0, locals := 789 } : Room) D cy nestWs (fun z : MS × MS => (w3 o1 q1 cy z.1 ++ w4 o2 q2 cy z.2 : va_W)) [.ref o1, .ref o2, .int x2, .int x3] (V1, V2) (fun z => z.2 = V2 ∧ Q z.1) := c3_pairFrom_n l D cy o1 q1 o2 q2 27 x2 x3 V1 V2 Q h
-- X3_keepFirst
theorem i3_keepFirst_X3 : ∀ w ∈ wsX30, w ∈ wsX3_keepFirst := fun w h => List.mem_cons_of_mem _ (inG_X3 w h)
theorem k3_keepFirst_21 : Cond.fieldLink RX3 21 "PaperBodies$Gluer" "firstPartners" "[I" ∈ wsX3_keepFirst := (List.mem_cons_of_mem _ mw_134)
theorem k3_keepFirst_24 : Cond.fieldLink RX3 24 "PaperBodies$Gluer" "firstCorners" "[I" ∈ wsX3_keepFirst := (List.mem_cons_of_mem _ mw_135)
theorem k3_keepFirst_27 : Cond.fieldLink RX3 27 "PaperBodies$Gluer" "keptPartners" "[I" ∈ wsX3_keepFirst := (List.mem_cons_of_mem _ mw_136)
theorem k3_keepFirst_30 : Cond.fieldLink RX3 30 "PaperBodies$Gluer" "keptCorners" "[I" ∈ wsX3_keepFirst := (List.mem_cons_of_mem _ mw_137)
theorem k3_keepFirst_33 : Cond.fieldLink RX3 33 "PaperBodies$Gluer" "keptEdges" "I" ∈ wsX3_keepFirst := (List.mem_cons_of_mem _ mw_139)
theorem k3_keepFirst_52 : Cond.fieldLink RX3 52 "PaperBodies$Gluer" "edges" "I" ∈ wsX3_keepFirst := (List.mem_cons_of_mem _ mw_152)
theorem k3_keepFirst_55 : Cond.fieldLink RX3 55 "PaperBodies$Gluer" "legalOnes" "I" ∈ wsX3_keepFirst := (List.mem_cons_of_mem _ mw_158)
theorem k3_keepFirst_75 : (Cond.methodLink RX3 75 arraycopyName ∈ wsX3_keepFirst ∧ Cond.native arraycopyName ∈ wsX3_keepFirst) ∧ (Cond.static arraycopyName ∈ wsX3_keepFirst ∧ Cond.initialized "java/lang/System" ∈ wsX3_keepFirst) := ⟨⟨(List.mem_cons_of_mem _ mw_159), (List.mem_cons_of_mem _ mw_160)⟩, ⟨(List.mem_cons_of_mem _ mw_161), (List.mem_cons_of_mem _ mw_162)⟩⟩
def w3_keepFirst_b16 (t1 : Int32) (S : MS) (Q : MS → Prop) : Prop :=
  ∀ S1 : MS, S1 = sI S 8 t1 → (¬ (0 : Int32) < 0 ∧ ¬ (0 : Int32) < 0 ∧ ¬ (50 : Int32) < 0 ∧ (0 : Int32).toNatClampNeg + (50 : Int32).toNatClampNeg ≤ 50 ∧ (0 : Int32).toNatClampNeg + (50 : Int32).toNatClampNeg ≤ 50) ∧ ∀ S3 : MS, S3 = pA S1 5 (va_cpy (aI S1 3) (aI S1 5) (0 : Int32).toNatClampNeg (0 : Int32).toNatClampNeg (50 : Int32).toNatClampNeg) → (¬ (0 : Int32) < 0 ∧ ¬ (0 : Int32) < 0 ∧ ¬ (5 : Int32) < 0 ∧ (0 : Int32).toNatClampNeg + (5 : Int32).toNatClampNeg ≤ 5 ∧ (0 : Int32).toNatClampNeg + (5 : Int32).toNatClampNeg ≤ 5) ∧ ∀ S5 : MS, S5 = pA S3 6 (va_cpy (aI S3 4) (aI S3 6) (0 : Int32).toNatClampNeg (0 : Int32).toNatClampNeg (5 : Int32).toNatClampNeg) → Q S5
set_option maxHeartbeats 4000000 in
set_option maxRecDepth 100000 in
theorem b3_keepFirst_b16 {p : Program} {l : Launch} {e : Env} {s : State} {m : MethodId} {args : Array Value} {below : List Frame} {meth : Method} {c : Code} {D : va_G} {cy : Nat → ClassId} {A : Nat → Prop} {o : Nat} {q : Nat → Nat} (t1 : Int32) (S : MS) {Q : MS → Prop} (C : Cx p s m args meth c cX3_keepFirst 1 (none) wsX3_keepFirst RX3 D cy nestWs A) (h : w3_keepFirst_b16 t1 S Q) {H : Heap} {locs : List Loc} (hG : GW D A s (w3 o q cy S) H locs) {ls : Array Slot} (hl : lv_has ls 1 [(0, .ref o)]) : W p l e ({ frames := 1, cells := 0, slots := 0, locals := 60 } : Room) s m args below meth c H locs 0 0 (MQ below (va_Qv Q (B1 D (w3 o q cy) A) A) args s 0 0 A) (F0 m 16 ls [.int t1, .ref o]) := by
  have hx := C.1
  have hb := C.2.1
  unfold w3_keepFirst_b16 at h
  refine gx_put (ty := .int) (ws' := w3 o q cy (sI S 8 t1)) C i3_keepFirst_X3 tyX3 tyX3_ok nmX3 hG 0 rfl rfl 8 (by decide) k3_keepFirst_33 rfl (by decide +kernel) rfl rfl (Nat.le_of_ble_eq_true rfl) dX3_keepFirst_16 rfl (fun H locs hG => ?_)
  obtain ⟨S1, eS1⟩ : ∃ z : MS, z = sI S 8 t1 := ⟨_, rfl⟩
  rw [← eS1] at hG
  replace h := h S1 eS1
  refine lv_aload_n hx hb dX3_keepFirst_19 rfl (lv_at hl 0 rfl) ?_
  refine gx_get C i3_keepFirst_X3 hG 0 rfl rfl 3 (by decide) k3_keepFirst_21 rfl dX3_keepFirst_20 ?_
  refine lv_iconst (v := 0) hx hb dX3_keepFirst_23 (by decide) ?_
  refine lv_aload_n hx hb dX3_keepFirst_24 rfl (lv_at hl 0 rfl) ?_
  refine gx_get C i3_keepFirst_X3 hG 0 rfl rfl 5 (by decide) k3_keepFirst_27 rfl dX3_keepFirst_25 ?_
  refine lv_iconst (v := 0) hx hb dX3_keepFirst_28 (by decide) ?_
  refine lv_bipush (v := 50) hx hb dX3_keepFirst_29 (by decide) ?_
  obtain ⟨hv2, h⟩ := h
  refine gx_copy (ws' := w3 o q cy (pA S1 5 (va_cpy (aI S1 3) (aI S1 5) (0 : Int32).toNatClampNeg (0 : Int32).toNatClampNeg (50 : Int32).toNatClampNeg))) C hG (hl.1) (C.2.2.2.2.1 _ k3_keepFirst_75.1.1) (C.2.2.2.2.1 _ k3_keepFirst_75.1.2) (C.2.2.2.2.1 _ k3_keepFirst_75.2.1) (C.2.2.2.2.1 _ k3_keepFirst_75.2.2) 4 6 rfl rfl hv2 (Nat.le_of_ble_eq_true rfl) (Nat.le_of_ble_eq_true rfl) dX3_keepFirst_31 rfl (fun H locs hG => ?_)
  obtain ⟨S3, eS3⟩ : ∃ z : MS, z = pA S1 5 (va_cpy (aI S1 3) (aI S1 5) (0 : Int32).toNatClampNeg (0 : Int32).toNatClampNeg (50 : Int32).toNatClampNeg) := ⟨_, rfl⟩
  rw [← eS3] at hG
  replace h := h S3 eS3
  refine lv_aload_n hx hb dX3_keepFirst_34 rfl (lv_at hl 0 rfl) ?_
  refine gx_get C i3_keepFirst_X3 hG 0 rfl rfl 4 (by decide) k3_keepFirst_24 rfl dX3_keepFirst_35 ?_
  refine lv_iconst (v := 0) hx hb dX3_keepFirst_38 (by decide) ?_
  refine lv_aload_n hx hb dX3_keepFirst_39 rfl (lv_at hl 0 rfl) ?_
  refine gx_get C i3_keepFirst_X3 hG 0 rfl rfl 6 (by decide) k3_keepFirst_30 rfl dX3_keepFirst_40 ?_
  refine lv_iconst (v := 0) hx hb dX3_keepFirst_43 (by decide) ?_
  refine lv_iconst (v := 5) hx hb dX3_keepFirst_44 (by decide) ?_
  obtain ⟨hv4, h⟩ := h
  refine gx_copy (ws' := w3 o q cy (pA S3 6 (va_cpy (aI S3 4) (aI S3 6) (0 : Int32).toNatClampNeg (0 : Int32).toNatClampNeg (5 : Int32).toNatClampNeg))) C hG (hl.1) (C.2.2.2.2.1 _ k3_keepFirst_75.1.1) (C.2.2.2.2.1 _ k3_keepFirst_75.1.2) (C.2.2.2.2.1 _ k3_keepFirst_75.2.1) (C.2.2.2.2.1 _ k3_keepFirst_75.2.2) 5 7 rfl rfl hv4 (Nat.le_of_ble_eq_true rfl) (Nat.le_of_ble_eq_true rfl) dX3_keepFirst_45 rfl (fun H locs hG => ?_)
  obtain ⟨S5, eS5⟩ : ∃ z : MS, z = pA S3 6 (va_cpy (aI S3 4) (aI S3 6) (0 : Int32).toNatClampNeg (0 : Int32).toNatClampNeg (5 : Int32).toNatClampNeg) := ⟨_, rfl⟩
  rw [← eS5] at hG
  replace h := h S5 eS5
  exact retV (w := (w3 o q cy)) (S := S5) C hG h dX3_keepFirst_48
def w3_keepFirst (S : MS) (Q : MS → Prop) : Prop :=
  (((fI S 9) ≤ 0 → w3_keepFirst_b16 (0 : Int32) S Q) ∧ (¬ (fI S 9) ≤ 0 → w3_keepFirst_b16 (fI S 7) S Q))
set_option maxHeartbeats 4000000 in
set_option maxRecDepth 100000 in
theorem c3_keepFirst (l : Launch) (D : va_G) (cy : Nat → ClassId)  (o : Nat) (q : Nat → Nat) (S : MS) (Q : MS → Prop) (h : w3_keepFirst S Q) : MetV l yX3_keepFirst wsX3_keepFirst ({ frames := 1, cells := 0, slots := 0, locals := 60 } : Room) D cy nestWs (w3 o q cy) [.ref o] S Q := by
  refine MetV.mk RX3 cX3_keepFirst 1 (by decide) rfl nestWs_ok rfl (Nat.le_of_ble_eq_true rfl) ?_
  intro p e s m below meth c A ls C hG hl
  have hl : lv_has ls 1 [(0, .ref o)] := hl
  have hx := C.1
  have hb := C.2.1
  unfold w3_keepFirst at h
  refine lv_aload_n hx hb dX3_keepFirst_0 rfl (lv_at hl 0 rfl) ?_
  refine lv_aload_n hx hb dX3_keepFirst_1 rfl (lv_at hl 0 rfl) ?_
  refine gx_get C i3_keepFirst_X3 hG 0 rfl rfl 9 (by decide) k3_keepFirst_55 rfl dX3_keepFirst_2 ?_
  refine lv_if_le (tgt := 15) hx hb dX3_keepFirst_5 (by decide) (fun c1 => ?_) (fun c1 => ?_)
  · replace h := h.1 c1
    refine lv_iconst (v := 0) hx hb dX3_keepFirst_15 (by decide) ?_
    exact b3_keepFirst_b16 (0 : Int32) S C h hG hl
  · replace h := h.2 c1
    refine lv_aload_n hx hb dX3_keepFirst_8 rfl (lv_at hl 0 rfl) ?_
    refine gx_get C i3_keepFirst_X3 hG 0 rfl rfl 7 (by decide) k3_keepFirst_52 rfl dX3_keepFirst_9 ?_
    refine lv_goto (tgt := 16) hx hb dX3_keepFirst_12 (by decide) ?_
    exact b3_keepFirst_b16 (fI S 7) S C h hG hl
-- X3_seek
theorem i3_seek_X4 : ∀ w ∈ wsX40, w ∈ wsX3_seek := fun w h => List.mem_cons_of_mem _ (inG_X4 w h)
theorem i3_seek_X3 : ∀ w ∈ wsX30, w ∈ wsX3_seek := fun w h => List.mem_cons_of_mem _ (inG_X3 w h)
theorem k3_seek_9 : Cond.fieldLink RX3 9 "PaperBodies$Gluer" "partners" "[I" ∈ wsX3_seek := (List.mem_cons_of_mem _ mw_131)
theorem k3_seek_52 : Cond.fieldLink RX3 52 "PaperBodies$Gluer" "edges" "I" ∈ wsX3_seek := (List.mem_cons_of_mem _ mw_152)
theorem k3_seek_55 : Cond.fieldLink RX3 55 "PaperBodies$Gluer" "legalOnes" "I" ∈ wsX3_seek := (List.mem_cons_of_mem _ mw_158)
theorem k3_seek_58 : Cond.fieldLink RX3 58 "PaperBodies$Gluer" "triesMade" "I" ∈ wsX3_seek := (List.mem_cons_of_mem _ mw_175)
theorem k3_seek_61 : Cond.fieldLink RX3 61 "PaperBodies$Gluer" "mostTries" "I" ∈ wsX3_seek := (List.mem_cons_of_mem _ mw_176)
theorem k3_seek_64 : Cond.fieldLink RX3 64 "PaperBodies$Gluer" "spent" "Z" ∈ wsX3_seek := (List.mem_cons_of_mem _ mw_177)
def w3_seek_b67 (t0 : Int32) (S : MS) (V1 : MS) (Q : Int32 → MS → Prop) : Prop :=
  narrow .boolean (.int t0) = .int t0 ∧ Q t0 S
set_option maxHeartbeats 4000000 in
set_option maxRecDepth 100000 in
theorem b3_seek_b67 {p : Program} {l : Launch} {e : Env} {s : State} {m : MethodId} {args : Array Value} {below : List Frame} {meth : Method} {c : Code} {D : va_G} {cy : Nat → ClassId} {A : Nat → Prop} {o : Nat} {q : Nat → Nat} {o1 : Nat} {q1 : Nat → Nat} (t0 : Int32) (S : MS) (V1 : MS) {Q : Int32 → MS → Prop} (C : Cx p s m args meth c cX3_seek 3 (some .boolean) wsX3_seek RX3 D cy nestWs A) (h : w3_seek_b67 t0 S V1 Q) {H : Heap} {locs : List Loc} (hG : GW D A s (w3 o q cy S ++ w4 o1 q1 cy V1) H locs) {ls : Array Slot} (hl : lv_has ls 3 [(0, .ref o)]) : W p l e ({ frames := 32, cells := 0, slots := 0, locals := 815 } : Room) s m args below meth c H locs 0 0 (MQ below (va_Qi (fun r z => z.2 = V1 ∧ Q r z.1) (B1 D (fun z : MS × MS => (w3 o q cy z.1 ++ w4 o1 q1 cy z.2 : va_W)) A) A) args s 0 0 A) (F0 m 67 ls [.int t0]) := by
  have hx := C.1
  have hb := C.2.1
  unfold w3_seek_b67 at h
  exact retZ (w := (fun z : MS × MS => (w3 o q cy z.1 ++ w4 o1 q1 cy z.2 : va_W))) (S := (S, V1)) (Qp := (fun r z => z.2 = V1 ∧ Q r z.1)) C hG ⟨h.1, ⟨rfl, h.2⟩⟩ dX3_seek_67
def w3_seek_b55 (S : MS) (V1 : MS) (Q : Int32 → MS → Prop) : Prop :=
  ((¬ (fI S 12) = 0 → w3_seek_b67 (0 : Int32) S V1 Q) ∧ ((fI S 12) = 0 → w3_seek_b67 (1 : Int32) S V1 Q))
set_option maxHeartbeats 4000000 in
set_option maxRecDepth 100000 in
theorem b3_seek_b55 {p : Program} {l : Launch} {e : Env} {s : State} {m : MethodId} {args : Array Value} {below : List Frame} {meth : Method} {c : Code} {D : va_G} {cy : Nat → ClassId} {A : Nat → Prop} {o : Nat} {q : Nat → Nat} {o1 : Nat} {q1 : Nat → Nat} (S : MS) (V1 : MS) {Q : Int32 → MS → Prop} (C : Cx p s m args meth c cX3_seek 3 (some .boolean) wsX3_seek RX3 D cy nestWs A) (h : w3_seek_b55 S V1 Q) {H : Heap} {locs : List Loc} (hG : GW D A s (w3 o q cy S ++ w4 o1 q1 cy V1) H locs) {ls : Array Slot} (hl : lv_has ls 3 [(0, .ref o)]) : W p l e ({ frames := 32, cells := 0, slots := 0, locals := 815 } : Room) s m args below meth c H locs 0 0 (MQ below (va_Qi (fun r z => z.2 = V1 ∧ Q r z.1) (B1 D (fun z : MS × MS => (w3 o q cy z.1 ++ w4 o1 q1 cy z.2 : va_W)) A) A) args s 0 0 A) (F0 m 55 ls []) := by
  have hx := C.1
  have hb := C.2.1
  unfold w3_seek_b55 at h
  refine lv_aload_n hx hb dX3_seek_55 rfl (lv_at hl 0 rfl) ?_
  refine gx_get C i3_seek_X3 hG 0 rfl rfl 12 (by decide) k3_seek_64 rfl dX3_seek_56 ?_
  refine lv_if_ne (tgt := 66) hx hb dX3_seek_59 (by decide) (fun c1 => ?_) (fun c1 => ?_)
  · replace h := h.1 c1
    refine lv_iconst (v := 0) hx hb dX3_seek_66 (by decide) ?_
    exact b3_seek_b67 (0 : Int32) S V1 C h hG hl
  · replace h := h.2 c1
    refine lv_iconst (v := 1) hx hb dX3_seek_62 (by decide) ?_
    refine lv_goto (tgt := 67) hx hb dX3_seek_63 (by decide) ?_
    exact b3_seek_b67 (1 : Int32) S V1 C h hG hl
def w3_seek (x2 : Int32) (S : MS) (V1 : MS) (Q : Int32 → MS → Prop) : Prop :=
  w7_fill_53178 50 (-9 : Int32) (aI S 0) (fun S1 => ∀ S2 : MS, S2 = pA S 0 S1 → ∀ S3 : MS, S3 = sI S2 7 (fI V1 3) → ∀ S4 : MS, S4 = sI S3 9 (0 : Int32) → ∀ S5 : MS, S5 = sI S4 10 (0 : Int32) → ∀ S6 : MS, S6 = sI S5 11 x2 → ∀ S7 : MS, S7 = sI S6 12 (0 : Int32) → w3_pairFrom 27 (0 : Int32) (0 : Int32) S7 V1 (fun S8 => ((¬ (fI S8 12) = 0 → w3_seek_b55 S8 V1 Q) ∧ ((fI S8 12) = 0 → w3_keepFirst S8 (fun S11 => w3_seek_b55 S11 V1 Q)))))
set_option maxHeartbeats 4000000 in
set_option maxRecDepth 100000 in
theorem c3_seek (l : Launch) (D : va_G) (cy : Nat → ClassId)  (o : Nat) (q : Nat → Nat) (o1 : Nat) (q1 : Nat → Nat) (x2 : Int32) (S : MS) (V1 : MS) (Q : Int32 → MS → Prop) (h : w3_seek x2 S V1 Q) : MetI l yX3_seek wsX3_seek ({ frames := 32, cells := 0, slots := 0, locals := 815 } : Room) D cy nestWs (fun z : MS × MS => (w3 o q cy z.1 ++ w4 o1 q1 cy z.2 : va_W)) [.ref o, .ref o1, .int x2] (S, V1) (fun r z => z.2 = V1 ∧ Q r z.1) := by
  refine MetI.mk RX3 cX3_seek 3 .boolean (by decide) rfl nestWs_ok rfl (Nat.le_of_ble_eq_true rfl) ?_
  intro p e s m below meth c A ls C hG hl
  have hl : lv_has ls 3 [(0, .ref o), (1, .ref o1), (2, .int x2)] := hl
  have hx := C.1
  have hb := C.2.1
  unfold w3_seek at h
  refine lv_aload_n hx hb dX3_seek_0 rfl (lv_at hl 0 rfl) ?_
  refine gx_get C i3_seek_X3 hG 0 rfl rfl 0 (by decide) k3_seek_9 rfl dX3_seek_1 ?_
  refine lv_bipush (v := -9) hx hb dX3_seek_4 (by decide) ?_
  refine callSV (As := [.ref (q 0), .int (-9 : Int32)]) (rest := []) C hG (c7_fill_53178 l D cy (q 0) 50 (-9 : Int32) (aI S 0) _ h) 2 gX3_seek_J7_fill_53178 rfl (by decide +kernel) ⟨⟨Nat.le_of_ble_eq_true rfl, Nat.le_of_ble_eq_true rfl⟩, rfl, rfl⟩ (Foc.pq (rv := fun z : (Nat → Int32) => (w3 o q cy (pA S 0 z) ++ w4 o1 q1 cy V1 : va_W)) C.2.2.2.2.2.2.2.2.1 [1] [0, 2, 3, 4, 5, 6, 7, 8, 9, 10, 11] [0, 11, 1, 2, 3, 4, 5, 6, 7, 8, 9, 10] rfl rfl rfl rfl rfl (by decide) rfl (fun _ => rfl) (fun _ => rfl)) rfl hl.1 rfl (Nat.le_of_ble_eq_true rfl) dX3_seek_6 ⟨Nat.zero_le _, Nat.zero_le _⟩ (fun  S1 H locs h hG => ?_)
  obtain ⟨S2, eS2⟩ : ∃ z : MS, z = pA S 0 S1 := ⟨_, rfl⟩
  have h := h S2 eS2
  have hG : GW D A s (w3 o q cy S2 ++ w4 o1 q1 cy V1) H locs := by rw [eS2]; exact hG
  refine lv_aload_n hx hb dX3_seek_9 rfl (lv_at hl 0 rfl) ?_
  refine lv_aload_n hx hb dX3_seek_10 rfl (lv_at hl 1 rfl) ?_
  refine gx_getN (host := "PaperBodies") C i3_seek_X4 hG 8 rfl rfl 3 (by decide) (by decide +kernel) rfl dX3_seek_11 ?_
  refine gx_put (ty := .int) (ws' := w3 o q cy (sI S2 7 (fI V1 3)) ++ w4 o1 q1 cy V1) C i3_seek_X3 tyX3 tyX3_ok nmX3 hG 0 rfl rfl 7 (by decide) k3_seek_52 rfl (by decide +kernel) rfl rfl (Nat.le_of_ble_eq_true rfl) dX3_seek_14 rfl (fun H locs hG => ?_)
  obtain ⟨S3, eS3⟩ : ∃ z : MS, z = sI S2 7 (fI V1 3) := ⟨_, rfl⟩
  rw [← eS3] at hG
  replace h := h S3 eS3
  refine lv_aload_n hx hb dX3_seek_17 rfl (lv_at hl 0 rfl) ?_
  refine lv_iconst (v := 0) hx hb dX3_seek_18 (by decide) ?_
  refine gx_put (ty := .int) (ws' := w3 o q cy (sI S3 9 (0 : Int32)) ++ w4 o1 q1 cy V1) C i3_seek_X3 tyX3 tyX3_ok nmX3 hG 0 rfl rfl 9 (by decide) k3_seek_55 rfl (by decide +kernel) rfl rfl (Nat.le_of_ble_eq_true rfl) dX3_seek_19 rfl (fun H locs hG => ?_)
  obtain ⟨S4, eS4⟩ : ∃ z : MS, z = sI S3 9 (0 : Int32) := ⟨_, rfl⟩
  rw [← eS4] at hG
  replace h := h S4 eS4
  refine lv_aload_n hx hb dX3_seek_22 rfl (lv_at hl 0 rfl) ?_
  refine lv_iconst (v := 0) hx hb dX3_seek_23 (by decide) ?_
  refine gx_put (ty := .int) (ws' := w3 o q cy (sI S4 10 (0 : Int32)) ++ w4 o1 q1 cy V1) C i3_seek_X3 tyX3 tyX3_ok nmX3 hG 0 rfl rfl 10 (by decide) k3_seek_58 rfl (by decide +kernel) rfl rfl (Nat.le_of_ble_eq_true rfl) dX3_seek_24 rfl (fun H locs hG => ?_)
  obtain ⟨S5, eS5⟩ : ∃ z : MS, z = sI S4 10 (0 : Int32) := ⟨_, rfl⟩
  rw [← eS5] at hG
  replace h := h S5 eS5
  refine lv_aload_n hx hb dX3_seek_27 rfl (lv_at hl 0 rfl) ?_
  refine lv_iload_n hx hb dX3_seek_28 rfl (lv_at hl 2 rfl) ?_
  refine gx_put (ty := .int) (ws' := w3 o q cy (sI S5 11 x2) ++ w4 o1 q1 cy V1) C i3_seek_X3 tyX3 tyX3_ok nmX3 hG 0 rfl rfl 11 (by decide) k3_seek_61 rfl (by decide +kernel) rfl rfl (Nat.le_of_ble_eq_true rfl) dX3_seek_29 rfl (fun H locs hG => ?_)
  obtain ⟨S6, eS6⟩ : ∃ z : MS, z = sI S5 11 x2 := ⟨_, rfl⟩
  rw [← eS6] at hG
  replace h := h S6 eS6
  refine lv_aload_n hx hb dX3_seek_32 rfl (lv_at hl 0 rfl) ?_
  refine lv_iconst (v := 0) hx hb dX3_seek_33 (by decide) ?_
  refine gx_put (ty := .boolean) (ws' := w3 o q cy (sI S6 12 (0 : Int32)) ++ w4 o1 q1 cy V1) C i3_seek_X3 tyX3 tyX3_ok nmX3 hG 0 rfl rfl 12 (by decide) k3_seek_64 rfl (by decide +kernel) rfl rfl (Nat.le_of_ble_eq_true rfl) dX3_seek_34 rfl (fun H locs hG => ?_)
  obtain ⟨S7, eS7⟩ : ∃ z : MS, z = sI S6 12 (0 : Int32) := ⟨_, rfl⟩
  rw [← eS7] at hG
  replace h := h S7 eS7
  refine lv_aload_n hx hb dX3_seek_37 rfl (lv_at hl 0 rfl) ?_
  refine lv_aload_n hx hb dX3_seek_38 rfl (lv_at hl 1 rfl) ?_
  refine lv_iconst (v := 0) hx hb dX3_seek_39 (by decide) ?_
  refine lv_iconst (v := 0) hx hb dX3_seek_40 (by decide) ?_
  refine callSV (As := [.ref o, .ref o1, .int (0 : Int32), .int (0 : Int32)]) (rest := []) C hG (c3_pairFrom l D cy o q o1 q1 (0 : Int32) (0 : Int32) S7 V1 _ h) 4 gX3_seek_X3_pairFrom rfl (by decide +kernel) ⟨⟨Nat.le_of_ble_eq_true rfl, Nat.le_of_ble_eq_true rfl⟩, rfl, rfl⟩ (Foc.all (w' := (fun z : MS × MS => (w3 o q cy z.1 ++ w4 o1 q1 cy z.2 : va_W))) (S' := (S7, V1)) C.2.2.2.2.2.2.2.2.1) rfl hl.1 rfl (Nat.le_of_ble_eq_true rfl) dX3_seek_41 ⟨Nat.zero_le _, Nat.zero_le _⟩ (fun  z H locs h hG => ?_)
  obtain ⟨S8, u9⟩ := z
  obtain ⟨eu9, h⟩ := h
  have eu9 : u9 = V1 := eu9
  replace h := h
  subst u9
  have hG : GW D A s (w3 o q cy S8 ++ w4 o1 q1 cy V1) H locs := hG
  refine lv_aload_n hx hb dX3_seek_44 rfl (lv_at hl 0 rfl) ?_
  refine gx_get C i3_seek_X3 hG 0 rfl rfl 12 (by decide) k3_seek_64 rfl dX3_seek_45 ?_
  refine lv_if_ne (tgt := 55) hx hb dX3_seek_48 (by decide) (fun c10 => ?_) (fun c10 => ?_)
  · replace h := h.1 c10
    exact b3_seek_b55 S8 V1 C h hG (lv_sub hl [0] rfl)
  · replace h := h.2 c10
    refine lv_aload_n hx hb dX3_seek_51 rfl (lv_at hl 0 rfl) ?_
    refine callVV (As := []) (rest := []) C hG (c3_keepFirst l D cy o q S8 _ h) 0 gX3_seek_X3_keepFirst rfl (by decide +kernel) ⟨⟨Nat.le_of_ble_eq_true rfl, Nat.le_of_ble_eq_true rfl⟩, rfl, rfl⟩ rfl rfl (Foc.pq (rv := fun z : MS => (w3 o q cy z ++ w4 o1 q1 cy V1 : va_W)) C.2.2.2.2.2.2.2.2.1 [0, 1, 2, 3, 4, 5, 6, 7] [8, 9, 10, 11] [4, 5, 6, 7, 8, 9, 10, 11, 0, 1, 2, 3] rfl rfl rfl rfl rfl (by decide) rfl (fun _ => rfl) (fun _ => rfl)) rfl hl.1 rfl (Nat.le_of_ble_eq_true rfl) dX3_seek_52 ⟨Nat.zero_le _, Nat.zero_le _⟩ (fun  S11 H locs h hG => ?_)
    have hG : GW D A s (w3 o q cy S11 ++ w4 o1 q1 cy V1) H locs := hG
    exact b3_seek_b55 S11 V1 C h hG (lv_sub hl [0] rfl)
-- X3_cornersInAll
theorem i3_cornersInAll_X3 : ∀ w ∈ wsX30, w ∈ wsX3_cornersInAll := fun w h => List.mem_cons_of_mem _ (inG_X3 w h)
theorem k3_cornersInAll_15 : Cond.fieldLink RX3 15 "PaperBodies$Gluer" "together" "[I" ∈ wsX3_cornersInAll := (List.mem_cons_of_mem _ mw_132)
theorem k3_cornersInAll_52 : Cond.fieldLink RX3 52 "PaperBodies$Gluer" "edges" "I" ∈ wsX3_cornersInAll := (List.mem_cons_of_mem _ mw_152)
def w3_cornersInAll_b28 (K4 : Int32 → Int32 → Prop) (x2 : Int32) (t0 : Int32) (t1 : Int32) (S : MS) (Q : Int32 → Prop) : Prop :=
  ∀ y1 : Int32, y1 = (t0 + t1) → ∀ y2 : Int32, y2 = x2 + 1 → K4 y1 y2
set_option maxHeartbeats 4000000 in
set_option maxRecDepth 100000 in
theorem b3_cornersInAll_b28 {p : Program} {l : Launch} {e : Env} {s : State} {m : MethodId} {args : Array Value} {below : List Frame} {meth : Method} {c : Code} {D : va_G} {cy : Nat → ClassId} {A : Nat → Prop} {o : Nat} {q : Nat → Nat} {K4 : Int32 → Int32 → Prop} (x2 : Int32) (t0 : Int32) (t1 : Int32) (S : MS) {Q : Int32 → Prop} (C : Cx p s m args meth c cX3_cornersInAll 3 (some .int) wsX3_cornersInAll RX3 D cy nestWs A) (hK4 : ∀ (x1 : Int32) (x2 : Int32) (H : Heap) (locs : List Loc) (ls : Array Slot), K4 x1 x2 → GW D A s (w3 o q cy S) H locs → lv_has ls 3 [(0, .ref o), (1, .int x1), (2, .int x2)] → W p l e ({ frames := 0, cells := 0, slots := 0, locals := 0 } : Room) s m args below meth c H locs 0 0 (MQ below (va_Qi (fun r z => z = S ∧ Q r ) (B1 D (w3 o q cy) A) A) args s 0 0 A) (F0 m 4 ls [])) (h : w3_cornersInAll_b28 K4 x2 t0 t1 S Q) {H : Heap} {locs : List Loc} (hG : GW D A s (w3 o q cy S) H locs) {ls : Array Slot} (hl : lv_has ls 3 [(0, .ref o), (2, .int x2)]) : W p l e ({ frames := 0, cells := 0, slots := 0, locals := 0 } : Room) s m args below meth c H locs 0 0 (MQ below (va_Qi (fun r z => z = S ∧ Q r ) (B1 D (w3 o q cy) A) A) args s 0 0 A) (F0 m 28 ls [.int t1, .int t0]) := by
  have hx := C.1
  have hb := C.2.1
  unfold w3_cornersInAll_b28 at h
  refine lv_iadd hx hb dX3_cornersInAll_28 ?_
  refine lv_topi (fun y1 ey1 => ?_)
  replace h := h y1 ey1
  refine lv_istore_n (lv' := [(1, .int y1), (0, .ref o), (2, .int x2)]) hx hb dX3_cornersInAll_29 rfl hl (by decide) rfl (fun ls hl => ?_)
  obtain ⟨y2, ey2⟩ : ∃ y : Int32, y = x2 + 1 := ⟨_, rfl⟩
  replace h := h y2 ey2
  refine lv_iinc (v := y2) (lv' := [(2, .int y2), (1, .int y1), (0, .ref o)]) hx hb dX3_cornersInAll_30 hl (k := 2) rfl (by rw [ey2]; rfl) (by decide) rfl (fun ls hl => ?_)
  refine lv_goto (tgt := 4) hx hb dX3_cornersInAll_33 (by decide) ?_
  exact hK4 y1 y2 _ _ _ h hG (lv_sub hl [2, 1, 0] rfl)
def w3_cornersInAll_d4 (K4 : Int32 → Int32 → Prop) (x1 : Int32) (x2 : Int32) (S : MS) (Q : Int32 → Prop) : Prop :=
  (((fI S 7) ≤ x2 → Q x1) ∧ (¬ (fI S 7) ≤ x2 → vp_in x2 50 ∧ ((¬ (rA S 1 x2) = x2 → w3_cornersInAll_b28 K4 x2 x1 (0 : Int32) S Q) ∧ ((rA S 1 x2) = x2 → w3_cornersInAll_b28 K4 x2 x1 (1 : Int32) S Q))))
set_option maxHeartbeats 4000000 in
set_option maxRecDepth 100000 in
theorem b3_cornersInAll_d4 {p : Program} {l : Launch} {e : Env} {s : State} {m : MethodId} {args : Array Value} {below : List Frame} {meth : Method} {c : Code} {D : va_G} {cy : Nat → ClassId} {A : Nat → Prop} {o : Nat} {q : Nat → Nat} {K4 : Int32 → Int32 → Prop} (x1 : Int32) (x2 : Int32) (S : MS) {Q : Int32 → Prop} (C : Cx p s m args meth c cX3_cornersInAll 3 (some .int) wsX3_cornersInAll RX3 D cy nestWs A) (hK4 : ∀ (x1 : Int32) (x2 : Int32) (H : Heap) (locs : List Loc) (ls : Array Slot), K4 x1 x2 → GW D A s (w3 o q cy S) H locs → lv_has ls 3 [(0, .ref o), (1, .int x1), (2, .int x2)] → W p l e ({ frames := 0, cells := 0, slots := 0, locals := 0 } : Room) s m args below meth c H locs 0 0 (MQ below (va_Qi (fun r z => z = S ∧ Q r ) (B1 D (w3 o q cy) A) A) args s 0 0 A) (F0 m 4 ls [])) (h : w3_cornersInAll_d4 K4 x1 x2 S Q) {H : Heap} {locs : List Loc} (hG : GW D A s (w3 o q cy S) H locs) {ls : Array Slot} (hl : lv_has ls 3 [(0, .ref o), (1, .int x1), (2, .int x2)]) : W p l e ({ frames := 0, cells := 0, slots := 0, locals := 0 } : Room) s m args below meth c H locs 0 0 (MQ below (va_Qi (fun r z => z = S ∧ Q r ) (B1 D (w3 o q cy) A) A) args s 0 0 A) (F0 m 4 ls []) := by
  have hx := C.1
  have hb := C.2.1
  unfold w3_cornersInAll_d4 at h
  refine lv_iload_n hx hb dX3_cornersInAll_4 rfl (lv_at hl 2 rfl) ?_
  refine lv_aload_n hx hb dX3_cornersInAll_5 rfl (lv_at hl 0 rfl) ?_
  refine gx_get C i3_cornersInAll_X3 hG 0 rfl rfl 7 (by decide) k3_cornersInAll_52 rfl dX3_cornersInAll_6 ?_
  refine lv_icmp_ge (tgt := 36) hx hb dX3_cornersInAll_9 (by decide) (fun c1 => ?_) (fun c1 => ?_)
  · replace h := h.1 c1
    refine lv_iload_n hx hb dX3_cornersInAll_36 rfl (lv_at hl 1 rfl) ?_
    exact retI (w := (w3 o q cy)) (S := S) C hG ⟨rfl, h⟩ dX3_cornersInAll_37
  · replace h := h.2 c1
    refine lv_iload_n hx hb dX3_cornersInAll_12 rfl (lv_at hl 1 rfl) ?_
    refine lv_aload_n hx hb dX3_cornersInAll_13 rfl (lv_at hl 0 rfl) ?_
    refine gx_get C i3_cornersInAll_X3 hG 0 rfl rfl 1 (by decide) k3_cornersInAll_15 rfl dX3_cornersInAll_14 ?_
    refine lv_iload_n hx hb dX3_cornersInAll_17 rfl (lv_at hl 2 rfl) ?_
    obtain ⟨hv2, h⟩ := h
    refine gx_ald C hG 2 rfl hv2 dX3_cornersInAll_18 ?_
    refine lv_iload_n hx hb dX3_cornersInAll_19 rfl (lv_at hl 2 rfl) ?_
    refine lv_icmp_ne (tgt := 27) hx hb dX3_cornersInAll_20 (by decide) (fun c3 => ?_) (fun c3 => ?_)
    · replace h := h.1 c3
      refine lv_iconst (v := 0) hx hb dX3_cornersInAll_27 (by decide) ?_
      exact b3_cornersInAll_b28 (K4 := K4) x2 x1 (0 : Int32) S C hK4 h hG (lv_sub hl [0, 2] rfl)
    · replace h := h.2 c3
      refine lv_iconst (v := 1) hx hb dX3_cornersInAll_23 (by decide) ?_
      refine lv_goto (tgt := 28) hx hb dX3_cornersInAll_24 (by decide) ?_
      exact b3_cornersInAll_b28 (K4 := K4) x2 x1 (1 : Int32) S C hK4 h hG (lv_sub hl [0, 2] rfl)
def w3_cornersInAll_F4 (S : MS) (Q : Int32 → Prop) (K : Int32 × Int32 → Prop) (a : Int32 × Int32) : Prop := w3_cornersInAll_d4 (fun y0 y1 => K (y0, y1)) a.1 a.2 S Q
def w3_cornersInAll_b4 (x1 : Int32) (x2 : Int32) (S : MS) (Q : Int32 → Prop) : Prop := lp (w3_cornersInAll_F4 S Q) (x1, x2)
set_option maxHeartbeats 4000000 in
set_option maxRecDepth 100000 in
theorem b3_cornersInAll_b4 {p : Program} {l : Launch} {e : Env} {s : State} {m : MethodId} {args : Array Value} {below : List Frame} {meth : Method} {c : Code} {D : va_G} {cy : Nat → ClassId} {A : Nat → Prop} {o : Nat} {q : Nat → Nat} (x1 : Int32) (x2 : Int32) (S : MS) {Q : Int32 → Prop} (C : Cx p s m args meth c cX3_cornersInAll 3 (some .int) wsX3_cornersInAll RX3 D cy nestWs A) (h : w3_cornersInAll_b4 x1 x2 S Q) {H : Heap} {locs : List Loc} (hG : GW D A s (w3 o q cy S) H locs) {ls : Array Slot} (hl : lv_has ls 3 [(0, .ref o), (1, .int x1), (2, .int x2)]) : W p l e ({ frames := 0, cells := 0, slots := 0, locals := 0 } : Room) s m args below meth c H locs 0 0 (MQ below (va_Qi (fun r z => z = S ∧ Q r ) (B1 D (w3 o q cy) A) A) args s 0 0 A) (F0 m 4 ls []) := by
  obtain ⟨k, hn⟩ := h
  induction k generalizing x1 x2 H locs ls with
  | zero => exact hn.elim
  | succ k ih => exact b3_cornersInAll_d4 (K4 := fun y0 y1 => itr (w3_cornersInAll_F4 S Q) k (y0, y1)) x1 x2 S C (fun x1 x2 H locs ls hk hG hl => ih x1 x2 hG hl hk) hn hG hl
def w3_cornersInAll (S : MS) (Q : Int32 → Prop) : Prop :=
  w3_cornersInAll_b4 (0 : Int32) (0 : Int32) S Q
set_option maxHeartbeats 4000000 in
set_option maxRecDepth 100000 in
theorem c3_cornersInAll (l : Launch) (D : va_G) (cy : Nat → ClassId)  (o : Nat) (q : Nat → Nat) (S : MS) (Q : Int32 → Prop) (h : w3_cornersInAll S Q) : MetI l yX3_cornersInAll wsX3_cornersInAll ({ frames := 0, cells := 0, slots := 0, locals := 0 } : Room) D cy nestWs (w3 o q cy) [.ref o] S (fun r z => z = S ∧ Q r ) := by
  refine MetI.mk RX3 cX3_cornersInAll 3 .int (by decide) rfl nestWs_ok rfl (Nat.le_of_ble_eq_true rfl) ?_
  intro p e s m below meth c A ls C hG hl
  have hl : lv_has ls 3 [(0, .ref o)] := hl
  have hx := C.1
  have hb := C.2.1
  unfold w3_cornersInAll at h
  refine lv_iconst (v := 0) hx hb dX3_cornersInAll_0 (by decide) ?_
  refine lv_istore_n (lv' := [(1, .int (0 : Int32)), (0, .ref o)]) hx hb dX3_cornersInAll_1 rfl hl (by decide) rfl (fun ls hl => ?_)
  refine lv_iconst (v := 0) hx hb dX3_cornersInAll_2 (by decide) ?_
  refine lv_istore_n (lv' := [(2, .int (0 : Int32)), (1, .int (0 : Int32)), (0, .ref o)]) hx hb dX3_cornersInAll_3 rfl hl (by decide) rfl (fun ls hl => ?_)
  exact b3_cornersInAll_b4 (0 : Int32) (0 : Int32) S C h hG (lv_sub hl [2, 1, 0] rfl)
-- X3_isPaired
theorem i3_isPaired_X3 : ∀ w ∈ wsX30, w ∈ wsX3_isPaired := fun w h => List.mem_cons_of_mem _ (inG_X3 w h)
theorem k3_isPaired_9 : Cond.fieldLink RX3 9 "PaperBodies$Gluer" "partners" "[I" ∈ wsX3_isPaired := (List.mem_cons_of_mem _ mw_131)
theorem k3_isPaired_52 : Cond.fieldLink RX3 52 "PaperBodies$Gluer" "edges" "I" ∈ wsX3_isPaired := (List.mem_cons_of_mem _ mw_152)
def w3_isPaired_b39 (t0 : Int32) (S : MS) (Q : Int32 → Prop) : Prop :=
  narrow .boolean (.int t0) = .int t0 ∧ Q t0
set_option maxHeartbeats 4000000 in
set_option maxRecDepth 100000 in
theorem b3_isPaired_b39 {p : Program} {l : Launch} {e : Env} {s : State} {m : MethodId} {args : Array Value} {below : List Frame} {meth : Method} {c : Code} {D : va_G} {cy : Nat → ClassId} {A : Nat → Prop} {o : Nat} {q : Nat → Nat} (t0 : Int32) (S : MS) {Q : Int32 → Prop} (C : Cx p s m args meth c cX3_isPaired 3 (some .boolean) wsX3_isPaired RX3 D cy nestWs A) (h : w3_isPaired_b39 t0 S Q) {H : Heap} {locs : List Loc} (hG : GW D A s (w3 o q cy S) H locs) {ls : Array Slot} (hl : lv_has ls 3 [(0, .ref o)]) : W p l e ({ frames := 0, cells := 0, slots := 0, locals := 0 } : Room) s m args below meth c H locs 0 0 (MQ below (va_Qi (fun r z => z = S ∧ Q r ) (B1 D (w3 o q cy) A) A) args s 0 0 A) (F0 m 39 ls [.int t0]) := by
  have hx := C.1
  have hb := C.2.1
  unfold w3_isPaired_b39 at h
  exact retZ (w := (w3 o q cy)) (S := S) C hG ⟨h.1, ⟨rfl, h.2⟩⟩ dX3_isPaired_39
def w3_isPaired_b38 (S : MS) (Q : Int32 → Prop) : Prop :=
  w3_isPaired_b39 (0 : Int32) S Q
set_option maxHeartbeats 4000000 in
set_option maxRecDepth 100000 in
theorem b3_isPaired_b38 {p : Program} {l : Launch} {e : Env} {s : State} {m : MethodId} {args : Array Value} {below : List Frame} {meth : Method} {c : Code} {D : va_G} {cy : Nat → ClassId} {A : Nat → Prop} {o : Nat} {q : Nat → Nat} (S : MS) {Q : Int32 → Prop} (C : Cx p s m args meth c cX3_isPaired 3 (some .boolean) wsX3_isPaired RX3 D cy nestWs A) (h : w3_isPaired_b38 S Q) {H : Heap} {locs : List Loc} (hG : GW D A s (w3 o q cy S) H locs) {ls : Array Slot} (hl : lv_has ls 3 [(0, .ref o)]) : W p l e ({ frames := 0, cells := 0, slots := 0, locals := 0 } : Room) s m args below meth c H locs 0 0 (MQ below (va_Qi (fun r z => z = S ∧ Q r ) (B1 D (w3 o q cy) A) A) args s 0 0 A) (F0 m 38 ls []) := by
  have hx := C.1
  have hb := C.2.1
  unfold w3_isPaired_b38 at h
  refine lv_iconst (v := 0) hx hb dX3_isPaired_38 (by decide) ?_
  exact b3_isPaired_b39 (0 : Int32) S C h hG hl
def w3_isPaired (x1 : Int32) (S : MS) (Q : Int32 → Prop) : Prop :=
  vp_in x1 50 ∧ ∀ y2 : Int32, y2 = (rA S 0 x1) → ((y2 = x1 → w3_isPaired_b38 S Q) ∧ (¬ y2 = x1 → ((y2 < 0 → w3_isPaired_b38 S Q) ∧ (¬ y2 < 0 → (((fI S 7) ≤ y2 → w3_isPaired_b38 S Q) ∧ (¬ (fI S 7) ≤ y2 → vp_in y2 50 ∧ ((¬ (rA S 0 y2) = x1 → w3_isPaired_b38 S Q) ∧ ((rA S 0 y2) = x1 → w3_isPaired_b39 (1 : Int32) S Q))))))))
set_option maxHeartbeats 4000000 in
set_option maxRecDepth 100000 in
theorem c3_isPaired (l : Launch) (D : va_G) (cy : Nat → ClassId)  (o : Nat) (q : Nat → Nat) (x1 : Int32) (S : MS) (Q : Int32 → Prop) (h : w3_isPaired x1 S Q) : MetI l yX3_isPaired wsX3_isPaired ({ frames := 0, cells := 0, slots := 0, locals := 0 } : Room) D cy nestWs (w3 o q cy) [.ref o, .int x1] S (fun r z => z = S ∧ Q r ) := by
  refine MetI.mk RX3 cX3_isPaired 3 .boolean (by decide) rfl nestWs_ok rfl (Nat.le_of_ble_eq_true rfl) ?_
  intro p e s m below meth c A ls C hG hl
  have hl : lv_has ls 3 [(0, .ref o), (1, .int x1)] := hl
  have hx := C.1
  have hb := C.2.1
  unfold w3_isPaired at h
  refine lv_aload_n hx hb dX3_isPaired_0 rfl (lv_at hl 0 rfl) ?_
  refine gx_get C i3_isPaired_X3 hG 0 rfl rfl 0 (by decide) k3_isPaired_9 rfl dX3_isPaired_1 ?_
  refine lv_iload_n hx hb dX3_isPaired_4 rfl (lv_at hl 1 rfl) ?_
  obtain ⟨hv1, h⟩ := h
  refine gx_ald C hG 1 rfl hv1 dX3_isPaired_5 ?_
  refine lv_topi (fun y2 ey2 => ?_)
  replace h := h y2 ey2
  refine lv_istore_n (lv' := [(2, .int y2), (0, .ref o), (1, .int x1)]) hx hb dX3_isPaired_6 rfl hl (by decide) rfl (fun ls hl => ?_)
  refine lv_iload_n hx hb dX3_isPaired_7 rfl (lv_at hl 0 rfl) ?_
  refine lv_iload_n hx hb dX3_isPaired_8 rfl (lv_at hl 2 rfl) ?_
  refine lv_icmp_eq (tgt := 38) hx hb dX3_isPaired_9 (by decide) (fun c3 => ?_) (fun c3 => ?_)
  · replace h := h.1 c3
    exact b3_isPaired_b38 S C h hG (lv_sub hl [1] rfl)
  · replace h := h.2 c3
    refine lv_iload_n hx hb dX3_isPaired_12 rfl (lv_at hl 0 rfl) ?_
    refine lv_if_lt (tgt := 38) hx hb dX3_isPaired_13 (by decide) (fun c4 => ?_) (fun c4 => ?_)
    · replace h := h.1 c4
      exact b3_isPaired_b38 S C h hG (lv_sub hl [1] rfl)
    · replace h := h.2 c4
      refine lv_iload_n hx hb dX3_isPaired_16 rfl (lv_at hl 0 rfl) ?_
      refine lv_aload_n hx hb dX3_isPaired_17 rfl (lv_at hl 1 rfl) ?_
      refine gx_get C i3_isPaired_X3 hG 0 rfl rfl 7 (by decide) k3_isPaired_52 rfl dX3_isPaired_18 ?_
      refine lv_icmp_ge (tgt := 38) hx hb dX3_isPaired_21 (by decide) (fun c5 => ?_) (fun c5 => ?_)
      · replace h := h.1 c5
        exact b3_isPaired_b38 S C h hG (lv_sub hl [1] rfl)
      · replace h := h.2 c5
        refine lv_aload_n hx hb dX3_isPaired_24 rfl (lv_at hl 1 rfl) ?_
        refine gx_get C i3_isPaired_X3 hG 0 rfl rfl 0 (by decide) k3_isPaired_9 rfl dX3_isPaired_25 ?_
        refine lv_iload_n hx hb dX3_isPaired_28 rfl (lv_at hl 0 rfl) ?_
        obtain ⟨hv6, h⟩ := h
        refine gx_ald C hG 1 rfl hv6 dX3_isPaired_29 ?_
        refine lv_iload_n hx hb dX3_isPaired_30 rfl (lv_at hl 2 rfl) ?_
        refine lv_icmp_ne (tgt := 38) hx hb dX3_isPaired_31 (by decide) (fun c7 => ?_) (fun c7 => ?_)
        · replace h := h.1 c7
          exact b3_isPaired_b38 S C h hG (lv_sub hl [1] rfl)
        · replace h := h.2 c7
          refine lv_iconst (v := 1) hx hb dX3_isPaired_34 (by decide) ?_
          refine lv_goto (tgt := 39) hx hb dX3_isPaired_35 (by decide) ?_
          exact b3_isPaired_b39 (1 : Int32) S C h hG (lv_sub hl [1] rfl)
-- X3_holdsItsOwn
theorem i3_holdsItsOwn_X3 : ∀ w ∈ wsX30, w ∈ wsX3_holdsItsOwn := fun w h => List.mem_cons_of_mem _ (inG_X3 w h)
theorem k3_holdsItsOwn_9 : Cond.fieldLink RX3 9 "PaperBodies$Gluer" "partners" "[I" ∈ wsX3_holdsItsOwn := (List.mem_cons_of_mem _ mw_131)
theorem k3_holdsItsOwn_37 : Cond.initialized yX8_within.cls ∈ wsX3_holdsItsOwn ∧ Cond.static yX8_within ∈ wsX3_holdsItsOwn := ⟨(List.mem_cons_of_mem _ mw_13), (List.mem_cons_of_mem _ mw_14)⟩
def w3_holdsItsOwn_d4 (K4 : Int32 → Prop) (x1 : Int32) (x2 : Int32) (S : MS) (Q : Int32 → Prop) : Prop :=
  vp_in x1 50 ∧ (((rA S 0 x1) ≤ x2 → Q (1 : Int32)) ∧ (¬ (rA S 0 x1) ≤ x2 → vp_in x2 50 ∧ w8_within (rA S 0 x2) (x1 + (1 : Int32)) ((rA S 0 x1) - (1 : Int32)) (fun r4 => ((¬ r4 = 0 → ∀ y6 : Int32, y6 = x2 + 1 → K4 y6) ∧ (r4 = 0 → Q (0 : Int32))))))
set_option maxHeartbeats 4000000 in
set_option maxRecDepth 100000 in
theorem b3_holdsItsOwn_d4 {p : Program} {l : Launch} {e : Env} {s : State} {m : MethodId} {args : Array Value} {below : List Frame} {meth : Method} {c : Code} {D : va_G} {cy : Nat → ClassId} {A : Nat → Prop} {o : Nat} {q : Nat → Nat} {K4 : Int32 → Prop} (x1 : Int32) (x2 : Int32) (S : MS) {Q : Int32 → Prop} (C : Cx p s m args meth c cX3_holdsItsOwn 3 (some .boolean) wsX3_holdsItsOwn RX3 D cy nestWs A) (hK4 : ∀ (x2 : Int32) (H : Heap) (locs : List Loc) (ls : Array Slot), K4 x2 → GW D A s (w3 o q cy S) H locs → lv_has ls 3 [(0, .ref o), (1, .int x1), (2, .int x2)] → W p l e ({ frames := 1, cells := 0, slots := 0, locals := 22 } : Room) s m args below meth c H locs 0 0 (MQ below (va_Qi (fun r z => z = S ∧ Q r ) (B1 D (w3 o q cy) A) A) args s 0 0 A) (F0 m 4 ls [])) (h : w3_holdsItsOwn_d4 K4 x1 x2 S Q) {H : Heap} {locs : List Loc} (hG : GW D A s (w3 o q cy S) H locs) {ls : Array Slot} (hl : lv_has ls 3 [(0, .ref o), (1, .int x1), (2, .int x2)]) : W p l e ({ frames := 1, cells := 0, slots := 0, locals := 22 } : Room) s m args below meth c H locs 0 0 (MQ below (va_Qi (fun r z => z = S ∧ Q r ) (B1 D (w3 o q cy) A) A) args s 0 0 A) (F0 m 4 ls []) := by
  have hx := C.1
  have hb := C.2.1
  unfold w3_holdsItsOwn_d4 at h
  refine lv_iload_n hx hb dX3_holdsItsOwn_4 rfl (lv_at hl 2 rfl) ?_
  refine lv_aload_n hx hb dX3_holdsItsOwn_5 rfl (lv_at hl 0 rfl) ?_
  refine gx_get C i3_holdsItsOwn_X3 hG 0 rfl rfl 0 (by decide) k3_holdsItsOwn_9 rfl dX3_holdsItsOwn_6 ?_
  refine lv_iload_n hx hb dX3_holdsItsOwn_9 rfl (lv_at hl 1 rfl) ?_
  obtain ⟨hv1, h⟩ := h
  refine gx_ald C hG 1 rfl hv1 dX3_holdsItsOwn_10 ?_
  refine lv_icmp_ge (tgt := 45) hx hb dX3_holdsItsOwn_11 (by decide) (fun c2 => ?_) (fun c2 => ?_)
  · replace h := h.1 c2
    refine lv_iconst (v := 1) hx hb dX3_holdsItsOwn_45 (by decide) ?_
    exact retZ (w := (w3 o q cy)) (S := S) C hG ⟨rfl, ⟨rfl, h⟩⟩ dX3_holdsItsOwn_46
  · replace h := h.2 c2
    refine lv_aload_n hx hb dX3_holdsItsOwn_14 rfl (lv_at hl 0 rfl) ?_
    refine gx_get C i3_holdsItsOwn_X3 hG 0 rfl rfl 0 (by decide) k3_holdsItsOwn_9 rfl dX3_holdsItsOwn_15 ?_
    refine lv_iload_n hx hb dX3_holdsItsOwn_18 rfl (lv_at hl 2 rfl) ?_
    obtain ⟨hv3, h⟩ := h
    refine gx_ald C hG 1 rfl hv3 dX3_holdsItsOwn_19 ?_
    refine lv_iload_n hx hb dX3_holdsItsOwn_20 rfl (lv_at hl 1 rfl) ?_
    refine lv_iconst (v := 1) hx hb dX3_holdsItsOwn_21 (by decide) ?_
    refine lv_iadd hx hb dX3_holdsItsOwn_22 ?_
    refine lv_aload_n hx hb dX3_holdsItsOwn_23 rfl (lv_at hl 0 rfl) ?_
    refine gx_get C i3_holdsItsOwn_X3 hG 0 rfl rfl 0 (by decide) k3_holdsItsOwn_9 rfl dX3_holdsItsOwn_24 ?_
    refine lv_iload_n hx hb dX3_holdsItsOwn_27 rfl (lv_at hl 1 rfl) ?_
    refine gx_ald C hG 1 rfl hv1 dX3_holdsItsOwn_28 ?_
    refine lv_iconst (v := 1) hx hb dX3_holdsItsOwn_29 (by decide) ?_
    refine lv_isub hx hb dX3_holdsItsOwn_30 ?_
    refine callSNI (As := [.int (rA S 0 x2), .int (x1 + (1 : Int32)), .int ((rA S 0 x1) - (1 : Int32))]) (rest := []) (host := "PaperBodies") C hG (c8_within l D cy (rA S 0 x2) (x1 + (1 : Int32)) ((rA S 0 x1) - (1 : Int32)) _ h) 3 gX3_holdsItsOwn_X8_within_n37 rfl (by decide +kernel) k3_holdsItsOwn_37.1 k3_holdsItsOwn_37.2 (by decide +kernel) ⟨⟨Nat.le_of_ble_eq_true rfl, Nat.le_of_ble_eq_true rfl⟩, rfl, rfl⟩ (Foc.none C.2.2.2.2.2.2.2.2.1) rfl hl.1 rfl (Nat.le_of_ble_eq_true rfl) dX3_holdsItsOwn_31 ⟨Nat.zero_le _, Nat.zero_le _⟩ (fun r4 z H locs h hG => ?_)
    refine lv_if_ne (tgt := 39) hx hb dX3_holdsItsOwn_34 (by decide) (fun c5 => ?_) (fun c5 => ?_)
    · replace h := h.1 c5
      obtain ⟨y6, ey6⟩ : ∃ y : Int32, y = x2 + 1 := ⟨_, rfl⟩
      replace h := h y6 ey6
      refine lv_iinc (v := y6) (lv' := [(2, .int y6), (0, .ref o), (1, .int x1)]) hx hb dX3_holdsItsOwn_39 hl (k := 2) rfl (by rw [ey6]; rfl) (by decide) rfl (fun ls hl => ?_)
      refine lv_goto (tgt := 4) hx hb dX3_holdsItsOwn_42 (by decide) ?_
      exact hK4 y6 _ _ _ h hG (lv_sub hl [1, 2, 0] rfl)
    · replace h := h.2 c5
      refine lv_iconst (v := 0) hx hb dX3_holdsItsOwn_37 (by decide) ?_
      exact retZ (w := (w3 o q cy)) (S := S) C hG ⟨rfl, ⟨rfl, h⟩⟩ dX3_holdsItsOwn_38
def w3_holdsItsOwn_F4 (x1 : Int32) (S : MS) (Q : Int32 → Prop) (K : Int32 → Prop) (a : Int32) : Prop := w3_holdsItsOwn_d4 (fun y0 => K (y0)) x1 a S Q
def w3_holdsItsOwn_b4 (x1 : Int32) (x2 : Int32) (S : MS) (Q : Int32 → Prop) : Prop := lp (w3_holdsItsOwn_F4 x1 S Q) (x2)
set_option maxHeartbeats 4000000 in
set_option maxRecDepth 100000 in
theorem b3_holdsItsOwn_b4 {p : Program} {l : Launch} {e : Env} {s : State} {m : MethodId} {args : Array Value} {below : List Frame} {meth : Method} {c : Code} {D : va_G} {cy : Nat → ClassId} {A : Nat → Prop} {o : Nat} {q : Nat → Nat} (x1 : Int32) (x2 : Int32) (S : MS) {Q : Int32 → Prop} (C : Cx p s m args meth c cX3_holdsItsOwn 3 (some .boolean) wsX3_holdsItsOwn RX3 D cy nestWs A) (h : w3_holdsItsOwn_b4 x1 x2 S Q) {H : Heap} {locs : List Loc} (hG : GW D A s (w3 o q cy S) H locs) {ls : Array Slot} (hl : lv_has ls 3 [(0, .ref o), (1, .int x1), (2, .int x2)]) : W p l e ({ frames := 1, cells := 0, slots := 0, locals := 22 } : Room) s m args below meth c H locs 0 0 (MQ below (va_Qi (fun r z => z = S ∧ Q r ) (B1 D (w3 o q cy) A) A) args s 0 0 A) (F0 m 4 ls []) := by
  obtain ⟨k, hn⟩ := h
  induction k generalizing x2 H locs ls with
  | zero => exact hn.elim
  | succ k ih => exact b3_holdsItsOwn_d4 (K4 := fun y0 => itr (w3_holdsItsOwn_F4 x1 S Q) k (y0)) x1 x2 S C (fun x2 H locs ls hk hG hl => ih x2 hG hl hk) hn hG hl
def w3_holdsItsOwn (x1 : Int32) (S : MS) (Q : Int32 → Prop) : Prop :=
  ∀ y1 : Int32, y1 = (x1 + (1 : Int32)) → w3_holdsItsOwn_b4 x1 y1 S Q
set_option maxHeartbeats 4000000 in
set_option maxRecDepth 100000 in
theorem c3_holdsItsOwn (l : Launch) (D : va_G) (cy : Nat → ClassId)  (o : Nat) (q : Nat → Nat) (x1 : Int32) (S : MS) (Q : Int32 → Prop) (h : w3_holdsItsOwn x1 S Q) : MetI l yX3_holdsItsOwn wsX3_holdsItsOwn ({ frames := 1, cells := 0, slots := 0, locals := 22 } : Room) D cy nestWs (w3 o q cy) [.ref o, .int x1] S (fun r z => z = S ∧ Q r ) := by
  refine MetI.mk RX3 cX3_holdsItsOwn 3 .boolean (by decide) rfl nestWs_ok rfl (Nat.le_of_ble_eq_true rfl) ?_
  intro p e s m below meth c A ls C hG hl
  have hl : lv_has ls 3 [(0, .ref o), (1, .int x1)] := hl
  have hx := C.1
  have hb := C.2.1
  unfold w3_holdsItsOwn at h
  refine lv_iload_n hx hb dX3_holdsItsOwn_0 rfl (lv_at hl 1 rfl) ?_
  refine lv_iconst (v := 1) hx hb dX3_holdsItsOwn_1 (by decide) ?_
  refine lv_iadd hx hb dX3_holdsItsOwn_2 ?_
  refine lv_topi (fun y1 ey1 => ?_)
  replace h := h y1 ey1
  refine lv_istore_n (lv' := [(2, .int y1), (0, .ref o), (1, .int x1)]) hx hb dX3_holdsItsOwn_3 rfl hl (by decide) rfl (fun ls hl => ?_)
  exact b3_holdsItsOwn_b4 x1 y1 S C h hG (lv_sub hl [1, 2, 0] rfl)
-- X3_take
theorem i3_take_X5 : ∀ w ∈ wsX50, w ∈ wsX3_take := fun w h => List.mem_cons_of_mem _ (inG_X5 w h)
theorem i3_take_X3 : ∀ w ∈ wsX30, w ∈ wsX3_take := fun w h => List.mem_cons_of_mem _ (inG_X3 w h)
theorem k3_take_9 : Cond.fieldLink RX3 9 "PaperBodies$Gluer" "partners" "[I" ∈ wsX3_take := (List.mem_cons_of_mem _ mw_131)
theorem k3_take_52 : Cond.fieldLink RX3 52 "PaperBodies$Gluer" "edges" "I" ∈ wsX3_take := (List.mem_cons_of_mem _ mw_152)
theorem k3_take_75 : (Cond.methodLink RX3 75 arraycopyName ∈ wsX3_take ∧ Cond.native arraycopyName ∈ wsX3_take) ∧ (Cond.static arraycopyName ∈ wsX3_take ∧ Cond.initialized "java/lang/System" ∈ wsX3_take) := ⟨⟨(List.mem_cons_of_mem _ mw_159), (List.mem_cons_of_mem _ mw_160)⟩, ⟨(List.mem_cons_of_mem _ mw_161), (List.mem_cons_of_mem _ mw_162)⟩⟩
def w3_take_b58 (S : MS) (V1 : MS) (Q : Int32 → MS → Prop) : Prop :=
  Q (0 : Int32) S
set_option maxHeartbeats 4000000 in
set_option maxRecDepth 100000 in
theorem b3_take_b58 {p : Program} {l : Launch} {e : Env} {s : State} {m : MethodId} {args : Array Value} {below : List Frame} {meth : Method} {c : Code} {D : va_G} {cy : Nat → ClassId} {A : Nat → Prop} {o : Nat} {q : Nat → Nat} {o1 : Nat} {q1 : Nat → Nat} (S : MS) (V1 : MS) {Q : Int32 → MS → Prop} (C : Cx p s m args meth c cX3_take 4 (some .boolean) wsX3_take RX3 D cy nestWs A) (h : w3_take_b58 S V1 Q) {H : Heap} {locs : List Loc} (hG : GW D A s (w3 o q cy S ++ w5 o1 q1 cy V1) H locs) {ls : Array Slot} (hl : lv_has ls 4 [(0, .ref o)]) : W p l e ({ frames := 2, cells := 0, slots := 0, locals := 60 } : Room) s m args below meth c H locs 0 0 (MQ below (va_Qi (fun r z => z.2 = V1 ∧ Q r z.1) (B1 D (fun z : MS × MS => (w3 o q cy z.1 ++ w5 o1 q1 cy z.2 : va_W)) A) A) args s 0 0 A) (F0 m 58 ls []) := by
  have hx := C.1
  have hb := C.2.1
  unfold w3_take_b58 at h
  refine lv_iconst (v := 0) hx hb dX3_take_58 (by decide) ?_
  exact retZ (w := (fun z : MS × MS => (w3 o q cy z.1 ++ w5 o1 q1 cy z.2 : va_W))) (S := (S, V1)) (Qp := (fun r z => z.2 = V1 ∧ Q r z.1)) C hG ⟨rfl, ⟨rfl, h⟩⟩ dX3_take_59
def w3_take_d37 (K37 : Int32 → Prop) (x2 : Int32) (x3 : Int32) (S : MS) (V1 : MS) (Q : Int32 → MS → Prop) : Prop :=
  ((x2 ≤ x3 → Q (1 : Int32) S) ∧ (¬ x2 ≤ x3 → w3_isPaired x3 S (fun r2 => ((r2 = 0 → w3_take_b58 S V1 Q) ∧ (¬ r2 = 0 → w3_holdsItsOwn x3 S (fun r5 => ((¬ r5 = 0 → ∀ y8 : Int32, y8 = x3 + 1 → K37 y8) ∧ (r5 = 0 → w3_take_b58 S V1 Q))))))))
set_option maxHeartbeats 4000000 in
set_option maxRecDepth 100000 in
theorem b3_take_d37 {p : Program} {l : Launch} {e : Env} {s : State} {m : MethodId} {args : Array Value} {below : List Frame} {meth : Method} {c : Code} {D : va_G} {cy : Nat → ClassId} {A : Nat → Prop} {o : Nat} {q : Nat → Nat} {o1 : Nat} {q1 : Nat → Nat} {K37 : Int32 → Prop} (x2 : Int32) (x3 : Int32) (S : MS) (V1 : MS) {Q : Int32 → MS → Prop} (C : Cx p s m args meth c cX3_take 4 (some .boolean) wsX3_take RX3 D cy nestWs A) (hK37 : ∀ (x3 : Int32) (H : Heap) (locs : List Loc) (ls : Array Slot), K37 x3 → GW D A s (w3 o q cy S ++ w5 o1 q1 cy V1) H locs → lv_has ls 4 [(0, .ref o), (2, .int x2), (3, .int x3)] → W p l e ({ frames := 2, cells := 0, slots := 0, locals := 60 } : Room) s m args below meth c H locs 0 0 (MQ below (va_Qi (fun r z => z.2 = V1 ∧ Q r z.1) (B1 D (fun z : MS × MS => (w3 o q cy z.1 ++ w5 o1 q1 cy z.2 : va_W)) A) A) args s 0 0 A) (F0 m 37 ls [])) (h : w3_take_d37 K37 x2 x3 S V1 Q) {H : Heap} {locs : List Loc} (hG : GW D A s (w3 o q cy S ++ w5 o1 q1 cy V1) H locs) {ls : Array Slot} (hl : lv_has ls 4 [(0, .ref o), (2, .int x2), (3, .int x3)]) : W p l e ({ frames := 2, cells := 0, slots := 0, locals := 60 } : Room) s m args below meth c H locs 0 0 (MQ below (va_Qi (fun r z => z.2 = V1 ∧ Q r z.1) (B1 D (fun z : MS × MS => (w3 o q cy z.1 ++ w5 o1 q1 cy z.2 : va_W)) A) A) args s 0 0 A) (F0 m 37 ls []) := by
  have hx := C.1
  have hb := C.2.1
  unfold w3_take_d37 at h
  refine lv_iload_n hx hb dX3_take_37 rfl (lv_at hl 2 rfl) ?_
  refine lv_iload_n hx hb dX3_take_38 rfl (lv_at hl 1 rfl) ?_
  refine lv_icmp_ge (tgt := 66) hx hb dX3_take_39 (by decide) (fun c1 => ?_) (fun c1 => ?_)
  · replace h := h.1 c1
    refine lv_iconst (v := 1) hx hb dX3_take_66 (by decide) ?_
    exact retZ (w := (fun z : MS × MS => (w3 o q cy z.1 ++ w5 o1 q1 cy z.2 : va_W))) (S := (S, V1)) (Qp := (fun r z => z.2 = V1 ∧ Q r z.1)) C hG ⟨rfl, ⟨rfl, h⟩⟩ dX3_take_67
  · replace h := h.2 c1
    refine lv_aload_n hx hb dX3_take_42 rfl (lv_at hl 0 rfl) ?_
    refine lv_iload_n hx hb dX3_take_43 rfl (lv_at hl 2 rfl) ?_
    refine callVI (As := [.int x3]) (rest := []) C hG (c3_isPaired l D cy o q x3 S _ h) 1 gX3_take_X3_isPaired rfl (by decide +kernel) ⟨⟨Nat.le_of_ble_eq_true rfl, Nat.le_of_ble_eq_true rfl⟩, rfl, rfl⟩ rfl rfl (Foc.pq (rv := fun z : MS => (w3 o q cy z ++ w5 o1 q1 cy V1 : va_W)) C.2.2.2.2.2.2.2.2.1 [0, 1, 2, 3, 4, 5, 6, 7] [8, 9] [2, 3, 4, 5, 6, 7, 8, 9, 0, 1] rfl rfl rfl rfl rfl (by decide) rfl (fun _ => rfl) (fun _ => rfl)) rfl hl.1 rfl (Nat.le_of_ble_eq_true rfl) dX3_take_44 ⟨Nat.zero_le _, Nat.zero_le _⟩ (fun r2 u3 H locs h hG => ?_)
    obtain ⟨eu3, h⟩ := h
    have eu3 : u3 = S := eu3
    subst u3
    have hG : GW D A s (w3 o q cy S ++ w5 o1 q1 cy V1) H locs := hG
    refine lv_if_eq (tgt := 58) hx hb dX3_take_47 (by decide) (fun c4 => ?_) (fun c4 => ?_)
    · replace h := h.1 c4
      exact b3_take_b58 S V1 C h hG (lv_sub hl [0] rfl)
    · replace h := h.2 c4
      refine lv_aload_n hx hb dX3_take_50 rfl (lv_at hl 0 rfl) ?_
      refine lv_iload_n hx hb dX3_take_51 rfl (lv_at hl 2 rfl) ?_
      refine callVI (As := [.int x3]) (rest := []) C hG (c3_holdsItsOwn l D cy o q x3 S _ h) 1 gX3_take_X3_holdsItsOwn rfl (by decide +kernel) ⟨⟨Nat.le_of_ble_eq_true rfl, Nat.le_of_ble_eq_true rfl⟩, rfl, rfl⟩ rfl rfl (Foc.pq (rv := fun z : MS => (w3 o q cy z ++ w5 o1 q1 cy V1 : va_W)) C.2.2.2.2.2.2.2.2.1 [0, 1, 2, 3, 4, 5, 6, 7] [8, 9] [2, 3, 4, 5, 6, 7, 8, 9, 0, 1] rfl rfl rfl rfl rfl (by decide) rfl (fun _ => rfl) (fun _ => rfl)) rfl hl.1 rfl (Nat.le_of_ble_eq_true rfl) dX3_take_52 ⟨Nat.zero_le _, Nat.zero_le _⟩ (fun r5 u6 H locs h hG => ?_)
      obtain ⟨eu6, h⟩ := h
      have eu6 : u6 = S := eu6
      subst u6
      have hG : GW D A s (w3 o q cy S ++ w5 o1 q1 cy V1) H locs := hG
      refine lv_if_ne (tgt := 60) hx hb dX3_take_55 (by decide) (fun c7 => ?_) (fun c7 => ?_)
      · replace h := h.1 c7
        obtain ⟨y8, ey8⟩ : ∃ y : Int32, y = x3 + 1 := ⟨_, rfl⟩
        replace h := h y8 ey8
        refine lv_iinc (v := y8) (lv' := [(3, .int y8), (0, .ref o), (2, .int x2)]) hx hb dX3_take_60 hl (k := 2) rfl (by rw [ey8]; rfl) (by decide) rfl (fun ls hl => ?_)
        refine lv_goto (tgt := 37) hx hb dX3_take_63 (by decide) ?_
        exact hK37 y8 _ _ _ h hG (lv_sub hl [1, 2, 0] rfl)
      · replace h := h.2 c7
        exact b3_take_b58 S V1 C h hG (lv_sub hl [0] rfl)
def w3_take_F37 (x2 : Int32) (S : MS) (V1 : MS) (Q : Int32 → MS → Prop) (K : Int32 → Prop) (a : Int32) : Prop := w3_take_d37 (fun y0 => K (y0)) x2 a S V1 Q
def w3_take_b37 (x2 : Int32) (x3 : Int32) (S : MS) (V1 : MS) (Q : Int32 → MS → Prop) : Prop := lp (w3_take_F37 x2 S V1 Q) (x3)
set_option maxHeartbeats 4000000 in
set_option maxRecDepth 100000 in
theorem b3_take_b37 {p : Program} {l : Launch} {e : Env} {s : State} {m : MethodId} {args : Array Value} {below : List Frame} {meth : Method} {c : Code} {D : va_G} {cy : Nat → ClassId} {A : Nat → Prop} {o : Nat} {q : Nat → Nat} {o1 : Nat} {q1 : Nat → Nat} (x2 : Int32) (x3 : Int32) (S : MS) (V1 : MS) {Q : Int32 → MS → Prop} (C : Cx p s m args meth c cX3_take 4 (some .boolean) wsX3_take RX3 D cy nestWs A) (h : w3_take_b37 x2 x3 S V1 Q) {H : Heap} {locs : List Loc} (hG : GW D A s (w3 o q cy S ++ w5 o1 q1 cy V1) H locs) {ls : Array Slot} (hl : lv_has ls 4 [(0, .ref o), (2, .int x2), (3, .int x3)]) : W p l e ({ frames := 2, cells := 0, slots := 0, locals := 60 } : Room) s m args below meth c H locs 0 0 (MQ below (va_Qi (fun r z => z.2 = V1 ∧ Q r z.1) (B1 D (fun z : MS × MS => (w3 o q cy z.1 ++ w5 o1 q1 cy z.2 : va_W)) A) A) args s 0 0 A) (F0 m 37 ls []) := by
  obtain ⟨k, hn⟩ := h
  induction k generalizing x3 H locs ls with
  | zero => exact hn.elim
  | succ k ih => exact b3_take_d37 (K37 := fun y0 => itr (w3_take_F37 x2 S V1 Q) k (y0)) x2 x3 S V1 C (fun x3 H locs ls hk hG hl => ih x3 hG hl hk) hn hG hl
def w3_take_b14 (S : MS) (V1 : MS) (Q : Int32 → MS → Prop) : Prop :=
  Q (0 : Int32) S
set_option maxHeartbeats 4000000 in
set_option maxRecDepth 100000 in
theorem b3_take_b14 {p : Program} {l : Launch} {e : Env} {s : State} {m : MethodId} {args : Array Value} {below : List Frame} {meth : Method} {c : Code} {D : va_G} {cy : Nat → ClassId} {A : Nat → Prop} {o : Nat} {q : Nat → Nat} {o1 : Nat} {q1 : Nat → Nat} (S : MS) (V1 : MS) {Q : Int32 → MS → Prop} (C : Cx p s m args meth c cX3_take 4 (some .boolean) wsX3_take RX3 D cy nestWs A) (h : w3_take_b14 S V1 Q) {H : Heap} {locs : List Loc} (hG : GW D A s (w3 o q cy S ++ w5 o1 q1 cy V1) H locs) {ls : Array Slot} (hl : lv_has ls 4 [(0, .ref o)]) : W p l e ({ frames := 2, cells := 0, slots := 0, locals := 60 } : Room) s m args below meth c H locs 0 0 (MQ below (va_Qi (fun r z => z.2 = V1 ∧ Q r z.1) (B1 D (fun z : MS × MS => (w3 o q cy z.1 ++ w5 o1 q1 cy z.2 : va_W)) A) A) args s 0 0 A) (F0 m 14 ls []) := by
  have hx := C.1
  have hb := C.2.1
  unfold w3_take_b14 at h
  refine lv_iconst (v := 0) hx hb dX3_take_14 (by decide) ?_
  exact retZ (w := (fun z : MS × MS => (w3 o q cy z.1 ++ w5 o1 q1 cy z.2 : va_W))) (S := (S, V1)) (Qp := (fun r z => z.2 = V1 ∧ Q r z.1)) C hG ⟨rfl, ⟨rfl, h⟩⟩ dX3_take_15
def w3_take (x2 : Int32) (S : MS) (V1 : MS) (Q : Int32 → MS → Prop) : Prop :=
  ((¬ (fI V1 1) = x2 → w3_take_b14 S V1 Q) ∧ ((fI V1 1) = x2 → ((x2 ≤ (24 : Int32) → ∀ S3 : MS, S3 = sI S 7 x2 → (¬ (0 : Int32) < 0 ∧ ¬ (0 : Int32) < 0 ∧ ¬ x2 < 0 ∧ (0 : Int32).toNatClampNeg + x2.toNatClampNeg ≤ 24 ∧ (0 : Int32).toNatClampNeg + x2.toNatClampNeg ≤ 50) ∧ ∀ S5 : MS, S5 = pA S3 0 (va_cpy (aI V1 0) (aI S3 0) (0 : Int32).toNatClampNeg (0 : Int32).toNatClampNeg x2.toNatClampNeg) → w3_take_b37 x2 (0 : Int32) S5 V1 Q) ∧ (¬ x2 ≤ (24 : Int32) → w3_take_b14 S V1 Q))))
set_option maxHeartbeats 4000000 in
set_option maxRecDepth 100000 in
theorem c3_take (l : Launch) (D : va_G) (cy : Nat → ClassId)  (o : Nat) (q : Nat → Nat) (o1 : Nat) (q1 : Nat → Nat) (x2 : Int32) (S : MS) (V1 : MS) (Q : Int32 → MS → Prop) (h : w3_take x2 S V1 Q) : MetI l yX3_take wsX3_take ({ frames := 2, cells := 0, slots := 0, locals := 60 } : Room) D cy nestWs (fun z : MS × MS => (w3 o q cy z.1 ++ w5 o1 q1 cy z.2 : va_W)) [.ref o, .ref o1, .int x2] (S, V1) (fun r z => z.2 = V1 ∧ Q r z.1) := by
  refine MetI.mk RX3 cX3_take 4 .boolean (by decide) rfl nestWs_ok rfl (Nat.le_of_ble_eq_true rfl) ?_
  intro p e s m below meth c A ls C hG hl
  have hl : lv_has ls 4 [(0, .ref o), (1, .ref o1), (2, .int x2)] := hl
  have hx := C.1
  have hb := C.2.1
  unfold w3_take at h
  refine lv_aload_n hx hb dX3_take_0 rfl (lv_at hl 1 rfl) ?_
  refine gx_getN (host := "PaperBodies") C i3_take_X5 hG 8 rfl rfl 1 (by decide) (by decide +kernel) rfl dX3_take_1 ?_
  refine lv_iload_n hx hb dX3_take_4 rfl (lv_at hl 2 rfl) ?_
  refine lv_icmp_ne (tgt := 14) hx hb dX3_take_5 (by decide) (fun c1 => ?_) (fun c1 => ?_)
  · replace h := h.1 c1
    exact b3_take_b14 S V1 C h hG (lv_sub hl [0] rfl)
  · replace h := h.2 c1
    refine lv_iload_n hx hb dX3_take_8 rfl (lv_at hl 2 rfl) ?_
    refine lv_bipush (v := 24) hx hb dX3_take_9 (by decide) ?_
    refine lv_icmp_le (tgt := 16) hx hb dX3_take_11 (by decide) (fun c2 => ?_) (fun c2 => ?_)
    · replace h := h.1 c2
      refine lv_aload_n hx hb dX3_take_16 rfl (lv_at hl 0 rfl) ?_
      refine lv_iload_n hx hb dX3_take_17 rfl (lv_at hl 2 rfl) ?_
      refine gx_put (ty := .int) (ws' := w3 o q cy (sI S 7 x2) ++ w5 o1 q1 cy V1) C i3_take_X3 tyX3 tyX3_ok nmX3 hG 0 rfl rfl 7 (by decide) k3_take_52 rfl (by decide +kernel) rfl rfl (Nat.le_of_ble_eq_true rfl) dX3_take_18 rfl (fun H locs hG => ?_)
      obtain ⟨S3, eS3⟩ : ∃ z : MS, z = sI S 7 x2 := ⟨_, rfl⟩
      rw [← eS3] at hG
      replace h := h S3 eS3
      refine lv_aload_n hx hb dX3_take_21 rfl (lv_at hl 1 rfl) ?_
      refine gx_getN (host := "PaperBodies") C i3_take_X5 hG 8 rfl rfl 0 (by decide) (by decide +kernel) rfl dX3_take_22 ?_
      refine lv_iconst (v := 0) hx hb dX3_take_25 (by decide) ?_
      refine lv_aload_n hx hb dX3_take_26 rfl (lv_at hl 0 rfl) ?_
      refine gx_get C i3_take_X3 hG 0 rfl rfl 0 (by decide) k3_take_9 rfl dX3_take_27 ?_
      refine lv_iconst (v := 0) hx hb dX3_take_30 (by decide) ?_
      refine lv_iload_n hx hb dX3_take_31 rfl (lv_at hl 2 rfl) ?_
      obtain ⟨hv4, h⟩ := h
      refine gx_copy (ws' := w3 o q cy (pA S3 0 (va_cpy (aI V1 0) (aI S3 0) (0 : Int32).toNatClampNeg (0 : Int32).toNatClampNeg x2.toNatClampNeg)) ++ w5 o1 q1 cy V1) C hG (hl.1) (C.2.2.2.2.1 _ k3_take_75.1.1) (C.2.2.2.2.1 _ k3_take_75.1.2) (C.2.2.2.2.1 _ k3_take_75.2.1) (C.2.2.2.2.1 _ k3_take_75.2.2) 9 1 rfl rfl hv4 (Nat.le_of_ble_eq_true rfl) (Nat.le_of_ble_eq_true rfl) dX3_take_32 rfl (fun H locs hG => ?_)
      obtain ⟨S5, eS5⟩ : ∃ z : MS, z = pA S3 0 (va_cpy (aI V1 0) (aI S3 0) (0 : Int32).toNatClampNeg (0 : Int32).toNatClampNeg x2.toNatClampNeg) := ⟨_, rfl⟩
      rw [← eS5] at hG
      replace h := h S5 eS5
      refine lv_iconst (v := 0) hx hb dX3_take_35 (by decide) ?_
      refine lv_istore_n (lv' := [(3, .int (0 : Int32)), (0, .ref o), (1, .ref o1), (2, .int x2)]) hx hb dX3_take_36 rfl hl (by decide) rfl (fun ls hl => ?_)
      exact b3_take_b37 x2 (0 : Int32) S5 V1 C h hG (lv_sub hl [1, 3, 0] rfl)
    · replace h := h.2 c2
      exact b3_take_b14 S V1 C h hG (lv_sub hl [0] rfl)
-- X4_walk
theorem i4_walk_X4 : ∀ w ∈ wsX40, w ∈ wsX4_walk := fun w h => List.mem_cons_of_mem _ (inG_X4 w h)
theorem k4_walk_9 : Cond.fieldLink RX4 9 "PaperBodies$Rim" "ways" "[I" ∈ wsX4_walk := (List.mem_cons_of_mem _ mw_210)
theorem k4_walk_15 : Cond.fieldLink RX4 15 "PaperBodies$Rim" "angles" "[I" ∈ wsX4_walk := (List.mem_cons_of_mem _ mw_146)
theorem k4_walk_18 : Cond.fieldLink RX4 18 "PaperBodies$Rim" "beside" "[I" ∈ wsX4_walk := (List.mem_cons_of_mem _ mw_211)
theorem k4_walk_27 : Cond.fieldLink RX4 27 "PaperBodies$Rim" "length" "I" ∈ wsX4_walk := (List.mem_cons_of_mem _ mw_144)
def w4_walk_b208 (t0 : Int32) (S : MS) (Q : Int32 → MS → Prop) : Prop :=
  narrow .boolean (.int t0) = .int t0 ∧ Q t0 S
set_option maxHeartbeats 4000000 in
set_option maxRecDepth 100000 in
theorem b4_walk_b208 {p : Program} {l : Launch} {e : Env} {s : State} {m : MethodId} {args : Array Value} {below : List Frame} {meth : Method} {c : Code} {D : va_G} {cy : Nat → ClassId} {A : Nat → Prop} {o : Nat} {q : Nat → Nat} (t0 : Int32) (S : MS) {Q : Int32 → MS → Prop} (C : Cx p s m args meth c cX4_walk 10 (some .boolean) wsX4_walk RX4 D cy nestWs A) (h : w4_walk_b208 t0 S Q) {H : Heap} {locs : List Loc} (hG : GW D A s (w4 o q cy S) H locs) {ls : Array Slot} (hl : lv_has ls 10 [(0, .ref o)]) : W p l e ({ frames := 2, cells := 0, slots := 0, locals := 45 } : Room) s m args below meth c H locs 0 0 (MQ below (va_Qi Q (B1 D (w4 o q cy) A) A) args s 0 0 A) (F0 m 208 ls [.int t0]) := by
  have hx := C.1
  have hb := C.2.1
  unfold w4_walk_b208 at h
  exact retZ (w := (w4 o q cy)) (S := S) C hG ⟨h.1, h.2⟩ dX4_walk_208
def w4_walk_b207 (S : MS) (Q : Int32 → MS → Prop) : Prop :=
  w4_walk_b208 (0 : Int32) S Q
set_option maxHeartbeats 4000000 in
set_option maxRecDepth 100000 in
theorem b4_walk_b207 {p : Program} {l : Launch} {e : Env} {s : State} {m : MethodId} {args : Array Value} {below : List Frame} {meth : Method} {c : Code} {D : va_G} {cy : Nat → ClassId} {A : Nat → Prop} {o : Nat} {q : Nat → Nat} (S : MS) {Q : Int32 → MS → Prop} (C : Cx p s m args meth c cX4_walk 10 (some .boolean) wsX4_walk RX4 D cy nestWs A) (h : w4_walk_b207 S Q) {H : Heap} {locs : List Loc} (hG : GW D A s (w4 o q cy S) H locs) {ls : Array Slot} (hl : lv_has ls 10 [(0, .ref o)]) : W p l e ({ frames := 2, cells := 0, slots := 0, locals := 45 } : Room) s m args below meth c H locs 0 0 (MQ below (va_Qi Q (B1 D (w4 o q cy) A) A) args s 0 0 A) (F0 m 207 ls []) := by
  have hx := C.1
  have hb := C.2.1
  unfold w4_walk_b207 at h
  refine lv_iconst (v := 0) hx hb dX4_walk_207 (by decide) ?_
  exact b4_walk_b208 (0 : Int32) S C h hG hl
def w4_walk_b179 (x1 : Int64) (x6 : Int32) (x7 : Int32) (S : MS) (Q : Int32 → MS → Prop) : Prop :=
  ∀ S1 : MS, S1 = sA S 1 (0 : Int32) x6 → ((x7 = 0 → w4_walk_b207 S1 Q) ∧ (¬ x7 = 0 → w0_openEdges x1 (fun r3 => ((¬ (fI S1 3) = r3 → w4_walk_b207 S1 Q) ∧ ((fI S1 3) = r3 → w4_walk_b208 (1 : Int32) S1 Q)))))
set_option maxHeartbeats 4000000 in
set_option maxRecDepth 100000 in
theorem b4_walk_b179 {p : Program} {l : Launch} {e : Env} {s : State} {m : MethodId} {args : Array Value} {below : List Frame} {meth : Method} {c : Code} {D : va_G} {cy : Nat → ClassId} {A : Nat → Prop} {o : Nat} {q : Nat → Nat} (x1 : Int64) (x6 : Int32) (x7 : Int32) (S : MS) {Q : Int32 → MS → Prop} (C : Cx p s m args meth c cX4_walk 10 (some .boolean) wsX4_walk RX4 D cy nestWs A) (h : w4_walk_b179 x1 x6 x7 S Q) {H : Heap} {locs : List Loc} (hG : GW D A s (w4 o q cy S) H locs) {ls : Array Slot} (hl : lv_has ls 10 [(0, .ref o), (1, .long x1), (6, .int x6), (7, .int x7)]) : W p l e ({ frames := 2, cells := 0, slots := 0, locals := 45 } : Room) s m args below meth c H locs 0 0 (MQ below (va_Qi Q (B1 D (w4 o q cy) A) A) args s 0 0 A) (F0 m 179 ls []) := by
  have hx := C.1
  have hb := C.2.1
  unfold w4_walk_b179 at h
  refine lv_aload_n hx hb dX4_walk_179 rfl (lv_at hl 0 rfl) ?_
  refine gx_get C i4_walk_X4 hG 0 rfl rfl 1 (by decide) k4_walk_15 rfl dX4_walk_180 ?_
  refine lv_iconst (v := 0) hx hb dX4_walk_183 (by decide) ?_
  refine lv_iload hx hb dX4_walk_184 (lv_at hl 2 rfl) ?_
  refine gx_ast (ws' := w4 o q cy (sA S 1 (0 : Int32) x6)) C hG 2 rfl (by unfold vp_in; decide) dX4_walk_186 rfl (fun H locs hG => ?_)
  obtain ⟨S1, eS1⟩ : ∃ z : MS, z = sA S 1 (0 : Int32) x6 := ⟨_, rfl⟩
  rw [← eS1] at hG
  replace h := h S1 eS1
  refine lv_iload hx hb dX4_walk_187 (lv_at hl 3 rfl) ?_
  refine lv_if_eq (tgt := 207) hx hb dX4_walk_189 (by decide) (fun c2 => ?_) (fun c2 => ?_)
  · replace h := h.1 c2
    exact b4_walk_b207 S1 C h hG (lv_sub hl [0] rfl)
  · replace h := h.2 c2
    refine lv_aload_n hx hb dX4_walk_192 rfl (lv_at hl 0 rfl) ?_
    refine gx_get C i4_walk_X4 hG 0 rfl rfl 3 (by decide) k4_walk_27 rfl dX4_walk_193 ?_
    refine lv_lload_n hx hb dX4_walk_196 rfl (lv_at hl 1 rfl) ?_
    refine callSI (As := [.long x1]) (rest := [.int (fI S1 3)]) C hG (c0_openEdges l D cy x1 _ h) 1 gX4_walk_X0_openEdges rfl (by decide +kernel) ⟨⟨Nat.le_of_ble_eq_true rfl, Nat.le_of_ble_eq_true rfl⟩, rfl, rfl⟩ (Foc.none C.2.2.2.2.2.2.2.2.1) rfl hl.1 rfl (Nat.le_of_ble_eq_true rfl) dX4_walk_197 ⟨Nat.zero_le _, Nat.zero_le _⟩ (fun r3 z H locs h hG => ?_)
    refine lv_icmp_ne (tgt := 207) hx hb dX4_walk_200 (by decide) (fun c4 => ?_) (fun c4 => ?_)
    · replace h := h.1 c4
      exact b4_walk_b207 S1 C h hG (lv_sub hl [0] rfl)
    · replace h := h.2 c4
      refine lv_iconst (v := 1) hx hb dX4_walk_203 (by decide) ?_
      refine lv_goto (tgt := 208) hx hb dX4_walk_204 (by decide) ?_
      exact b4_walk_b208 (1 : Int32) S1 C h hG (lv_sub hl [0] rfl)
def w4_walk_b174 (K22 : Int32 → Int32 → Int32 → Int32 → MS → Prop) (x1 : Int64) (x3 : Int32) (x4 : Int32) (x5 : Int32) (x6 : Int32) (t0 : Int32) (S : MS) (Q : Int32 → MS → Prop) : Prop :=
  K22 x4 x5 x6 t0 S
set_option maxHeartbeats 4000000 in
set_option maxRecDepth 100000 in
theorem b4_walk_b174 {p : Program} {l : Launch} {e : Env} {s : State} {m : MethodId} {args : Array Value} {below : List Frame} {meth : Method} {c : Code} {D : va_G} {cy : Nat → ClassId} {A : Nat → Prop} {o : Nat} {q : Nat → Nat} {K22 : Int32 → Int32 → Int32 → Int32 → MS → Prop} (x1 : Int64) (x3 : Int32) (x4 : Int32) (x5 : Int32) (x6 : Int32) (t0 : Int32) (S : MS) {Q : Int32 → MS → Prop} (C : Cx p s m args meth c cX4_walk 10 (some .boolean) wsX4_walk RX4 D cy nestWs A) (hK22 : ∀ (x4 : Int32) (x5 : Int32) (x6 : Int32) (x7 : Int32) (S : MS) (H : Heap) (locs : List Loc) (ls : Array Slot), K22 x4 x5 x6 x7 S → GW D A s (w4 o q cy S) H locs → lv_has ls 10 [(0, .ref o), (1, .long x1), (3, .int x3), (4, .int x4), (5, .int x5), (6, .int x6), (7, .int x7)] → W p l e ({ frames := 2, cells := 0, slots := 0, locals := 45 } : Room) s m args below meth c H locs 0 0 (MQ below (va_Qi Q (B1 D (w4 o q cy) A) A) args s 0 0 A) (F0 m 22 ls [])) (h : w4_walk_b174 K22 x1 x3 x4 x5 x6 t0 S Q) {H : Heap} {locs : List Loc} (hG : GW D A s (w4 o q cy S) H locs) {ls : Array Slot} (hl : lv_has ls 10 [(0, .ref o), (1, .long x1), (3, .int x3), (4, .int x4), (5, .int x5), (6, .int x6)]) : W p l e ({ frames := 2, cells := 0, slots := 0, locals := 45 } : Room) s m args below meth c H locs 0 0 (MQ below (va_Qi Q (B1 D (w4 o q cy) A) A) args s 0 0 A) (F0 m 174 ls [.int t0]) := by
  have hx := C.1
  have hb := C.2.1
  unfold w4_walk_b174 at h
  refine lv_istore (lv' := [(7, .int t0), (0, .ref o), (1, .long x1), (3, .int x3), (4, .int x4), (5, .int x5), (6, .int x6)]) hx hb dX4_walk_174 hl (by decide) rfl (fun ls hl => ?_)
  refine lv_goto (tgt := 22) hx hb dX4_walk_176 (by decide) ?_
  exact hK22 x4 x5 x6 t0 S _ _ _ h hG (lv_sub hl [1, 2, 3, 4, 5, 6, 0] rfl)
def w4_walk_b173 (K22 : Int32 → Int32 → Int32 → Int32 → MS → Prop) (x1 : Int64) (x3 : Int32) (x4 : Int32) (x5 : Int32) (x6 : Int32) (S : MS) (Q : Int32 → MS → Prop) : Prop :=
  w4_walk_b174 K22 x1 x3 x4 x5 x6 (0 : Int32) S Q
set_option maxHeartbeats 4000000 in
set_option maxRecDepth 100000 in
theorem b4_walk_b173 {p : Program} {l : Launch} {e : Env} {s : State} {m : MethodId} {args : Array Value} {below : List Frame} {meth : Method} {c : Code} {D : va_G} {cy : Nat → ClassId} {A : Nat → Prop} {o : Nat} {q : Nat → Nat} {K22 : Int32 → Int32 → Int32 → Int32 → MS → Prop} (x1 : Int64) (x3 : Int32) (x4 : Int32) (x5 : Int32) (x6 : Int32) (S : MS) {Q : Int32 → MS → Prop} (C : Cx p s m args meth c cX4_walk 10 (some .boolean) wsX4_walk RX4 D cy nestWs A) (hK22 : ∀ (x4 : Int32) (x5 : Int32) (x6 : Int32) (x7 : Int32) (S : MS) (H : Heap) (locs : List Loc) (ls : Array Slot), K22 x4 x5 x6 x7 S → GW D A s (w4 o q cy S) H locs → lv_has ls 10 [(0, .ref o), (1, .long x1), (3, .int x3), (4, .int x4), (5, .int x5), (6, .int x6), (7, .int x7)] → W p l e ({ frames := 2, cells := 0, slots := 0, locals := 45 } : Room) s m args below meth c H locs 0 0 (MQ below (va_Qi Q (B1 D (w4 o q cy) A) A) args s 0 0 A) (F0 m 22 ls [])) (h : w4_walk_b173 K22 x1 x3 x4 x5 x6 S Q) {H : Heap} {locs : List Loc} (hG : GW D A s (w4 o q cy S) H locs) {ls : Array Slot} (hl : lv_has ls 10 [(0, .ref o), (1, .long x1), (3, .int x3), (4, .int x4), (5, .int x5), (6, .int x6)]) : W p l e ({ frames := 2, cells := 0, slots := 0, locals := 45 } : Room) s m args below meth c H locs 0 0 (MQ below (va_Qi Q (B1 D (w4 o q cy) A) A) args s 0 0 A) (F0 m 173 ls []) := by
  have hx := C.1
  have hb := C.2.1
  unfold w4_walk_b173 at h
  refine lv_iconst (v := 0) hx hb dX4_walk_173 (by decide) ?_
  exact b4_walk_b174 (K22 := K22) x1 x3 x4 x5 x6 (0 : Int32) S C hK22 h hG hl
def w4_walk_b158 (K22 : Int32 → Int32 → Int32 → Int32 → MS → Prop) (x1 : Int64) (x3 : Int32) (x4 : Int32) (x5 : Int32) (x6 : Int32) (S : MS) (Q : Int32 → MS → Prop) : Prop :=
  ((¬ x4 = x3 → w4_walk_b173 K22 x1 x3 x4 x5 x6 S Q) ∧ (x4 = x3 → ((¬ x5 = 0 → w4_walk_b173 K22 x1 x3 x4 x5 x6 S Q) ∧ (x5 = 0 → w4_walk_b174 K22 x1 x3 x4 x5 x6 (1 : Int32) S Q))))
set_option maxHeartbeats 4000000 in
set_option maxRecDepth 100000 in
theorem b4_walk_b158 {p : Program} {l : Launch} {e : Env} {s : State} {m : MethodId} {args : Array Value} {below : List Frame} {meth : Method} {c : Code} {D : va_G} {cy : Nat → ClassId} {A : Nat → Prop} {o : Nat} {q : Nat → Nat} {K22 : Int32 → Int32 → Int32 → Int32 → MS → Prop} (x1 : Int64) (x3 : Int32) (x4 : Int32) (x5 : Int32) (x6 : Int32) (S : MS) {Q : Int32 → MS → Prop} (C : Cx p s m args meth c cX4_walk 10 (some .boolean) wsX4_walk RX4 D cy nestWs A) (hK22 : ∀ (x4 : Int32) (x5 : Int32) (x6 : Int32) (x7 : Int32) (S : MS) (H : Heap) (locs : List Loc) (ls : Array Slot), K22 x4 x5 x6 x7 S → GW D A s (w4 o q cy S) H locs → lv_has ls 10 [(0, .ref o), (1, .long x1), (3, .int x3), (4, .int x4), (5, .int x5), (6, .int x6), (7, .int x7)] → W p l e ({ frames := 2, cells := 0, slots := 0, locals := 45 } : Room) s m args below meth c H locs 0 0 (MQ below (va_Qi Q (B1 D (w4 o q cy) A) A) args s 0 0 A) (F0 m 22 ls [])) (h : w4_walk_b158 K22 x1 x3 x4 x5 x6 S Q) {H : Heap} {locs : List Loc} (hG : GW D A s (w4 o q cy S) H locs) {ls : Array Slot} (hl : lv_has ls 10 [(0, .ref o), (1, .long x1), (3, .int x3), (4, .int x4), (5, .int x5), (6, .int x6)]) : W p l e ({ frames := 2, cells := 0, slots := 0, locals := 45 } : Room) s m args below meth c H locs 0 0 (MQ below (va_Qi Q (B1 D (w4 o q cy) A) A) args s 0 0 A) (F0 m 158 ls []) := by
  have hx := C.1
  have hb := C.2.1
  unfold w4_walk_b158 at h
  refine lv_iload hx hb dX4_walk_158 (lv_at hl 3 rfl) ?_
  refine lv_iload_n hx hb dX4_walk_160 rfl (lv_at hl 2 rfl) ?_
  refine lv_icmp_ne (tgt := 173) hx hb dX4_walk_161 (by decide) (fun c1 => ?_) (fun c1 => ?_)
  · replace h := h.1 c1
    exact b4_walk_b173 (K22 := K22) x1 x3 x4 x5 x6 S C hK22 h hG hl
  · replace h := h.2 c1
    refine lv_iload hx hb dX4_walk_164 (lv_at hl 4 rfl) ?_
    refine lv_if_ne (tgt := 173) hx hb dX4_walk_166 (by decide) (fun c2 => ?_) (fun c2 => ?_)
    · replace h := h.1 c2
      exact b4_walk_b173 (K22 := K22) x1 x3 x4 x5 x6 S C hK22 h hG hl
    · replace h := h.2 c2
      refine lv_iconst (v := 1) hx hb dX4_walk_169 (by decide) ?_
      refine lv_goto (tgt := 174) hx hb dX4_walk_170 (by decide) ?_
      exact b4_walk_b174 (K22 := K22) x1 x3 x4 x5 x6 (1 : Int32) S C hK22 h hG hl
def w4_walk_d22 (K22 : Int32 → Int32 → Int32 → Int32 → MS → Prop) (x1 : Int64) (x3 : Int32) (x4 : Int32) (x5 : Int32) (x6 : Int32) (x7 : Int32) (S : MS) (Q : Int32 → MS → Prop) : Prop :=
  (((50 : Int32) ≤ (fI S 3) → w4_walk_b179 x1 x6 x7 S Q) ∧ (¬ (50 : Int32) ≤ (fI S 3) → ((¬ x7 = 0 → w4_walk_b179 x1 x6 x7 S Q) ∧ (x7 = 0 → vp_in (fI S 3) 50 ∧ ∀ S4 : MS, S4 = sA S 0 (fI S 3) x5 → vp_in (fI S4 3) 50 ∧ ∀ S6 : MS, S6 = sA S4 2 (fI S4 3) x4 → vp_in (fI S6 3) 50 ∧ ∀ S8 : MS, S8 = sA S6 1 (fI S6 3) x6 → ∀ S9 : MS, S9 = sI S8 3 ((fI S8 3) + (1 : Int32)) → w0_beside x4 x5 (fun r10 => w0_beside r10 ((x5 + (3 : Int32)) &&& (3 : Int32)) (fun r11 => w0_has x1 r10 (fun r12 => ((¬ r12 = 0 → w0_has x1 r11 (fun r14 => ((¬ r14 = 0 → ∀ y16 : Int32, y16 = ((x5 + (3 : Int32)) &&& (3 : Int32)) → w4_walk_b158 K22 x1 x3 r11 y16 (3 : Int32) S9 Q) ∧ (r14 = 0 → w4_walk_b158 K22 x1 x3 r10 x5 (2 : Int32) S9 Q)))) ∧ (r12 = 0 → ∀ y17 : Int32, y17 = ((x5 + (1 : Int32)) &&& (3 : Int32)) → w4_walk_b158 K22 x1 x3 x4 y17 (1 : Int32) S9 Q)))))))))
set_option maxHeartbeats 4000000 in
set_option maxRecDepth 100000 in
theorem b4_walk_d22 {p : Program} {l : Launch} {e : Env} {s : State} {m : MethodId} {args : Array Value} {below : List Frame} {meth : Method} {c : Code} {D : va_G} {cy : Nat → ClassId} {A : Nat → Prop} {o : Nat} {q : Nat → Nat} {K22 : Int32 → Int32 → Int32 → Int32 → MS → Prop} (x1 : Int64) (x3 : Int32) (x4 : Int32) (x5 : Int32) (x6 : Int32) (x7 : Int32) (S : MS) {Q : Int32 → MS → Prop} (C : Cx p s m args meth c cX4_walk 10 (some .boolean) wsX4_walk RX4 D cy nestWs A) (hK22 : ∀ (x4 : Int32) (x5 : Int32) (x6 : Int32) (x7 : Int32) (S : MS) (H : Heap) (locs : List Loc) (ls : Array Slot), K22 x4 x5 x6 x7 S → GW D A s (w4 o q cy S) H locs → lv_has ls 10 [(0, .ref o), (1, .long x1), (3, .int x3), (4, .int x4), (5, .int x5), (6, .int x6), (7, .int x7)] → W p l e ({ frames := 2, cells := 0, slots := 0, locals := 45 } : Room) s m args below meth c H locs 0 0 (MQ below (va_Qi Q (B1 D (w4 o q cy) A) A) args s 0 0 A) (F0 m 22 ls [])) (h : w4_walk_d22 K22 x1 x3 x4 x5 x6 x7 S Q) {H : Heap} {locs : List Loc} (hG : GW D A s (w4 o q cy S) H locs) {ls : Array Slot} (hl : lv_has ls 10 [(0, .ref o), (1, .long x1), (3, .int x3), (4, .int x4), (5, .int x5), (6, .int x6), (7, .int x7)]) : W p l e ({ frames := 2, cells := 0, slots := 0, locals := 45 } : Room) s m args below meth c H locs 0 0 (MQ below (va_Qi Q (B1 D (w4 o q cy) A) A) args s 0 0 A) (F0 m 22 ls []) := by
  have hx := C.1
  have hb := C.2.1
  unfold w4_walk_d22 at h
  refine lv_aload_n hx hb dX4_walk_22 rfl (lv_at hl 0 rfl) ?_
  refine gx_get C i4_walk_X4 hG 0 rfl rfl 3 (by decide) k4_walk_27 rfl dX4_walk_23 ?_
  refine lv_bipush (v := 50) hx hb dX4_walk_26 (by decide) ?_
  refine lv_icmp_ge (tgt := 179) hx hb dX4_walk_28 (by decide) (fun c1 => ?_) (fun c1 => ?_)
  · replace h := h.1 c1
    exact b4_walk_b179 x1 x6 x7 S C h hG (lv_sub hl [0, 1, 5, 6] rfl)
  · replace h := h.2 c1
    refine lv_iload hx hb dX4_walk_31 (lv_at hl 6 rfl) ?_
    refine lv_if_ne (tgt := 179) hx hb dX4_walk_33 (by decide) (fun c2 => ?_) (fun c2 => ?_)
    · replace h := h.1 c2
      exact b4_walk_b179 x1 x6 x7 S C h hG (lv_sub hl [0, 1, 5, 6] rfl)
    · replace h := h.2 c2
      refine lv_aload_n hx hb dX4_walk_36 rfl (lv_at hl 0 rfl) ?_
      refine gx_get C i4_walk_X4 hG 0 rfl rfl 0 (by decide) k4_walk_9 rfl dX4_walk_37 ?_
      refine lv_aload_n hx hb dX4_walk_40 rfl (lv_at hl 0 rfl) ?_
      refine gx_get C i4_walk_X4 hG 0 rfl rfl 3 (by decide) k4_walk_27 rfl dX4_walk_41 ?_
      refine lv_iload hx hb dX4_walk_44 (lv_at hl 4 rfl) ?_
      obtain ⟨hv3, h⟩ := h
      refine gx_ast (ws' := w4 o q cy (sA S 0 (fI S 3) x5)) C hG 1 rfl hv3 dX4_walk_46 rfl (fun H locs hG => ?_)
      obtain ⟨S4, eS4⟩ : ∃ z : MS, z = sA S 0 (fI S 3) x5 := ⟨_, rfl⟩
      rw [← eS4] at hG
      replace h := h S4 eS4
      refine lv_aload_n hx hb dX4_walk_47 rfl (lv_at hl 0 rfl) ?_
      refine gx_get C i4_walk_X4 hG 0 rfl rfl 2 (by decide) k4_walk_18 rfl dX4_walk_48 ?_
      refine lv_aload_n hx hb dX4_walk_51 rfl (lv_at hl 0 rfl) ?_
      refine gx_get C i4_walk_X4 hG 0 rfl rfl 3 (by decide) k4_walk_27 rfl dX4_walk_52 ?_
      refine lv_iload hx hb dX4_walk_55 (lv_at hl 3 rfl) ?_
      obtain ⟨hv5, h⟩ := h
      refine gx_ast (ws' := w4 o q cy (sA S4 2 (fI S4 3) x4)) C hG 3 rfl hv5 dX4_walk_57 rfl (fun H locs hG => ?_)
      obtain ⟨S6, eS6⟩ : ∃ z : MS, z = sA S4 2 (fI S4 3) x4 := ⟨_, rfl⟩
      rw [← eS6] at hG
      replace h := h S6 eS6
      refine lv_aload_n hx hb dX4_walk_58 rfl (lv_at hl 0 rfl) ?_
      refine gx_get C i4_walk_X4 hG 0 rfl rfl 1 (by decide) k4_walk_15 rfl dX4_walk_59 ?_
      refine lv_aload_n hx hb dX4_walk_62 rfl (lv_at hl 0 rfl) ?_
      refine gx_get C i4_walk_X4 hG 0 rfl rfl 3 (by decide) k4_walk_27 rfl dX4_walk_63 ?_
      refine lv_iload hx hb dX4_walk_66 (lv_at hl 5 rfl) ?_
      obtain ⟨hv7, h⟩ := h
      refine gx_ast (ws' := w4 o q cy (sA S6 1 (fI S6 3) x6)) C hG 2 rfl hv7 dX4_walk_68 rfl (fun H locs hG => ?_)
      obtain ⟨S8, eS8⟩ : ∃ z : MS, z = sA S6 1 (fI S6 3) x6 := ⟨_, rfl⟩
      rw [← eS8] at hG
      replace h := h S8 eS8
      refine lv_aload_n hx hb dX4_walk_69 rfl (lv_at hl 0 rfl) ?_
      refine lv_dup hx hb dX4_walk_70 rfl ?_
      refine gx_get C i4_walk_X4 hG 0 rfl rfl 3 (by decide) k4_walk_27 rfl dX4_walk_71 ?_
      refine lv_iconst (v := 1) hx hb dX4_walk_74 (by decide) ?_
      refine lv_iadd hx hb dX4_walk_75 ?_
      refine gx_put (ty := .int) (ws' := w4 o q cy (sI S8 3 ((fI S8 3) + (1 : Int32)))) C i4_walk_X4 tyX4 tyX4_ok nmX4 hG 0 rfl rfl 3 (by decide) k4_walk_27 rfl (by decide +kernel) rfl rfl (Nat.le_of_ble_eq_true rfl) dX4_walk_76 rfl (fun H locs hG => ?_)
      obtain ⟨S9, eS9⟩ : ∃ z : MS, z = sI S8 3 ((fI S8 3) + (1 : Int32)) := ⟨_, rfl⟩
      rw [← eS9] at hG
      replace h := h S9 eS9
      refine lv_iload hx hb dX4_walk_79 (lv_at hl 3 rfl) ?_
      refine lv_iload hx hb dX4_walk_81 (lv_at hl 4 rfl) ?_
      refine callSI (As := [.int x4, .int x5]) (rest := []) C hG (c0_beside l D cy x4 x5 _ h) 2 gX4_walk_X0_beside rfl (by decide +kernel) ⟨⟨Nat.le_of_ble_eq_true rfl, Nat.le_of_ble_eq_true rfl⟩, rfl, rfl⟩ (Foc.none C.2.2.2.2.2.2.2.2.1) rfl hl.1 rfl (Nat.le_of_ble_eq_true rfl) dX4_walk_83 ⟨Nat.zero_le _, Nat.zero_le _⟩ (fun r10 z H locs h hG => ?_)
      refine lv_istore (lv' := [(8, .int r10), (0, .ref o), (1, .long x1), (3, .int x3), (4, .int x4), (5, .int x5), (6, .int x6), (7, .int x7)]) hx hb dX4_walk_86 hl (by decide) rfl (fun ls hl => ?_)
      refine lv_iload hx hb dX4_walk_88 (lv_at hl 0 rfl) ?_
      refine lv_iload hx hb dX4_walk_90 (lv_at hl 5 rfl) ?_
      refine lv_iconst (v := 3) hx hb dX4_walk_92 (by decide) ?_
      refine lv_iadd hx hb dX4_walk_93 ?_
      refine lv_iconst (v := 3) hx hb dX4_walk_94 (by decide) ?_
      refine lv_iand hx hb dX4_walk_95 ?_
      refine callSI (As := [.int r10, .int ((x5 + (3 : Int32)) &&& (3 : Int32))]) (rest := []) C hG (c0_beside l D cy r10 ((x5 + (3 : Int32)) &&& (3 : Int32)) _ h) 2 gX4_walk_X0_beside rfl (by decide +kernel) ⟨⟨Nat.le_of_ble_eq_true rfl, Nat.le_of_ble_eq_true rfl⟩, rfl, rfl⟩ (Foc.none C.2.2.2.2.2.2.2.2.1) rfl hl.1 rfl (Nat.le_of_ble_eq_true rfl) dX4_walk_96 ⟨Nat.zero_le _, Nat.zero_le _⟩ (fun r11 z H locs h hG => ?_)
      refine lv_istore (lv' := [(9, .int r11), (8, .int r10), (0, .ref o), (1, .long x1), (3, .int x3), (4, .int x4), (5, .int x5), (6, .int x6), (7, .int x7)]) hx hb dX4_walk_99 hl (by decide) rfl (fun ls hl => ?_)
      refine lv_lload_n hx hb dX4_walk_101 rfl (lv_at hl 3 rfl) ?_
      refine lv_iload hx hb dX4_walk_102 (lv_at hl 1 rfl) ?_
      refine callSI (As := [.long x1, .int r10]) (rest := []) C hG (c0_has l D cy x1 r10 _ h) 2 gX4_walk_X0_has rfl (by decide +kernel) ⟨⟨Nat.le_of_ble_eq_true rfl, Nat.le_of_ble_eq_true rfl⟩, rfl, rfl⟩ (Foc.none C.2.2.2.2.2.2.2.2.1) rfl hl.1 rfl (Nat.le_of_ble_eq_true rfl) dX4_walk_104 ⟨Nat.zero_le _, Nat.zero_le _⟩ (fun r12 z H locs h hG => ?_)
      refine lv_if_ne (tgt := 124) hx hb dX4_walk_107 (by decide) (fun c13 => ?_) (fun c13 => ?_)
      · replace h := h.1 c13
        refine lv_lload_n hx hb dX4_walk_124 rfl (lv_at hl 3 rfl) ?_
        refine lv_iload hx hb dX4_walk_125 (lv_at hl 0 rfl) ?_
        refine callSI (As := [.long x1, .int r11]) (rest := []) C hG (c0_has l D cy x1 r11 _ h) 2 gX4_walk_X0_has rfl (by decide +kernel) ⟨⟨Nat.le_of_ble_eq_true rfl, Nat.le_of_ble_eq_true rfl⟩, rfl, rfl⟩ (Foc.none C.2.2.2.2.2.2.2.2.1) rfl hl.1 rfl (Nat.le_of_ble_eq_true rfl) dX4_walk_127 ⟨Nat.zero_le _, Nat.zero_le _⟩ (fun r14 z H locs h hG => ?_)
        refine lv_if_ne (tgt := 143) hx hb dX4_walk_130 (by decide) (fun c15 => ?_) (fun c15 => ?_)
        · replace h := h.1 c15
          refine lv_iconst (v := 3) hx hb dX4_walk_143 (by decide) ?_
          refine lv_istore (lv' := [(6, .int (3 : Int32)), (9, .int r11), (8, .int r10), (0, .ref o), (1, .long x1), (3, .int x3), (4, .int x4), (5, .int x5), (7, .int x7)]) hx hb dX4_walk_144 hl (by decide) rfl (fun ls hl => ?_)
          refine lv_iload hx hb dX4_walk_146 (lv_at hl 1 rfl) ?_
          refine lv_istore (lv' := [(4, .int r11), (6, .int (3 : Int32)), (9, .int r11), (8, .int r10), (0, .ref o), (1, .long x1), (3, .int x3), (5, .int x5), (7, .int x7)]) hx hb dX4_walk_148 hl (by decide) rfl (fun ls hl => ?_)
          refine lv_iload hx hb dX4_walk_150 (lv_at hl 7 rfl) ?_
          refine lv_iconst (v := 3) hx hb dX4_walk_152 (by decide) ?_
          refine lv_iadd hx hb dX4_walk_153 ?_
          refine lv_iconst (v := 3) hx hb dX4_walk_154 (by decide) ?_
          refine lv_iand hx hb dX4_walk_155 ?_
          refine lv_topi (fun y16 ey16 => ?_)
          replace h := h y16 ey16
          refine lv_istore (lv' := [(5, .int y16), (4, .int r11), (6, .int (3 : Int32)), (9, .int r11), (8, .int r10), (0, .ref o), (1, .long x1), (3, .int x3), (7, .int x7)]) hx hb dX4_walk_156 hl (by decide) rfl (fun ls hl => ?_)
          exact b4_walk_b158 (K22 := K22) x1 x3 r11 y16 (3 : Int32) S9 C hK22 h hG (lv_sub hl [5, 6, 7, 1, 0, 2] rfl)
        · replace h := h.2 c15
          refine lv_iconst (v := 2) hx hb dX4_walk_133 (by decide) ?_
          refine lv_istore (lv' := [(6, .int (2 : Int32)), (9, .int r11), (8, .int r10), (0, .ref o), (1, .long x1), (3, .int x3), (4, .int x4), (5, .int x5), (7, .int x7)]) hx hb dX4_walk_134 hl (by decide) rfl (fun ls hl => ?_)
          refine lv_iload hx hb dX4_walk_136 (lv_at hl 2 rfl) ?_
          refine lv_istore (lv' := [(4, .int r10), (6, .int (2 : Int32)), (9, .int r11), (8, .int r10), (0, .ref o), (1, .long x1), (3, .int x3), (5, .int x5), (7, .int x7)]) hx hb dX4_walk_138 hl (by decide) rfl (fun ls hl => ?_)
          refine lv_goto (tgt := 158) hx hb dX4_walk_140 (by decide) ?_
          exact b4_walk_b158 (K22 := K22) x1 x3 r10 x5 (2 : Int32) S9 C hK22 h hG (lv_sub hl [4, 5, 6, 0, 7, 1] rfl)
      · replace h := h.2 c13
        refine lv_iconst (v := 1) hx hb dX4_walk_110 (by decide) ?_
        refine lv_istore (lv' := [(6, .int (1 : Int32)), (9, .int r11), (8, .int r10), (0, .ref o), (1, .long x1), (3, .int x3), (4, .int x4), (5, .int x5), (7, .int x7)]) hx hb dX4_walk_111 hl (by decide) rfl (fun ls hl => ?_)
        refine lv_iload hx hb dX4_walk_113 (lv_at hl 7 rfl) ?_
        refine lv_iconst (v := 1) hx hb dX4_walk_115 (by decide) ?_
        refine lv_iadd hx hb dX4_walk_116 ?_
        refine lv_iconst (v := 3) hx hb dX4_walk_117 (by decide) ?_
        refine lv_iand hx hb dX4_walk_118 ?_
        refine lv_topi (fun y17 ey17 => ?_)
        replace h := h y17 ey17
        refine lv_istore (lv' := [(5, .int y17), (6, .int (1 : Int32)), (9, .int r11), (8, .int r10), (0, .ref o), (1, .long x1), (3, .int x3), (4, .int x4), (7, .int x7)]) hx hb dX4_walk_119 hl (by decide) rfl (fun ls hl => ?_)
        refine lv_goto (tgt := 158) hx hb dX4_walk_121 (by decide) ?_
        exact b4_walk_b158 (K22 := K22) x1 x3 x4 y17 (1 : Int32) S9 C hK22 h hG (lv_sub hl [4, 5, 6, 7, 0, 1] rfl)
def w4_walk_F22 (x1 : Int64) (x3 : Int32) (Q : Int32 → MS → Prop) (K : Int32 × Int32 × Int32 × Int32 × MS → Prop) (a : Int32 × Int32 × Int32 × Int32 × MS) : Prop := w4_walk_d22 (fun y0 y1 y2 y3 y4 => K (y0, y1, y2, y3, y4)) x1 x3 a.1 a.2.1 a.2.2.1 a.2.2.2.1 a.2.2.2.2 Q
def w4_walk_b22 (x1 : Int64) (x3 : Int32) (x4 : Int32) (x5 : Int32) (x6 : Int32) (x7 : Int32) (S : MS) (Q : Int32 → MS → Prop) : Prop := lp (w4_walk_F22 x1 x3 Q) (x4, x5, x6, x7, S)
set_option maxHeartbeats 4000000 in
set_option maxRecDepth 100000 in
theorem b4_walk_b22 {p : Program} {l : Launch} {e : Env} {s : State} {m : MethodId} {args : Array Value} {below : List Frame} {meth : Method} {c : Code} {D : va_G} {cy : Nat → ClassId} {A : Nat → Prop} {o : Nat} {q : Nat → Nat} (x1 : Int64) (x3 : Int32) (x4 : Int32) (x5 : Int32) (x6 : Int32) (x7 : Int32) (S : MS) {Q : Int32 → MS → Prop} (C : Cx p s m args meth c cX4_walk 10 (some .boolean) wsX4_walk RX4 D cy nestWs A) (h : w4_walk_b22 x1 x3 x4 x5 x6 x7 S Q) {H : Heap} {locs : List Loc} (hG : GW D A s (w4 o q cy S) H locs) {ls : Array Slot} (hl : lv_has ls 10 [(0, .ref o), (1, .long x1), (3, .int x3), (4, .int x4), (5, .int x5), (6, .int x6), (7, .int x7)]) : W p l e ({ frames := 2, cells := 0, slots := 0, locals := 45 } : Room) s m args below meth c H locs 0 0 (MQ below (va_Qi Q (B1 D (w4 o q cy) A) A) args s 0 0 A) (F0 m 22 ls []) := by
  obtain ⟨k, hn⟩ := h
  induction k generalizing x4 x5 x6 x7 S H locs ls with
  | zero => exact hn.elim
  | succ k ih => exact b4_walk_d22 (K22 := fun y0 y1 y2 y3 y4 => itr (w4_walk_F22 x1 x3 Q) k (y0, y1, y2, y3, y4)) x1 x3 x4 x5 x6 x7 S C (fun x4 x5 x6 x7 S H locs ls hk hG hl => ih x4 x5 x6 x7 S hG hl hk) hn hG hl
def w4_walk (x1 : Int64) (S : MS) (Q : Int32 → MS → Prop) : Prop :=
  w0_least x1 (fun r1 => ∀ S2 : MS, S2 = sI S 3 (0 : Int32) → w4_walk_b22 x1 r1 r1 (0 : Int32) (0 : Int32) (0 : Int32) S2 Q)
set_option maxHeartbeats 4000000 in
set_option maxRecDepth 100000 in
theorem c4_walk (l : Launch) (D : va_G) (cy : Nat → ClassId)  (o : Nat) (q : Nat → Nat) (x1 : Int64) (S : MS) (Q : Int32 → MS → Prop) (h : w4_walk x1 S Q) : MetI l yX4_walk wsX4_walk ({ frames := 2, cells := 0, slots := 0, locals := 45 } : Room) D cy nestWs (w4 o q cy) [.ref o, .long x1] S Q := by
  refine MetI.mk RX4 cX4_walk 10 .boolean (by decide) rfl nestWs_ok rfl (Nat.le_of_ble_eq_true rfl) ?_
  intro p e s m below meth c A ls C hG hl
  have hl : lv_has ls 10 [(0, .ref o), (1, .long x1)] := hl
  have hx := C.1
  have hb := C.2.1
  unfold w4_walk at h
  refine lv_lload_n hx hb dX4_walk_0 rfl (lv_at hl 1 rfl) ?_
  refine callSI (As := [.long x1]) (rest := []) C hG (c0_least l D cy x1 _ h) 1 gX4_walk_X0_least rfl (by decide +kernel) ⟨⟨Nat.le_of_ble_eq_true rfl, Nat.le_of_ble_eq_true rfl⟩, rfl, rfl⟩ (Foc.none C.2.2.2.2.2.2.2.2.1) rfl hl.1 rfl (Nat.le_of_ble_eq_true rfl) dX4_walk_1 ⟨Nat.zero_le _, Nat.zero_le _⟩ (fun r1 z H locs h hG => ?_)
  refine lv_istore_n (lv' := [(3, .int r1), (0, .ref o), (1, .long x1)]) hx hb dX4_walk_4 rfl hl (by decide) rfl (fun ls hl => ?_)
  refine lv_iload_n hx hb dX4_walk_5 rfl (lv_at hl 0 rfl) ?_
  refine lv_istore (lv' := [(4, .int r1), (3, .int r1), (0, .ref o), (1, .long x1)]) hx hb dX4_walk_6 hl (by decide) rfl (fun ls hl => ?_)
  refine lv_iconst (v := 0) hx hb dX4_walk_8 (by decide) ?_
  refine lv_istore (lv' := [(5, .int (0 : Int32)), (4, .int r1), (3, .int r1), (0, .ref o), (1, .long x1)]) hx hb dX4_walk_9 hl (by decide) rfl (fun ls hl => ?_)
  refine lv_iconst (v := 0) hx hb dX4_walk_11 (by decide) ?_
  refine lv_istore (lv' := [(6, .int (0 : Int32)), (5, .int (0 : Int32)), (4, .int r1), (3, .int r1), (0, .ref o), (1, .long x1)]) hx hb dX4_walk_12 hl (by decide) rfl (fun ls hl => ?_)
  refine lv_iconst (v := 0) hx hb dX4_walk_14 (by decide) ?_
  refine lv_istore (lv' := [(7, .int (0 : Int32)), (6, .int (0 : Int32)), (5, .int (0 : Int32)), (4, .int r1), (3, .int r1), (0, .ref o), (1, .long x1)]) hx hb dX4_walk_15 hl (by decide) rfl (fun ls hl => ?_)
  refine lv_aload_n hx hb dX4_walk_17 rfl (lv_at hl 5 rfl) ?_
  refine lv_iconst (v := 0) hx hb dX4_walk_18 (by decide) ?_
  refine gx_put (ty := .int) (ws' := w4 o q cy (sI S 3 (0 : Int32))) C i4_walk_X4 tyX4 tyX4_ok nmX4 hG 0 rfl rfl 3 (by decide) k4_walk_27 rfl (by decide +kernel) rfl rfl (Nat.le_of_ble_eq_true rfl) dX4_walk_19 rfl (fun H locs hG => ?_)
  obtain ⟨S2, eS2⟩ : ∃ z : MS, z = sI S 3 (0 : Int32) := ⟨_, rfl⟩
  rw [← eS2] at hG
  replace h := h S2 eS2
  exact b4_walk_b22 x1 r1 r1 (0 : Int32) (0 : Int32) (0 : Int32) S2 C h hG (lv_sub hl [5, 6, 4, 3, 2, 1, 0] rfl)
-- X4_tellEdge
theorem i4_tellEdge_X4 : ∀ w ∈ wsX40, w ∈ wsX4_tellEdge := fun w h => List.mem_cons_of_mem _ (inG_X4 w h)
theorem k4_tellEdge_9 : Cond.fieldLink RX4 9 "PaperBodies$Rim" "ways" "[I" ∈ wsX4_tellEdge := (List.mem_cons_of_mem _ mw_210)
theorem k4_tellEdge_15 : Cond.fieldLink RX4 15 "PaperBodies$Rim" "angles" "[I" ∈ wsX4_tellEdge := (List.mem_cons_of_mem _ mw_146)
theorem k4_tellEdge_18 : Cond.fieldLink RX4 18 "PaperBodies$Rim" "beside" "[I" ∈ wsX4_tellEdge := (List.mem_cons_of_mem _ mw_211)
def w4_tellEdge (x1 : Int32) (x2 : Int32) (S : MS) (Q : Int32 → Prop) : Prop :=
  w4_hasEdge x1 S (fun r1 => ((¬ r1 = 0 → ((x2 = 0 → vp_in x1 50 ∧ Q (rA S 0 x1)) ∧ (x2 = 1 → vp_in x1 50 ∧ Q (rA S 1 x1)) ∧ (¬ x2 = 0 → ¬ x2 = 1 → vp_in x1 50 ∧ Q (rA S 2 x1)))) ∧ (r1 = 0 → Q (-9 : Int32))))
set_option maxHeartbeats 4000000 in
set_option maxRecDepth 100000 in
theorem c4_tellEdge (l : Launch) (D : va_G) (cy : Nat → ClassId)  (o : Nat) (q : Nat → Nat) (x1 : Int32) (x2 : Int32) (S : MS) (Q : Int32 → Prop) (h : w4_tellEdge x1 x2 S Q) : MetI l yX4_tellEdge wsX4_tellEdge ({ frames := 1, cells := 0, slots := 0, locals := 21 } : Room) D cy nestWs (w4 o q cy) [.ref o, .int x1, .int x2] S (fun r z => z = S ∧ Q r ) := by
  refine MetI.mk RX4 cX4_tellEdge 3 .int (by decide) rfl nestWs_ok rfl (Nat.le_of_ble_eq_true rfl) ?_
  intro p e s m below meth c A ls C hG hl
  have hl : lv_has ls 3 [(0, .ref o), (1, .int x1), (2, .int x2)] := hl
  have hx := C.1
  have hb := C.2.1
  unfold w4_tellEdge at h
  refine lv_aload_n hx hb dX4_tellEdge_0 rfl (lv_at hl 0 rfl) ?_
  refine lv_iload_n hx hb dX4_tellEdge_1 rfl (lv_at hl 1 rfl) ?_
  refine callVI (As := [.int x1]) (rest := []) C hG (c4_hasEdge l D cy o q x1 S _ h) 1 gX4_tellEdge_X4_hasEdge rfl (by decide +kernel) ⟨⟨Nat.le_of_ble_eq_true rfl, Nat.le_of_ble_eq_true rfl⟩, rfl, rfl⟩ rfl rfl (Foc.all C.2.2.2.2.2.2.2.2.1) rfl hl.1 rfl (Nat.le_of_ble_eq_true rfl) dX4_tellEdge_2 ⟨Nat.zero_le _, Nat.zero_le _⟩ (fun r1 u2 H locs h hG => ?_)
  obtain ⟨eu2, h⟩ := h
  have eu2 : u2 = S := eu2
  subst u2
  have hG : GW D A s (w4 o q cy S) H locs := hG
  refine lv_if_ne (tgt := 11) hx hb dX4_tellEdge_5 (by decide) (fun c3 => ?_) (fun c3 => ?_)
  · replace h := h.1 c3
    refine lv_iload_n hx hb dX4_tellEdge_11 rfl (lv_at hl 2 rfl) ?_
    by_cases c4_0 : x2 = 0
    · replace h := h.1 c4_0
      refine lv_lookup (tgt := 40) hx hb dX4_tellEdge_12 (by decide) (by rw [c4_0] <;> rfl) (by decide) ?_
      refine lv_aload_n hx hb dX4_tellEdge_40 rfl (lv_at hl 0 rfl) ?_
      refine gx_get C i4_tellEdge_X4 hG 0 rfl rfl 0 (by decide) k4_tellEdge_9 rfl dX4_tellEdge_41 ?_
      refine lv_iload_n hx hb dX4_tellEdge_44 rfl (lv_at hl 1 rfl) ?_
      obtain ⟨hv5, h⟩ := h
      refine gx_ald C hG 1 rfl hv5 dX4_tellEdge_45 ?_
      exact retI (w := (w4 o q cy)) (S := S) C hG ⟨rfl, h⟩ dX4_tellEdge_46
    by_cases c4_1 : x2 = 1
    · replace h := h.2.1 c4_1
      refine lv_lookup (tgt := 47) hx hb dX4_tellEdge_12 (by decide) (by rw [c4_1] <;> rfl) (by decide) ?_
      refine lv_aload_n hx hb dX4_tellEdge_47 rfl (lv_at hl 0 rfl) ?_
      refine gx_get C i4_tellEdge_X4 hG 0 rfl rfl 1 (by decide) k4_tellEdge_15 rfl dX4_tellEdge_48 ?_
      refine lv_iload_n hx hb dX4_tellEdge_51 rfl (lv_at hl 1 rfl) ?_
      obtain ⟨hv6, h⟩ := h
      refine gx_ald C hG 2 rfl hv6 dX4_tellEdge_52 ?_
      exact retI (w := (w4 o q cy)) (S := S) C hG ⟨rfl, h⟩ dX4_tellEdge_53
    replace h := h.2.2 c4_0 c4_1
    refine lv_lookup (tgt := 54) (off := 42) hx hb dX4_tellEdge_12 (by decide) (by rw [show (#[(0, 28), (1, 35)] : Array (Int × Int)).toList = [(0, 28), (1, 35)] from rfl, Op.lookupswitch.offset_cons, if_neg (sw_ne c4_0), Op.lookupswitch.offset_cons, if_neg (sw_ne c4_1)]; rfl) (by decide) ?_
    refine lv_aload_n hx hb dX4_tellEdge_54 rfl (lv_at hl 0 rfl) ?_
    refine gx_get C i4_tellEdge_X4 hG 0 rfl rfl 2 (by decide) k4_tellEdge_18 rfl dX4_tellEdge_55 ?_
    refine lv_iload_n hx hb dX4_tellEdge_58 rfl (lv_at hl 1 rfl) ?_
    obtain ⟨hv7, h⟩ := h
    refine gx_ald C hG 3 rfl hv7 dX4_tellEdge_59 ?_
    exact retI (w := (w4 o q cy)) (S := S) C hG ⟨rfl, h⟩ dX4_tellEdge_60
  · replace h := h.2 c3
    refine lv_bipush (v := -9) hx hb dX4_tellEdge_8 (by decide) ?_
    exact retI (w := (w4 o q cy)) (S := S) C hG ⟨rfl, h⟩ dX4_tellEdge_10
-- X4_sumOfAngles
theorem i4_sumOfAngles_X4 : ∀ w ∈ wsX40, w ∈ wsX4_sumOfAngles := fun w h => List.mem_cons_of_mem _ (inG_X4 w h)
theorem k4_sumOfAngles_15 : Cond.fieldLink RX4 15 "PaperBodies$Rim" "angles" "[I" ∈ wsX4_sumOfAngles := (List.mem_cons_of_mem _ mw_146)
theorem k4_sumOfAngles_27 : Cond.fieldLink RX4 27 "PaperBodies$Rim" "length" "I" ∈ wsX4_sumOfAngles := (List.mem_cons_of_mem _ mw_144)
def w4_sumOfAngles_d4 (K4 : Int32 → Int32 → Prop) (x1 : Int32) (x2 : Int32) (S : MS) (Q : Int32 → Prop) : Prop :=
  (((fI S 3) ≤ x2 → Q x1) ∧ (¬ (fI S 3) ≤ x2 → vp_in x2 50 ∧ ∀ y3 : Int32, y3 = (x1 + (rA S 1 x2)) → ∀ y4 : Int32, y4 = x2 + 1 → K4 y3 y4))
set_option maxHeartbeats 4000000 in
set_option maxRecDepth 100000 in
theorem b4_sumOfAngles_d4 {p : Program} {l : Launch} {e : Env} {s : State} {m : MethodId} {args : Array Value} {below : List Frame} {meth : Method} {c : Code} {D : va_G} {cy : Nat → ClassId} {A : Nat → Prop} {o : Nat} {q : Nat → Nat} {K4 : Int32 → Int32 → Prop} (x1 : Int32) (x2 : Int32) (S : MS) {Q : Int32 → Prop} (C : Cx p s m args meth c cX4_sumOfAngles 3 (some .int) wsX4_sumOfAngles RX4 D cy nestWs A) (hK4 : ∀ (x1 : Int32) (x2 : Int32) (H : Heap) (locs : List Loc) (ls : Array Slot), K4 x1 x2 → GW D A s (w4 o q cy S) H locs → lv_has ls 3 [(0, .ref o), (1, .int x1), (2, .int x2)] → W p l e ({ frames := 0, cells := 0, slots := 0, locals := 0 } : Room) s m args below meth c H locs 0 0 (MQ below (va_Qi (fun r z => z = S ∧ Q r ) (B1 D (w4 o q cy) A) A) args s 0 0 A) (F0 m 4 ls [])) (h : w4_sumOfAngles_d4 K4 x1 x2 S Q) {H : Heap} {locs : List Loc} (hG : GW D A s (w4 o q cy S) H locs) {ls : Array Slot} (hl : lv_has ls 3 [(0, .ref o), (1, .int x1), (2, .int x2)]) : W p l e ({ frames := 0, cells := 0, slots := 0, locals := 0 } : Room) s m args below meth c H locs 0 0 (MQ below (va_Qi (fun r z => z = S ∧ Q r ) (B1 D (w4 o q cy) A) A) args s 0 0 A) (F0 m 4 ls []) := by
  have hx := C.1
  have hb := C.2.1
  unfold w4_sumOfAngles_d4 at h
  refine lv_iload_n hx hb dX4_sumOfAngles_4 rfl (lv_at hl 2 rfl) ?_
  refine lv_aload_n hx hb dX4_sumOfAngles_5 rfl (lv_at hl 0 rfl) ?_
  refine gx_get C i4_sumOfAngles_X4 hG 0 rfl rfl 3 (by decide) k4_sumOfAngles_27 rfl dX4_sumOfAngles_6 ?_
  refine lv_icmp_ge (tgt := 27) hx hb dX4_sumOfAngles_9 (by decide) (fun c1 => ?_) (fun c1 => ?_)
  · replace h := h.1 c1
    refine lv_iload_n hx hb dX4_sumOfAngles_27 rfl (lv_at hl 1 rfl) ?_
    exact retI (w := (w4 o q cy)) (S := S) C hG ⟨rfl, h⟩ dX4_sumOfAngles_28
  · replace h := h.2 c1
    refine lv_iload_n hx hb dX4_sumOfAngles_12 rfl (lv_at hl 1 rfl) ?_
    refine lv_aload_n hx hb dX4_sumOfAngles_13 rfl (lv_at hl 0 rfl) ?_
    refine gx_get C i4_sumOfAngles_X4 hG 0 rfl rfl 1 (by decide) k4_sumOfAngles_15 rfl dX4_sumOfAngles_14 ?_
    refine lv_iload_n hx hb dX4_sumOfAngles_17 rfl (lv_at hl 2 rfl) ?_
    obtain ⟨hv2, h⟩ := h
    refine gx_ald C hG 2 rfl hv2 dX4_sumOfAngles_18 ?_
    refine lv_iadd hx hb dX4_sumOfAngles_19 ?_
    refine lv_topi (fun y3 ey3 => ?_)
    replace h := h y3 ey3
    refine lv_istore_n (lv' := [(1, .int y3), (0, .ref o), (2, .int x2)]) hx hb dX4_sumOfAngles_20 rfl hl (by decide) rfl (fun ls hl => ?_)
    obtain ⟨y4, ey4⟩ : ∃ y : Int32, y = x2 + 1 := ⟨_, rfl⟩
    replace h := h y4 ey4
    refine lv_iinc (v := y4) (lv' := [(2, .int y4), (1, .int y3), (0, .ref o)]) hx hb dX4_sumOfAngles_21 hl (k := 2) rfl (by rw [ey4]; rfl) (by decide) rfl (fun ls hl => ?_)
    refine lv_goto (tgt := 4) hx hb dX4_sumOfAngles_24 (by decide) ?_
    exact hK4 y3 y4 _ _ _ h hG (lv_sub hl [2, 1, 0] rfl)
def w4_sumOfAngles_F4 (S : MS) (Q : Int32 → Prop) (K : Int32 × Int32 → Prop) (a : Int32 × Int32) : Prop := w4_sumOfAngles_d4 (fun y0 y1 => K (y0, y1)) a.1 a.2 S Q
def w4_sumOfAngles_b4 (x1 : Int32) (x2 : Int32) (S : MS) (Q : Int32 → Prop) : Prop := lp (w4_sumOfAngles_F4 S Q) (x1, x2)
set_option maxHeartbeats 4000000 in
set_option maxRecDepth 100000 in
theorem b4_sumOfAngles_b4 {p : Program} {l : Launch} {e : Env} {s : State} {m : MethodId} {args : Array Value} {below : List Frame} {meth : Method} {c : Code} {D : va_G} {cy : Nat → ClassId} {A : Nat → Prop} {o : Nat} {q : Nat → Nat} (x1 : Int32) (x2 : Int32) (S : MS) {Q : Int32 → Prop} (C : Cx p s m args meth c cX4_sumOfAngles 3 (some .int) wsX4_sumOfAngles RX4 D cy nestWs A) (h : w4_sumOfAngles_b4 x1 x2 S Q) {H : Heap} {locs : List Loc} (hG : GW D A s (w4 o q cy S) H locs) {ls : Array Slot} (hl : lv_has ls 3 [(0, .ref o), (1, .int x1), (2, .int x2)]) : W p l e ({ frames := 0, cells := 0, slots := 0, locals := 0 } : Room) s m args below meth c H locs 0 0 (MQ below (va_Qi (fun r z => z = S ∧ Q r ) (B1 D (w4 o q cy) A) A) args s 0 0 A) (F0 m 4 ls []) := by
  obtain ⟨k, hn⟩ := h
  induction k generalizing x1 x2 H locs ls with
  | zero => exact hn.elim
  | succ k ih => exact b4_sumOfAngles_d4 (K4 := fun y0 y1 => itr (w4_sumOfAngles_F4 S Q) k (y0, y1)) x1 x2 S C (fun x1 x2 H locs ls hk hG hl => ih x1 x2 hG hl hk) hn hG hl
def w4_sumOfAngles (S : MS) (Q : Int32 → Prop) : Prop :=
  w4_sumOfAngles_b4 (0 : Int32) (0 : Int32) S Q
set_option maxHeartbeats 4000000 in
set_option maxRecDepth 100000 in
theorem c4_sumOfAngles (l : Launch) (D : va_G) (cy : Nat → ClassId)  (o : Nat) (q : Nat → Nat) (S : MS) (Q : Int32 → Prop) (h : w4_sumOfAngles S Q) : MetI l yX4_sumOfAngles wsX4_sumOfAngles ({ frames := 0, cells := 0, slots := 0, locals := 0 } : Room) D cy nestWs (w4 o q cy) [.ref o] S (fun r z => z = S ∧ Q r ) := by
  refine MetI.mk RX4 cX4_sumOfAngles 3 .int (by decide) rfl nestWs_ok rfl (Nat.le_of_ble_eq_true rfl) ?_
  intro p e s m below meth c A ls C hG hl
  have hl : lv_has ls 3 [(0, .ref o)] := hl
  have hx := C.1
  have hb := C.2.1
  unfold w4_sumOfAngles at h
  refine lv_iconst (v := 0) hx hb dX4_sumOfAngles_0 (by decide) ?_
  refine lv_istore_n (lv' := [(1, .int (0 : Int32)), (0, .ref o)]) hx hb dX4_sumOfAngles_1 rfl hl (by decide) rfl (fun ls hl => ?_)
  refine lv_iconst (v := 0) hx hb dX4_sumOfAngles_2 (by decide) ?_
  refine lv_istore_n (lv' := [(2, .int (0 : Int32)), (1, .int (0 : Int32)), (0, .ref o)]) hx hb dX4_sumOfAngles_3 rfl hl (by decide) rfl (fun ls hl => ?_)
  exact b4_sumOfAngles_b4 (0 : Int32) (0 : Int32) S C h hG (lv_sub hl [2, 1, 0] rfl)
-- X5_isThere
theorem i5_isThere_X5 : ∀ w ∈ wsX50, w ∈ wsX5_isThere := fun w h => List.mem_cons_of_mem _ (inG_X5 w h)
theorem k5_isThere_15 : Cond.fieldLink RX5 15 "PaperBodies$Row" "size" "I" ∈ wsX5_isThere := (List.mem_cons_of_mem _ mw_224)
def w5_isThere_b13 (t0 : Int32) (S : MS) (Q : Int32 → Prop) : Prop :=
  narrow .boolean (.int t0) = .int t0 ∧ Q t0
set_option maxHeartbeats 4000000 in
set_option maxRecDepth 100000 in
theorem b5_isThere_b13 {p : Program} {l : Launch} {e : Env} {s : State} {m : MethodId} {args : Array Value} {below : List Frame} {meth : Method} {c : Code} {D : va_G} {cy : Nat → ClassId} {A : Nat → Prop} {o : Nat} {q : Nat → Nat} (t0 : Int32) (S : MS) {Q : Int32 → Prop} (C : Cx p s m args meth c cX5_isThere 1 (some .boolean) wsX5_isThere RX5 D cy nestWs A) (h : w5_isThere_b13 t0 S Q) {H : Heap} {locs : List Loc} (hG : GW D A s (w5 o q cy S) H locs) {ls : Array Slot} (hl : lv_has ls 1 [(0, .ref o)]) : W p l e ({ frames := 0, cells := 0, slots := 0, locals := 0 } : Room) s m args below meth c H locs 0 0 (MQ below (va_Qi (fun r z => z = S ∧ Q r ) (B1 D (w5 o q cy) A) A) args s 0 0 A) (F0 m 13 ls [.int t0]) := by
  have hx := C.1
  have hb := C.2.1
  unfold w5_isThere_b13 at h
  exact retZ (w := (w5 o q cy)) (S := S) C hG ⟨h.1, ⟨rfl, h.2⟩⟩ dX5_isThere_13
def w5_isThere (S : MS) (Q : Int32 → Prop) : Prop :=
  (((fI S 1) = (-1 : Int32) → w5_isThere_b13 (0 : Int32) S Q) ∧ (¬ (fI S 1) = (-1 : Int32) → w5_isThere_b13 (1 : Int32) S Q))
set_option maxHeartbeats 4000000 in
set_option maxRecDepth 100000 in
theorem c5_isThere (l : Launch) (D : va_G) (cy : Nat → ClassId)  (o : Nat) (q : Nat → Nat) (S : MS) (Q : Int32 → Prop) (h : w5_isThere S Q) : MetI l yX5_isThere wsX5_isThere ({ frames := 0, cells := 0, slots := 0, locals := 0 } : Room) D cy nestWs (w5 o q cy) [.ref o] S (fun r z => z = S ∧ Q r ) := by
  refine MetI.mk RX5 cX5_isThere 1 .boolean (by decide) rfl nestWs_ok rfl (Nat.le_of_ble_eq_true rfl) ?_
  intro p e s m below meth c A ls C hG hl
  have hl : lv_has ls 1 [(0, .ref o)] := hl
  have hx := C.1
  have hb := C.2.1
  unfold w5_isThere at h
  refine lv_aload_n hx hb dX5_isThere_0 rfl (lv_at hl 0 rfl) ?_
  refine gx_get C i5_isThere_X5 hG 0 rfl rfl 1 (by decide) k5_isThere_15 rfl dX5_isThere_1 ?_
  refine lv_iconst (v := -1) hx hb dX5_isThere_4 (by decide) ?_
  refine lv_icmp_eq (tgt := 12) hx hb dX5_isThere_5 (by decide) (fun c1 => ?_) (fun c1 => ?_)
  · replace h := h.1 c1
    refine lv_iconst (v := 0) hx hb dX5_isThere_12 (by decide) ?_
    exact b5_isThere_b13 (0 : Int32) S C h hG hl
  · replace h := h.2 c1
    refine lv_iconst (v := 1) hx hb dX5_isThere_8 (by decide) ?_
    refine lv_goto (tgt := 13) hx hb dX5_isThere_9 (by decide) ?_
    exact b5_isThere_b13 (1 : Int32) S C h hG hl
-- X5_hasPlace
theorem i5_hasPlace_X5 : ∀ w ∈ wsX50, w ∈ wsX5_hasPlace := fun w h => List.mem_cons_of_mem _ (inG_X5 w h)
theorem k5_hasPlace_15 : Cond.fieldLink RX5 15 "PaperBodies$Row" "size" "I" ∈ wsX5_hasPlace := (List.mem_cons_of_mem _ mw_224)
def w5_hasPlace_b17 (t0 : Int32) (S : MS) (Q : Int32 → Prop) : Prop :=
  narrow .boolean (.int t0) = .int t0 ∧ Q t0
set_option maxHeartbeats 4000000 in
set_option maxRecDepth 100000 in
theorem b5_hasPlace_b17 {p : Program} {l : Launch} {e : Env} {s : State} {m : MethodId} {args : Array Value} {below : List Frame} {meth : Method} {c : Code} {D : va_G} {cy : Nat → ClassId} {A : Nat → Prop} {o : Nat} {q : Nat → Nat} (t0 : Int32) (S : MS) {Q : Int32 → Prop} (C : Cx p s m args meth c cX5_hasPlace 2 (some .boolean) wsX5_hasPlace RX5 D cy nestWs A) (h : w5_hasPlace_b17 t0 S Q) {H : Heap} {locs : List Loc} (hG : GW D A s (w5 o q cy S) H locs) {ls : Array Slot} (hl : lv_has ls 2 [(0, .ref o)]) : W p l e ({ frames := 0, cells := 0, slots := 0, locals := 0 } : Room) s m args below meth c H locs 0 0 (MQ below (va_Qi (fun r z => z = S ∧ Q r ) (B1 D (w5 o q cy) A) A) args s 0 0 A) (F0 m 17 ls [.int t0]) := by
  have hx := C.1
  have hb := C.2.1
  unfold w5_hasPlace_b17 at h
  exact retZ (w := (w5 o q cy)) (S := S) C hG ⟨h.1, ⟨rfl, h.2⟩⟩ dX5_hasPlace_17
def w5_hasPlace_b16 (S : MS) (Q : Int32 → Prop) : Prop :=
  w5_hasPlace_b17 (0 : Int32) S Q
set_option maxHeartbeats 4000000 in
set_option maxRecDepth 100000 in
theorem b5_hasPlace_b16 {p : Program} {l : Launch} {e : Env} {s : State} {m : MethodId} {args : Array Value} {below : List Frame} {meth : Method} {c : Code} {D : va_G} {cy : Nat → ClassId} {A : Nat → Prop} {o : Nat} {q : Nat → Nat} (S : MS) {Q : Int32 → Prop} (C : Cx p s m args meth c cX5_hasPlace 2 (some .boolean) wsX5_hasPlace RX5 D cy nestWs A) (h : w5_hasPlace_b16 S Q) {H : Heap} {locs : List Loc} (hG : GW D A s (w5 o q cy S) H locs) {ls : Array Slot} (hl : lv_has ls 2 [(0, .ref o)]) : W p l e ({ frames := 0, cells := 0, slots := 0, locals := 0 } : Room) s m args below meth c H locs 0 0 (MQ below (va_Qi (fun r z => z = S ∧ Q r ) (B1 D (w5 o q cy) A) A) args s 0 0 A) (F0 m 16 ls []) := by
  have hx := C.1
  have hb := C.2.1
  unfold w5_hasPlace_b16 at h
  refine lv_iconst (v := 0) hx hb dX5_hasPlace_16 (by decide) ?_
  exact b5_hasPlace_b17 (0 : Int32) S C h hG hl
def w5_hasPlace (x1 : Int32) (S : MS) (Q : Int32 → Prop) : Prop :=
  ((x1 < 0 → w5_hasPlace_b16 S Q) ∧ (¬ x1 < 0 → (((fI S 1) ≤ x1 → w5_hasPlace_b16 S Q) ∧ (¬ (fI S 1) ≤ x1 → w5_hasPlace_b17 (1 : Int32) S Q))))
set_option maxHeartbeats 4000000 in
set_option maxRecDepth 100000 in
theorem c5_hasPlace (l : Launch) (D : va_G) (cy : Nat → ClassId)  (o : Nat) (q : Nat → Nat) (x1 : Int32) (S : MS) (Q : Int32 → Prop) (h : w5_hasPlace x1 S Q) : MetI l yX5_hasPlace wsX5_hasPlace ({ frames := 0, cells := 0, slots := 0, locals := 0 } : Room) D cy nestWs (w5 o q cy) [.ref o, .int x1] S (fun r z => z = S ∧ Q r ) := by
  refine MetI.mk RX5 cX5_hasPlace 2 .boolean (by decide) rfl nestWs_ok rfl (Nat.le_of_ble_eq_true rfl) ?_
  intro p e s m below meth c A ls C hG hl
  have hl : lv_has ls 2 [(0, .ref o), (1, .int x1)] := hl
  have hx := C.1
  have hb := C.2.1
  unfold w5_hasPlace at h
  refine lv_iload_n hx hb dX5_hasPlace_0 rfl (lv_at hl 1 rfl) ?_
  refine lv_if_lt (tgt := 16) hx hb dX5_hasPlace_1 (by decide) (fun c1 => ?_) (fun c1 => ?_)
  · replace h := h.1 c1
    exact b5_hasPlace_b16 S C h hG (lv_sub hl [0] rfl)
  · replace h := h.2 c1
    refine lv_iload_n hx hb dX5_hasPlace_4 rfl (lv_at hl 1 rfl) ?_
    refine lv_aload_n hx hb dX5_hasPlace_5 rfl (lv_at hl 0 rfl) ?_
    refine gx_get C i5_hasPlace_X5 hG 0 rfl rfl 1 (by decide) k5_hasPlace_15 rfl dX5_hasPlace_6 ?_
    refine lv_icmp_ge (tgt := 16) hx hb dX5_hasPlace_9 (by decide) (fun c2 => ?_) (fun c2 => ?_)
    · replace h := h.1 c2
      exact b5_hasPlace_b16 S C h hG (lv_sub hl [0] rfl)
    · replace h := h.2 c2
      refine lv_iconst (v := 1) hx hb dX5_hasPlace_12 (by decide) ?_
      refine lv_goto (tgt := 17) hx hb dX5_hasPlace_13 (by decide) ?_
      exact b5_hasPlace_b17 (1 : Int32) S C h hG (lv_sub hl [0] rfl)
