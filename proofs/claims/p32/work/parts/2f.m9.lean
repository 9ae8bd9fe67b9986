-- X9_along
theorem i9_along_X9 : ∀ w ∈ wsX90, w ∈ wsX9_along := fun w h => List.mem_cons_of_mem _ (inG_X9 w h)
theorem k9_along_56 : Cond.fieldLink RX9 56 "PaperBodiesModel" "pointRow" "[I" ∈ wsX9_along := (List.mem_cons_of_mem _ mw_552)
theorem k9_along_68 : Cond.fieldLink RX9 68 "PaperBodiesModel" "goal" "[I" ∈ wsX9_along := (List.mem_cons_of_mem _ mw_556)
def w9_along (x1 : Int32) (x2 : Int32) (S : MS) (Q : Int32 → Prop) : Prop :=
  w9_sign x2 (fun r1 => vp_in (x2 / (2 : Int32)) 3 ∧ vp_in (((3 : Int32) * x1) + (x2 / (2 : Int32))) 18 ∧ Q (r1 * ((rA S 24 (x2 / (2 : Int32))) - (rA S 20 (((3 : Int32) * x1) + (x2 / (2 : Int32)))))))
set_option maxHeartbeats 4000000 in
set_option maxRecDepth 100000 in
theorem c9_along (l : Launch) (D : va_G) (cy : Nat → ClassId)  (o : Nat) (q : Nat → Nat) (x1 : Int32) (x2 : Int32) (S : MS) (Q : Int32 → Prop) (h : w9_along x1 x2 S Q) : MetI l yX9_along wsX9_along ({ frames := 1, cells := 0, slots := 0, locals := 20 } : Room) D cy nestWs (w9 o q cy) [.ref o, .int x1, .int x2] S (fun r z => z = S ∧ Q r ) := by
  refine MetI.mk RX9 cX9_along 3 .int (by decide) rfl nestWs_ok rfl (Nat.le_of_ble_eq_true rfl) ?_
  intro p e s m below meth c A ls C hG hl
  have hl : lv_has ls 3 [(0, .ref o), (1, .int x1), (2, .int x2)] := hl
  have hx := C.1
  have hb := C.2.1
  unfold w9_along at h
  refine lv_iload_n hx hb dX9_along_0 rfl (lv_at hl 2 rfl) ?_
  refine callSI (As := [.int x2]) (rest := []) C hG (c9_sign l D cy x2 _ h) 1 gX9_along_X9_sign rfl (by decide +kernel) ⟨⟨Nat.le_of_ble_eq_true rfl, Nat.le_of_ble_eq_true rfl⟩, rfl, rfl⟩ (Foc.none C.2.2.2.2.2.2.2.2.1) rfl hl.1 rfl (Nat.le_of_ble_eq_true rfl) dX9_along_1 ⟨Nat.zero_le _, Nat.zero_le _⟩ (fun r1 z H locs h hG => ?_)
  refine lv_aload_n hx hb dX9_along_4 rfl (lv_at hl 0 rfl) ?_
  refine x9g_24 C i9_along_X9 k9_along_68 hG dX9_along_5 ?_
  refine lv_iload_n hx hb dX9_along_8 rfl (lv_at hl 2 rfl) ?_
  refine lv_iconst (v := 2) hx hb dX9_along_9 (by decide) ?_
  refine lv_idiv hx hb dX9_along_10 (by decide) ?_
  obtain ⟨hv2, h⟩ := h
  refine x9l_24 C hG hv2 dX9_along_11 ?_
  refine lv_aload_n hx hb dX9_along_12 rfl (lv_at hl 0 rfl) ?_
  refine x9g_20 C i9_along_X9 k9_along_56 hG dX9_along_13 ?_
  refine lv_iconst (v := 3) hx hb dX9_along_16 (by decide) ?_
  refine lv_iload_n hx hb dX9_along_17 rfl (lv_at hl 1 rfl) ?_
  refine lv_imul hx hb dX9_along_18 ?_
  refine lv_iload_n hx hb dX9_along_19 rfl (lv_at hl 2 rfl) ?_
  refine lv_iconst (v := 2) hx hb dX9_along_20 (by decide) ?_
  refine lv_idiv hx hb dX9_along_21 (by decide) ?_
  refine lv_iadd hx hb dX9_along_22 ?_
  obtain ⟨hv3, h⟩ := h
  refine x9l_20 C hG hv3 dX9_along_23 ?_
  refine lv_isub hx hb dX9_along_24 ?_
  refine lv_imul hx hb dX9_along_25 ?_
  exact retI (w := (w9 o q cy)) (S := S) C hG ⟨rfl, h⟩ dX9_along_26
-- X9_farNow
theorem i9_farNow_X9 : ∀ w ∈ wsX90, w ∈ wsX9_farNow := fun w h => List.mem_cons_of_mem _ (inG_X9 w h)
theorem k9_farNow_50 : Cond.fieldLink RX9 50 "PaperBodiesModel" "rightRow" "[I" ∈ wsX9_farNow := (List.mem_cons_of_mem _ mw_550)
theorem k9_farNow_53 : Cond.fieldLink RX9 53 "PaperBodiesModel" "upRow" "[I" ∈ wsX9_farNow := (List.mem_cons_of_mem _ mw_551)
theorem k9_farNow_59 : Cond.fieldLink RX9 59 "PaperBodiesModel" "planeX" "[I" ∈ wsX9_farNow := (List.mem_cons_of_mem _ mw_553)
theorem k9_farNow_62 : Cond.fieldLink RX9 62 "PaperBodiesModel" "planeY" "[I" ∈ wsX9_farNow := (List.mem_cons_of_mem _ mw_554)
def w9_farNow (x1 : Int32) (S : MS) (Q : Int32 → Prop) : Prop :=
  vp_in x1 6 ∧ w9_along x1 (rA S 18 x1) S (fun r2 => ∀ y4 : Int32, y4 = ((rA S 21 x1) + r2) → w9_along x1 (rA S 19 x1) S (fun r5 => ∀ y7 : Int32, y7 = ((rA S 22 x1) + r5) → Q ((y4 * y4) + (y7 * y7))))
set_option maxHeartbeats 4000000 in
set_option maxRecDepth 100000 in
theorem c9_farNow (l : Launch) (D : va_G) (cy : Nat → ClassId)  (o : Nat) (q : Nat → Nat) (x1 : Int32) (S : MS) (Q : Int32 → Prop) (h : w9_farNow x1 S Q) : MetI l yX9_farNow wsX9_farNow ({ frames := 2, cells := 0, slots := 0, locals := 42 } : Room) D cy nestWs (w9 o q cy) [.ref o, .int x1] S (fun r z => z = S ∧ Q r ) := by
  refine MetI.mk RX9 cX9_farNow 4 .int (by decide) rfl nestWs_ok rfl (Nat.le_of_ble_eq_true rfl) ?_
  intro p e s m below meth c A ls C hG hl
  have hl : lv_has ls 4 [(0, .ref o), (1, .int x1)] := hl
  have hx := C.1
  have hb := C.2.1
  unfold w9_farNow at h
  refine lv_aload_n hx hb dX9_farNow_0 rfl (lv_at hl 0 rfl) ?_
  refine x9g_21 C i9_farNow_X9 k9_farNow_59 hG dX9_farNow_1 ?_
  refine lv_iload_n hx hb dX9_farNow_4 rfl (lv_at hl 1 rfl) ?_
  obtain ⟨hv1, h⟩ := h
  refine x9l_21 C hG hv1 dX9_farNow_5 ?_
  refine lv_aload_n hx hb dX9_farNow_6 rfl (lv_at hl 0 rfl) ?_
  refine lv_iload_n hx hb dX9_farNow_7 rfl (lv_at hl 1 rfl) ?_
  refine lv_aload_n hx hb dX9_farNow_8 rfl (lv_at hl 0 rfl) ?_
  refine x9g_18 C i9_farNow_X9 k9_farNow_50 hG dX9_farNow_9 ?_
  refine lv_iload_n hx hb dX9_farNow_12 rfl (lv_at hl 1 rfl) ?_
  refine x9l_18 C hG hv1 dX9_farNow_13 ?_
  refine callVI (As := [.int x1, .int (rA S 18 x1)]) (rest := [.int (rA S 21 x1)]) C hG (c9_along l D cy o q x1 (rA S 18 x1) S _ h) 2 gX9_farNow_X9_along rfl (by decide +kernel) ⟨⟨Nat.le_of_ble_eq_true rfl, Nat.le_of_ble_eq_true rfl⟩, rfl, rfl⟩ rfl rfl (Foc.all C.2.2.2.2.2.2.2.2.1) rfl hl.1 rfl (Nat.le_of_ble_eq_true rfl) dX9_farNow_14 ⟨Nat.zero_le _, Nat.zero_le _⟩ (fun r2 u3 H locs h hG => ?_)
  obtain ⟨eu3, h⟩ := h
  have eu3 : u3 = S := eu3
  subst u3
  have hG : GW D A s (w9 o q cy S) H locs := hG
  refine lv_iadd hx hb dX9_farNow_17 ?_
  refine lv_topi (fun y4 ey4 => ?_)
  replace h := h y4 ey4
  refine lv_istore_n (lv' := [(2, .int y4), (0, .ref o), (1, .int x1)]) hx hb dX9_farNow_18 rfl hl (by decide) rfl (fun ls hl => ?_)
  refine lv_aload_n hx hb dX9_farNow_19 rfl (lv_at hl 1 rfl) ?_
  refine x9g_22 C i9_farNow_X9 k9_farNow_62 hG dX9_farNow_20 ?_
  refine lv_iload_n hx hb dX9_farNow_23 rfl (lv_at hl 2 rfl) ?_
  refine x9l_22 C hG hv1 dX9_farNow_24 ?_
  refine lv_aload_n hx hb dX9_farNow_25 rfl (lv_at hl 1 rfl) ?_
  refine lv_iload_n hx hb dX9_farNow_26 rfl (lv_at hl 2 rfl) ?_
  refine lv_aload_n hx hb dX9_farNow_27 rfl (lv_at hl 1 rfl) ?_
  refine x9g_19 C i9_farNow_X9 k9_farNow_53 hG dX9_farNow_28 ?_
  refine lv_iload_n hx hb dX9_farNow_31 rfl (lv_at hl 2 rfl) ?_
  refine x9l_19 C hG hv1 dX9_farNow_32 ?_
  refine callVI (As := [.int x1, .int (rA S 19 x1)]) (rest := [.int (rA S 22 x1)]) C hG (c9_along l D cy o q x1 (rA S 19 x1) S _ h) 2 gX9_farNow_X9_along rfl (by decide +kernel) ⟨⟨Nat.le_of_ble_eq_true rfl, Nat.le_of_ble_eq_true rfl⟩, rfl, rfl⟩ rfl rfl (Foc.all C.2.2.2.2.2.2.2.2.1) rfl hl.1 rfl (Nat.le_of_ble_eq_true rfl) dX9_farNow_33 ⟨Nat.zero_le _, Nat.zero_le _⟩ (fun r5 u6 H locs h hG => ?_)
  obtain ⟨eu6, h⟩ := h
  have eu6 : u6 = S := eu6
  subst u6
  have hG : GW D A s (w9 o q cy S) H locs := hG
  refine lv_iadd hx hb dX9_farNow_36 ?_
  refine lv_topi (fun y7 ey7 => ?_)
  replace h := h y7 ey7
  refine lv_istore_n (lv' := [(3, .int y7), (2, .int y4), (0, .ref o), (1, .int x1)]) hx hb dX9_farNow_37 rfl hl (by decide) rfl (fun ls hl => ?_)
  refine lv_iload_n hx hb dX9_farNow_38 rfl (lv_at hl 1 rfl) ?_
  refine lv_iload_n hx hb dX9_farNow_39 rfl (lv_at hl 1 rfl) ?_
  refine lv_imul hx hb dX9_farNow_40 ?_
  refine lv_iload_n hx hb dX9_farNow_41 rfl (lv_at hl 0 rfl) ?_
  refine lv_iload_n hx hb dX9_farNow_42 rfl (lv_at hl 0 rfl) ?_
  refine lv_imul hx hb dX9_farNow_43 ?_
  refine lv_iadd hx hb dX9_farNow_44 ?_
  exact retI (w := (w9 o q cy)) (S := S) C hG ⟨rfl, h⟩ dX9_farNow_45
-- X9_unfolds
theorem i9_unfolds_X9 : ∀ w ∈ wsX90, w ∈ wsX9_unfolds := fun w h => List.mem_cons_of_mem _ (inG_X9 w h)
theorem k9_unfolds_26 : Cond.fieldLink RX9 26 "PaperBodiesModel" "dims" "[I" ∈ wsX9_unfolds := (List.mem_cons_of_mem _ mw_542)
theorem k9_unfolds_47 : Cond.fieldLink RX9 47 "PaperBodiesModel" "sideRow" "[I" ∈ wsX9_unfolds := (List.mem_cons_of_mem _ mw_549)
theorem k9_unfolds_50 : Cond.fieldLink RX9 50 "PaperBodiesModel" "rightRow" "[I" ∈ wsX9_unfolds := (List.mem_cons_of_mem _ mw_550)
theorem k9_unfolds_53 : Cond.fieldLink RX9 53 "PaperBodiesModel" "upRow" "[I" ∈ wsX9_unfolds := (List.mem_cons_of_mem _ mw_551)
theorem k9_unfolds_56 : Cond.fieldLink RX9 56 "PaperBodiesModel" "pointRow" "[I" ∈ wsX9_unfolds := (List.mem_cons_of_mem _ mw_552)
theorem k9_unfolds_59 : Cond.fieldLink RX9 59 "PaperBodiesModel" "planeX" "[I" ∈ wsX9_unfolds := (List.mem_cons_of_mem _ mw_553)
theorem k9_unfolds_62 : Cond.fieldLink RX9 62 "PaperBodiesModel" "planeY" "[I" ∈ wsX9_unfolds := (List.mem_cons_of_mem _ mw_554)
theorem k9_unfolds_193 : Cond.fieldLink RX9 193 "PaperBodiesModel" "side" "I" ∈ wsX9_unfolds := (List.mem_cons_of_mem _ mw_653)
theorem k9_unfolds_199 : Cond.fieldLink RX9 199 "PaperBodiesModel" "right" "I" ∈ wsX9_unfolds := (List.mem_cons_of_mem _ mw_654)
theorem k9_unfolds_202 : Cond.fieldLink RX9 202 "PaperBodiesModel" "up" "I" ∈ wsX9_unfolds := (List.mem_cons_of_mem _ mw_655)
def w9_unfolds_b248 (x2 : Int32) (x3 : Int32) (x4 : Int32) (t1 : Int32) (t2 : Int32) (t3 : Int32) (S : MS) (Q : Int32 → MS → Prop) : Prop :=
  vp_in t1 6 ∧ ∀ S2 : MS, S2 = sA S 22 t1 (t2 + t3) → w9_bend x4 x3 ((fI S2 8) ^^^ (1 : Int32)) S2 (fun S3 => vp_in (x2 + (1 : Int32)) 6 ∧ ∀ S5 : MS, S5 = sA S3 17 (x2 + (1 : Int32)) (fI S3 8) → ∀ S6 : MS, S6 = sA S5 18 (x2 + (1 : Int32)) (fI S5 10) → ∀ S7 : MS, S7 = sA S6 19 (x2 + (1 : Int32)) (fI S6 11) → Q (1 : Int32) S7)
set_option maxHeartbeats 4000000 in
set_option maxRecDepth 100000 in
theorem b9_unfolds_b248 {p : Program} {l : Launch} {e : Env} {s : State} {m : MethodId} {args : Array Value} {below : List Frame} {meth : Method} {c : Code} {D : va_G} {cy : Nat → ClassId} {A : Nat → Prop} {o : Nat} {q : Nat → Nat} (x2 : Int32) (x3 : Int32) (x4 : Int32) (t1 : Int32) (t2 : Int32) (t3 : Int32) (S : MS) {Q : Int32 → MS → Prop} (C : Cx p s m args meth c cX9_unfolds 10 (some .boolean) wsX9_unfolds RX9 D cy nestWs A) (h : w9_unfolds_b248 x2 x3 x4 t1 t2 t3 S Q) {H : Heap} {locs : List Loc} (hG : GW D A s (w9 o q cy S) H locs) {ls : Array Slot} (hl : lv_has ls 10 [(0, .ref o), (2, .int x2), (3, .int x3), (4, .int x4)]) : W p l e ({ frames := 1, cells := 0, slots := 0, locals := 23 } : Room) s m args below meth c H locs 0 0 (MQ below (va_Qi Q (B1 D (w9 o q cy) A) A) args s 0 0 A) (F0 m 248 ls [.int t3, .int t2, .int t1, .ref (q 22)]) := by
  have hx := C.1
  have hb := C.2.1
  unfold w9_unfolds_b248 at h
  refine lv_iadd hx hb dX9_unfolds_248 ?_
  obtain ⟨hv1, h⟩ := h
  refine x9s_22 C hG hv1 dX9_unfolds_249 (fun S2 eS2 H locs hG => ?_)
  replace h := h S2 eS2
  refine lv_aload_n hx hb dX9_unfolds_250 rfl (lv_at hl 0 rfl) ?_
  refine lv_iload hx hb dX9_unfolds_251 (lv_at hl 3 rfl) ?_
  refine lv_iload_n hx hb dX9_unfolds_253 rfl (lv_at hl 2 rfl) ?_
  refine lv_aload_n hx hb dX9_unfolds_254 rfl (lv_at hl 0 rfl) ?_
  refine x9g_8 C i9_unfolds_X9 k9_unfolds_193 hG dX9_unfolds_255 ?_
  refine lv_iconst (v := 1) hx hb dX9_unfolds_258 (by decide) ?_
  refine lv_ixor hx hb dX9_unfolds_259 ?_
  refine callVV (As := [.int x4, .int x3, .int ((fI S2 8) ^^^ (1 : Int32))]) (rest := []) C hG (c9_bend l D cy o q x4 x3 ((fI S2 8) ^^^ (1 : Int32)) S2 _ h) 3 gX9_unfolds_X9_bend rfl (by decide +kernel) ⟨⟨Nat.le_of_ble_eq_true rfl, Nat.le_of_ble_eq_true rfl⟩, rfl, rfl⟩ rfl rfl (Foc.all C.2.2.2.2.2.2.2.2.1) rfl hl.1 rfl (Nat.le_of_ble_eq_true rfl) dX9_unfolds_260 ⟨Nat.zero_le _, Nat.zero_le _⟩ (fun  S3 H locs h hG => ?_)
  have hG : GW D A s (w9 o q cy S3) H locs := hG
  refine lv_aload_n hx hb dX9_unfolds_263 rfl (lv_at hl 0 rfl) ?_
  refine x9g_17 C i9_unfolds_X9 k9_unfolds_47 hG dX9_unfolds_264 ?_
  refine lv_iload_n hx hb dX9_unfolds_267 rfl (lv_at hl 1 rfl) ?_
  refine lv_iconst (v := 1) hx hb dX9_unfolds_268 (by decide) ?_
  refine lv_iadd hx hb dX9_unfolds_269 ?_
  refine lv_aload_n hx hb dX9_unfolds_270 rfl (lv_at hl 0 rfl) ?_
  refine x9g_8 C i9_unfolds_X9 k9_unfolds_193 hG dX9_unfolds_271 ?_
  obtain ⟨hv4, h⟩ := h
  refine x9s_17 C hG hv4 dX9_unfolds_274 (fun S5 eS5 H locs hG => ?_)
  replace h := h S5 eS5
  refine lv_aload_n hx hb dX9_unfolds_275 rfl (lv_at hl 0 rfl) ?_
  refine x9g_18 C i9_unfolds_X9 k9_unfolds_50 hG dX9_unfolds_276 ?_
  refine lv_iload_n hx hb dX9_unfolds_279 rfl (lv_at hl 1 rfl) ?_
  refine lv_iconst (v := 1) hx hb dX9_unfolds_280 (by decide) ?_
  refine lv_iadd hx hb dX9_unfolds_281 ?_
  refine lv_aload_n hx hb dX9_unfolds_282 rfl (lv_at hl 0 rfl) ?_
  refine x9g_10 C i9_unfolds_X9 k9_unfolds_199 hG dX9_unfolds_283 ?_
  refine x9s_18 C hG hv4 dX9_unfolds_286 (fun S6 eS6 H locs hG => ?_)
  replace h := h S6 eS6
  refine lv_aload_n hx hb dX9_unfolds_287 rfl (lv_at hl 0 rfl) ?_
  refine x9g_19 C i9_unfolds_X9 k9_unfolds_53 hG dX9_unfolds_288 ?_
  refine lv_iload_n hx hb dX9_unfolds_291 rfl (lv_at hl 1 rfl) ?_
  refine lv_iconst (v := 1) hx hb dX9_unfolds_292 (by decide) ?_
  refine lv_iadd hx hb dX9_unfolds_293 ?_
  refine lv_aload_n hx hb dX9_unfolds_294 rfl (lv_at hl 0 rfl) ?_
  refine x9g_11 C i9_unfolds_X9 k9_unfolds_202 hG dX9_unfolds_295 ?_
  refine x9s_19 C hG hv4 dX9_unfolds_298 (fun S7 eS7 H locs hG => ?_)
  replace h := h S7 eS7
  refine lv_iconst (v := 1) hx hb dX9_unfolds_299 (by decide) ?_
  exact retZ (w := (w9 o q cy)) (S := S7) C hG ⟨rfl, h⟩ dX9_unfolds_300
def w9_unfolds_b211 (x2 : Int32) (x3 : Int32) (x4 : Int32) (x8 : Int32) (t1 : Int32) (t2 : Int32) (t3 : Int32) (S : MS) (Q : Int32 → MS → Prop) : Prop :=
  vp_in t1 6 ∧ ∀ S2 : MS, S2 = sA S 21 t1 (t2 + t3) → vp_in x2 6 ∧ ((¬ x3 = (1 : Int32) → ((¬ x3 = (3 : Int32) → w9_unfolds_b248 x2 x3 x4 (x2 + (1 : Int32)) (rA S2 22 x2) (0 : Int32) S2 Q) ∧ (x3 = (3 : Int32) → w9_unfolds_b248 x2 x3 x4 (x2 + (1 : Int32)) (rA S2 22 x2) (-x8) S2 Q))) ∧ (x3 = (1 : Int32) → w9_unfolds_b248 x2 x3 x4 (x2 + (1 : Int32)) (rA S2 22 x2) x8 S2 Q))
set_option maxHeartbeats 4000000 in
set_option maxRecDepth 100000 in
theorem b9_unfolds_b211 {p : Program} {l : Launch} {e : Env} {s : State} {m : MethodId} {args : Array Value} {below : List Frame} {meth : Method} {c : Code} {D : va_G} {cy : Nat → ClassId} {A : Nat → Prop} {o : Nat} {q : Nat → Nat} (x2 : Int32) (x3 : Int32) (x4 : Int32) (x8 : Int32) (t1 : Int32) (t2 : Int32) (t3 : Int32) (S : MS) {Q : Int32 → MS → Prop} (C : Cx p s m args meth c cX9_unfolds 10 (some .boolean) wsX9_unfolds RX9 D cy nestWs A) (h : w9_unfolds_b211 x2 x3 x4 x8 t1 t2 t3 S Q) {H : Heap} {locs : List Loc} (hG : GW D A s (w9 o q cy S) H locs) {ls : Array Slot} (hl : lv_has ls 10 [(0, .ref o), (2, .int x2), (3, .int x3), (4, .int x4), (8, .int x8)]) : W p l e ({ frames := 1, cells := 0, slots := 0, locals := 23 } : Room) s m args below meth c H locs 0 0 (MQ below (va_Qi Q (B1 D (w9 o q cy) A) A) args s 0 0 A) (F0 m 211 ls [.int t3, .int t2, .int t1, .ref (q 21)]) := by
  have hx := C.1
  have hb := C.2.1
  unfold w9_unfolds_b211 at h
  refine lv_iadd hx hb dX9_unfolds_211 ?_
  obtain ⟨hv1, h⟩ := h
  refine x9s_21 C hG hv1 dX9_unfolds_212 (fun S2 eS2 H locs hG => ?_)
  replace h := h S2 eS2
  refine lv_aload_n hx hb dX9_unfolds_213 rfl (lv_at hl 0 rfl) ?_
  refine x9g_22 C i9_unfolds_X9 k9_unfolds_62 hG dX9_unfolds_214 ?_
  refine lv_iload_n hx hb dX9_unfolds_217 rfl (lv_at hl 1 rfl) ?_
  refine lv_iconst (v := 1) hx hb dX9_unfolds_218 (by decide) ?_
  refine lv_iadd hx hb dX9_unfolds_219 ?_
  refine lv_aload_n hx hb dX9_unfolds_220 rfl (lv_at hl 0 rfl) ?_
  refine x9g_22 C i9_unfolds_X9 k9_unfolds_62 hG dX9_unfolds_221 ?_
  refine lv_iload_n hx hb dX9_unfolds_224 rfl (lv_at hl 1 rfl) ?_
  obtain ⟨hv3, h⟩ := h
  refine x9l_22 C hG hv3 dX9_unfolds_225 ?_
  refine lv_iload_n hx hb dX9_unfolds_226 rfl (lv_at hl 2 rfl) ?_
  refine lv_iconst (v := 1) hx hb dX9_unfolds_227 (by decide) ?_
  refine lv_icmp_ne (tgt := 236) hx hb dX9_unfolds_228 (by decide) (fun c4 => ?_) (fun c4 => ?_)
  · replace h := h.1 c4
    refine lv_iload_n hx hb dX9_unfolds_236 rfl (lv_at hl 2 rfl) ?_
    refine lv_iconst (v := 3) hx hb dX9_unfolds_237 (by decide) ?_
    refine lv_icmp_ne (tgt := 247) hx hb dX9_unfolds_238 (by decide) (fun c5 => ?_) (fun c5 => ?_)
    · replace h := h.1 c5
      refine lv_iconst (v := 0) hx hb dX9_unfolds_247 (by decide) ?_
      exact b9_unfolds_b248 x2 x3 x4 (x2 + (1 : Int32)) (rA S2 22 x2) (0 : Int32) S2 C h hG (lv_sub hl [0, 1, 2, 3] rfl)
    · replace h := h.2 c5
      refine lv_iload hx hb dX9_unfolds_241 (lv_at hl 4 rfl) ?_
      refine lv_ineg hx hb dX9_unfolds_243 ?_
      refine lv_goto (tgt := 248) hx hb dX9_unfolds_244 (by decide) ?_
      exact b9_unfolds_b248 x2 x3 x4 (x2 + (1 : Int32)) (rA S2 22 x2) (-x8) S2 C h hG (lv_sub hl [0, 1, 2, 3] rfl)
  · replace h := h.2 c4
    refine lv_iload hx hb dX9_unfolds_231 (lv_at hl 4 rfl) ?_
    refine lv_goto (tgt := 248) hx hb dX9_unfolds_233 (by decide) ?_
    exact b9_unfolds_b248 x2 x3 x4 (x2 + (1 : Int32)) (rA S2 22 x2) x8 S2 C h hG (lv_sub hl [0, 1, 2, 3] rfl)
def w9_unfolds_b170 (K129 : Int32 → MS → Prop) (x2 : Int32) (x3 : Int32) (x4 : Int32) (x6 : Int32) (x7 : Int32) (x8 : Int32) (x9 : Int32) (t1 : Int32) (t2 : Int32) (S : MS) (Q : Int32 → MS → Prop) : Prop :=
  vp_in t1 18 ∧ ∀ S2 : MS, S2 = sA S 20 t1 t2 → ∀ y3 : Int32, y3 = x9 + 1 → K129 y3 S2
set_option maxHeartbeats 4000000 in
set_option maxRecDepth 100000 in
theorem b9_unfolds_b170 {p : Program} {l : Launch} {e : Env} {s : State} {m : MethodId} {args : Array Value} {below : List Frame} {meth : Method} {c : Code} {D : va_G} {cy : Nat → ClassId} {A : Nat → Prop} {o : Nat} {q : Nat → Nat} {K129 : Int32 → MS → Prop} (x2 : Int32) (x3 : Int32) (x4 : Int32) (x6 : Int32) (x7 : Int32) (x8 : Int32) (x9 : Int32) (t1 : Int32) (t2 : Int32) (S : MS) {Q : Int32 → MS → Prop} (C : Cx p s m args meth c cX9_unfolds 10 (some .boolean) wsX9_unfolds RX9 D cy nestWs A) (hK129 : ∀ (x9 : Int32) (S : MS) (H : Heap) (locs : List Loc) (ls : Array Slot), K129 x9 S → GW D A s (w9 o q cy S) H locs → lv_has ls 10 [(0, .ref o), (2, .int x2), (3, .int x3), (4, .int x4), (6, .int x6), (7, .int x7), (8, .int x8), (9, .int x9)] → W p l e ({ frames := 1, cells := 0, slots := 0, locals := 23 } : Room) s m args below meth c H locs 0 0 (MQ below (va_Qi Q (B1 D (w9 o q cy) A) A) args s 0 0 A) (F0 m 129 ls [])) (h : w9_unfolds_b170 K129 x2 x3 x4 x6 x7 x8 x9 t1 t2 S Q) {H : Heap} {locs : List Loc} (hG : GW D A s (w9 o q cy S) H locs) {ls : Array Slot} (hl : lv_has ls 10 [(0, .ref o), (2, .int x2), (3, .int x3), (4, .int x4), (6, .int x6), (7, .int x7), (8, .int x8), (9, .int x9)]) : W p l e ({ frames := 1, cells := 0, slots := 0, locals := 23 } : Room) s m args below meth c H locs 0 0 (MQ below (va_Qi Q (B1 D (w9 o q cy) A) A) args s 0 0 A) (F0 m 170 ls [.int t2, .int t1, .ref (q 20)]) := by
  have hx := C.1
  have hb := C.2.1
  unfold w9_unfolds_b170 at h
  obtain ⟨hv1, h⟩ := h
  refine x9s_20 C hG hv1 dX9_unfolds_170 (fun S2 eS2 H locs hG => ?_)
  replace h := h S2 eS2
  obtain ⟨y3, ey3⟩ : ∃ y : Int32, y = x9 + 1 := ⟨_, rfl⟩
  replace h := h y3 ey3
  refine lv_iinc (v := y3) (lv' := [(9, .int y3), (0, .ref o), (2, .int x2), (3, .int x3), (4, .int x4), (6, .int x6), (7, .int x7), (8, .int x8)]) hx hb dX9_unfolds_171 hl (k := 7) rfl (by rw [ey3]; rfl) (by decide) rfl (fun ls hl => ?_)
  refine lv_goto (tgt := 129) hx hb dX9_unfolds_174 (by decide) ?_
  exact hK129 y3 S2 _ _ _ h hG (lv_sub hl [1, 2, 3, 4, 5, 6, 7, 0] rfl)
def w9_unfolds_d129 (K129 : Int32 → MS → Prop) (x2 : Int32) (x3 : Int32) (x4 : Int32) (x6 : Int32) (x7 : Int32) (x8 : Int32) (x9 : Int32) (S : MS) (Q : Int32 → MS → Prop) : Prop :=
  (((3 : Int32) ≤ x9 → vp_in x2 6 ∧ ((¬ x3 = 0 → ((¬ x3 = (2 : Int32) → w9_unfolds_b211 x2 x3 x4 x8 (x2 + (1 : Int32)) (rA S 21 x2) (0 : Int32) S Q) ∧ (x3 = (2 : Int32) → w9_unfolds_b211 x2 x3 x4 x8 (x2 + (1 : Int32)) (rA S 21 x2) (-x8) S Q))) ∧ (x3 = 0 → w9_unfolds_b211 x2 x3 x4 x8 (x2 + (1 : Int32)) (rA S 21 x2) x8 S Q))) ∧ (¬ (3 : Int32) ≤ x9 → ((¬ x9 = x6 → vp_in (((3 : Int32) * x2) + x9) 18 ∧ w9_unfolds_b170 K129 x2 x3 x4 x6 x7 x8 x9 ((((3 : Int32) * x2) + (3 : Int32)) + x9) (rA S 20 (((3 : Int32) * x2) + x9)) S Q) ∧ (x9 = x6 → w9_unfolds_b170 K129 x2 x3 x4 x6 x7 x8 x9 ((((3 : Int32) * x2) + (3 : Int32)) + x9) x7 S Q))))
set_option maxHeartbeats 4000000 in
set_option maxRecDepth 100000 in
theorem b9_unfolds_d129 {p : Program} {l : Launch} {e : Env} {s : State} {m : MethodId} {args : Array Value} {below : List Frame} {meth : Method} {c : Code} {D : va_G} {cy : Nat → ClassId} {A : Nat → Prop} {o : Nat} {q : Nat → Nat} {K129 : Int32 → MS → Prop} (x2 : Int32) (x3 : Int32) (x4 : Int32) (x6 : Int32) (x7 : Int32) (x8 : Int32) (x9 : Int32) (S : MS) {Q : Int32 → MS → Prop} (C : Cx p s m args meth c cX9_unfolds 10 (some .boolean) wsX9_unfolds RX9 D cy nestWs A) (hK129 : ∀ (x9 : Int32) (S : MS) (H : Heap) (locs : List Loc) (ls : Array Slot), K129 x9 S → GW D A s (w9 o q cy S) H locs → lv_has ls 10 [(0, .ref o), (2, .int x2), (3, .int x3), (4, .int x4), (6, .int x6), (7, .int x7), (8, .int x8), (9, .int x9)] → W p l e ({ frames := 1, cells := 0, slots := 0, locals := 23 } : Room) s m args below meth c H locs 0 0 (MQ below (va_Qi Q (B1 D (w9 o q cy) A) A) args s 0 0 A) (F0 m 129 ls [])) (h : w9_unfolds_d129 K129 x2 x3 x4 x6 x7 x8 x9 S Q) {H : Heap} {locs : List Loc} (hG : GW D A s (w9 o q cy S) H locs) {ls : Array Slot} (hl : lv_has ls 10 [(0, .ref o), (2, .int x2), (3, .int x3), (4, .int x4), (6, .int x6), (7, .int x7), (8, .int x8), (9, .int x9)]) : W p l e ({ frames := 1, cells := 0, slots := 0, locals := 23 } : Room) s m args below meth c H locs 0 0 (MQ below (va_Qi Q (B1 D (w9 o q cy) A) A) args s 0 0 A) (F0 m 129 ls []) := by
  have hx := C.1
  have hb := C.2.1
  unfold w9_unfolds_d129 at h
  refine lv_iload hx hb dX9_unfolds_129 (lv_at hl 7 rfl) ?_
  refine lv_iconst (v := 3) hx hb dX9_unfolds_131 (by decide) ?_
  refine lv_icmp_ge (tgt := 177) hx hb dX9_unfolds_132 (by decide) (fun c1 => ?_) (fun c1 => ?_)
  · replace h := h.1 c1
    refine lv_aload_n hx hb dX9_unfolds_177 rfl (lv_at hl 0 rfl) ?_
    refine x9g_21 C i9_unfolds_X9 k9_unfolds_59 hG dX9_unfolds_178 ?_
    refine lv_iload_n hx hb dX9_unfolds_181 rfl (lv_at hl 1 rfl) ?_
    refine lv_iconst (v := 1) hx hb dX9_unfolds_182 (by decide) ?_
    refine lv_iadd hx hb dX9_unfolds_183 ?_
    refine lv_aload_n hx hb dX9_unfolds_184 rfl (lv_at hl 0 rfl) ?_
    refine x9g_21 C i9_unfolds_X9 k9_unfolds_59 hG dX9_unfolds_185 ?_
    refine lv_iload_n hx hb dX9_unfolds_188 rfl (lv_at hl 1 rfl) ?_
    obtain ⟨hv2, h⟩ := h
    refine x9l_21 C hG hv2 dX9_unfolds_189 ?_
    refine lv_iload_n hx hb dX9_unfolds_190 rfl (lv_at hl 2 rfl) ?_
    refine lv_if_ne (tgt := 199) hx hb dX9_unfolds_191 (by decide) (fun c3 => ?_) (fun c3 => ?_)
    · replace h := h.1 c3
      refine lv_iload_n hx hb dX9_unfolds_199 rfl (lv_at hl 2 rfl) ?_
      refine lv_iconst (v := 2) hx hb dX9_unfolds_200 (by decide) ?_
      refine lv_icmp_ne (tgt := 210) hx hb dX9_unfolds_201 (by decide) (fun c4 => ?_) (fun c4 => ?_)
      · replace h := h.1 c4
        refine lv_iconst (v := 0) hx hb dX9_unfolds_210 (by decide) ?_
        exact b9_unfolds_b211 x2 x3 x4 x8 (x2 + (1 : Int32)) (rA S 21 x2) (0 : Int32) S C h hG (lv_sub hl [0, 1, 2, 3, 6] rfl)
      · replace h := h.2 c4
        refine lv_iload hx hb dX9_unfolds_204 (lv_at hl 6 rfl) ?_
        refine lv_ineg hx hb dX9_unfolds_206 ?_
        refine lv_goto (tgt := 211) hx hb dX9_unfolds_207 (by decide) ?_
        exact b9_unfolds_b211 x2 x3 x4 x8 (x2 + (1 : Int32)) (rA S 21 x2) (-x8) S C h hG (lv_sub hl [0, 1, 2, 3, 6] rfl)
    · replace h := h.2 c3
      refine lv_iload hx hb dX9_unfolds_194 (lv_at hl 6 rfl) ?_
      refine lv_goto (tgt := 211) hx hb dX9_unfolds_196 (by decide) ?_
      exact b9_unfolds_b211 x2 x3 x4 x8 (x2 + (1 : Int32)) (rA S 21 x2) x8 S C h hG (lv_sub hl [0, 1, 2, 3, 6] rfl)
  · replace h := h.2 c1
    refine lv_aload_n hx hb dX9_unfolds_135 rfl (lv_at hl 0 rfl) ?_
    refine x9g_20 C i9_unfolds_X9 k9_unfolds_56 hG dX9_unfolds_136 ?_
    refine lv_iconst (v := 3) hx hb dX9_unfolds_139 (by decide) ?_
    refine lv_iload_n hx hb dX9_unfolds_140 rfl (lv_at hl 1 rfl) ?_
    refine lv_imul hx hb dX9_unfolds_141 ?_
    refine lv_iconst (v := 3) hx hb dX9_unfolds_142 (by decide) ?_
    refine lv_iadd hx hb dX9_unfolds_143 ?_
    refine lv_iload hx hb dX9_unfolds_144 (lv_at hl 7 rfl) ?_
    refine lv_iadd hx hb dX9_unfolds_146 ?_
    refine lv_iload hx hb dX9_unfolds_147 (lv_at hl 7 rfl) ?_
    refine lv_iload hx hb dX9_unfolds_149 (lv_at hl 4 rfl) ?_
    refine lv_icmp_ne (tgt := 159) hx hb dX9_unfolds_151 (by decide) (fun c5 => ?_) (fun c5 => ?_)
    · replace h := h.1 c5
      refine lv_aload_n hx hb dX9_unfolds_159 rfl (lv_at hl 0 rfl) ?_
      refine x9g_20 C i9_unfolds_X9 k9_unfolds_56 hG dX9_unfolds_160 ?_
      refine lv_iconst (v := 3) hx hb dX9_unfolds_163 (by decide) ?_
      refine lv_iload_n hx hb dX9_unfolds_164 rfl (lv_at hl 1 rfl) ?_
      refine lv_imul hx hb dX9_unfolds_165 ?_
      refine lv_iload hx hb dX9_unfolds_166 (lv_at hl 7 rfl) ?_
      refine lv_iadd hx hb dX9_unfolds_168 ?_
      obtain ⟨hv6, h⟩ := h
      refine x9l_20 C hG hv6 dX9_unfolds_169 ?_
      exact b9_unfolds_b170 (K129 := K129) x2 x3 x4 x6 x7 x8 x9 ((((3 : Int32) * x2) + (3 : Int32)) + x9) (rA S 20 (((3 : Int32) * x2) + x9)) S C hK129 h hG hl
    · replace h := h.2 c5
      refine lv_iload hx hb dX9_unfolds_154 (lv_at hl 5 rfl) ?_
      refine lv_goto (tgt := 170) hx hb dX9_unfolds_156 (by decide) ?_
      exact b9_unfolds_b170 (K129 := K129) x2 x3 x4 x6 x7 x8 x9 ((((3 : Int32) * x2) + (3 : Int32)) + x9) x7 S C hK129 h hG hl
def w9_unfolds_F129 (x2 : Int32) (x3 : Int32) (x4 : Int32) (x6 : Int32) (x7 : Int32) (x8 : Int32) (Q : Int32 → MS → Prop) (K : Int32 × MS → Prop) (a : Int32 × MS) : Prop := w9_unfolds_d129 (fun y0 y1 => K (y0, y1)) x2 x3 x4 x6 x7 x8 a.1 a.2 Q
def w9_unfolds_b129 (x2 : Int32) (x3 : Int32) (x4 : Int32) (x6 : Int32) (x7 : Int32) (x8 : Int32) (x9 : Int32) (S : MS) (Q : Int32 → MS → Prop) : Prop := lp (w9_unfolds_F129 x2 x3 x4 x6 x7 x8 Q) (x9, S)
set_option maxHeartbeats 4000000 in
set_option maxRecDepth 100000 in
theorem b9_unfolds_b129 {p : Program} {l : Launch} {e : Env} {s : State} {m : MethodId} {args : Array Value} {below : List Frame} {meth : Method} {c : Code} {D : va_G} {cy : Nat → ClassId} {A : Nat → Prop} {o : Nat} {q : Nat → Nat} (x2 : Int32) (x3 : Int32) (x4 : Int32) (x6 : Int32) (x7 : Int32) (x8 : Int32) (x9 : Int32) (S : MS) {Q : Int32 → MS → Prop} (C : Cx p s m args meth c cX9_unfolds 10 (some .boolean) wsX9_unfolds RX9 D cy nestWs A) (h : w9_unfolds_b129 x2 x3 x4 x6 x7 x8 x9 S Q) {H : Heap} {locs : List Loc} (hG : GW D A s (w9 o q cy S) H locs) {ls : Array Slot} (hl : lv_has ls 10 [(0, .ref o), (2, .int x2), (3, .int x3), (4, .int x4), (6, .int x6), (7, .int x7), (8, .int x8), (9, .int x9)]) : W p l e ({ frames := 1, cells := 0, slots := 0, locals := 23 } : Room) s m args below meth c H locs 0 0 (MQ below (va_Qi Q (B1 D (w9 o q cy) A) A) args s 0 0 A) (F0 m 129 ls []) := by
  obtain ⟨k, hn⟩ := h
  induction k generalizing x9 S H locs ls with
  | zero => exact hn.elim
  | succ k ih => exact b9_unfolds_d129 (K129 := fun y0 y1 => itr (w9_unfolds_F129 x2 x3 x4 x6 x7 x8 Q) k (y0, y1)) x2 x3 x4 x6 x7 x8 x9 S C (fun x9 S H locs ls hk hG hl => ih x9 S hG hl hk) hn hG hl
def w9_unfolds_b102 (x2 : Int32) (x3 : Int32) (x4 : Int32) (x6 : Int32) (t0 : Int32) (S : MS) (Q : Int32 → MS → Prop) : Prop :=
  w9_sign x4 (fun r1 => vp_in (((3 : Int32) * x2) + x6) 18 ∧ ∀ y3 : Int32, y3 = (r1 * (t0 - (rA S 20 (((3 : Int32) * x2) + x6)))) → w9_unfolds_b129 x2 x3 x4 x6 t0 y3 (0 : Int32) S Q)
set_option maxHeartbeats 4000000 in
set_option maxRecDepth 100000 in
theorem b9_unfolds_b102 {p : Program} {l : Launch} {e : Env} {s : State} {m : MethodId} {args : Array Value} {below : List Frame} {meth : Method} {c : Code} {D : va_G} {cy : Nat → ClassId} {A : Nat → Prop} {o : Nat} {q : Nat → Nat} (x2 : Int32) (x3 : Int32) (x4 : Int32) (x6 : Int32) (t0 : Int32) (S : MS) {Q : Int32 → MS → Prop} (C : Cx p s m args meth c cX9_unfolds 10 (some .boolean) wsX9_unfolds RX9 D cy nestWs A) (h : w9_unfolds_b102 x2 x3 x4 x6 t0 S Q) {H : Heap} {locs : List Loc} (hG : GW D A s (w9 o q cy S) H locs) {ls : Array Slot} (hl : lv_has ls 10 [(0, .ref o), (2, .int x2), (3, .int x3), (4, .int x4), (6, .int x6)]) : W p l e ({ frames := 1, cells := 0, slots := 0, locals := 23 } : Room) s m args below meth c H locs 0 0 (MQ below (va_Qi Q (B1 D (w9 o q cy) A) A) args s 0 0 A) (F0 m 102 ls [.int t0]) := by
  have hx := C.1
  have hb := C.2.1
  unfold w9_unfolds_b102 at h
  refine lv_istore (lv' := [(7, .int t0), (0, .ref o), (2, .int x2), (3, .int x3), (4, .int x4), (6, .int x6)]) hx hb dX9_unfolds_102 hl (by decide) rfl (fun ls hl => ?_)
  refine lv_iload hx hb dX9_unfolds_104 (lv_at hl 4 rfl) ?_
  refine callSI (As := [.int x4]) (rest := []) C hG (c9_sign l D cy x4 _ h) 1 gX9_unfolds_X9_sign rfl (by decide +kernel) ⟨⟨Nat.le_of_ble_eq_true rfl, Nat.le_of_ble_eq_true rfl⟩, rfl, rfl⟩ (Foc.none C.2.2.2.2.2.2.2.2.1) rfl hl.1 rfl (Nat.le_of_ble_eq_true rfl) dX9_unfolds_106 ⟨Nat.zero_le _, Nat.zero_le _⟩ (fun r1 z H locs h hG => ?_)
  refine lv_iload hx hb dX9_unfolds_109 (lv_at hl 0 rfl) ?_
  refine lv_aload_n hx hb dX9_unfolds_111 rfl (lv_at hl 1 rfl) ?_
  refine x9g_20 C i9_unfolds_X9 k9_unfolds_56 hG dX9_unfolds_112 ?_
  refine lv_iconst (v := 3) hx hb dX9_unfolds_115 (by decide) ?_
  refine lv_iload_n hx hb dX9_unfolds_116 rfl (lv_at hl 2 rfl) ?_
  refine lv_imul hx hb dX9_unfolds_117 ?_
  refine lv_iload hx hb dX9_unfolds_118 (lv_at hl 5 rfl) ?_
  refine lv_iadd hx hb dX9_unfolds_120 ?_
  obtain ⟨hv2, h⟩ := h
  refine x9l_20 C hG hv2 dX9_unfolds_121 ?_
  refine lv_isub hx hb dX9_unfolds_122 ?_
  refine lv_imul hx hb dX9_unfolds_123 ?_
  refine lv_topi (fun y3 ey3 => ?_)
  replace h := h y3 ey3
  refine lv_istore (lv' := [(8, .int y3), (7, .int t0), (0, .ref o), (2, .int x2), (3, .int x3), (4, .int x4), (6, .int x6)]) hx hb dX9_unfolds_124 hl (by decide) rfl (fun ls hl => ?_)
  refine lv_iconst (v := 0) hx hb dX9_unfolds_126 (by decide) ?_
  refine lv_istore (lv' := [(9, .int (0 : Int32)), (8, .int y3), (7, .int t0), (0, .ref o), (2, .int x2), (3, .int x3), (4, .int x4), (6, .int x6)]) hx hb dX9_unfolds_127 hl (by decide) rfl (fun ls hl => ?_)
  exact b9_unfolds_b129 x2 x3 x4 x6 t0 y3 (0 : Int32) S C h hG (lv_sub hl [3, 4, 5, 6, 7, 2, 1, 0] rfl)
def w9_unfolds_d46 (K46 : Int32 → Prop) (x1 : Int32) (x2 : Int32) (x3 : Int32) (x4 : Int32) (x5 : Int32) (x6 : Int32) (S : MS) (Q : Int32 → MS → Prop) : Prop :=
  ((x2 < x6 → ∀ y2 : Int32, y2 = (x4 / (2 : Int32)) → ((¬ (x4 - x4 / (2 : Int32) * (2 : Int32)) = 0 → w9_unfolds_b102 x2 x3 x4 y2 (0 : Int32) S Q) ∧ ((x4 - x4 / (2 : Int32) * (2 : Int32)) = 0 → vp_in (((3 : Int32) * x1) + y2) 12 ∧ w9_unfolds_b102 x2 x3 x4 y2 ((2 : Int32) * (rA S 7 (((3 : Int32) * x1) + y2))) S Q))) ∧ (¬ x2 < x6 → vp_in x6 6 ∧ ((¬ (rA S 17 x6) = x5 → ∀ y7 : Int32, y7 = x6 + 1 → K46 y7) ∧ ((rA S 17 x6) = x5 → Q (0 : Int32) S))))
set_option maxHeartbeats 4000000 in
set_option maxRecDepth 100000 in
theorem b9_unfolds_d46 {p : Program} {l : Launch} {e : Env} {s : State} {m : MethodId} {args : Array Value} {below : List Frame} {meth : Method} {c : Code} {D : va_G} {cy : Nat → ClassId} {A : Nat → Prop} {o : Nat} {q : Nat → Nat} {K46 : Int32 → Prop} (x1 : Int32) (x2 : Int32) (x3 : Int32) (x4 : Int32) (x5 : Int32) (x6 : Int32) (S : MS) {Q : Int32 → MS → Prop} (C : Cx p s m args meth c cX9_unfolds 10 (some .boolean) wsX9_unfolds RX9 D cy nestWs A) (hK46 : ∀ (x6 : Int32) (H : Heap) (locs : List Loc) (ls : Array Slot), K46 x6 → GW D A s (w9 o q cy S) H locs → lv_has ls 10 [(0, .ref o), (1, .int x1), (2, .int x2), (3, .int x3), (4, .int x4), (5, .int x5), (6, .int x6)] → W p l e ({ frames := 1, cells := 0, slots := 0, locals := 23 } : Room) s m args below meth c H locs 0 0 (MQ below (va_Qi Q (B1 D (w9 o q cy) A) A) args s 0 0 A) (F0 m 46 ls [])) (h : w9_unfolds_d46 K46 x1 x2 x3 x4 x5 x6 S Q) {H : Heap} {locs : List Loc} (hG : GW D A s (w9 o q cy S) H locs) {ls : Array Slot} (hl : lv_has ls 10 [(0, .ref o), (1, .int x1), (2, .int x2), (3, .int x3), (4, .int x4), (5, .int x5), (6, .int x6)]) : W p l e ({ frames := 1, cells := 0, slots := 0, locals := 23 } : Room) s m args below meth c H locs 0 0 (MQ below (va_Qi Q (B1 D (w9 o q cy) A) A) args s 0 0 A) (F0 m 46 ls []) := by
  have hx := C.1
  have hb := C.2.1
  unfold w9_unfolds_d46 at h
  refine lv_iload hx hb dX9_unfolds_46 (lv_at hl 6 rfl) ?_
  refine lv_iload_n hx hb dX9_unfolds_48 rfl (lv_at hl 2 rfl) ?_
  refine lv_icmp_gt (tgt := 72) hx hb dX9_unfolds_49 (by decide) (fun c1 => ?_) (fun c1 => ?_)
  · replace h := h.1 c1
    refine lv_iload hx hb dX9_unfolds_72 (lv_at hl 4 rfl) ?_
    refine lv_iconst (v := 2) hx hb dX9_unfolds_74 (by decide) ?_
    refine lv_idiv hx hb dX9_unfolds_75 (by decide) ?_
    refine lv_topi (fun y2 ey2 => ?_)
    replace h := h y2 ey2
    refine lv_istore (lv' := [(6, .int y2), (0, .ref o), (1, .int x1), (2, .int x2), (3, .int x3), (4, .int x4), (5, .int x5)]) hx hb dX9_unfolds_76 hl (by decide) rfl (fun ls hl => ?_)
    refine lv_iload hx hb dX9_unfolds_78 (lv_at hl 5 rfl) ?_
    refine lv_iconst (v := 2) hx hb dX9_unfolds_80 (by decide) ?_
    refine lv_irem hx hb dX9_unfolds_81 (by decide) ?_
    refine lv_if_ne (tgt := 101) hx hb dX9_unfolds_82 (by decide) (fun c3 => ?_) (fun c3 => ?_)
    · replace h := h.1 c3
      refine lv_iconst (v := 0) hx hb dX9_unfolds_101 (by decide) ?_
      exact b9_unfolds_b102 x2 x3 x4 y2 (0 : Int32) S C h hG (lv_sub hl [1, 3, 4, 5, 0] rfl)
    · replace h := h.2 c3
      refine lv_iconst (v := 2) hx hb dX9_unfolds_85 (by decide) ?_
      refine lv_aload_n hx hb dX9_unfolds_86 rfl (lv_at hl 1 rfl) ?_
      refine x9g_7 C i9_unfolds_X9 k9_unfolds_26 hG dX9_unfolds_87 ?_
      refine lv_iconst (v := 3) hx hb dX9_unfolds_90 (by decide) ?_
      refine lv_iload_n hx hb dX9_unfolds_91 rfl (lv_at hl 2 rfl) ?_
      refine lv_imul hx hb dX9_unfolds_92 ?_
      refine lv_iload hx hb dX9_unfolds_93 (lv_at hl 0 rfl) ?_
      refine lv_iadd hx hb dX9_unfolds_95 ?_
      obtain ⟨hv4, h⟩ := h
      refine x9l_7 C hG hv4 dX9_unfolds_96 ?_
      refine lv_imul hx hb dX9_unfolds_97 ?_
      refine lv_goto (tgt := 102) hx hb dX9_unfolds_98 (by decide) ?_
      exact b9_unfolds_b102 x2 x3 x4 y2 ((2 : Int32) * (rA S 7 (((3 : Int32) * x1) + y2))) S C h hG (lv_sub hl [1, 3, 4, 5, 0] rfl)
  · replace h := h.2 c1
    refine lv_aload_n hx hb dX9_unfolds_52 rfl (lv_at hl 0 rfl) ?_
    refine x9g_17 C i9_unfolds_X9 k9_unfolds_47 hG dX9_unfolds_53 ?_
    refine lv_iload hx hb dX9_unfolds_56 (lv_at hl 6 rfl) ?_
    obtain ⟨hv5, h⟩ := h
    refine x9l_17 C hG hv5 dX9_unfolds_58 ?_
    refine lv_iload hx hb dX9_unfolds_59 (lv_at hl 5 rfl) ?_
    refine lv_icmp_ne (tgt := 66) hx hb dX9_unfolds_61 (by decide) (fun c6 => ?_) (fun c6 => ?_)
    · replace h := h.1 c6
      obtain ⟨y7, ey7⟩ : ∃ y : Int32, y = x6 + 1 := ⟨_, rfl⟩
      replace h := h y7 ey7
      refine lv_iinc (v := y7) (lv' := [(6, .int y7), (0, .ref o), (1, .int x1), (2, .int x2), (3, .int x3), (4, .int x4), (5, .int x5)]) hx hb dX9_unfolds_66 hl (k := 6) rfl (by rw [ey7]; rfl) (by decide) rfl (fun ls hl => ?_)
      refine lv_goto (tgt := 46) hx hb dX9_unfolds_69 (by decide) ?_
      exact hK46 y7 _ _ _ h hG (lv_sub hl [1, 2, 3, 4, 5, 6, 0] rfl)
    · replace h := h.2 c6
      refine lv_iconst (v := 0) hx hb dX9_unfolds_64 (by decide) ?_
      exact retZ (w := (w9 o q cy)) (S := S) C hG ⟨rfl, h⟩ dX9_unfolds_65
def w9_unfolds_F46 (x1 : Int32) (x2 : Int32) (x3 : Int32) (x4 : Int32) (x5 : Int32) (S : MS) (Q : Int32 → MS → Prop) (K : Int32 → Prop) (a : Int32) : Prop := w9_unfolds_d46 (fun y0 => K (y0)) x1 x2 x3 x4 x5 a S Q
def w9_unfolds_b46 (x1 : Int32) (x2 : Int32) (x3 : Int32) (x4 : Int32) (x5 : Int32) (x6 : Int32) (S : MS) (Q : Int32 → MS → Prop) : Prop := lp (w9_unfolds_F46 x1 x2 x3 x4 x5 S Q) (x6)
set_option maxHeartbeats 4000000 in
set_option maxRecDepth 100000 in
theorem b9_unfolds_b46 {p : Program} {l : Launch} {e : Env} {s : State} {m : MethodId} {args : Array Value} {below : List Frame} {meth : Method} {c : Code} {D : va_G} {cy : Nat → ClassId} {A : Nat → Prop} {o : Nat} {q : Nat → Nat} (x1 : Int32) (x2 : Int32) (x3 : Int32) (x4 : Int32) (x5 : Int32) (x6 : Int32) (S : MS) {Q : Int32 → MS → Prop} (C : Cx p s m args meth c cX9_unfolds 10 (some .boolean) wsX9_unfolds RX9 D cy nestWs A) (h : w9_unfolds_b46 x1 x2 x3 x4 x5 x6 S Q) {H : Heap} {locs : List Loc} (hG : GW D A s (w9 o q cy S) H locs) {ls : Array Slot} (hl : lv_has ls 10 [(0, .ref o), (1, .int x1), (2, .int x2), (3, .int x3), (4, .int x4), (5, .int x5), (6, .int x6)]) : W p l e ({ frames := 1, cells := 0, slots := 0, locals := 23 } : Room) s m args below meth c H locs 0 0 (MQ below (va_Qi Q (B1 D (w9 o q cy) A) A) args s 0 0 A) (F0 m 46 ls []) := by
  obtain ⟨k, hn⟩ := h
  induction k generalizing x6 H locs ls with
  | zero => exact hn.elim
  | succ k ih => exact b9_unfolds_d46 (K46 := fun y0 => itr (w9_unfolds_F46 x1 x2 x3 x4 x5 S Q) k (y0)) x1 x2 x3 x4 x5 x6 S C (fun x6 H locs ls hk hG hl => ih x6 hG hl hk) hn hG hl
def w9_unfolds (x1 : Int32) (x2 : Int32) (x3 : Int32) (S : MS) (Q : Int32 → MS → Prop) : Prop :=
  vp_in x2 6 ∧ ∀ S2 : MS, S2 = sI S 8 (rA S 17 x2) → ∀ S3 : MS, S3 = sI S2 10 (rA S2 18 x2) → ∀ S4 : MS, S4 = sI S3 11 (rA S3 19 x2) → w9_wayNow x3 S4 (fun r5 => ∀ y7 : Int32, y7 = (r5 ^^^ (1 : Int32)) → w9_unfolds_b46 x1 x2 x3 r5 y7 (0 : Int32) S4 Q)
set_option maxHeartbeats 4000000 in
set_option maxRecDepth 100000 in
theorem c9_unfolds (l : Launch) (D : va_G) (cy : Nat → ClassId)  (o : Nat) (q : Nat → Nat) (x1 : Int32) (x2 : Int32) (x3 : Int32) (S : MS) (Q : Int32 → MS → Prop) (h : w9_unfolds x1 x2 x3 S Q) : MetI l yX9_unfolds wsX9_unfolds ({ frames := 1, cells := 0, slots := 0, locals := 23 } : Room) D cy nestWs (w9 o q cy) [.ref o, .int x1, .int x2, .int x3] S Q := by
  refine MetI.mk RX9 cX9_unfolds 10 .boolean (by decide) rfl nestWs_ok rfl (Nat.le_of_ble_eq_true rfl) ?_
  intro p e s m below meth c A ls C hG hl
  have hl : lv_has ls 10 [(0, .ref o), (1, .int x1), (2, .int x2), (3, .int x3)] := hl
  have hx := C.1
  have hb := C.2.1
  unfold w9_unfolds at h
  refine lv_aload_n hx hb dX9_unfolds_0 rfl (lv_at hl 0 rfl) ?_
  refine lv_aload_n hx hb dX9_unfolds_1 rfl (lv_at hl 0 rfl) ?_
  refine x9g_17 C i9_unfolds_X9 k9_unfolds_47 hG dX9_unfolds_2 ?_
  refine lv_iload_n hx hb dX9_unfolds_5 rfl (lv_at hl 2 rfl) ?_
  obtain ⟨hv1, h⟩ := h
  refine x9l_17 C hG hv1 dX9_unfolds_6 ?_
  refine x9p_8 C i9_unfolds_X9 k9_unfolds_193 hG dX9_unfolds_7 (fun S2 eS2 H locs hG => ?_)
  replace h := h S2 eS2
  refine lv_aload_n hx hb dX9_unfolds_10 rfl (lv_at hl 0 rfl) ?_
  refine lv_aload_n hx hb dX9_unfolds_11 rfl (lv_at hl 0 rfl) ?_
  refine x9g_18 C i9_unfolds_X9 k9_unfolds_50 hG dX9_unfolds_12 ?_
  refine lv_iload_n hx hb dX9_unfolds_15 rfl (lv_at hl 2 rfl) ?_
  refine x9l_18 C hG hv1 dX9_unfolds_16 ?_
  refine x9p_10 C i9_unfolds_X9 k9_unfolds_199 hG dX9_unfolds_17 (fun S3 eS3 H locs hG => ?_)
  replace h := h S3 eS3
  refine lv_aload_n hx hb dX9_unfolds_20 rfl (lv_at hl 0 rfl) ?_
  refine lv_aload_n hx hb dX9_unfolds_21 rfl (lv_at hl 0 rfl) ?_
  refine x9g_19 C i9_unfolds_X9 k9_unfolds_53 hG dX9_unfolds_22 ?_
  refine lv_iload_n hx hb dX9_unfolds_25 rfl (lv_at hl 2 rfl) ?_
  refine x9l_19 C hG hv1 dX9_unfolds_26 ?_
  refine x9p_11 C i9_unfolds_X9 k9_unfolds_202 hG dX9_unfolds_27 (fun S4 eS4 H locs hG => ?_)
  replace h := h S4 eS4
  refine lv_aload_n hx hb dX9_unfolds_30 rfl (lv_at hl 0 rfl) ?_
  refine lv_iload_n hx hb dX9_unfolds_31 rfl (lv_at hl 3 rfl) ?_
  refine callVI (As := [.int x3]) (rest := []) C hG (c9_wayNow l D cy o q x3 S4 _ h) 1 gX9_unfolds_X9_wayNow rfl (by decide +kernel) ⟨⟨Nat.le_of_ble_eq_true rfl, Nat.le_of_ble_eq_true rfl⟩, rfl, rfl⟩ rfl rfl (Foc.all C.2.2.2.2.2.2.2.2.1) rfl hl.1 rfl (Nat.le_of_ble_eq_true rfl) dX9_unfolds_32 ⟨Nat.zero_le _, Nat.zero_le _⟩ (fun r5 u6 H locs h hG => ?_)
  obtain ⟨eu6, h⟩ := h
  have eu6 : u6 = S4 := eu6
  subst u6
  have hG : GW D A s (w9 o q cy S4) H locs := hG
  refine lv_istore (lv' := [(4, .int r5), (0, .ref o), (1, .int x1), (2, .int x2), (3, .int x3)]) hx hb dX9_unfolds_35 hl (by decide) rfl (fun ls hl => ?_)
  refine lv_iload hx hb dX9_unfolds_37 (lv_at hl 0 rfl) ?_
  refine lv_iconst (v := 1) hx hb dX9_unfolds_39 (by decide) ?_
  refine lv_ixor hx hb dX9_unfolds_40 ?_
  refine lv_topi (fun y7 ey7 => ?_)
  replace h := h y7 ey7
  refine lv_istore (lv' := [(5, .int y7), (4, .int r5), (0, .ref o), (1, .int x1), (2, .int x2), (3, .int x3)]) hx hb dX9_unfolds_41 hl (by decide) rfl (fun ls hl => ?_)
  refine lv_iconst (v := 0) hx hb dX9_unfolds_43 (by decide) ?_
  refine lv_istore (lv' := [(6, .int (0 : Int32)), (5, .int y7), (4, .int r5), (0, .ref o), (1, .int x1), (2, .int x2), (3, .int x3)]) hx hb dX9_unfolds_44 hl (by decide) rfl (fun ls hl => ?_)
  exact b9_unfolds_b46 x1 x2 x3 r5 y7 (0 : Int32) S4 C h hG (lv_sub hl [3, 4, 5, 6, 2, 1, 0] rfl)
-- X9_shortOf
theorem i9_shortOf_X9 : ∀ w ∈ wsX90, w ∈ wsX9_shortOf := fun w h => List.mem_cons_of_mem _ (inG_X9 w h)
theorem k9_shortOf_29 : Cond.fieldLink RX9 29 "PaperBodiesModel" "at" "[I" ∈ wsX9_shortOf := (List.mem_cons_of_mem _ mw_543)
theorem k9_shortOf_47 : Cond.fieldLink RX9 47 "PaperBodiesModel" "sideRow" "[I" ∈ wsX9_shortOf := (List.mem_cons_of_mem _ mw_549)
theorem k9_shortOf_50 : Cond.fieldLink RX9 50 "PaperBodiesModel" "rightRow" "[I" ∈ wsX9_shortOf := (List.mem_cons_of_mem _ mw_550)
theorem k9_shortOf_53 : Cond.fieldLink RX9 53 "PaperBodiesModel" "upRow" "[I" ∈ wsX9_shortOf := (List.mem_cons_of_mem _ mw_551)
theorem k9_shortOf_56 : Cond.fieldLink RX9 56 "PaperBodiesModel" "pointRow" "[I" ∈ wsX9_shortOf := (List.mem_cons_of_mem _ mw_552)
theorem k9_shortOf_59 : Cond.fieldLink RX9 59 "PaperBodiesModel" "planeX" "[I" ∈ wsX9_shortOf := (List.mem_cons_of_mem _ mw_553)
theorem k9_shortOf_62 : Cond.fieldLink RX9 62 "PaperBodiesModel" "planeY" "[I" ∈ wsX9_shortOf := (List.mem_cons_of_mem _ mw_554)
theorem k9_shortOf_65 : Cond.fieldLink RX9 65 "PaperBodiesModel" "wayRow" "[I" ∈ wsX9_shortOf := (List.mem_cons_of_mem _ mw_555)
theorem k9_shortOf_68 : Cond.fieldLink RX9 68 "PaperBodiesModel" "goal" "[I" ∈ wsX9_shortOf := (List.mem_cons_of_mem _ mw_556)
theorem k9_shortOf_193 : Cond.fieldLink RX9 193 "PaperBodiesModel" "side" "I" ∈ wsX9_shortOf := (List.mem_cons_of_mem _ mw_653)
theorem k9_shortOf_199 : Cond.fieldLink RX9 199 "PaperBodiesModel" "right" "I" ∈ wsX9_shortOf := (List.mem_cons_of_mem _ mw_654)
theorem k9_shortOf_202 : Cond.fieldLink RX9 202 "PaperBodiesModel" "up" "I" ∈ wsX9_shortOf := (List.mem_cons_of_mem _ mw_655)
def w9_shortOf_b274 (K156 : Int32 → Int32 → MS → Prop) (x1 : Int32) (x4 : Int32) (x6 : Int32) (t0 : Int32) (S : MS) (Q : Int32 → MS → Prop) : Prop :=
  K156 t0 x6 S
set_option maxHeartbeats 4000000 in
set_option maxRecDepth 100000 in
theorem b9_shortOf_b274 {p : Program} {l : Launch} {e : Env} {s : State} {m : MethodId} {args : Array Value} {below : List Frame} {meth : Method} {c : Code} {D : va_G} {cy : Nat → ClassId} {A : Nat → Prop} {o : Nat} {q : Nat → Nat} {K156 : Int32 → Int32 → MS → Prop} (x1 : Int32) (x4 : Int32) (x6 : Int32) (t0 : Int32) (S : MS) {Q : Int32 → MS → Prop} (C : Cx p s m args meth c cX9_shortOf 8 (some .int) wsX9_shortOf RX9 D cy nestWs A) (hK156 : ∀ (x5 : Int32) (x6 : Int32) (S : MS) (H : Heap) (locs : List Loc) (ls : Array Slot), K156 x5 x6 S → GW D A s (w9 o q cy S) H locs → lv_has ls 8 [(0, .ref o), (1, .int x1), (4, .int x4), (5, .int x5), (6, .int x6)] → W p l e ({ frames := 4, cells := 0, slots := 0, locals := 86 } : Room) s m args below meth c H locs 0 0 (MQ below (va_Qi Q (B1 D (w9 o q cy) A) A) args s 0 0 A) (F0 m 156 ls [])) (h : w9_shortOf_b274 K156 x1 x4 x6 t0 S Q) {H : Heap} {locs : List Loc} (hG : GW D A s (w9 o q cy S) H locs) {ls : Array Slot} (hl : lv_has ls 8 [(0, .ref o), (1, .int x1), (4, .int x4), (6, .int x6)]) : W p l e ({ frames := 4, cells := 0, slots := 0, locals := 86 } : Room) s m args below meth c H locs 0 0 (MQ below (va_Qi Q (B1 D (w9 o q cy) A) A) args s 0 0 A) (F0 m 274 ls [.int t0]) := by
  have hx := C.1
  have hb := C.2.1
  unfold w9_shortOf_b274 at h
  refine lv_istore (lv' := [(5, .int t0), (0, .ref o), (1, .int x1), (4, .int x4), (6, .int x6)]) hx hb dX9_shortOf_274 hl (by decide) rfl (fun ls hl => ?_)
  refine lv_goto (tgt := 156) hx hb dX9_shortOf_276 (by decide) ?_
  exact hK156 t0 x6 S _ _ _ h hG (lv_sub hl [1, 2, 3, 0, 4] rfl)
def w9_shortOf_b267 (K156 : Int32 → Int32 → MS → Prop) (x1 : Int32) (x4 : Int32) (x6 : Int32) (x7 : Int32) (S : MS) (Q : Int32 → MS → Prop) : Prop :=
  w9_shortOf_b274 K156 x1 x4 x6 x7 S Q
set_option maxHeartbeats 4000000 in
set_option maxRecDepth 100000 in
theorem b9_shortOf_b267 {p : Program} {l : Launch} {e : Env} {s : State} {m : MethodId} {args : Array Value} {below : List Frame} {meth : Method} {c : Code} {D : va_G} {cy : Nat → ClassId} {A : Nat → Prop} {o : Nat} {q : Nat → Nat} {K156 : Int32 → Int32 → MS → Prop} (x1 : Int32) (x4 : Int32) (x6 : Int32) (x7 : Int32) (S : MS) {Q : Int32 → MS → Prop} (C : Cx p s m args meth c cX9_shortOf 8 (some .int) wsX9_shortOf RX9 D cy nestWs A) (hK156 : ∀ (x5 : Int32) (x6 : Int32) (S : MS) (H : Heap) (locs : List Loc) (ls : Array Slot), K156 x5 x6 S → GW D A s (w9 o q cy S) H locs → lv_has ls 8 [(0, .ref o), (1, .int x1), (4, .int x4), (5, .int x5), (6, .int x6)] → W p l e ({ frames := 4, cells := 0, slots := 0, locals := 86 } : Room) s m args below meth c H locs 0 0 (MQ below (va_Qi Q (B1 D (w9 o q cy) A) A) args s 0 0 A) (F0 m 156 ls [])) (h : w9_shortOf_b267 K156 x1 x4 x6 x7 S Q) {H : Heap} {locs : List Loc} (hG : GW D A s (w9 o q cy S) H locs) {ls : Array Slot} (hl : lv_has ls 8 [(0, .ref o), (1, .int x1), (4, .int x4), (6, .int x6), (7, .int x7)]) : W p l e ({ frames := 4, cells := 0, slots := 0, locals := 86 } : Room) s m args below meth c H locs 0 0 (MQ below (va_Qi Q (B1 D (w9 o q cy) A) A) args s 0 0 A) (F0 m 267 ls []) := by
  have hx := C.1
  have hb := C.2.1
  unfold w9_shortOf_b267 at h
  refine lv_iload hx hb dX9_shortOf_267 (lv_at hl 4 rfl) ?_
  refine lv_goto (tgt := 274) hx hb dX9_shortOf_269 (by decide) ?_
  exact b9_shortOf_b274 (K156 := K156) x1 x4 x6 x7 S C hK156 h hG (lv_sub hl [0, 1, 2, 3] rfl)
def w9_shortOf_b201 (K156 : Int32 → Int32 → MS → Prop) (x1 : Int32) (x4 : Int32) (x5 : Int32) (x6 : Int32) (S : MS) (Q : Int32 → MS → Prop) : Prop :=
  ∀ y1 : Int32, y1 = x6 + (-1) → K156 x5 y1 S
set_option maxHeartbeats 4000000 in
set_option maxRecDepth 100000 in
theorem b9_shortOf_b201 {p : Program} {l : Launch} {e : Env} {s : State} {m : MethodId} {args : Array Value} {below : List Frame} {meth : Method} {c : Code} {D : va_G} {cy : Nat → ClassId} {A : Nat → Prop} {o : Nat} {q : Nat → Nat} {K156 : Int32 → Int32 → MS → Prop} (x1 : Int32) (x4 : Int32) (x5 : Int32) (x6 : Int32) (S : MS) {Q : Int32 → MS → Prop} (C : Cx p s m args meth c cX9_shortOf 8 (some .int) wsX9_shortOf RX9 D cy nestWs A) (hK156 : ∀ (x5 : Int32) (x6 : Int32) (S : MS) (H : Heap) (locs : List Loc) (ls : Array Slot), K156 x5 x6 S → GW D A s (w9 o q cy S) H locs → lv_has ls 8 [(0, .ref o), (1, .int x1), (4, .int x4), (5, .int x5), (6, .int x6)] → W p l e ({ frames := 4, cells := 0, slots := 0, locals := 86 } : Room) s m args below meth c H locs 0 0 (MQ below (va_Qi Q (B1 D (w9 o q cy) A) A) args s 0 0 A) (F0 m 156 ls [])) (h : w9_shortOf_b201 K156 x1 x4 x5 x6 S Q) {H : Heap} {locs : List Loc} (hG : GW D A s (w9 o q cy S) H locs) {ls : Array Slot} (hl : lv_has ls 8 [(0, .ref o), (1, .int x1), (4, .int x4), (5, .int x5), (6, .int x6)]) : W p l e ({ frames := 4, cells := 0, slots := 0, locals := 86 } : Room) s m args below meth c H locs 0 0 (MQ below (va_Qi Q (B1 D (w9 o q cy) A) A) args s 0 0 A) (F0 m 201 ls []) := by
  have hx := C.1
  have hb := C.2.1
  unfold w9_shortOf_b201 at h
  obtain ⟨y1, ey1⟩ : ∃ y : Int32, y = x6 + (-1) := ⟨_, rfl⟩
  replace h := h y1 ey1
  refine lv_iinc (v := y1) (lv' := [(6, .int y1), (0, .ref o), (1, .int x1), (4, .int x4), (5, .int x5)]) hx hb dX9_shortOf_201 hl (k := 4) rfl (by rw [ey1]; rfl) (by decide) rfl (fun ls hl => ?_)
  refine lv_goto (tgt := 156) hx hb dX9_shortOf_204 (by decide) ?_
  exact hK156 x5 y1 S _ _ _ h hG (lv_sub hl [1, 2, 3, 4, 0] rfl)
def w9_shortOf_d156 (K156 : Int32 → Int32 → MS → Prop) (x1 : Int32) (x4 : Int32) (x5 : Int32) (x6 : Int32) (S : MS) (Q : Int32 → MS → Prop) : Prop :=
  ((x6 < 0 → Q x5 S) ∧ (¬ x6 < 0 → vp_in x6 6 ∧ ∀ S3 : MS, S3 = sA S 23 x6 ((rA S 23 x6) + (1 : Int32)) → (((rA S3 23 x6) = (4 : Int32) → w9_shortOf_b201 K156 x1 x4 x5 x6 S3 Q) ∧ (¬ (rA S3 23 x6) = (4 : Int32) → (((rA S3 17 x6) = x4 → w9_shortOf_b201 K156 x1 x4 x5 x6 S3 Q) ∧ (¬ (rA S3 17 x6) = x4 → ((¬ x6 = (5 : Int32) → w9_unfolds x1 x6 (rA S3 23 x6) S3 (fun r7 S8 => ((r7 = 0 → K156 x5 x6 S8) ∧ (¬ r7 = 0 → ∀ y10 : Int32, y10 = x6 + 1 → vp_in y10 6 ∧ ∀ S12 : MS, S12 = sA S8 23 y10 (-1 : Int32) → ((¬ (rA S12 17 y10) = x4 → K156 x5 y10 S12) ∧ ((rA S12 17 y10) = x4 → w9_farNow y10 S12 (fun r14 => ((x5 < 0 → w9_shortOf_b267 K156 x1 x4 y10 r14 S12 Q) ∧ (¬ x5 < 0 → ((x5 ≤ r14 → w9_shortOf_b274 K156 x1 x4 y10 x5 S12 Q) ∧ (¬ x5 ≤ r14 → w9_shortOf_b267 K156 x1 x4 y10 r14 S12 Q))))))))))) ∧ (x6 = (5 : Int32) → w9_shortOf_b201 K156 x1 x4 x5 x6 S3 Q))))))))
set_option maxHeartbeats 4000000 in
set_option maxRecDepth 100000 in
theorem b9_shortOf_d156 {p : Program} {l : Launch} {e : Env} {s : State} {m : MethodId} {args : Array Value} {below : List Frame} {meth : Method} {c : Code} {D : va_G} {cy : Nat → ClassId} {A : Nat → Prop} {o : Nat} {q : Nat → Nat} {K156 : Int32 → Int32 → MS → Prop} (x1 : Int32) (x4 : Int32) (x5 : Int32) (x6 : Int32) (S : MS) {Q : Int32 → MS → Prop} (C : Cx p s m args meth c cX9_shortOf 8 (some .int) wsX9_shortOf RX9 D cy nestWs A) (hK156 : ∀ (x5 : Int32) (x6 : Int32) (S : MS) (H : Heap) (locs : List Loc) (ls : Array Slot), K156 x5 x6 S → GW D A s (w9 o q cy S) H locs → lv_has ls 8 [(0, .ref o), (1, .int x1), (4, .int x4), (5, .int x5), (6, .int x6)] → W p l e ({ frames := 4, cells := 0, slots := 0, locals := 86 } : Room) s m args below meth c H locs 0 0 (MQ below (va_Qi Q (B1 D (w9 o q cy) A) A) args s 0 0 A) (F0 m 156 ls [])) (h : w9_shortOf_d156 K156 x1 x4 x5 x6 S Q) {H : Heap} {locs : List Loc} (hG : GW D A s (w9 o q cy S) H locs) {ls : Array Slot} (hl : lv_has ls 8 [(0, .ref o), (1, .int x1), (4, .int x4), (5, .int x5), (6, .int x6)]) : W p l e ({ frames := 4, cells := 0, slots := 0, locals := 86 } : Room) s m args below meth c H locs 0 0 (MQ below (va_Qi Q (B1 D (w9 o q cy) A) A) args s 0 0 A) (F0 m 156 ls []) := by
  have hx := C.1
  have hb := C.2.1
  unfold w9_shortOf_d156 at h
  refine lv_iload hx hb dX9_shortOf_156 (lv_at hl 4 rfl) ?_
  refine lv_if_lt (tgt := 279) hx hb dX9_shortOf_158 (by decide) (fun c1 => ?_) (fun c1 => ?_)
  · replace h := h.1 c1
    refine lv_iload hx hb dX9_shortOf_279 (lv_at hl 3 rfl) ?_
    exact retI (w := (w9 o q cy)) (S := S) C hG h dX9_shortOf_281
  · replace h := h.2 c1
    refine lv_aload_n hx hb dX9_shortOf_161 rfl (lv_at hl 0 rfl) ?_
    refine x9g_23 C i9_shortOf_X9 k9_shortOf_65 hG dX9_shortOf_162 ?_
    refine lv_iload hx hb dX9_shortOf_165 (lv_at hl 4 rfl) ?_
    refine lv_dup2_11 hx hb dX9_shortOf_167 rfl rfl ?_
    obtain ⟨hv2, h⟩ := h
    refine x9l_23 C hG hv2 dX9_shortOf_168 ?_
    refine lv_iconst (v := 1) hx hb dX9_shortOf_169 (by decide) ?_
    refine lv_iadd hx hb dX9_shortOf_170 ?_
    refine x9s_23 C hG hv2 dX9_shortOf_171 (fun S3 eS3 H locs hG => ?_)
    replace h := h S3 eS3
    refine lv_aload_n hx hb dX9_shortOf_172 rfl (lv_at hl 0 rfl) ?_
    refine x9g_23 C i9_shortOf_X9 k9_shortOf_65 hG dX9_shortOf_173 ?_
    refine lv_iload hx hb dX9_shortOf_176 (lv_at hl 4 rfl) ?_
    refine x9l_23 C hG hv2 dX9_shortOf_178 ?_
    refine lv_iconst (v := 4) hx hb dX9_shortOf_179 (by decide) ?_
    refine lv_icmp_eq (tgt := 201) hx hb dX9_shortOf_180 (by decide) (fun c4 => ?_) (fun c4 => ?_)
    · replace h := h.1 c4
      exact b9_shortOf_b201 (K156 := K156) x1 x4 x5 x6 S3 C hK156 h hG hl
    · replace h := h.2 c4
      refine lv_aload_n hx hb dX9_shortOf_183 rfl (lv_at hl 0 rfl) ?_
      refine x9g_17 C i9_shortOf_X9 k9_shortOf_47 hG dX9_shortOf_184 ?_
      refine lv_iload hx hb dX9_shortOf_187 (lv_at hl 4 rfl) ?_
      refine x9l_17 C hG hv2 dX9_shortOf_189 ?_
      refine lv_iload hx hb dX9_shortOf_190 (lv_at hl 2 rfl) ?_
      refine lv_icmp_eq (tgt := 201) hx hb dX9_shortOf_192 (by decide) (fun c5 => ?_) (fun c5 => ?_)
      · replace h := h.1 c5
        exact b9_shortOf_b201 (K156 := K156) x1 x4 x5 x6 S3 C hK156 h hG hl
      · replace h := h.2 c5
        refine lv_iload hx hb dX9_shortOf_195 (lv_at hl 4 rfl) ?_
        refine lv_iconst (v := 5) hx hb dX9_shortOf_197 (by decide) ?_
        refine lv_icmp_ne (tgt := 207) hx hb dX9_shortOf_198 (by decide) (fun c6 => ?_) (fun c6 => ?_)
        · replace h := h.1 c6
          refine lv_aload_n hx hb dX9_shortOf_207 rfl (lv_at hl 0 rfl) ?_
          refine lv_iload_n hx hb dX9_shortOf_208 rfl (lv_at hl 1 rfl) ?_
          refine lv_iload hx hb dX9_shortOf_209 (lv_at hl 4 rfl) ?_
          refine lv_aload_n hx hb dX9_shortOf_211 rfl (lv_at hl 0 rfl) ?_
          refine x9g_23 C i9_shortOf_X9 k9_shortOf_65 hG dX9_shortOf_212 ?_
          refine lv_iload hx hb dX9_shortOf_215 (lv_at hl 4 rfl) ?_
          refine x9l_23 C hG hv2 dX9_shortOf_217 ?_
          refine callVI (As := [.int x1, .int x6, .int (rA S3 23 x6)]) (rest := []) C hG (c9_unfolds l D cy o q x1 x6 (rA S3 23 x6) S3 _ h) 3 gX9_shortOf_X9_unfolds rfl (by decide +kernel) ⟨⟨Nat.le_of_ble_eq_true rfl, Nat.le_of_ble_eq_true rfl⟩, rfl, rfl⟩ rfl rfl (Foc.all C.2.2.2.2.2.2.2.2.1) rfl hl.1 rfl (Nat.le_of_ble_eq_true rfl) dX9_shortOf_218 ⟨Nat.zero_le _, Nat.zero_le _⟩ (fun r7 S8 H locs h hG => ?_)
          have hG : GW D A s (w9 o q cy S8) H locs := hG
          refine lv_if_eq (tgt := 156) hx hb dX9_shortOf_221 (by decide) (fun c9 => ?_) (fun c9 => ?_)
          · replace h := h.1 c9
            exact hK156 x5 x6 S8 _ _ _ h hG hl
          · replace h := h.2 c9
            obtain ⟨y10, ey10⟩ : ∃ y : Int32, y = x6 + 1 := ⟨_, rfl⟩
            replace h := h y10 ey10
            refine lv_iinc (v := y10) (lv' := [(6, .int y10), (0, .ref o), (1, .int x1), (4, .int x4), (5, .int x5)]) hx hb dX9_shortOf_224 hl (k := 4) rfl (by rw [ey10]; rfl) (by decide) rfl (fun ls hl => ?_)
            refine lv_aload_n hx hb dX9_shortOf_227 rfl (lv_at hl 1 rfl) ?_
            refine x9g_23 C i9_shortOf_X9 k9_shortOf_65 hG dX9_shortOf_228 ?_
            refine lv_iload hx hb dX9_shortOf_231 (lv_at hl 0 rfl) ?_
            refine lv_iconst (v := -1) hx hb dX9_shortOf_233 (by decide) ?_
            obtain ⟨hv11, h⟩ := h
            refine x9s_23 C hG hv11 dX9_shortOf_234 (fun S12 eS12 H locs hG => ?_)
            replace h := h S12 eS12
            refine lv_aload_n hx hb dX9_shortOf_235 rfl (lv_at hl 1 rfl) ?_
            refine x9g_17 C i9_shortOf_X9 k9_shortOf_47 hG dX9_shortOf_236 ?_
            refine lv_iload hx hb dX9_shortOf_239 (lv_at hl 0 rfl) ?_
            refine x9l_17 C hG hv11 dX9_shortOf_241 ?_
            refine lv_iload hx hb dX9_shortOf_242 (lv_at hl 3 rfl) ?_
            refine lv_icmp_ne (tgt := 156) hx hb dX9_shortOf_244 (by decide) (fun c13 => ?_) (fun c13 => ?_)
            · replace h := h.1 c13
              exact hK156 x5 y10 S12 _ _ _ h hG (lv_sub hl [1, 2, 3, 4, 0] rfl)
            · replace h := h.2 c13
              refine lv_aload_n hx hb dX9_shortOf_247 rfl (lv_at hl 1 rfl) ?_
              refine lv_iload hx hb dX9_shortOf_248 (lv_at hl 0 rfl) ?_
              refine callVI (As := [.int y10]) (rest := []) C hG (c9_farNow l D cy o q y10 S12 _ h) 1 gX9_shortOf_X9_farNow rfl (by decide +kernel) ⟨⟨Nat.le_of_ble_eq_true rfl, Nat.le_of_ble_eq_true rfl⟩, rfl, rfl⟩ rfl rfl (Foc.all C.2.2.2.2.2.2.2.2.1) rfl hl.1 rfl (Nat.le_of_ble_eq_true rfl) dX9_shortOf_250 ⟨Nat.zero_le _, Nat.zero_le _⟩ (fun r14 u15 H locs h hG => ?_)
              obtain ⟨eu15, h⟩ := h
              have eu15 : u15 = S12 := eu15
              subst u15
              have hG : GW D A s (w9 o q cy S12) H locs := hG
              refine lv_istore (lv' := [(7, .int r14), (6, .int y10), (0, .ref o), (1, .int x1), (4, .int x4), (5, .int x5)]) hx hb dX9_shortOf_253 hl (by decide) rfl (fun ls hl => ?_)
              refine lv_iload hx hb dX9_shortOf_255 (lv_at hl 5 rfl) ?_
              refine lv_if_lt (tgt := 267) hx hb dX9_shortOf_257 (by decide) (fun c16 => ?_) (fun c16 => ?_)
              · replace h := h.1 c16
                exact b9_shortOf_b267 (K156 := K156) x1 x4 y10 r14 S12 C hK156 h hG (lv_sub hl [2, 3, 4, 1, 0] rfl)
              · replace h := h.2 c16
                refine lv_iload hx hb dX9_shortOf_260 (lv_at hl 0 rfl) ?_
                refine lv_iload hx hb dX9_shortOf_262 (lv_at hl 5 rfl) ?_
                refine lv_icmp_ge (tgt := 272) hx hb dX9_shortOf_264 (by decide) (fun c17 => ?_) (fun c17 => ?_)
                · replace h := h.1 c17
                  refine lv_iload hx hb dX9_shortOf_272 (lv_at hl 5 rfl) ?_
                  exact b9_shortOf_b274 (K156 := K156) x1 x4 y10 x5 S12 C hK156 h hG (lv_sub hl [2, 3, 4, 1] rfl)
                · replace h := h.2 c17
                  exact b9_shortOf_b267 (K156 := K156) x1 x4 y10 r14 S12 C hK156 h hG (lv_sub hl [2, 3, 4, 1, 0] rfl)
        · replace h := h.2 c6
          exact b9_shortOf_b201 (K156 := K156) x1 x4 x5 x6 S3 C hK156 h hG hl
def w9_shortOf_F156 (x1 : Int32) (x4 : Int32) (Q : Int32 → MS → Prop) (K : Int32 × Int32 × MS → Prop) (a : Int32 × Int32 × MS) : Prop := w9_shortOf_d156 (fun y0 y1 y2 => K (y0, y1, y2)) x1 x4 a.1 a.2.1 a.2.2 Q
def w9_shortOf_b156 (x1 : Int32) (x4 : Int32) (x5 : Int32) (x6 : Int32) (S : MS) (Q : Int32 → MS → Prop) : Prop := lp (w9_shortOf_F156 x1 x4 Q) (x5, x6, S)
set_option maxHeartbeats 4000000 in
set_option maxRecDepth 100000 in
theorem b9_shortOf_b156 {p : Program} {l : Launch} {e : Env} {s : State} {m : MethodId} {args : Array Value} {below : List Frame} {meth : Method} {c : Code} {D : va_G} {cy : Nat → ClassId} {A : Nat → Prop} {o : Nat} {q : Nat → Nat} (x1 : Int32) (x4 : Int32) (x5 : Int32) (x6 : Int32) (S : MS) {Q : Int32 → MS → Prop} (C : Cx p s m args meth c cX9_shortOf 8 (some .int) wsX9_shortOf RX9 D cy nestWs A) (h : w9_shortOf_b156 x1 x4 x5 x6 S Q) {H : Heap} {locs : List Loc} (hG : GW D A s (w9 o q cy S) H locs) {ls : Array Slot} (hl : lv_has ls 8 [(0, .ref o), (1, .int x1), (4, .int x4), (5, .int x5), (6, .int x6)]) : W p l e ({ frames := 4, cells := 0, slots := 0, locals := 86 } : Room) s m args below meth c H locs 0 0 (MQ below (va_Qi Q (B1 D (w9 o q cy) A) A) args s 0 0 A) (F0 m 156 ls []) := by
  obtain ⟨k, hn⟩ := h
  induction k generalizing x5 x6 S H locs ls with
  | zero => exact hn.elim
  | succ k ih => exact b9_shortOf_d156 (K156 := fun y0 y1 y2 => itr (w9_shortOf_F156 x1 x4 Q) k (y0, y1, y2)) x1 x4 x5 x6 S C (fun x5 x6 S H locs ls hk hG hl => ih x5 x6 S hG hl hk) hn hG hl
def w9_shortOf_b151 (x1 : Int32) (x4 : Int32) (t0 : Int32) (S : MS) (Q : Int32 → MS → Prop) : Prop :=
  w9_shortOf_b156 x1 x4 t0 (0 : Int32) S Q
set_option maxHeartbeats 4000000 in
set_option maxRecDepth 100000 in
theorem b9_shortOf_b151 {p : Program} {l : Launch} {e : Env} {s : State} {m : MethodId} {args : Array Value} {below : List Frame} {meth : Method} {c : Code} {D : va_G} {cy : Nat → ClassId} {A : Nat → Prop} {o : Nat} {q : Nat → Nat} (x1 : Int32) (x4 : Int32) (t0 : Int32) (S : MS) {Q : Int32 → MS → Prop} (C : Cx p s m args meth c cX9_shortOf 8 (some .int) wsX9_shortOf RX9 D cy nestWs A) (h : w9_shortOf_b151 x1 x4 t0 S Q) {H : Heap} {locs : List Loc} (hG : GW D A s (w9 o q cy S) H locs) {ls : Array Slot} (hl : lv_has ls 8 [(0, .ref o), (1, .int x1), (4, .int x4)]) : W p l e ({ frames := 4, cells := 0, slots := 0, locals := 86 } : Room) s m args below meth c H locs 0 0 (MQ below (va_Qi Q (B1 D (w9 o q cy) A) A) args s 0 0 A) (F0 m 151 ls [.int t0]) := by
  have hx := C.1
  have hb := C.2.1
  unfold w9_shortOf_b151 at h
  refine lv_istore (lv' := [(5, .int t0), (0, .ref o), (1, .int x1), (4, .int x4)]) hx hb dX9_shortOf_151 hl (by decide) rfl (fun ls hl => ?_)
  refine lv_iconst (v := 0) hx hb dX9_shortOf_153 (by decide) ?_
  refine lv_istore (lv' := [(6, .int (0 : Int32)), (5, .int t0), (0, .ref o), (1, .int x1), (4, .int x4)]) hx hb dX9_shortOf_154 hl (by decide) rfl (fun ls hl => ?_)
  exact b9_shortOf_b156 x1 x4 t0 (0 : Int32) S C h hG (lv_sub hl [2, 3, 4, 1, 0] rfl)
def w9_shortOf_d106 (K106 : Int32 → MS → Prop) (x1 : Int32) (x4 : Int32) (x5 : Int32) (S : MS) (Q : Int32 → MS → Prop) : Prop :=
  (((3 : Int32) ≤ x5 → ((¬ (fI S 8) = x4 → w9_shortOf_b151 x1 x4 (-9 : Int32) S Q) ∧ ((fI S 8) = x4 → w9_farNow (0 : Int32) S (fun r3 => w9_shortOf_b151 x1 x4 r3 S Q)))) ∧ (¬ (3 : Int32) ≤ x5 → vp_in x5 3 ∧ vp_in x5 18 ∧ ∀ S7 : MS, S7 = sA S 20 x5 (rA S 9 x5) → ∀ y8 : Int32, y8 = x5 + 1 → K106 y8 S7))
set_option maxHeartbeats 4000000 in
set_option maxRecDepth 100000 in
theorem b9_shortOf_d106 {p : Program} {l : Launch} {e : Env} {s : State} {m : MethodId} {args : Array Value} {below : List Frame} {meth : Method} {c : Code} {D : va_G} {cy : Nat → ClassId} {A : Nat → Prop} {o : Nat} {q : Nat → Nat} {K106 : Int32 → MS → Prop} (x1 : Int32) (x4 : Int32) (x5 : Int32) (S : MS) {Q : Int32 → MS → Prop} (C : Cx p s m args meth c cX9_shortOf 8 (some .int) wsX9_shortOf RX9 D cy nestWs A) (hK106 : ∀ (x5 : Int32) (S : MS) (H : Heap) (locs : List Loc) (ls : Array Slot), K106 x5 S → GW D A s (w9 o q cy S) H locs → lv_has ls 8 [(0, .ref o), (1, .int x1), (4, .int x4), (5, .int x5)] → W p l e ({ frames := 4, cells := 0, slots := 0, locals := 86 } : Room) s m args below meth c H locs 0 0 (MQ below (va_Qi Q (B1 D (w9 o q cy) A) A) args s 0 0 A) (F0 m 106 ls [])) (h : w9_shortOf_d106 K106 x1 x4 x5 S Q) {H : Heap} {locs : List Loc} (hG : GW D A s (w9 o q cy S) H locs) {ls : Array Slot} (hl : lv_has ls 8 [(0, .ref o), (1, .int x1), (4, .int x4), (5, .int x5)]) : W p l e ({ frames := 4, cells := 0, slots := 0, locals := 86 } : Room) s m args below meth c H locs 0 0 (MQ below (va_Qi Q (B1 D (w9 o q cy) A) A) args s 0 0 A) (F0 m 106 ls []) := by
  have hx := C.1
  have hb := C.2.1
  unfold w9_shortOf_d106 at h
  refine lv_iload hx hb dX9_shortOf_106 (lv_at hl 3 rfl) ?_
  refine lv_iconst (v := 3) hx hb dX9_shortOf_108 (by decide) ?_
  refine lv_icmp_ge (tgt := 132) hx hb dX9_shortOf_109 (by decide) (fun c1 => ?_) (fun c1 => ?_)
  · replace h := h.1 c1
    refine lv_aload_n hx hb dX9_shortOf_132 rfl (lv_at hl 0 rfl) ?_
    refine x9g_8 C i9_shortOf_X9 k9_shortOf_193 hG dX9_shortOf_133 ?_
    refine lv_iload hx hb dX9_shortOf_136 (lv_at hl 2 rfl) ?_
    refine lv_icmp_ne (tgt := 149) hx hb dX9_shortOf_138 (by decide) (fun c2 => ?_) (fun c2 => ?_)
    · replace h := h.1 c2
      refine lv_bipush (v := -9) hx hb dX9_shortOf_149 (by decide) ?_
      exact b9_shortOf_b151 x1 x4 (-9 : Int32) S C h hG (lv_sub hl [0, 1, 2] rfl)
    · replace h := h.2 c2
      refine lv_aload_n hx hb dX9_shortOf_141 rfl (lv_at hl 0 rfl) ?_
      refine lv_iconst (v := 0) hx hb dX9_shortOf_142 (by decide) ?_
      refine callVI (As := [.int (0 : Int32)]) (rest := []) C hG (c9_farNow l D cy o q (0 : Int32) S _ h) 1 gX9_shortOf_X9_farNow rfl (by decide +kernel) ⟨⟨Nat.le_of_ble_eq_true rfl, Nat.le_of_ble_eq_true rfl⟩, rfl, rfl⟩ rfl rfl (Foc.all C.2.2.2.2.2.2.2.2.1) rfl hl.1 rfl (Nat.le_of_ble_eq_true rfl) dX9_shortOf_143 ⟨Nat.zero_le _, Nat.zero_le _⟩ (fun r3 u4 H locs h hG => ?_)
      obtain ⟨eu4, h⟩ := h
      have eu4 : u4 = S := eu4
      subst u4
      have hG : GW D A s (w9 o q cy S) H locs := hG
      refine lv_goto (tgt := 151) hx hb dX9_shortOf_146 (by decide) ?_
      exact b9_shortOf_b151 x1 x4 r3 S C h hG (lv_sub hl [0, 1, 2] rfl)
  · replace h := h.2 c1
    refine lv_aload_n hx hb dX9_shortOf_112 rfl (lv_at hl 0 rfl) ?_
    refine x9g_20 C i9_shortOf_X9 k9_shortOf_56 hG dX9_shortOf_113 ?_
    refine lv_iload hx hb dX9_shortOf_116 (lv_at hl 3 rfl) ?_
    refine lv_aload_n hx hb dX9_shortOf_118 rfl (lv_at hl 0 rfl) ?_
    refine x9g_9 C i9_shortOf_X9 k9_shortOf_29 hG dX9_shortOf_119 ?_
    refine lv_iload hx hb dX9_shortOf_122 (lv_at hl 3 rfl) ?_
    obtain ⟨hv5, h⟩ := h
    refine x9l_9 C hG hv5 dX9_shortOf_124 ?_
    obtain ⟨hv6, h⟩ := h
    refine x9s_20 C hG hv6 dX9_shortOf_125 (fun S7 eS7 H locs hG => ?_)
    replace h := h S7 eS7
    obtain ⟨y8, ey8⟩ : ∃ y : Int32, y = x5 + 1 := ⟨_, rfl⟩
    replace h := h y8 ey8
    refine lv_iinc (v := y8) (lv' := [(5, .int y8), (0, .ref o), (1, .int x1), (4, .int x4)]) hx hb dX9_shortOf_126 hl (k := 3) rfl (by rw [ey8]; rfl) (by decide) rfl (fun ls hl => ?_)
    refine lv_goto (tgt := 106) hx hb dX9_shortOf_129 (by decide) ?_
    exact hK106 y8 S7 _ _ _ h hG (lv_sub hl [1, 2, 3, 0] rfl)
def w9_shortOf_F106 (x1 : Int32) (x4 : Int32) (Q : Int32 → MS → Prop) (K : Int32 × MS → Prop) (a : Int32 × MS) : Prop := w9_shortOf_d106 (fun y0 y1 => K (y0, y1)) x1 x4 a.1 a.2 Q
def w9_shortOf_b106 (x1 : Int32) (x4 : Int32) (x5 : Int32) (S : MS) (Q : Int32 → MS → Prop) : Prop := lp (w9_shortOf_F106 x1 x4 Q) (x5, S)
set_option maxHeartbeats 4000000 in
set_option maxRecDepth 100000 in
theorem b9_shortOf_b106 {p : Program} {l : Launch} {e : Env} {s : State} {m : MethodId} {args : Array Value} {below : List Frame} {meth : Method} {c : Code} {D : va_G} {cy : Nat → ClassId} {A : Nat → Prop} {o : Nat} {q : Nat → Nat} (x1 : Int32) (x4 : Int32) (x5 : Int32) (S : MS) {Q : Int32 → MS → Prop} (C : Cx p s m args meth c cX9_shortOf 8 (some .int) wsX9_shortOf RX9 D cy nestWs A) (h : w9_shortOf_b106 x1 x4 x5 S Q) {H : Heap} {locs : List Loc} (hG : GW D A s (w9 o q cy S) H locs) {ls : Array Slot} (hl : lv_has ls 8 [(0, .ref o), (1, .int x1), (4, .int x4), (5, .int x5)]) : W p l e ({ frames := 4, cells := 0, slots := 0, locals := 86 } : Room) s m args below meth c H locs 0 0 (MQ below (va_Qi Q (B1 D (w9 o q cy) A) A) args s 0 0 A) (F0 m 106 ls []) := by
  obtain ⟨k, hn⟩ := h
  induction k generalizing x5 S H locs ls with
  | zero => exact hn.elim
  | succ k ih => exact b9_shortOf_d106 (K106 := fun y0 y1 => itr (w9_shortOf_F106 x1 x4 Q) k (y0, y1)) x1 x4 x5 S C (fun x5 S H locs ls hk hG hl => ih x5 S hG hl hk) hn hG hl
def w9_shortOf_d15 (K15 : Int32 → MS → Prop) (x1 : Int32) (x2 : Int32) (x4 : Int32) (x5 : Int32) (S : MS) (Q : Int32 → MS → Prop) : Prop :=
  (((3 : Int32) ≤ x5 → w9_goTo x1 x2 S (fun S2 => w9_setFrame (0 : Int32) S2 (fun S3 => ∀ S4 : MS, S4 = sA S3 17 (0 : Int32) (fI S3 8) → ∀ S5 : MS, S5 = sA S4 18 (0 : Int32) (fI S4 10) → ∀ S6 : MS, S6 = sA S5 19 (0 : Int32) (fI S5 11) → ∀ S7 : MS, S7 = sA S6 21 (0 : Int32) (0 : Int32) → ∀ S8 : MS, S8 = sA S7 22 (0 : Int32) (0 : Int32) → ∀ S9 : MS, S9 = sA S8 23 (0 : Int32) (-1 : Int32) → w9_shortOf_b106 x1 x4 (0 : Int32) S9 Q))) ∧ (¬ (3 : Int32) ≤ x5 → vp_in x5 3 ∧ ∀ S11 : MS, S11 = sA S 24 x5 (rA S 9 x5) → ∀ y12 : Int32, y12 = x5 + 1 → K15 y12 S11))
set_option maxHeartbeats 4000000 in
set_option maxRecDepth 100000 in
theorem b9_shortOf_d15 {p : Program} {l : Launch} {e : Env} {s : State} {m : MethodId} {args : Array Value} {below : List Frame} {meth : Method} {c : Code} {D : va_G} {cy : Nat → ClassId} {A : Nat → Prop} {o : Nat} {q : Nat → Nat} {K15 : Int32 → MS → Prop} (x1 : Int32) (x2 : Int32) (x4 : Int32) (x5 : Int32) (S : MS) {Q : Int32 → MS → Prop} (C : Cx p s m args meth c cX9_shortOf 8 (some .int) wsX9_shortOf RX9 D cy nestWs A) (hK15 : ∀ (x5 : Int32) (S : MS) (H : Heap) (locs : List Loc) (ls : Array Slot), K15 x5 S → GW D A s (w9 o q cy S) H locs → lv_has ls 8 [(0, .ref o), (1, .int x1), (2, .int x2), (4, .int x4), (5, .int x5)] → W p l e ({ frames := 4, cells := 0, slots := 0, locals := 86 } : Room) s m args below meth c H locs 0 0 (MQ below (va_Qi Q (B1 D (w9 o q cy) A) A) args s 0 0 A) (F0 m 15 ls [])) (h : w9_shortOf_d15 K15 x1 x2 x4 x5 S Q) {H : Heap} {locs : List Loc} (hG : GW D A s (w9 o q cy S) H locs) {ls : Array Slot} (hl : lv_has ls 8 [(0, .ref o), (1, .int x1), (2, .int x2), (4, .int x4), (5, .int x5)]) : W p l e ({ frames := 4, cells := 0, slots := 0, locals := 86 } : Room) s m args below meth c H locs 0 0 (MQ below (va_Qi Q (B1 D (w9 o q cy) A) A) args s 0 0 A) (F0 m 15 ls []) := by
  have hx := C.1
  have hb := C.2.1
  unfold w9_shortOf_d15 at h
  refine lv_iload hx hb dX9_shortOf_15 (lv_at hl 4 rfl) ?_
  refine lv_iconst (v := 3) hx hb dX9_shortOf_17 (by decide) ?_
  refine lv_icmp_ge (tgt := 41) hx hb dX9_shortOf_18 (by decide) (fun c1 => ?_) (fun c1 => ?_)
  · replace h := h.1 c1
    refine lv_aload_n hx hb dX9_shortOf_41 rfl (lv_at hl 0 rfl) ?_
    refine lv_iload_n hx hb dX9_shortOf_42 rfl (lv_at hl 1 rfl) ?_
    refine lv_iload_n hx hb dX9_shortOf_43 rfl (lv_at hl 2 rfl) ?_
    refine callVV (As := [.int x1, .int x2]) (rest := []) C hG (c9_goTo l D cy o q x1 x2 S _ h) 2 gX9_shortOf_X9_goTo rfl (by decide +kernel) ⟨⟨Nat.le_of_ble_eq_true rfl, Nat.le_of_ble_eq_true rfl⟩, rfl, rfl⟩ rfl rfl (Foc.all C.2.2.2.2.2.2.2.2.1) rfl hl.1 rfl (Nat.le_of_ble_eq_true rfl) dX9_shortOf_44 ⟨Nat.zero_le _, Nat.zero_le _⟩ (fun  S2 H locs h hG => ?_)
    have hG : GW D A s (w9 o q cy S2) H locs := hG
    refine lv_aload_n hx hb dX9_shortOf_47 rfl (lv_at hl 0 rfl) ?_
    refine lv_iconst (v := 0) hx hb dX9_shortOf_48 (by decide) ?_
    refine callVV (As := [.int (0 : Int32)]) (rest := []) C hG (c9_setFrame l D cy o q (0 : Int32) S2 _ h) 1 gX9_shortOf_X9_setFrame rfl (by decide +kernel) ⟨⟨Nat.le_of_ble_eq_true rfl, Nat.le_of_ble_eq_true rfl⟩, rfl, rfl⟩ rfl rfl (Foc.all C.2.2.2.2.2.2.2.2.1) rfl hl.1 rfl (Nat.le_of_ble_eq_true rfl) dX9_shortOf_49 ⟨Nat.zero_le _, Nat.zero_le _⟩ (fun  S3 H locs h hG => ?_)
    have hG : GW D A s (w9 o q cy S3) H locs := hG
    refine lv_aload_n hx hb dX9_shortOf_52 rfl (lv_at hl 0 rfl) ?_
    refine x9g_17 C i9_shortOf_X9 k9_shortOf_47 hG dX9_shortOf_53 ?_
    refine lv_iconst (v := 0) hx hb dX9_shortOf_56 (by decide) ?_
    refine lv_aload_n hx hb dX9_shortOf_57 rfl (lv_at hl 0 rfl) ?_
    refine x9g_8 C i9_shortOf_X9 k9_shortOf_193 hG dX9_shortOf_58 ?_
    refine x9s_17 C hG (by unfold vp_in; decide) dX9_shortOf_61 (fun S4 eS4 H locs hG => ?_)
    replace h := h S4 eS4
    refine lv_aload_n hx hb dX9_shortOf_62 rfl (lv_at hl 0 rfl) ?_
    refine x9g_18 C i9_shortOf_X9 k9_shortOf_50 hG dX9_shortOf_63 ?_
    refine lv_iconst (v := 0) hx hb dX9_shortOf_66 (by decide) ?_
    refine lv_aload_n hx hb dX9_shortOf_67 rfl (lv_at hl 0 rfl) ?_
    refine x9g_10 C i9_shortOf_X9 k9_shortOf_199 hG dX9_shortOf_68 ?_
    refine x9s_18 C hG (by unfold vp_in; decide) dX9_shortOf_71 (fun S5 eS5 H locs hG => ?_)
    replace h := h S5 eS5
    refine lv_aload_n hx hb dX9_shortOf_72 rfl (lv_at hl 0 rfl) ?_
    refine x9g_19 C i9_shortOf_X9 k9_shortOf_53 hG dX9_shortOf_73 ?_
    refine lv_iconst (v := 0) hx hb dX9_shortOf_76 (by decide) ?_
    refine lv_aload_n hx hb dX9_shortOf_77 rfl (lv_at hl 0 rfl) ?_
    refine x9g_11 C i9_shortOf_X9 k9_shortOf_202 hG dX9_shortOf_78 ?_
    refine x9s_19 C hG (by unfold vp_in; decide) dX9_shortOf_81 (fun S6 eS6 H locs hG => ?_)
    replace h := h S6 eS6
    refine lv_aload_n hx hb dX9_shortOf_82 rfl (lv_at hl 0 rfl) ?_
    refine x9g_21 C i9_shortOf_X9 k9_shortOf_59 hG dX9_shortOf_83 ?_
    refine lv_iconst (v := 0) hx hb dX9_shortOf_86 (by decide) ?_
    refine lv_iconst (v := 0) hx hb dX9_shortOf_87 (by decide) ?_
    refine x9s_21 C hG (by unfold vp_in; decide) dX9_shortOf_88 (fun S7 eS7 H locs hG => ?_)
    replace h := h S7 eS7
    refine lv_aload_n hx hb dX9_shortOf_89 rfl (lv_at hl 0 rfl) ?_
    refine x9g_22 C i9_shortOf_X9 k9_shortOf_62 hG dX9_shortOf_90 ?_
    refine lv_iconst (v := 0) hx hb dX9_shortOf_93 (by decide) ?_
    refine lv_iconst (v := 0) hx hb dX9_shortOf_94 (by decide) ?_
    refine x9s_22 C hG (by unfold vp_in; decide) dX9_shortOf_95 (fun S8 eS8 H locs hG => ?_)
    replace h := h S8 eS8
    refine lv_aload_n hx hb dX9_shortOf_96 rfl (lv_at hl 0 rfl) ?_
    refine x9g_23 C i9_shortOf_X9 k9_shortOf_65 hG dX9_shortOf_97 ?_
    refine lv_iconst (v := 0) hx hb dX9_shortOf_100 (by decide) ?_
    refine lv_iconst (v := -1) hx hb dX9_shortOf_101 (by decide) ?_
    refine x9s_23 C hG (by unfold vp_in; decide) dX9_shortOf_102 (fun S9 eS9 H locs hG => ?_)
    replace h := h S9 eS9
    refine lv_iconst (v := 0) hx hb dX9_shortOf_103 (by decide) ?_
    refine lv_istore (lv' := [(5, .int (0 : Int32)), (0, .ref o), (1, .int x1), (2, .int x2), (4, .int x4)]) hx hb dX9_shortOf_104 hl (by decide) rfl (fun ls hl => ?_)
    exact b9_shortOf_b106 x1 x4 (0 : Int32) S9 C h hG (lv_sub hl [1, 2, 4, 0] rfl)
  · replace h := h.2 c1
    refine lv_aload_n hx hb dX9_shortOf_21 rfl (lv_at hl 0 rfl) ?_
    refine x9g_24 C i9_shortOf_X9 k9_shortOf_68 hG dX9_shortOf_22 ?_
    refine lv_iload hx hb dX9_shortOf_25 (lv_at hl 4 rfl) ?_
    refine lv_aload_n hx hb dX9_shortOf_27 rfl (lv_at hl 0 rfl) ?_
    refine x9g_9 C i9_shortOf_X9 k9_shortOf_29 hG dX9_shortOf_28 ?_
    refine lv_iload hx hb dX9_shortOf_31 (lv_at hl 4 rfl) ?_
    obtain ⟨hv10, h⟩ := h
    refine x9l_9 C hG hv10 dX9_shortOf_33 ?_
    refine x9s_24 C hG hv10 dX9_shortOf_34 (fun S11 eS11 H locs hG => ?_)
    replace h := h S11 eS11
    obtain ⟨y12, ey12⟩ : ∃ y : Int32, y = x5 + 1 := ⟨_, rfl⟩
    replace h := h y12 ey12
    refine lv_iinc (v := y12) (lv' := [(5, .int y12), (0, .ref o), (1, .int x1), (2, .int x2), (4, .int x4)]) hx hb dX9_shortOf_35 hl (k := 4) rfl (by rw [ey12]; rfl) (by decide) rfl (fun ls hl => ?_)
    refine lv_goto (tgt := 15) hx hb dX9_shortOf_38 (by decide) ?_
    exact hK15 y12 S11 _ _ _ h hG (lv_sub hl [1, 2, 3, 4, 0] rfl)
def w9_shortOf_F15 (x1 : Int32) (x2 : Int32) (x4 : Int32) (Q : Int32 → MS → Prop) (K : Int32 × MS → Prop) (a : Int32 × MS) : Prop := w9_shortOf_d15 (fun y0 y1 => K (y0, y1)) x1 x2 x4 a.1 a.2 Q
def w9_shortOf_b15 (x1 : Int32) (x2 : Int32) (x4 : Int32) (x5 : Int32) (S : MS) (Q : Int32 → MS → Prop) : Prop := lp (w9_shortOf_F15 x1 x2 x4 Q) (x5, S)
set_option maxHeartbeats 4000000 in
set_option maxRecDepth 100000 in
theorem b9_shortOf_b15 {p : Program} {l : Launch} {e : Env} {s : State} {m : MethodId} {args : Array Value} {below : List Frame} {meth : Method} {c : Code} {D : va_G} {cy : Nat → ClassId} {A : Nat → Prop} {o : Nat} {q : Nat → Nat} (x1 : Int32) (x2 : Int32) (x4 : Int32) (x5 : Int32) (S : MS) {Q : Int32 → MS → Prop} (C : Cx p s m args meth c cX9_shortOf 8 (some .int) wsX9_shortOf RX9 D cy nestWs A) (h : w9_shortOf_b15 x1 x2 x4 x5 S Q) {H : Heap} {locs : List Loc} (hG : GW D A s (w9 o q cy S) H locs) {ls : Array Slot} (hl : lv_has ls 8 [(0, .ref o), (1, .int x1), (2, .int x2), (4, .int x4), (5, .int x5)]) : W p l e ({ frames := 4, cells := 0, slots := 0, locals := 86 } : Room) s m args below meth c H locs 0 0 (MQ below (va_Qi Q (B1 D (w9 o q cy) A) A) args s 0 0 A) (F0 m 15 ls []) := by
  obtain ⟨k, hn⟩ := h
  induction k generalizing x5 S H locs ls with
  | zero => exact hn.elim
  | succ k ih => exact b9_shortOf_d15 (K15 := fun y0 y1 => itr (w9_shortOf_F15 x1 x2 x4 Q) k (y0, y1)) x1 x2 x4 x5 S C (fun x5 S H locs ls hk hG hl => ih x5 S hG hl hk) hn hG hl
def w9_shortOf (x1 : Int32) (x2 : Int32) (x3 : Int32) (S : MS) (Q : Int32 → MS → Prop) : Prop :=
  w9_goTo x1 x3 S (fun S1 => ∀ y2 : Int32, y2 = (fI S1 8) → w9_shortOf_b15 x1 x2 y2 (0 : Int32) S1 Q)
set_option maxHeartbeats 4000000 in
set_option maxRecDepth 100000 in
theorem c9_shortOf (l : Launch) (D : va_G) (cy : Nat → ClassId)  (o : Nat) (q : Nat → Nat) (x1 : Int32) (x2 : Int32) (x3 : Int32) (S : MS) (Q : Int32 → MS → Prop) (h : w9_shortOf x1 x2 x3 S Q) : MetI l yX9_shortOf wsX9_shortOf ({ frames := 4, cells := 0, slots := 0, locals := 86 } : Room) D cy nestWs (w9 o q cy) [.ref o, .int x1, .int x2, .int x3] S Q := by
  refine MetI.mk RX9 cX9_shortOf 8 .int (by decide) rfl nestWs_ok rfl (Nat.le_of_ble_eq_true rfl) ?_
  intro p e s m below meth c A ls C hG hl
  have hl : lv_has ls 8 [(0, .ref o), (1, .int x1), (2, .int x2), (3, .int x3)] := hl
  have hx := C.1
  have hb := C.2.1
  unfold w9_shortOf at h
  refine lv_aload_n hx hb dX9_shortOf_0 rfl (lv_at hl 0 rfl) ?_
  refine lv_iload_n hx hb dX9_shortOf_1 rfl (lv_at hl 1 rfl) ?_
  refine lv_iload_n hx hb dX9_shortOf_2 rfl (lv_at hl 3 rfl) ?_
  refine callVV (As := [.int x1, .int x3]) (rest := []) C hG (c9_goTo l D cy o q x1 x3 S _ h) 2 gX9_shortOf_X9_goTo rfl (by decide +kernel) ⟨⟨Nat.le_of_ble_eq_true rfl, Nat.le_of_ble_eq_true rfl⟩, rfl, rfl⟩ rfl rfl (Foc.all C.2.2.2.2.2.2.2.2.1) rfl hl.1 rfl (Nat.le_of_ble_eq_true rfl) dX9_shortOf_3 ⟨Nat.zero_le _, Nat.zero_le _⟩ (fun  S1 H locs h hG => ?_)
  have hG : GW D A s (w9 o q cy S1) H locs := hG
  refine lv_aload_n hx hb dX9_shortOf_6 rfl (lv_at hl 0 rfl) ?_
  refine x9g_8 C i9_shortOf_X9 k9_shortOf_193 hG dX9_shortOf_7 ?_
  refine lv_topi (fun y2 ey2 => ?_)
  replace h := h y2 ey2
  refine lv_istore (lv' := [(4, .int y2), (0, .ref o), (1, .int x1), (2, .int x2), (3, .int x3)]) hx hb dX9_shortOf_10 hl (by decide) rfl (fun ls hl => ?_)
  refine lv_iconst (v := 0) hx hb dX9_shortOf_12 (by decide) ?_
  refine lv_istore (lv' := [(5, .int (0 : Int32)), (4, .int y2), (0, .ref o), (1, .int x1), (2, .int x2), (3, .int x3)]) hx hb dX9_shortOf_13 hl (by decide) rfl (fun ls hl => ?_)
  exact b9_shortOf_b15 x1 x2 y2 (0 : Int32) S1 C h hG (lv_sub hl [2, 3, 4, 1, 0] rfl)
-- X9_askedCells
def w9_askedCells_b44 (t0 : Int32) (S : MS) (Q : Int32 → MS → Prop) : Prop :=
  Q t0 S
set_option maxHeartbeats 4000000 in
set_option maxRecDepth 100000 in
theorem b9_askedCells_b44 {p : Program} {l : Launch} {e : Env} {s : State} {m : MethodId} {args : Array Value} {below : List Frame} {meth : Method} {c : Code} {D : va_G} {cy : Nat → ClassId} {A : Nat → Prop} {o : Nat} {q : Nat → Nat} (t0 : Int32) (S : MS) {Q : Int32 → MS → Prop} (C : Cx p s m args meth c cX9_askedCells 5 (some .int) wsX9_askedCells RX9 D cy nestWs A) (h : w9_askedCells_b44 t0 S Q) {H : Heap} {locs : List Loc} (hG : GW D A s (w9 o q cy S) H locs) {ls : Array Slot} (hl : lv_has ls 5 [(0, .ref o)]) : W p l e ({ frames := 3, cells := 0, slots := 0, locals := 65 } : Room) s m args below meth c H locs 0 0 (MQ below (va_Qi Q (B1 D (w9 o q cy) A) A) args s 0 0 A) (F0 m 44 ls [.int t0]) := by
  have hx := C.1
  have hb := C.2.1
  unfold w9_askedCells_b44 at h
  exact retI (w := (w9 o q cy)) (S := S) C hG h dX9_askedCells_44
def w9_askedCells_b39 (S : MS) (Q : Int32 → MS → Prop) : Prop :=
  w9_meets (2 : Int32) S (fun r1 S2 => w9_askedCells_b44 r1 S2 Q)
set_option maxHeartbeats 4000000 in
set_option maxRecDepth 100000 in
theorem b9_askedCells_b39 {p : Program} {l : Launch} {e : Env} {s : State} {m : MethodId} {args : Array Value} {below : List Frame} {meth : Method} {c : Code} {D : va_G} {cy : Nat → ClassId} {A : Nat → Prop} {o : Nat} {q : Nat → Nat} (S : MS) {Q : Int32 → MS → Prop} (C : Cx p s m args meth c cX9_askedCells 5 (some .int) wsX9_askedCells RX9 D cy nestWs A) (h : w9_askedCells_b39 S Q) {H : Heap} {locs : List Loc} (hG : GW D A s (w9 o q cy S) H locs) {ls : Array Slot} (hl : lv_has ls 5 [(0, .ref o)]) : W p l e ({ frames := 3, cells := 0, slots := 0, locals := 65 } : Room) s m args below meth c H locs 0 0 (MQ below (va_Qi Q (B1 D (w9 o q cy) A) A) args s 0 0 A) (F0 m 39 ls []) := by
  have hx := C.1
  have hb := C.2.1
  unfold w9_askedCells_b39 at h
  refine lv_aload_n hx hb dX9_askedCells_39 rfl (lv_at hl 0 rfl) ?_
  refine lv_iconst (v := 2) hx hb dX9_askedCells_40 (by decide) ?_
  refine callVI (As := [.int (2 : Int32)]) (rest := []) C hG (c9_meets l D cy o q (2 : Int32) S _ h) 1 gX9_askedCells_X9_meets rfl (by decide +kernel) ⟨⟨Nat.le_of_ble_eq_true rfl, Nat.le_of_ble_eq_true rfl⟩, rfl, rfl⟩ rfl rfl (Foc.all C.2.2.2.2.2.2.2.2.1) rfl hl.1 rfl (Nat.le_of_ble_eq_true rfl) dX9_askedCells_41 ⟨Nat.zero_le _, Nat.zero_le _⟩ (fun r1 S2 H locs h hG => ?_)
  have hG : GW D A s (w9 o q cy S2) H locs := hG
  exact b9_askedCells_b44 r1 S2 C h hG hl
def w9_askedCells (x1 : Int32) (x2 : Int32) (x3 : Int32) (S : MS) (Q : Int32 → MS → Prop) : Prop :=
  w9_lookedBox x1 S (fun r1 S2 => ((0 ≤ r1 → w9_isCell x1 x2 S2 (fun r4 => ((r4 = 0 → w9_askedCells_b39 S2 Q) ∧ (¬ r4 = 0 → w9_isCell x1 x3 S2 (fun r7 => ((r7 = 0 → w9_askedCells_b39 S2 Q) ∧ (¬ r7 = 0 → w9_askedCells_b44 (0 : Int32) S2 Q))))))) ∧ (¬ 0 ≤ r1 → w9_askedCells_b44 r1 S2 Q)))
set_option maxHeartbeats 4000000 in
set_option maxRecDepth 100000 in
theorem c9_askedCells (l : Launch) (D : va_G) (cy : Nat → ClassId)  (o : Nat) (q : Nat → Nat) (x1 : Int32) (x2 : Int32) (x3 : Int32) (S : MS) (Q : Int32 → MS → Prop) (h : w9_askedCells x1 x2 x3 S Q) : MetI l yX9_askedCells wsX9_askedCells ({ frames := 3, cells := 0, slots := 0, locals := 65 } : Room) D cy nestWs (w9 o q cy) [.ref o, .int x1, .int x2, .int x3] S Q := by
  refine MetI.mk RX9 cX9_askedCells 5 .int (by decide) rfl nestWs_ok rfl (Nat.le_of_ble_eq_true rfl) ?_
  intro p e s m below meth c A ls C hG hl
  have hl : lv_has ls 5 [(0, .ref o), (1, .int x1), (2, .int x2), (3, .int x3)] := hl
  have hx := C.1
  have hb := C.2.1
  unfold w9_askedCells at h
  refine lv_aload_n hx hb dX9_askedCells_0 rfl (lv_at hl 0 rfl) ?_
  refine lv_iload_n hx hb dX9_askedCells_1 rfl (lv_at hl 1 rfl) ?_
  refine callVI (As := [.int x1]) (rest := []) C hG (c9_lookedBox l D cy o q x1 S _ h) 1 gX9_askedCells_X9_lookedBox rfl (by decide +kernel) ⟨⟨Nat.le_of_ble_eq_true rfl, Nat.le_of_ble_eq_true rfl⟩, rfl, rfl⟩ rfl rfl (Foc.all C.2.2.2.2.2.2.2.2.1) rfl hl.1 rfl (Nat.le_of_ble_eq_true rfl) dX9_askedCells_2 ⟨Nat.zero_le _, Nat.zero_le _⟩ (fun r1 S2 H locs h hG => ?_)
  have hG : GW D A s (w9 o q cy S2) H locs := hG
  refine lv_istore (lv' := [(4, .int r1), (0, .ref o), (1, .int x1), (2, .int x2), (3, .int x3)]) hx hb dX9_askedCells_5 hl (by decide) rfl (fun ls hl => ?_)
  refine lv_iload hx hb dX9_askedCells_7 (lv_at hl 0 rfl) ?_
  refine lv_if_ge (tgt := 17) hx hb dX9_askedCells_9 (by decide) (fun c3 => ?_) (fun c3 => ?_)
  · replace h := h.1 c3
    refine lv_aload_n hx hb dX9_askedCells_17 rfl (lv_at hl 1 rfl) ?_
    refine lv_iload_n hx hb dX9_askedCells_18 rfl (lv_at hl 2 rfl) ?_
    refine lv_iload_n hx hb dX9_askedCells_19 rfl (lv_at hl 3 rfl) ?_
    refine callVI (As := [.int x1, .int x2]) (rest := []) C hG (c9_isCell l D cy o q x1 x2 S2 _ h) 2 gX9_askedCells_X9_isCell rfl (by decide +kernel) ⟨⟨Nat.le_of_ble_eq_true rfl, Nat.le_of_ble_eq_true rfl⟩, rfl, rfl⟩ rfl rfl (Foc.all C.2.2.2.2.2.2.2.2.1) rfl hl.1 rfl (Nat.le_of_ble_eq_true rfl) dX9_askedCells_20 ⟨Nat.zero_le _, Nat.zero_le _⟩ (fun r4 u5 H locs h hG => ?_)
    obtain ⟨eu5, h⟩ := h
    have eu5 : u5 = S2 := eu5
    subst u5
    have hG : GW D A s (w9 o q cy S2) H locs := hG
    refine lv_if_eq (tgt := 39) hx hb dX9_askedCells_23 (by decide) (fun c6 => ?_) (fun c6 => ?_)
    · replace h := h.1 c6
      exact b9_askedCells_b39 S2 C h hG (lv_sub hl [1] rfl)
    · replace h := h.2 c6
      refine lv_aload_n hx hb dX9_askedCells_26 rfl (lv_at hl 1 rfl) ?_
      refine lv_iload_n hx hb dX9_askedCells_27 rfl (lv_at hl 2 rfl) ?_
      refine lv_iload_n hx hb dX9_askedCells_28 rfl (lv_at hl 4 rfl) ?_
      refine callVI (As := [.int x1, .int x3]) (rest := []) C hG (c9_isCell l D cy o q x1 x3 S2 _ h) 2 gX9_askedCells_X9_isCell rfl (by decide +kernel) ⟨⟨Nat.le_of_ble_eq_true rfl, Nat.le_of_ble_eq_true rfl⟩, rfl, rfl⟩ rfl rfl (Foc.all C.2.2.2.2.2.2.2.2.1) rfl hl.1 rfl (Nat.le_of_ble_eq_true rfl) dX9_askedCells_29 ⟨Nat.zero_le _, Nat.zero_le _⟩ (fun r7 u8 H locs h hG => ?_)
      obtain ⟨eu8, h⟩ := h
      have eu8 : u8 = S2 := eu8
      subst u8
      have hG : GW D A s (w9 o q cy S2) H locs := hG
      refine lv_if_eq (tgt := 39) hx hb dX9_askedCells_32 (by decide) (fun c9 => ?_) (fun c9 => ?_)
      · replace h := h.1 c9
        exact b9_askedCells_b39 S2 C h hG (lv_sub hl [1] rfl)
      · replace h := h.2 c9
        refine lv_iconst (v := 0) hx hb dX9_askedCells_35 (by decide) ?_
        refine lv_goto (tgt := 44) hx hb dX9_askedCells_36 (by decide) ?_
        exact b9_askedCells_b44 (0 : Int32) S2 C h hG (lv_sub hl [1] rfl)
  · replace h := h.2 c3
    refine lv_iload hx hb dX9_askedCells_12 (lv_at hl 0 rfl) ?_
    refine lv_goto (tgt := 44) hx hb dX9_askedCells_14 (by decide) ?_
    exact b9_askedCells_b44 r1 S2 C h hG (lv_sub hl [1] rfl)
-- X9_way
def w9_way_b26 (t0 : Int32) (S : MS) (Q : Int32 → MS → Prop) : Prop :=
  Q t0 S
set_option maxHeartbeats 4000000 in
set_option maxRecDepth 100000 in
theorem b9_way_b26 {p : Program} {l : Launch} {e : Env} {s : State} {m : MethodId} {args : Array Value} {below : List Frame} {meth : Method} {c : Code} {D : va_G} {cy : Nat → ClassId} {A : Nat → Prop} {o : Nat} {q : Nat → Nat} (t0 : Int32) (S : MS) {Q : Int32 → MS → Prop} (C : Cx p s m args meth c cX9_way 5 (some .int) wsX9_way RX9 D cy nestWs A) (h : w9_way_b26 t0 S Q) {H : Heap} {locs : List Loc} (hG : GW D A s (w9 o q cy S) H locs) {ls : Array Slot} (hl : lv_has ls 5 [(0, .ref o)]) : W p l e ({ frames := 5, cells := 0, slots := 0, locals := 113 } : Room) s m args below meth c H locs 0 0 (MQ below (va_Qi Q (B1 D (w9 o q cy) A) A) args s 0 0 A) (F0 m 26 ls [.int t0]) := by
  have hx := C.1
  have hb := C.2.1
  unfold w9_way_b26 at h
  exact retI (w := (w9 o q cy)) (S := S) C hG h dX9_way_26
def w9_way (x1 : Int32) (x2 : Int32) (x3 : Int32) (S : MS) (Q : Int32 → MS → Prop) : Prop :=
  w9_askedCells x1 x2 x3 S (fun r1 S2 => ((0 ≤ r1 → w9_shortOf x1 x2 x3 S2 (fun r4 S5 => w9_way_b26 r4 S5 Q)) ∧ (¬ 0 ≤ r1 → w9_way_b26 r1 S2 Q)))
set_option maxHeartbeats 4000000 in
set_option maxRecDepth 100000 in
theorem c9_way (l : Launch) (D : va_G) (cy : Nat → ClassId)  (o : Nat) (q : Nat → Nat) (x1 : Int32) (x2 : Int32) (x3 : Int32) (S : MS) (Q : Int32 → MS → Prop) (h : w9_way x1 x2 x3 S Q) : MetI l yX9_way wsX9_way ({ frames := 5, cells := 0, slots := 0, locals := 113 } : Room) D cy nestWs (w9 o q cy) [.ref o, .int x1, .int x2, .int x3] S Q := by
  refine MetI.mk RX9 cX9_way 5 .int (by decide) rfl nestWs_ok rfl (Nat.le_of_ble_eq_true rfl) ?_
  intro p e s m below meth c A ls C hG hl
  have hl : lv_has ls 5 [(0, .ref o), (1, .int x1), (2, .int x2), (3, .int x3)] := hl
  have hx := C.1
  have hb := C.2.1
  unfold w9_way at h
  refine lv_aload_n hx hb dX9_way_0 rfl (lv_at hl 0 rfl) ?_
  refine lv_iload_n hx hb dX9_way_1 rfl (lv_at hl 1 rfl) ?_
  refine lv_iload_n hx hb dX9_way_2 rfl (lv_at hl 2 rfl) ?_
  refine lv_iload_n hx hb dX9_way_3 rfl (lv_at hl 3 rfl) ?_
  refine callVI (As := [.int x1, .int x2, .int x3]) (rest := []) C hG (c9_askedCells l D cy o q x1 x2 x3 S _ h) 3 gX9_way_X9_askedCells rfl (by decide +kernel) ⟨⟨Nat.le_of_ble_eq_true rfl, Nat.le_of_ble_eq_true rfl⟩, rfl, rfl⟩ rfl rfl (Foc.all C.2.2.2.2.2.2.2.2.1) rfl hl.1 rfl (Nat.le_of_ble_eq_true rfl) dX9_way_4 ⟨Nat.zero_le _, Nat.zero_le _⟩ (fun r1 S2 H locs h hG => ?_)
  have hG : GW D A s (w9 o q cy S2) H locs := hG
  refine lv_istore (lv' := [(4, .int r1), (0, .ref o), (1, .int x1), (2, .int x2), (3, .int x3)]) hx hb dX9_way_7 hl (by decide) rfl (fun ls hl => ?_)
  refine lv_iload hx hb dX9_way_9 (lv_at hl 0 rfl) ?_
  refine lv_if_ge (tgt := 19) hx hb dX9_way_11 (by decide) (fun c3 => ?_) (fun c3 => ?_)
  · replace h := h.1 c3
    refine lv_aload_n hx hb dX9_way_19 rfl (lv_at hl 1 rfl) ?_
    refine lv_iload_n hx hb dX9_way_20 rfl (lv_at hl 2 rfl) ?_
    refine lv_iload_n hx hb dX9_way_21 rfl (lv_at hl 3 rfl) ?_
    refine lv_iload_n hx hb dX9_way_22 rfl (lv_at hl 4 rfl) ?_
    refine callVI (As := [.int x1, .int x2, .int x3]) (rest := []) C hG (c9_shortOf l D cy o q x1 x2 x3 S2 _ h) 3 gX9_way_X9_shortOf rfl (by decide +kernel) ⟨⟨Nat.le_of_ble_eq_true rfl, Nat.le_of_ble_eq_true rfl⟩, rfl, rfl⟩ rfl rfl (Foc.all C.2.2.2.2.2.2.2.2.1) rfl hl.1 rfl (Nat.le_of_ble_eq_true rfl) dX9_way_23 ⟨Nat.zero_le _, Nat.zero_le _⟩ (fun r4 S5 H locs h hG => ?_)
    have hG : GW D A s (w9 o q cy S5) H locs := hG
    exact b9_way_b26 r4 S5 C h hG (lv_sub hl [1] rfl)
  · replace h := h.2 c3
    refine lv_iload hx hb dX9_way_14 (lv_at hl 0 rfl) ?_
    refine lv_goto (tgt := 26) hx hb dX9_way_16 (by decide) ?_
    exact b9_way_b26 r1 S2 C h hG (lv_sub hl [1] rfl)
