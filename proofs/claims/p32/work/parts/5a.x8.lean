-- X8_figure
theorem i8_figure_X8 : ∀ w ∈ wsX80, w ∈ wsX8_figure := fun w h => List.mem_cons_of_mem _ (inG_X8 w h)
theorem k8_figure_11 : Cond.fieldLink RX8 11 "PaperBodies" "figures" "[LPaperBodies$Figure;" ∈ wsX8_figure := (List.mem_cons_of_mem _ mw_317)
def w8_figure_b24 (Z : MS) (X : (Nat → MS)) (Q : Int32 → (Nat → MS) → Prop) : Prop :=
  Q (-1 : Int32) X
set_option maxHeartbeats 4000000 in
set_option maxRecDepth 100000 in
theorem b8_figure_b24 {p : Program} {l : Launch} {e : Env} {s : State} {m : MethodId} {args : Array Value} {below : List Frame} {meth : Method} {c : Code} {D : va_G} {cy : Nat → ClassId} {A : Nat → Prop} {o : Nat} {qp oa : Nat → Nat} {qa : Nat → Nat → Nat} (Z : MS) (X : (Nat → MS)) {Q : Int32 → (Nat → MS) → Prop} (C : Cx p s m args meth c cX8_figure 5 (some .int) wsX8_figure RX8 D cy nestWs A) (h : w8_figure_b24 Z X Q) {H : Heap} {locs : List Loc} (hG : GW D A s (wP o qp oa qa cy Z X) H locs) {ls : Array Slot} (hl : lv_has ls 5 [(0, .ref o)]) : W p l e ({ frames := 4, cells := 0, slots := 0, locals := 86 } : Room) s m args below meth c H locs 0 0 (MQ below (va_Qi (fun r z => z.1 = Z ∧ Q r z.2) (B1 D (fun z : MS × (Nat → MS) => wP o qp oa qa cy z.1 z.2) A) A) args s 0 0 A) (F0 m 24 ls []) := by
  have hx := C.1
  have hb := C.2.1
  unfold w8_figure_b24 at h
  refine lv_iconst (v := -1) hx hb dX8_figure_24 (by decide) ?_
  exact retI (w := (fun z : MS × (Nat → MS) => wP o qp oa qa cy z.1 z.2)) (S := (Z, X)) (Qp := (fun r z => z.1 = Z ∧ Q r z.2)) C hG ⟨rfl, h⟩ dX8_figure_25
def w8_figure (x1 : Int32) (x2 : Int64) (Z : MS) (X : (Nat → MS)) (Q : Int32 → (Nat → MS) → Prop) : Prop :=
  w13_bitCount_95d88 x2 (fun r1 => w8_isFigure x1 (fun r2 => ((r2 = 0 → w8_figure_b24 Z X Q) ∧ (¬ r2 = 0 → w8_within r1 (1 : Int32) (24 : Int32) (fun r4 => ((¬ r4 = 0 → w0_hangsTogether x2 (fun r6 => ((¬ r6 = 0 → vp_in x1 6 ∧ (0 ≤ (x1.toNatClampNeg) ∧ (x1.toNatClampNeg) < 6) ∧ w2_putPlain x2 (X (x1.toNatClampNeg)) (fun S10 => ∀ X11 : Nat → MS, X11 = (va_up X (x1.toNatClampNeg) S10) → Q r1 X11)) ∧ (r6 = 0 → Q (-4 : Int32) X)))) ∧ (r4 = 0 → w8_figure_b24 Z X Q)))))))
set_option maxHeartbeats 4000000 in
set_option maxRecDepth 100000 in
theorem c8_figure (l : Launch) (D : va_G) (cy : Nat → ClassId)  (o : Nat) (qp oa : Nat → Nat) (qa : Nat → Nat → Nat) (x1 : Int32) (x2 : Int64) (Z : MS) (X : (Nat → MS)) (Q : Int32 → (Nat → MS) → Prop) (h : w8_figure x1 x2 Z X Q) : MetI l yX8_figure wsX8_figure ({ frames := 4, cells := 0, slots := 0, locals := 86 } : Room) D cy nestWs (fun z : MS × (Nat → MS) => wP o qp oa qa cy z.1 z.2) [.ref o, .int x1, .long x2] (Z, X) (fun r z => z.1 = Z ∧ Q r z.2) := by
  refine MetI.mk RX8 cX8_figure 5 .int (by decide) rfl nestWs_ok rfl (Nat.le_of_ble_eq_true rfl) ?_
  intro p e s m below meth c A ls C hG hl
  have hl : lv_has ls 5 [(0, .ref o), (1, .int x1), (2, .long x2)] := hl
  have hx := C.1
  have hb := C.2.1
  unfold w8_figure at h
  refine lv_lload_n hx hb dX8_figure_0 rfl (lv_at hl 2 rfl) ?_
  refine callSI (As := [.long x2]) (rest := []) C hG (c13_bitCount_95d88 l D cy x2 _ h) 1 gX8_figure_J13_bitCount_95d88 rfl (by decide +kernel) ⟨⟨Nat.le_of_ble_eq_true rfl, Nat.le_of_ble_eq_true rfl⟩, rfl, rfl⟩ (Foc.none C.2.2.2.2.2.2.2.2.1) rfl hl.1 rfl (Nat.le_of_ble_eq_true rfl) dX8_figure_1 ⟨Nat.zero_le _, Nat.zero_le _⟩ (fun r1 z H locs h hG => ?_)
  refine lv_istore (lv' := [(4, .int r1), (0, .ref o), (1, .int x1), (2, .long x2)]) hx hb dX8_figure_4 hl (by decide) rfl (fun ls hl => ?_)
  refine lv_iload_n hx hb dX8_figure_6 rfl (lv_at hl 2 rfl) ?_
  refine callSI (As := [.int x1]) (rest := []) C hG (c8_isFigure l D cy x1 _ h) 1 gX8_figure_X8_isFigure rfl (by decide +kernel) ⟨⟨Nat.le_of_ble_eq_true rfl, Nat.le_of_ble_eq_true rfl⟩, rfl, rfl⟩ (Foc.none C.2.2.2.2.2.2.2.2.1) rfl hl.1 rfl (Nat.le_of_ble_eq_true rfl) dX8_figure_7 ⟨Nat.zero_le _, Nat.zero_le _⟩ (fun r2 z H locs h hG => ?_)
  refine lv_if_eq (tgt := 24) hx hb dX8_figure_10 (by decide) (fun c3 => ?_) (fun c3 => ?_)
  · replace h := h.1 c3
    exact b8_figure_b24 Z X C h hG (lv_sub hl [1] rfl)
  · replace h := h.2 c3
    refine lv_iload hx hb dX8_figure_13 (lv_at hl 0 rfl) ?_
    refine lv_iconst (v := 1) hx hb dX8_figure_15 (by decide) ?_
    refine lv_bipush (v := 24) hx hb dX8_figure_16 (by decide) ?_
    refine callSI (As := [.int r1, .int (1 : Int32), .int (24 : Int32)]) (rest := []) C hG (c8_within l D cy r1 (1 : Int32) (24 : Int32) _ h) 3 gX8_figure_X8_within rfl (by decide +kernel) ⟨⟨Nat.le_of_ble_eq_true rfl, Nat.le_of_ble_eq_true rfl⟩, rfl, rfl⟩ (Foc.none C.2.2.2.2.2.2.2.2.1) rfl hl.1 rfl (Nat.le_of_ble_eq_true rfl) dX8_figure_18 ⟨Nat.zero_le _, Nat.zero_le _⟩ (fun r4 z H locs h hG => ?_)
    refine lv_if_ne (tgt := 26) hx hb dX8_figure_21 (by decide) (fun c5 => ?_) (fun c5 => ?_)
    · replace h := h.1 c5
      refine lv_lload_n hx hb dX8_figure_26 rfl (lv_at hl 3 rfl) ?_
      refine callSI (As := [.long x2]) (rest := []) C hG (c0_hangsTogether l D cy x2 _ h) 1 gX8_figure_X0_hangsTogether rfl (by decide +kernel) ⟨⟨Nat.le_of_ble_eq_true rfl, Nat.le_of_ble_eq_true rfl⟩, rfl, rfl⟩ (Foc.none C.2.2.2.2.2.2.2.2.1) rfl hl.1 rfl (Nat.le_of_ble_eq_true rfl) dX8_figure_27 ⟨Nat.zero_le _, Nat.zero_le _⟩ (fun r6 z H locs h hG => ?_)
      refine lv_if_ne (tgt := 36) hx hb dX8_figure_30 (by decide) (fun c7 => ?_) (fun c7 => ?_)
      · replace h := h.1 c7
        refine lv_aload_n hx hb dX8_figure_36 rfl (lv_at hl 1 rfl) ?_
        refine gx_get C i8_figure_X8 hG 0 rfl rfl 0 (by decide) k8_figure_11 rfl dX8_figure_37 ?_
        refine lv_iload_n hx hb dX8_figure_40 rfl (lv_at hl 2 rfl) ?_
        obtain ⟨hv8, h⟩ := h
        refine gx_aald (C' := "PaperBodies$Figure") C hG 1 3 rfl rfl hv8 dX8_figure_41 ?_
        refine lv_lload_n hx hb dX8_figure_42 rfl (lv_at hl 3 rfl) ?_
        obtain ⟨hr9, h⟩ := h
        refine callVV (As := [.long x2]) (rest := []) C hG (c2_putPlain l D cy (oa (x1.toNatClampNeg)) (qa (x1.toNatClampNeg)) x2 (X (x1.toNatClampNeg)) _ h) 1 gX8_figure_X2_putPlain rfl (by decide +kernel) ⟨⟨Nat.le_of_ble_eq_true rfl, Nat.le_of_ble_eq_true rfl⟩, rfl, rfl⟩ rfl rfl (fo_2 C.2.2.2.2.2.2.2.2.1 (k0 := (x1.toNatClampNeg)) hr9) rfl hl.1 rfl (Nat.le_of_ble_eq_true rfl) dX8_figure_43 ⟨Nat.zero_le _, Nat.zero_le _⟩ (fun  S10 H locs h hG => ?_)
        obtain ⟨X11, eX11⟩ : ∃ z : Nat → MS, z = (va_up X (x1.toNatClampNeg) S10) := ⟨_, rfl⟩
        have hG : GW D A s (wP o qp oa qa cy Z X11) H locs := by rw [eX11]; exact hG
        replace h := h X11 eX11
        refine lv_iload hx hb dX8_figure_46 (lv_at hl 0 rfl) ?_
        exact retI (w := (fun z : MS × (Nat → MS) => wP o qp oa qa cy z.1 z.2)) (S := (Z, X11)) (Qp := (fun r z => z.1 = Z ∧ Q r z.2)) C hG ⟨rfl, h⟩ dX8_figure_48
      · replace h := h.2 c7
        refine lv_bipush (v := -4) hx hb dX8_figure_33 (by decide) ?_
        exact retI (w := (fun z : MS × (Nat → MS) => wP o qp oa qa cy z.1 z.2)) (S := (Z, X)) (Qp := (fun r z => z.1 = Z ∧ Q r z.2)) C hG ⟨rfl, h⟩ dX8_figure_35
    · replace h := h.2 c5
      exact b8_figure_b24 Z X C h hG (lv_sub hl [1] rfl)
-- X8_refuse
theorem i8_refuse_X8 : ∀ w ∈ wsX80, w ∈ wsX8_refuse := fun w h => List.mem_cons_of_mem _ (inG_X8 w h)
theorem k8_refuse_63 : Cond.fieldLink RX8 63 "PaperBodies" "timesFound" "[I" ∈ wsX8_refuse := (List.mem_cons_of_mem _ mw_337)
theorem k8_refuse_300 : Cond.fieldLink RX8 300 "PaperBodies" "latestFinding" "I" ∈ wsX8_refuse := (List.mem_cons_of_mem _ mw_363)
def w8_refuse_b24 (Z : MS) (X : (Nat → MS)) (Q : Int32 → MS → Prop) : Prop :=
  Q (-3 : Int32) Z
set_option maxHeartbeats 4000000 in
set_option maxRecDepth 100000 in
theorem b8_refuse_b24 {p : Program} {l : Launch} {e : Env} {s : State} {m : MethodId} {args : Array Value} {below : List Frame} {meth : Method} {c : Code} {D : va_G} {cy : Nat → ClassId} {A : Nat → Prop} {o : Nat} {qp oa : Nat → Nat} {qa : Nat → Nat → Nat} (Z : MS) (X : (Nat → MS)) {Q : Int32 → MS → Prop} (C : Cx p s m args meth c cX8_refuse 2 (some .int) wsX8_refuse RX8 D cy nestWs A) (h : w8_refuse_b24 Z X Q) {H : Heap} {locs : List Loc} (hG : GW D A s (wP o qp oa qa cy Z X) H locs) {ls : Array Slot} (hl : lv_has ls 2 [(0, .ref o)]) : W p l e ({ frames := 1, cells := 0, slots := 0, locals := 22 } : Room) s m args below meth c H locs 0 0 (MQ below (va_Qi (fun r z => z.2 = X ∧ Q r z.1) (B1 D (fun z : MS × (Nat → MS) => wP o qp oa qa cy z.1 z.2) A) A) args s 0 0 A) (F0 m 24 ls []) := by
  have hx := C.1
  have hb := C.2.1
  unfold w8_refuse_b24 at h
  refine lv_bipush (v := -3) hx hb dX8_refuse_24 (by decide) ?_
  exact retI (w := (fun z : MS × (Nat → MS) => wP o qp oa qa cy z.1 z.2)) (S := (Z, X)) (Qp := (fun r z => z.2 = X ∧ Q r z.1)) C hG ⟨rfl, h⟩ dX8_refuse_26
def w8_refuse (x1 : Int32) (Z : MS) (X : (Nat → MS)) (Q : Int32 → MS → Prop) : Prop :=
  w8_within x1 (1 : Int32) (5 : Int32) (fun r1 => ((r1 = 0 → w8_refuse_b24 Z X Q) ∧ (¬ r1 = 0 → ∀ S3 : MS, S3 = sI Z 10 x1 → vp_in x1 6 ∧ ∀ S5 : MS, S5 = sA S3 9 x1 ((rA S3 9 x1) + (1 : Int32)) → w8_refuse_b24 S5 X Q)))
set_option maxHeartbeats 4000000 in
set_option maxRecDepth 100000 in
theorem c8_refuse (l : Launch) (D : va_G) (cy : Nat → ClassId)  (o : Nat) (qp oa : Nat → Nat) (qa : Nat → Nat → Nat) (x1 : Int32) (Z : MS) (X : (Nat → MS)) (Q : Int32 → MS → Prop) (h : w8_refuse x1 Z X Q) : MetI l yX8_refuse wsX8_refuse ({ frames := 1, cells := 0, slots := 0, locals := 22 } : Room) D cy nestWs (fun z : MS × (Nat → MS) => wP o qp oa qa cy z.1 z.2) [.ref o, .int x1] (Z, X) (fun r z => z.2 = X ∧ Q r z.1) := by
  refine MetI.mk RX8 cX8_refuse 2 .int (by decide) rfl nestWs_ok rfl (Nat.le_of_ble_eq_true rfl) ?_
  intro p e s m below meth c A ls C hG hl
  have hl : lv_has ls 2 [(0, .ref o), (1, .int x1)] := hl
  have hx := C.1
  have hb := C.2.1
  unfold w8_refuse at h
  refine lv_iload_n hx hb dX8_refuse_0 rfl (lv_at hl 1 rfl) ?_
  refine lv_iconst (v := 1) hx hb dX8_refuse_1 (by decide) ?_
  refine lv_iconst (v := 5) hx hb dX8_refuse_2 (by decide) ?_
  refine callSI (As := [.int x1, .int (1 : Int32), .int (5 : Int32)]) (rest := []) C hG (c8_within l D cy x1 (1 : Int32) (5 : Int32) _ h) 3 gX8_refuse_X8_within rfl (by decide +kernel) ⟨⟨Nat.le_of_ble_eq_true rfl, Nat.le_of_ble_eq_true rfl⟩, rfl, rfl⟩ (Foc.none C.2.2.2.2.2.2.2.2.1) rfl hl.1 rfl (Nat.le_of_ble_eq_true rfl) dX8_refuse_3 ⟨Nat.zero_le _, Nat.zero_le _⟩ (fun r1 z H locs h hG => ?_)
  refine lv_if_eq (tgt := 24) hx hb dX8_refuse_6 (by decide) (fun c2 => ?_) (fun c2 => ?_)
  · replace h := h.1 c2
    exact b8_refuse_b24 Z X C h hG (lv_sub hl [0] rfl)
  · replace h := h.2 c2
    refine lv_aload_n hx hb dX8_refuse_9 rfl (lv_at hl 0 rfl) ?_
    refine lv_iload_n hx hb dX8_refuse_10 rfl (lv_at hl 1 rfl) ?_
    refine gx_put (ty := .int) (ws' := wP o qp oa qa cy (sI Z 10 x1) X) C i8_refuse_X8 tyX8 tyX8_ok nmX8 hG 0 rfl rfl 10 (by decide) k8_refuse_300 rfl (by decide +kernel) rfl rfl (Nat.le_of_ble_eq_true rfl) dX8_refuse_11 rfl (fun H locs hG => ?_)
    obtain ⟨S3, eS3⟩ : ∃ z : MS, z = sI Z 10 x1 := ⟨_, rfl⟩
    rw [← eS3] at hG
    replace h := h S3 eS3
    refine lv_aload_n hx hb dX8_refuse_14 rfl (lv_at hl 0 rfl) ?_
    refine gx_get C i8_refuse_X8 hG 0 rfl rfl 9 (by decide) k8_refuse_63 rfl dX8_refuse_15 ?_
    refine lv_iload_n hx hb dX8_refuse_18 rfl (lv_at hl 1 rfl) ?_
    refine lv_dup2_11 hx hb dX8_refuse_19 rfl rfl ?_
    obtain ⟨hv4, h⟩ := h
    refine gx_ald C hG 4 rfl hv4 dX8_refuse_20 ?_
    refine lv_iconst (v := 1) hx hb dX8_refuse_21 (by decide) ?_
    refine lv_iadd hx hb dX8_refuse_22 ?_
    refine gx_ast (ws' := wP o qp oa qa cy (sA S3 9 x1 ((rA S3 9 x1) + (1 : Int32))) X) C hG 4 rfl hv4 dX8_refuse_23 rfl (fun H locs hG => ?_)
    obtain ⟨S5, eS5⟩ : ∃ z : MS, z = sA S3 9 x1 ((rA S3 9 x1) + (1 : Int32)) := ⟨_, rfl⟩
    rw [← eS5] at hG
    replace h := h S5 eS5
    exact b8_refuse_b24 S5 X C h hG (lv_sub hl [0] rfl)
-- X8_drop
theorem i8_drop_X8 : ∀ w ∈ wsX80, w ∈ wsX8_drop := fun w h => List.mem_cons_of_mem _ (inG_X8 w h)
theorem k8_drop_11 : Cond.fieldLink RX8 11 "PaperBodies" "figures" "[LPaperBodies$Figure;" ∈ wsX8_drop := (List.mem_cons_of_mem _ mw_317)
def w8_drop (x1 : Int32) (Z : MS) (X : (Nat → MS)) (Q : Int32 → MS → (Nat → MS) → Prop) : Prop :=
  w8_isFigure x1 (fun r1 => ((¬ r1 = 0 → vp_in x1 6 ∧ (0 ≤ (x1.toNatClampNeg) ∧ (x1.toNatClampNeg) < 6) ∧ w2_isThere (X (x1.toNatClampNeg)) (fun r4 => ((¬ r4 = 0 → w2_takeAway (X (x1.toNatClampNeg)) (fun S8 => ∀ X9 : Nat → MS, X9 = (va_up X (x1.toNatClampNeg) S8) → Q (1 : Int32) Z X9)) ∧ (r4 = 0 → w8_refuse (1 : Int32) Z X (fun r10 S11 => Q r10 S11 X))))) ∧ (r1 = 0 → Q (-1 : Int32) Z X)))
set_option maxHeartbeats 4000000 in
set_option maxRecDepth 100000 in
theorem c8_drop (l : Launch) (D : va_G) (cy : Nat → ClassId)  (o : Nat) (qp oa : Nat → Nat) (qa : Nat → Nat → Nat) (x1 : Int32) (Z : MS) (X : (Nat → MS)) (Q : Int32 → MS → (Nat → MS) → Prop) (h : w8_drop x1 Z X Q) : MetI l yX8_drop wsX8_drop ({ frames := 2, cells := 0, slots := 0, locals := 43 } : Room) D cy nestWs (fun z : MS × (Nat → MS) => wP o qp oa qa cy z.1 z.2) [.ref o, .int x1] (Z, X) (fun r z => Q r z.1 z.2) := by
  refine MetI.mk RX8 cX8_drop 2 .int (by decide) rfl nestWs_ok rfl (Nat.le_of_ble_eq_true rfl) ?_
  intro p e s m below meth c A ls C hG hl
  have hl : lv_has ls 2 [(0, .ref o), (1, .int x1)] := hl
  have hx := C.1
  have hb := C.2.1
  unfold w8_drop at h
  refine lv_iload_n hx hb dX8_drop_0 rfl (lv_at hl 1 rfl) ?_
  refine callSI (As := [.int x1]) (rest := []) C hG (c8_isFigure l D cy x1 _ h) 1 gX8_drop_X8_isFigure rfl (by decide +kernel) ⟨⟨Nat.le_of_ble_eq_true rfl, Nat.le_of_ble_eq_true rfl⟩, rfl, rfl⟩ (Foc.none C.2.2.2.2.2.2.2.2.1) rfl hl.1 rfl (Nat.le_of_ble_eq_true rfl) dX8_drop_1 ⟨Nat.zero_le _, Nat.zero_le _⟩ (fun r1 z H locs h hG => ?_)
  refine lv_if_ne (tgt := 9) hx hb dX8_drop_4 (by decide) (fun c2 => ?_) (fun c2 => ?_)
  · replace h := h.1 c2
    refine lv_aload_n hx hb dX8_drop_9 rfl (lv_at hl 0 rfl) ?_
    refine gx_get C i8_drop_X8 hG 0 rfl rfl 0 (by decide) k8_drop_11 rfl dX8_drop_10 ?_
    refine lv_iload_n hx hb dX8_drop_13 rfl (lv_at hl 1 rfl) ?_
    obtain ⟨hv3, h⟩ := h
    refine gx_aald (C' := "PaperBodies$Figure") C hG 1 3 rfl rfl hv3 dX8_drop_14 ?_
    obtain ⟨hr5, h⟩ := h
    refine callVI (As := []) (rest := []) C hG (c2_isThere l D cy (oa (x1.toNatClampNeg)) (qa (x1.toNatClampNeg)) (X (x1.toNatClampNeg)) _ h) 0 gX8_drop_X2_isThere rfl (by decide +kernel) ⟨⟨Nat.le_of_ble_eq_true rfl, Nat.le_of_ble_eq_true rfl⟩, rfl, rfl⟩ rfl rfl (fo_2 C.2.2.2.2.2.2.2.2.1 (k0 := (x1.toNatClampNeg)) hr5) rfl hl.1 rfl (Nat.le_of_ble_eq_true rfl) dX8_drop_15 ⟨Nat.zero_le _, Nat.zero_le _⟩ (fun r4 u6 H locs h hG => ?_)
    obtain ⟨eu6, h⟩ := h
    have eu6 : u6 = (X (x1.toNatClampNeg)) := eu6
    subst u6
    have hG : GW D A s (wP o qp oa qa cy Z X) H locs := by
      have e9 : (va_up X (x1.toNatClampNeg) (X (x1.toNatClampNeg))) = X := by simp only [up_same]
      have hG : GW D A s (wP o qp oa qa cy Z (va_up X (x1.toNatClampNeg) (X (x1.toNatClampNeg)))) H locs := hG
      rw [e9] at hG
      exact hG
    refine lv_if_ne (tgt := 27) hx hb dX8_drop_18 (by decide) (fun c7 => ?_) (fun c7 => ?_)
    · replace h := h.1 c7
      refine lv_aload_n hx hb dX8_drop_27 rfl (lv_at hl 0 rfl) ?_
      refine gx_get C i8_drop_X8 hG 0 rfl rfl 0 (by decide) k8_drop_11 rfl dX8_drop_28 ?_
      refine lv_iload_n hx hb dX8_drop_31 rfl (lv_at hl 1 rfl) ?_
      refine gx_aald (C' := "PaperBodies$Figure") C hG 1 3 rfl rfl hv3 dX8_drop_32 ?_
      refine callVV (As := []) (rest := []) C hG (c2_takeAway l D cy (oa (x1.toNatClampNeg)) (qa (x1.toNatClampNeg)) (X (x1.toNatClampNeg)) _ h) 0 gX8_drop_X2_takeAway rfl (by decide +kernel) ⟨⟨Nat.le_of_ble_eq_true rfl, Nat.le_of_ble_eq_true rfl⟩, rfl, rfl⟩ rfl rfl (fo_2 C.2.2.2.2.2.2.2.2.1 (k0 := (x1.toNatClampNeg)) hr5) rfl hl.1 rfl (Nat.le_of_ble_eq_true rfl) dX8_drop_33 ⟨Nat.zero_le _, Nat.zero_le _⟩ (fun  S8 H locs h hG => ?_)
      obtain ⟨X9, eX9⟩ : ∃ z : Nat → MS, z = (va_up X (x1.toNatClampNeg) S8) := ⟨_, rfl⟩
      have hG : GW D A s (wP o qp oa qa cy Z X9) H locs := by rw [eX9]; exact hG
      replace h := h X9 eX9
      refine lv_iconst (v := 1) hx hb dX8_drop_36 (by decide) ?_
      exact retI (w := (fun z : MS × (Nat → MS) => wP o qp oa qa cy z.1 z.2)) (S := (Z, X9)) (Qp := (fun r z => Q r z.1 z.2)) C hG h dX8_drop_37
    · replace h := h.2 c7
      refine lv_aload_n hx hb dX8_drop_21 rfl (lv_at hl 0 rfl) ?_
      refine lv_iconst (v := 1) hx hb dX8_drop_22 (by decide) ?_
      refine callVI (As := [.int (1 : Int32)]) (rest := []) C hG (c8_refuse l D cy o qp oa qa (1 : Int32) Z X _ h) 1 gX8_drop_X8_refuse rfl (by decide +kernel) ⟨⟨Nat.le_of_ble_eq_true rfl, Nat.le_of_ble_eq_true rfl⟩, rfl, rfl⟩ rfl rfl (Foc.all (w' := (fun z : MS × (Nat → MS) => wP o qp oa qa cy z.1 z.2)) (S' := (Z, X)) C.2.2.2.2.2.2.2.2.1) rfl hl.1 rfl (Nat.le_of_ble_eq_true rfl) dX8_drop_23 ⟨Nat.zero_le _, Nat.zero_le _⟩ (fun r10 z H locs h hG => ?_)
      obtain ⟨S11, u12⟩ := z
      obtain ⟨eu12, h⟩ := h
      have eu12 : u12 = X := eu12
      replace h := h
      subst u12
      have hG : GW D A s (wP o qp oa qa cy S11 X) H locs := hG
      exact retI (w := (fun z : MS × (Nat → MS) => wP o qp oa qa cy z.1 z.2)) (S := (S11, X)) (Qp := (fun r z => Q r z.1 z.2)) C hG h dX8_drop_26
  · replace h := h.2 c2
    refine lv_iconst (v := -1) hx hb dX8_drop_7 (by decide) ?_
    exact retI (w := (fun z : MS × (Nat → MS) => wP o qp oa qa cy z.1 z.2)) (S := (Z, X)) (Qp := (fun r z => Q r z.1 z.2)) C hG h dX8_drop_8
-- X8_box
theorem i8_box_X8 : ∀ w ∈ wsX80, w ∈ wsX8_box := fun w h => List.mem_cons_of_mem _ (inG_X8 w h)
theorem i8_box_X1 : ∀ w ∈ wsX10, w ∈ wsX8_box := fun w h => List.mem_cons_of_mem _ (inG_X1 w h)
theorem k8_box_17 : Cond.fieldLink RX8 17 "PaperBodies" "boxes" "[LPaperBodies$Box;" ∈ wsX8_box := (List.mem_cons_of_mem _ mw_319)
def w8_box_b29 (Z : MS) (X : (Nat → MS)) (Q : Int32 → (Nat → MS) → Prop) : Prop :=
  Q (-1 : Int32) X
set_option maxHeartbeats 4000000 in
set_option maxRecDepth 100000 in
theorem b8_box_b29 {p : Program} {l : Launch} {e : Env} {s : State} {m : MethodId} {args : Array Value} {below : List Frame} {meth : Method} {c : Code} {D : va_G} {cy : Nat → ClassId} {A : Nat → Prop} {o : Nat} {qp oa : Nat → Nat} {qa : Nat → Nat → Nat} (Z : MS) (X : (Nat → MS)) {Q : Int32 → (Nat → MS) → Prop} (C : Cx p s m args meth c cX8_box 5 (some .int) wsX8_box RX8 D cy nestWs A) (h : w8_box_b29 Z X Q) {H : Heap} {locs : List Loc} (hG : GW D A s (wP o qp oa qa cy Z X) H locs) {ls : Array Slot} (hl : lv_has ls 5 [(0, .ref o)]) : W p l e ({ frames := 5, cells := 0, slots := 0, locals := 115 } : Room) s m args below meth c H locs 0 0 (MQ below (va_Qi (fun r z => z.1 = Z ∧ Q r z.2) (B1 D (fun z : MS × (Nat → MS) => wP o qp oa qa cy z.1 z.2) A) A) args s 0 0 A) (F0 m 29 ls []) := by
  have hx := C.1
  have hb := C.2.1
  unfold w8_box_b29 at h
  refine lv_iconst (v := -1) hx hb dX8_box_29 (by decide) ?_
  exact retI (w := (fun z : MS × (Nat → MS) => wP o qp oa qa cy z.1 z.2)) (S := (Z, X)) (Qp := (fun r z => z.1 = Z ∧ Q r z.2)) C hG ⟨rfl, h⟩ dX8_box_30
def w8_box (x1 : Int32) (x2 : Int32) (x3 : Int32) (x4 : Int32) (Z : MS) (X : (Nat → MS)) (Q : Int32 → (Nat → MS) → Prop) : Prop :=
  w8_isBox x1 (fun r1 => ((r1 = 0 → w8_box_b29 Z X Q) ∧ (¬ r1 = 0 → w8_isLength x2 (fun r3 => ((r3 = 0 → w8_box_b29 Z X Q) ∧ (¬ r3 = 0 → w8_isLength x3 (fun r5 => ((r5 = 0 → w8_box_b29 Z X Q) ∧ (¬ r5 = 0 → w8_isLength x4 (fun r7 => ((¬ r7 = 0 → ((((2 : Int32) * (((x2 * x3) + (x3 * x4)) + (x4 * x2))) ≤ (24 : Int32) → vp_in x1 4 ∧ (6 ≤ (6 + x1.toNatClampNeg) ∧ (6 + x1.toNatClampNeg) < 10) ∧ w1_build x2 x3 x4 (X (6 + x1.toNatClampNeg)) (fun S12 => ∀ X13 : Nat → MS, X13 = (va_up X (6 + x1.toNatClampNeg) S12) → Q (fI (X13 (6 + x1.toNatClampNeg)) 6) X13)) ∧ (¬ ((2 : Int32) * (((x2 * x3) + (x3 * x4)) + (x4 * x2))) ≤ (24 : Int32) → Q (-1 : Int32) X))) ∧ (r7 = 0 → w8_box_b29 Z X Q))))))))))))
set_option maxHeartbeats 4000000 in
set_option maxRecDepth 100000 in
theorem c8_box (l : Launch) (D : va_G) (cy : Nat → ClassId)  (o : Nat) (qp oa : Nat → Nat) (qa : Nat → Nat → Nat) (x1 : Int32) (x2 : Int32) (x3 : Int32) (x4 : Int32) (Z : MS) (X : (Nat → MS)) (Q : Int32 → (Nat → MS) → Prop) (h : w8_box x1 x2 x3 x4 Z X Q) : MetI l yX8_box wsX8_box ({ frames := 5, cells := 0, slots := 0, locals := 115 } : Room) D cy nestWs (fun z : MS × (Nat → MS) => wP o qp oa qa cy z.1 z.2) [.ref o, .int x1, .int x2, .int x3, .int x4] (Z, X) (fun r z => z.1 = Z ∧ Q r z.2) := by
  refine MetI.mk RX8 cX8_box 5 .int (by decide) rfl nestWs_ok rfl (Nat.le_of_ble_eq_true rfl) ?_
  intro p e s m below meth c A ls C hG hl
  have hl : lv_has ls 5 [(0, .ref o), (1, .int x1), (2, .int x2), (3, .int x3), (4, .int x4)] := hl
  have hx := C.1
  have hb := C.2.1
  unfold w8_box at h
  refine lv_iload_n hx hb dX8_box_0 rfl (lv_at hl 1 rfl) ?_
  refine callSI (As := [.int x1]) (rest := []) C hG (c8_isBox l D cy x1 _ h) 1 gX8_box_X8_isBox rfl (by decide +kernel) ⟨⟨Nat.le_of_ble_eq_true rfl, Nat.le_of_ble_eq_true rfl⟩, rfl, rfl⟩ (Foc.none C.2.2.2.2.2.2.2.2.1) rfl hl.1 rfl (Nat.le_of_ble_eq_true rfl) dX8_box_1 ⟨Nat.zero_le _, Nat.zero_le _⟩ (fun r1 z H locs h hG => ?_)
  refine lv_if_eq (tgt := 29) hx hb dX8_box_4 (by decide) (fun c2 => ?_) (fun c2 => ?_)
  · replace h := h.1 c2
    exact b8_box_b29 Z X C h hG (lv_sub hl [0] rfl)
  · replace h := h.2 c2
    refine lv_iload_n hx hb dX8_box_7 rfl (lv_at hl 2 rfl) ?_
    refine callSI (As := [.int x2]) (rest := []) C hG (c8_isLength l D cy x2 _ h) 1 gX8_box_X8_isLength rfl (by decide +kernel) ⟨⟨Nat.le_of_ble_eq_true rfl, Nat.le_of_ble_eq_true rfl⟩, rfl, rfl⟩ (Foc.none C.2.2.2.2.2.2.2.2.1) rfl hl.1 rfl (Nat.le_of_ble_eq_true rfl) dX8_box_8 ⟨Nat.zero_le _, Nat.zero_le _⟩ (fun r3 z H locs h hG => ?_)
    refine lv_if_eq (tgt := 29) hx hb dX8_box_11 (by decide) (fun c4 => ?_) (fun c4 => ?_)
    · replace h := h.1 c4
      exact b8_box_b29 Z X C h hG (lv_sub hl [0] rfl)
    · replace h := h.2 c4
      refine lv_iload_n hx hb dX8_box_14 rfl (lv_at hl 3 rfl) ?_
      refine callSI (As := [.int x3]) (rest := []) C hG (c8_isLength l D cy x3 _ h) 1 gX8_box_X8_isLength rfl (by decide +kernel) ⟨⟨Nat.le_of_ble_eq_true rfl, Nat.le_of_ble_eq_true rfl⟩, rfl, rfl⟩ (Foc.none C.2.2.2.2.2.2.2.2.1) rfl hl.1 rfl (Nat.le_of_ble_eq_true rfl) dX8_box_15 ⟨Nat.zero_le _, Nat.zero_le _⟩ (fun r5 z H locs h hG => ?_)
      refine lv_if_eq (tgt := 29) hx hb dX8_box_18 (by decide) (fun c6 => ?_) (fun c6 => ?_)
      · replace h := h.1 c6
        exact b8_box_b29 Z X C h hG (lv_sub hl [0] rfl)
      · replace h := h.2 c6
        refine lv_iload hx hb dX8_box_21 (lv_at hl 4 rfl) ?_
        refine callSI (As := [.int x4]) (rest := []) C hG (c8_isLength l D cy x4 _ h) 1 gX8_box_X8_isLength rfl (by decide +kernel) ⟨⟨Nat.le_of_ble_eq_true rfl, Nat.le_of_ble_eq_true rfl⟩, rfl, rfl⟩ (Foc.none C.2.2.2.2.2.2.2.2.1) rfl hl.1 rfl (Nat.le_of_ble_eq_true rfl) dX8_box_23 ⟨Nat.zero_le _, Nat.zero_le _⟩ (fun r7 z H locs h hG => ?_)
        refine lv_if_ne (tgt := 31) hx hb dX8_box_26 (by decide) (fun c8 => ?_) (fun c8 => ?_)
        · replace h := h.1 c8
          refine lv_iconst (v := 2) hx hb dX8_box_31 (by decide) ?_
          refine lv_iload_n hx hb dX8_box_32 rfl (lv_at hl 2 rfl) ?_
          refine lv_iload_n hx hb dX8_box_33 rfl (lv_at hl 3 rfl) ?_
          refine lv_imul hx hb dX8_box_34 ?_
          refine lv_iload_n hx hb dX8_box_35 rfl (lv_at hl 3 rfl) ?_
          refine lv_iload hx hb dX8_box_36 (lv_at hl 4 rfl) ?_
          refine lv_imul hx hb dX8_box_38 ?_
          refine lv_iadd hx hb dX8_box_39 ?_
          refine lv_iload hx hb dX8_box_40 (lv_at hl 4 rfl) ?_
          refine lv_iload_n hx hb dX8_box_42 rfl (lv_at hl 2 rfl) ?_
          refine lv_imul hx hb dX8_box_43 ?_
          refine lv_iadd hx hb dX8_box_44 ?_
          refine lv_imul hx hb dX8_box_45 ?_
          refine lv_bipush (v := 24) hx hb dX8_box_46 (by decide) ?_
          refine lv_icmp_le (tgt := 53) hx hb dX8_box_48 (by decide) (fun c9 => ?_) (fun c9 => ?_)
          · replace h := h.1 c9
            refine lv_aload_n hx hb dX8_box_53 rfl (lv_at hl 0 rfl) ?_
            refine gx_get C i8_box_X8 hG 0 rfl rfl 1 (by decide) k8_box_17 rfl dX8_box_54 ?_
            refine lv_iload_n hx hb dX8_box_57 rfl (lv_at hl 1 rfl) ?_
            obtain ⟨hv10, h⟩ := h
            refine gx_aald (C' := "PaperBodies$Box") C hG 2 2 rfl rfl hv10 dX8_box_58 ?_
            refine lv_iload_n hx hb dX8_box_59 rfl (lv_at hl 2 rfl) ?_
            refine lv_iload_n hx hb dX8_box_60 rfl (lv_at hl 3 rfl) ?_
            refine lv_iload hx hb dX8_box_61 (lv_at hl 4 rfl) ?_
            obtain ⟨hr11, h⟩ := h
            refine callVV (As := [.int x2, .int x3, .int x4]) (rest := []) C hG (c1_build l D cy (oa (6 + x1.toNatClampNeg)) (qa (6 + x1.toNatClampNeg)) x2 x3 x4 (X (6 + x1.toNatClampNeg)) _ h) 3 gX8_box_X1_build rfl (by decide +kernel) ⟨⟨Nat.le_of_ble_eq_true rfl, Nat.le_of_ble_eq_true rfl⟩, rfl, rfl⟩ rfl rfl (fo_1 C.2.2.2.2.2.2.2.2.1 (k0 := (6 + x1.toNatClampNeg)) hr11) rfl hl.1 rfl (Nat.le_of_ble_eq_true rfl) dX8_box_63 ⟨Nat.zero_le _, Nat.zero_le _⟩ (fun  S12 H locs h hG => ?_)
            obtain ⟨X13, eX13⟩ : ∃ z : Nat → MS, z = (va_up X (6 + x1.toNatClampNeg) S12) := ⟨_, rfl⟩
            have hG : GW D A s (wP o qp oa qa cy Z X13) H locs := by rw [eX13]; exact hG
            replace h := h X13 eX13
            refine lv_aload_n hx hb dX8_box_66 rfl (lv_at hl 0 rfl) ?_
            refine gx_get C i8_box_X8 hG 0 rfl rfl 1 (by decide) k8_box_17 rfl dX8_box_67 ?_
            refine lv_iload_n hx hb dX8_box_70 rfl (lv_at hl 1 rfl) ?_
            refine gx_aald (C' := "PaperBodies$Box") C hG 2 2 rfl rfl hv10 dX8_box_71 ?_
            obtain ⟨qq14, he15⟩ := at1 (o := o) (qp := qp) (oa := oa) (qa := qa) (cy := cy) (Z := Z) (X := X13) (k := (6 + x1.toNatClampNeg)) hr11
            refine gx_getN (host := "PaperBodies") C i8_box_X1 hG qq14 he15 rfl 6 (by decide) (by decide +kernel) rfl dX8_box_72 ?_
            exact retI (w := (fun z : MS × (Nat → MS) => wP o qp oa qa cy z.1 z.2)) (S := (Z, X13)) (Qp := (fun r z => z.1 = Z ∧ Q r z.2)) C hG ⟨rfl, h⟩ dX8_box_75
          · replace h := h.2 c9
            refine lv_iconst (v := -1) hx hb dX8_box_51 (by decide) ?_
            exact retI (w := (fun z : MS × (Nat → MS) => wP o qp oa qa cy z.1 z.2)) (S := (Z, X)) (Qp := (fun r z => z.1 = Z ∧ Q r z.2)) C hG ⟨rfl, h⟩ dX8_box_52
        · replace h := h.2 c8
          exact b8_box_b29 Z X C h hG (lv_sub hl [0] rfl)
-- X8_told
theorem i8_told_X8 : ∀ w ∈ wsX80, w ∈ wsX8_told := fun w h => List.mem_cons_of_mem _ (inG_X8 w h)
theorem i8_told_X2 : ∀ w ∈ wsX20, w ∈ wsX8_told := fun w h => List.mem_cons_of_mem _ (inG_X2 w h)
theorem k8_told_11 : Cond.fieldLink RX8 11 "PaperBodies" "figures" "[LPaperBodies$Figure;" ∈ wsX8_told := (List.mem_cons_of_mem _ mw_317)
def w8_told_b16 (Z : MS) (X : (Nat → MS)) (Q : Int32 → MS → Prop) : Prop :=
  Q (-1 : Int32) Z
set_option maxHeartbeats 4000000 in
set_option maxRecDepth 100000 in
theorem b8_told_b16 {p : Program} {l : Launch} {e : Env} {s : State} {m : MethodId} {args : Array Value} {below : List Frame} {meth : Method} {c : Code} {D : va_G} {cy : Nat → ClassId} {A : Nat → Prop} {o : Nat} {qp oa : Nat → Nat} {qa : Nat → Nat → Nat} (Z : MS) (X : (Nat → MS)) {Q : Int32 → MS → Prop} (C : Cx p s m args meth c cX8_told 4 (some .int) wsX8_told RX8 D cy nestWs A) (h : w8_told_b16 Z X Q) {H : Heap} {locs : List Loc} (hG : GW D A s (wP o qp oa qa cy Z X) H locs) {ls : Array Slot} (hl : lv_has ls 4 [(0, .ref o)]) : W p l e ({ frames := 2, cells := 0, slots := 0, locals := 45 } : Room) s m args below meth c H locs 0 0 (MQ below (va_Qi (fun r z => z.2 = X ∧ Q r z.1) (B1 D (fun z : MS × (Nat → MS) => wP o qp oa qa cy z.1 z.2) A) A) args s 0 0 A) (F0 m 16 ls []) := by
  have hx := C.1
  have hb := C.2.1
  unfold w8_told_b16 at h
  refine lv_iconst (v := -1) hx hb dX8_told_16 (by decide) ?_
  exact retI (w := (fun z : MS × (Nat → MS) => wP o qp oa qa cy z.1 z.2)) (S := (Z, X)) (Qp := (fun r z => z.2 = X ∧ Q r z.1)) C hG ⟨rfl, h⟩ dX8_told_17
def w8_told (x1 : Int32) (x2 : Int32) (Z : MS) (X : (Nat → MS)) (Q : Int32 → MS → Prop) : Prop :=
  w8_isFigure x1 (fun r1 => ((r1 = 0 → w8_told_b16 Z X Q) ∧ (¬ r1 = 0 → w8_within x2 (0 : Int32) (3 : Int32) (fun r3 => ((¬ r3 = 0 → vp_in x1 6 ∧ ∀ n6 : Nat, n6 = (x1.toNatClampNeg) → (0 ≤ n6 ∧ n6 < 6) ∧ w2_isThere (X n6) (fun r7 => ((¬ r7 = 0 → ((x2 = 0 → Q (fI (X n6) 0) Z) ∧ (x2 = 1 → w13_bitCount_95d88 (fJ (X n6) 1) (fun r16 => Q r16 Z)) ∧ (x2 = 2 → w0_openEdges (fJ (X n6) 1) (fun r19 => Q r19 Z)) ∧ (¬ x2 = 0 → ¬ x2 = 1 → ¬ x2 = 2 → w0_least (fJ (X n6) 1) (fun r22 => Q r22 Z)))) ∧ (r7 = 0 → w8_refuse (1 : Int32) Z X (fun r23 S24 => Q r23 S24))))) ∧ (r3 = 0 → w8_told_b16 Z X Q))))))
set_option maxHeartbeats 4000000 in
set_option maxRecDepth 100000 in
theorem c8_told (l : Launch) (D : va_G) (cy : Nat → ClassId)  (o : Nat) (qp oa : Nat → Nat) (qa : Nat → Nat → Nat) (x1 : Int32) (x2 : Int32) (Z : MS) (X : (Nat → MS)) (Q : Int32 → MS → Prop) (h : w8_told x1 x2 Z X Q) : MetI l yX8_told wsX8_told ({ frames := 2, cells := 0, slots := 0, locals := 45 } : Room) D cy nestWs (fun z : MS × (Nat → MS) => wP o qp oa qa cy z.1 z.2) [.ref o, .int x1, .int x2] (Z, X) (fun r z => z.2 = X ∧ Q r z.1) := by
  refine MetI.mk RX8 cX8_told 4 .int (by decide) rfl nestWs_ok rfl (Nat.le_of_ble_eq_true rfl) ?_
  intro p e s m below meth c A ls C hG hl
  have hl : lv_has ls 4 [(0, .ref o), (1, .int x1), (2, .int x2)] := hl
  have hx := C.1
  have hb := C.2.1
  unfold w8_told at h
  refine lv_iload_n hx hb dX8_told_0 rfl (lv_at hl 1 rfl) ?_
  refine callSI (As := [.int x1]) (rest := []) C hG (c8_isFigure l D cy x1 _ h) 1 gX8_told_X8_isFigure rfl (by decide +kernel) ⟨⟨Nat.le_of_ble_eq_true rfl, Nat.le_of_ble_eq_true rfl⟩, rfl, rfl⟩ (Foc.none C.2.2.2.2.2.2.2.2.1) rfl hl.1 rfl (Nat.le_of_ble_eq_true rfl) dX8_told_1 ⟨Nat.zero_le _, Nat.zero_le _⟩ (fun r1 z H locs h hG => ?_)
  refine lv_if_eq (tgt := 16) hx hb dX8_told_4 (by decide) (fun c2 => ?_) (fun c2 => ?_)
  · replace h := h.1 c2
    exact b8_told_b16 Z X C h hG (lv_sub hl [0] rfl)
  · replace h := h.2 c2
    refine lv_iload_n hx hb dX8_told_7 rfl (lv_at hl 2 rfl) ?_
    refine lv_iconst (v := 0) hx hb dX8_told_8 (by decide) ?_
    refine lv_iconst (v := 3) hx hb dX8_told_9 (by decide) ?_
    refine callSI (As := [.int x2, .int (0 : Int32), .int (3 : Int32)]) (rest := []) C hG (c8_within l D cy x2 (0 : Int32) (3 : Int32) _ h) 3 gX8_told_X8_within rfl (by decide +kernel) ⟨⟨Nat.le_of_ble_eq_true rfl, Nat.le_of_ble_eq_true rfl⟩, rfl, rfl⟩ (Foc.none C.2.2.2.2.2.2.2.2.1) rfl hl.1 rfl (Nat.le_of_ble_eq_true rfl) dX8_told_10 ⟨Nat.zero_le _, Nat.zero_le _⟩ (fun r3 z H locs h hG => ?_)
    refine lv_if_ne (tgt := 18) hx hb dX8_told_13 (by decide) (fun c4 => ?_) (fun c4 => ?_)
    · replace h := h.1 c4
      refine lv_aload_n hx hb dX8_told_18 rfl (lv_at hl 0 rfl) ?_
      refine gx_get C i8_told_X8 hG 0 rfl rfl 0 (by decide) k8_told_11 rfl dX8_told_19 ?_
      refine lv_iload_n hx hb dX8_told_22 rfl (lv_at hl 1 rfl) ?_
      obtain ⟨hv5, h⟩ := h
      refine gx_aald (C' := "PaperBodies$Figure") C hG 1 3 rfl rfl hv5 dX8_told_23 ?_
      obtain ⟨n6, en6⟩ : ∃ y : Nat, y = (x1.toNatClampNeg) := ⟨_, rfl⟩
      rw [← en6]
      replace h := h n6 en6
      refine lv_astore_n (lv' := [(3, .ref (oa n6)), (0, .ref o), (1, .int x1), (2, .int x2)]) hx hb dX8_told_24 rfl hl (by decide) rfl (fun ls hl => ?_)
      refine lv_aload_n hx hb dX8_told_25 rfl (lv_at hl 0 rfl) ?_
      obtain ⟨hr8, h⟩ := h
      refine callVI (As := []) (rest := []) C hG (c2_isThere l D cy (oa n6) (qa n6) (X n6) _ h) 0 gX8_told_X2_isThere rfl (by decide +kernel) ⟨⟨Nat.le_of_ble_eq_true rfl, Nat.le_of_ble_eq_true rfl⟩, rfl, rfl⟩ rfl rfl (fo_2 C.2.2.2.2.2.2.2.2.1 (k0 := n6) hr8) rfl hl.1 rfl (Nat.le_of_ble_eq_true rfl) dX8_told_26 ⟨Nat.zero_le _, Nat.zero_le _⟩ (fun r7 u9 H locs h hG => ?_)
      obtain ⟨eu9, h⟩ := h
      have eu9 : u9 = (X n6) := eu9
      subst u9
      have hG : GW D A s (wP o qp oa qa cy Z X) H locs := by
        have e9 : (va_up X n6 (X n6)) = X := by simp only [up_same]
        have hG : GW D A s (wP o qp oa qa cy Z (va_up X n6 (X n6))) H locs := hG
        rw [e9] at hG
        exact hG
      refine lv_if_ne (tgt := 38) hx hb dX8_told_29 (by decide) (fun c10 => ?_) (fun c10 => ?_)
      · replace h := h.1 c10
        refine lv_iload_n hx hb dX8_told_38 rfl (lv_at hl 3 rfl) ?_
        by_cases c11_0 : x2 = 0
        · replace h := h.1 c11_0
          refine lv_tableIn (tgt := 64) hx hb dX8_told_39 (by rw [c11_0]; decide) (by rw [c11_0]; decide) (by rw [c11_0]; rfl) (by decide) ?_
          refine lv_aload_n hx hb dX8_told_64 rfl (lv_at hl 0 rfl) ?_
          obtain ⟨qq12, he13⟩ := at2 (o := o) (qp := qp) (oa := oa) (qa := qa) (cy := cy) (Z := Z) (X := X) (k := n6) hr8
          refine gx_getN (host := "PaperBodies") C i8_told_X2 hG qq12 he13 rfl 0 (by decide) (by decide +kernel) rfl dX8_told_65 ?_
          exact retI (w := (fun z : MS × (Nat → MS) => wP o qp oa qa cy z.1 z.2)) (S := (Z, X)) (Qp := (fun r z => z.2 = X ∧ Q r z.1)) C hG ⟨rfl, h⟩ dX8_told_68
        by_cases c11_1 : x2 = 1
        · replace h := h.2.1 c11_1
          refine lv_tableIn (tgt := 69) hx hb dX8_told_39 (by rw [c11_1]; decide) (by rw [c11_1]; decide) (by rw [c11_1]; rfl) (by decide) ?_
          refine lv_aload_n hx hb dX8_told_69 rfl (lv_at hl 0 rfl) ?_
          obtain ⟨qq14, he15⟩ := at2 (o := o) (qp := qp) (oa := oa) (qa := qa) (cy := cy) (Z := Z) (X := X) (k := n6) hr8
          refine gx_getN (host := "PaperBodies") C i8_told_X2 hG qq14 he15 rfl 1 (by decide) (by decide +kernel) rfl dX8_told_70 ?_
          refine callSI (As := [.long (fJ (X n6) 1)]) (rest := []) C hG (c13_bitCount_95d88 l D cy (fJ (X n6) 1) _ h) 1 gX8_told_J13_bitCount_95d88 rfl (by decide +kernel) ⟨⟨Nat.le_of_ble_eq_true rfl, Nat.le_of_ble_eq_true rfl⟩, rfl, rfl⟩ (Foc.none C.2.2.2.2.2.2.2.2.1) rfl hl.1 rfl (Nat.le_of_ble_eq_true rfl) dX8_told_73 ⟨Nat.zero_le _, Nat.zero_le _⟩ (fun r16 z H locs h hG => ?_)
          exact retI (w := (fun z : MS × (Nat → MS) => wP o qp oa qa cy z.1 z.2)) (S := (Z, X)) (Qp := (fun r z => z.2 = X ∧ Q r z.1)) C hG ⟨rfl, h⟩ dX8_told_76
        by_cases c11_2 : x2 = 2
        · replace h := h.2.2.1 c11_2
          refine lv_tableIn (tgt := 77) hx hb dX8_told_39 (by rw [c11_2]; decide) (by rw [c11_2]; decide) (by rw [c11_2]; rfl) (by decide) ?_
          refine lv_aload_n hx hb dX8_told_77 rfl (lv_at hl 0 rfl) ?_
          obtain ⟨qq17, he18⟩ := at2 (o := o) (qp := qp) (oa := oa) (qa := qa) (cy := cy) (Z := Z) (X := X) (k := n6) hr8
          refine gx_getN (host := "PaperBodies") C i8_told_X2 hG qq17 he18 rfl 1 (by decide) (by decide +kernel) rfl dX8_told_78 ?_
          refine callSI (As := [.long (fJ (X n6) 1)]) (rest := []) C hG (c0_openEdges l D cy (fJ (X n6) 1) _ h) 1 gX8_told_X0_openEdges rfl (by decide +kernel) ⟨⟨Nat.le_of_ble_eq_true rfl, Nat.le_of_ble_eq_true rfl⟩, rfl, rfl⟩ (Foc.none C.2.2.2.2.2.2.2.2.1) rfl hl.1 rfl (Nat.le_of_ble_eq_true rfl) dX8_told_81 ⟨Nat.zero_le _, Nat.zero_le _⟩ (fun r19 z H locs h hG => ?_)
          exact retI (w := (fun z : MS × (Nat → MS) => wP o qp oa qa cy z.1 z.2)) (S := (Z, X)) (Qp := (fun r z => z.2 = X ∧ Q r z.1)) C hG ⟨rfl, h⟩ dX8_told_84
        replace h := h.2.2.2 c11_0 c11_1 c11_2
        refine lv_tableOut (tgt := 85) hx hb dX8_told_39 (sw_out 0 3 (by decide) (fun j hj => by rcases (show j = 0 ∨ j = 1 ∨ j = 2 by omega) with rfl | rfl | rfl <;> first | exact c11_0 | exact c11_1 | exact c11_2)) (by decide) ?_
        refine lv_aload_n hx hb dX8_told_85 rfl (lv_at hl 0 rfl) ?_
        obtain ⟨qq20, he21⟩ := at2 (o := o) (qp := qp) (oa := oa) (qa := qa) (cy := cy) (Z := Z) (X := X) (k := n6) hr8
        refine gx_getN (host := "PaperBodies") C i8_told_X2 hG qq20 he21 rfl 1 (by decide) (by decide +kernel) rfl dX8_told_86 ?_
        refine callSI (As := [.long (fJ (X n6) 1)]) (rest := []) C hG (c0_least l D cy (fJ (X n6) 1) _ h) 1 gX8_told_X0_least rfl (by decide +kernel) ⟨⟨Nat.le_of_ble_eq_true rfl, Nat.le_of_ble_eq_true rfl⟩, rfl, rfl⟩ (Foc.none C.2.2.2.2.2.2.2.2.1) rfl hl.1 rfl (Nat.le_of_ble_eq_true rfl) dX8_told_89 ⟨Nat.zero_le _, Nat.zero_le _⟩ (fun r22 z H locs h hG => ?_)
        exact retI (w := (fun z : MS × (Nat → MS) => wP o qp oa qa cy z.1 z.2)) (S := (Z, X)) (Qp := (fun r z => z.2 = X ∧ Q r z.1)) C hG ⟨rfl, h⟩ dX8_told_92
      · replace h := h.2 c10
        refine lv_aload_n hx hb dX8_told_32 rfl (lv_at hl 1 rfl) ?_
        refine lv_iconst (v := 1) hx hb dX8_told_33 (by decide) ?_
        refine callVI (As := [.int (1 : Int32)]) (rest := []) C hG (c8_refuse l D cy o qp oa qa (1 : Int32) Z X _ h) 1 gX8_told_X8_refuse rfl (by decide +kernel) ⟨⟨Nat.le_of_ble_eq_true rfl, Nat.le_of_ble_eq_true rfl⟩, rfl, rfl⟩ rfl rfl (Foc.all (w' := (fun z : MS × (Nat → MS) => wP o qp oa qa cy z.1 z.2)) (S' := (Z, X)) C.2.2.2.2.2.2.2.2.1) rfl hl.1 rfl (Nat.le_of_ble_eq_true rfl) dX8_told_34 ⟨Nat.zero_le _, Nat.zero_le _⟩ (fun r23 z H locs h hG => ?_)
        obtain ⟨S24, u25⟩ := z
        obtain ⟨eu25, h⟩ := h
        have eu25 : u25 = X := eu25
        replace h := h
        subst u25
        have hG : GW D A s (wP o qp oa qa cy S24 X) H locs := hG
        exact retI (w := (fun z : MS × (Nat → MS) => wP o qp oa qa cy z.1 z.2)) (S := (S24, X)) (Qp := (fun r z => z.2 = X ∧ Q r z.1)) C hG ⟨rfl, h⟩ dX8_told_37
    · replace h := h.2 c4
      exact b8_told_b16 Z X C h hG (lv_sub hl [0] rfl)
-- X8_mark
theorem i8_mark_X8 : ∀ w ∈ wsX80, w ∈ wsX8_mark := fun w h => List.mem_cons_of_mem _ (inG_X8 w h)
theorem i8_mark_X2 : ∀ w ∈ wsX20, w ∈ wsX8_mark := fun w h => List.mem_cons_of_mem _ (inG_X2 w h)
theorem k8_mark_11 : Cond.fieldLink RX8 11 "PaperBodies" "figures" "[LPaperBodies$Figure;" ∈ wsX8_mark := (List.mem_cons_of_mem _ mw_317)
def w8_mark_b95 (t0 : Int32) (Z : MS) (X : (Nat → MS)) (Q : Int32 → MS → Prop) : Prop :=
  Q t0 Z
set_option maxHeartbeats 4000000 in
set_option maxRecDepth 100000 in
theorem b8_mark_b95 {p : Program} {l : Launch} {e : Env} {s : State} {m : MethodId} {args : Array Value} {below : List Frame} {meth : Method} {c : Code} {D : va_G} {cy : Nat → ClassId} {A : Nat → Prop} {o : Nat} {qp oa : Nat → Nat} {qa : Nat → Nat → Nat} (t0 : Int32) (Z : MS) (X : (Nat → MS)) {Q : Int32 → MS → Prop} (C : Cx p s m args meth c cX8_mark 4 (some .int) wsX8_mark RX8 D cy nestWs A) (h : w8_mark_b95 t0 Z X Q) {H : Heap} {locs : List Loc} (hG : GW D A s (wP o qp oa qa cy Z X) H locs) {ls : Array Slot} (hl : lv_has ls 4 [(0, .ref o)]) : W p l e ({ frames := 3, cells := 0, slots := 0, locals := 64 } : Room) s m args below meth c H locs 0 0 (MQ below (va_Qi (fun r z => z.2 = X ∧ Q r z.1) (B1 D (fun z : MS × (Nat → MS) => wP o qp oa qa cy z.1 z.2) A) A) args s 0 0 A) (F0 m 95 ls [.int t0]) := by
  have hx := C.1
  have hb := C.2.1
  unfold w8_mark_b95 at h
  exact retI (w := (fun z : MS × (Nat → MS) => wP o qp oa qa cy z.1 z.2)) (S := (Z, X)) (Qp := (fun r z => z.2 = X ∧ Q r z.1)) C hG ⟨rfl, h⟩ dX8_mark_95
def w8_mark_b16 (Z : MS) (X : (Nat → MS)) (Q : Int32 → MS → Prop) : Prop :=
  Q (-1 : Int32) Z
set_option maxHeartbeats 4000000 in
set_option maxRecDepth 100000 in
theorem b8_mark_b16 {p : Program} {l : Launch} {e : Env} {s : State} {m : MethodId} {args : Array Value} {below : List Frame} {meth : Method} {c : Code} {D : va_G} {cy : Nat → ClassId} {A : Nat → Prop} {o : Nat} {qp oa : Nat → Nat} {qa : Nat → Nat → Nat} (Z : MS) (X : (Nat → MS)) {Q : Int32 → MS → Prop} (C : Cx p s m args meth c cX8_mark 4 (some .int) wsX8_mark RX8 D cy nestWs A) (h : w8_mark_b16 Z X Q) {H : Heap} {locs : List Loc} (hG : GW D A s (wP o qp oa qa cy Z X) H locs) {ls : Array Slot} (hl : lv_has ls 4 [(0, .ref o)]) : W p l e ({ frames := 3, cells := 0, slots := 0, locals := 64 } : Room) s m args below meth c H locs 0 0 (MQ below (va_Qi (fun r z => z.2 = X ∧ Q r z.1) (B1 D (fun z : MS × (Nat → MS) => wP o qp oa qa cy z.1 z.2) A) A) args s 0 0 A) (F0 m 16 ls []) := by
  have hx := C.1
  have hb := C.2.1
  unfold w8_mark_b16 at h
  refine lv_iconst (v := -1) hx hb dX8_mark_16 (by decide) ?_
  exact retI (w := (fun z : MS × (Nat → MS) => wP o qp oa qa cy z.1 z.2)) (S := (Z, X)) (Qp := (fun r z => z.2 = X ∧ Q r z.1)) C hG ⟨rfl, h⟩ dX8_mark_17
def w8_mark (x1 : Int32) (x2 : Int32) (Z : MS) (X : (Nat → MS)) (Q : Int32 → MS → Prop) : Prop :=
  w8_isFigure x1 (fun r1 => ((r1 = 0 → w8_mark_b16 Z X Q) ∧ (¬ r1 = 0 → w8_within x2 (1 : Int32) (3 : Int32) (fun r3 => ((¬ r3 = 0 → vp_in x1 6 ∧ ∀ n6 : Nat, n6 = (x1.toNatClampNeg) → (0 ≤ n6 ∧ n6 < 6) ∧ w2_isThere (X n6) (fun r7 => ((¬ r7 = 0 → w2_isOf x2 (X n6) (fun r11 => ((¬ r11 = 0 → ((x2 = 1 → w0_isLying (fJ (X n6) 1) (fun r17 => ((r17 = 0 → w8_mark_b95 (0 : Int32) Z X Q) ∧ (¬ r17 = 0 → w8_mark_b95 (1 : Int32) Z X Q)))) ∧ (x2 = 2 → Q (fI (X n6) 2) Z) ∧ (¬ x2 = 1 → ¬ x2 = 2 → Q (fI (X n6) 3) Z))) ∧ (r11 = 0 → w8_refuse (3 : Int32) Z X (fun r23 S24 => Q r23 S24))))) ∧ (r7 = 0 → w8_refuse (1 : Int32) Z X (fun r26 S27 => Q r26 S27))))) ∧ (r3 = 0 → w8_mark_b16 Z X Q))))))
set_option maxHeartbeats 4000000 in
set_option maxRecDepth 100000 in
theorem c8_mark (l : Launch) (D : va_G) (cy : Nat → ClassId)  (o : Nat) (qp oa : Nat → Nat) (qa : Nat → Nat → Nat) (x1 : Int32) (x2 : Int32) (Z : MS) (X : (Nat → MS)) (Q : Int32 → MS → Prop) (h : w8_mark x1 x2 Z X Q) : MetI l yX8_mark wsX8_mark ({ frames := 3, cells := 0, slots := 0, locals := 64 } : Room) D cy nestWs (fun z : MS × (Nat → MS) => wP o qp oa qa cy z.1 z.2) [.ref o, .int x1, .int x2] (Z, X) (fun r z => z.2 = X ∧ Q r z.1) := by
  refine MetI.mk RX8 cX8_mark 4 .int (by decide) rfl nestWs_ok rfl (Nat.le_of_ble_eq_true rfl) ?_
  intro p e s m below meth c A ls C hG hl
  have hl : lv_has ls 4 [(0, .ref o), (1, .int x1), (2, .int x2)] := hl
  have hx := C.1
  have hb := C.2.1
  unfold w8_mark at h
  refine lv_iload_n hx hb dX8_mark_0 rfl (lv_at hl 1 rfl) ?_
  refine callSI (As := [.int x1]) (rest := []) C hG (c8_isFigure l D cy x1 _ h) 1 gX8_mark_X8_isFigure rfl (by decide +kernel) ⟨⟨Nat.le_of_ble_eq_true rfl, Nat.le_of_ble_eq_true rfl⟩, rfl, rfl⟩ (Foc.none C.2.2.2.2.2.2.2.2.1) rfl hl.1 rfl (Nat.le_of_ble_eq_true rfl) dX8_mark_1 ⟨Nat.zero_le _, Nat.zero_le _⟩ (fun r1 z H locs h hG => ?_)
  refine lv_if_eq (tgt := 16) hx hb dX8_mark_4 (by decide) (fun c2 => ?_) (fun c2 => ?_)
  · replace h := h.1 c2
    exact b8_mark_b16 Z X C h hG (lv_sub hl [0] rfl)
  · replace h := h.2 c2
    refine lv_iload_n hx hb dX8_mark_7 rfl (lv_at hl 2 rfl) ?_
    refine lv_iconst (v := 1) hx hb dX8_mark_8 (by decide) ?_
    refine lv_iconst (v := 3) hx hb dX8_mark_9 (by decide) ?_
    refine callSI (As := [.int x2, .int (1 : Int32), .int (3 : Int32)]) (rest := []) C hG (c8_within l D cy x2 (1 : Int32) (3 : Int32) _ h) 3 gX8_mark_X8_within rfl (by decide +kernel) ⟨⟨Nat.le_of_ble_eq_true rfl, Nat.le_of_ble_eq_true rfl⟩, rfl, rfl⟩ (Foc.none C.2.2.2.2.2.2.2.2.1) rfl hl.1 rfl (Nat.le_of_ble_eq_true rfl) dX8_mark_10 ⟨Nat.zero_le _, Nat.zero_le _⟩ (fun r3 z H locs h hG => ?_)
    refine lv_if_ne (tgt := 18) hx hb dX8_mark_13 (by decide) (fun c4 => ?_) (fun c4 => ?_)
    · replace h := h.1 c4
      refine lv_aload_n hx hb dX8_mark_18 rfl (lv_at hl 0 rfl) ?_
      refine gx_get C i8_mark_X8 hG 0 rfl rfl 0 (by decide) k8_mark_11 rfl dX8_mark_19 ?_
      refine lv_iload_n hx hb dX8_mark_22 rfl (lv_at hl 1 rfl) ?_
      obtain ⟨hv5, h⟩ := h
      refine gx_aald (C' := "PaperBodies$Figure") C hG 1 3 rfl rfl hv5 dX8_mark_23 ?_
      obtain ⟨n6, en6⟩ : ∃ y : Nat, y = (x1.toNatClampNeg) := ⟨_, rfl⟩
      rw [← en6]
      replace h := h n6 en6
      refine lv_astore_n (lv' := [(3, .ref (oa n6)), (0, .ref o), (1, .int x1), (2, .int x2)]) hx hb dX8_mark_24 rfl hl (by decide) rfl (fun ls hl => ?_)
      refine lv_aload_n hx hb dX8_mark_25 rfl (lv_at hl 0 rfl) ?_
      obtain ⟨hr8, h⟩ := h
      refine callVI (As := []) (rest := []) C hG (c2_isThere l D cy (oa n6) (qa n6) (X n6) _ h) 0 gX8_mark_X2_isThere rfl (by decide +kernel) ⟨⟨Nat.le_of_ble_eq_true rfl, Nat.le_of_ble_eq_true rfl⟩, rfl, rfl⟩ rfl rfl (fo_2 C.2.2.2.2.2.2.2.2.1 (k0 := n6) hr8) rfl hl.1 rfl (Nat.le_of_ble_eq_true rfl) dX8_mark_26 ⟨Nat.zero_le _, Nat.zero_le _⟩ (fun r7 u9 H locs h hG => ?_)
      obtain ⟨eu9, h⟩ := h
      have eu9 : u9 = (X n6) := eu9
      subst u9
      have hG : GW D A s (wP o qp oa qa cy Z X) H locs := by
        have e9 : (va_up X n6 (X n6)) = X := by simp only [up_same]
        have hG : GW D A s (wP o qp oa qa cy Z (va_up X n6 (X n6))) H locs := hG
        rw [e9] at hG
        exact hG
      refine lv_if_ne (tgt := 38) hx hb dX8_mark_29 (by decide) (fun c10 => ?_) (fun c10 => ?_)
      · replace h := h.1 c10
        refine lv_aload_n hx hb dX8_mark_38 rfl (lv_at hl 0 rfl) ?_
        refine lv_iload_n hx hb dX8_mark_39 rfl (lv_at hl 3 rfl) ?_
        refine callVI (As := [.int x2]) (rest := []) C hG (c2_isOf l D cy (oa n6) (qa n6) x2 (X n6) _ h) 1 gX8_mark_X2_isOf rfl (by decide +kernel) ⟨⟨Nat.le_of_ble_eq_true rfl, Nat.le_of_ble_eq_true rfl⟩, rfl, rfl⟩ rfl rfl (fo_2 C.2.2.2.2.2.2.2.2.1 (k0 := n6) hr8) rfl hl.1 rfl (Nat.le_of_ble_eq_true rfl) dX8_mark_40 ⟨Nat.zero_le _, Nat.zero_le _⟩ (fun r11 u12 H locs h hG => ?_)
        obtain ⟨eu12, h⟩ := h
        have eu12 : u12 = (X n6) := eu12
        subst u12
        have hG : GW D A s (wP o qp oa qa cy Z X) H locs := by
          have e9 : (va_up X n6 (X n6)) = X := by simp only [up_same]
          have hG : GW D A s (wP o qp oa qa cy Z (va_up X n6 (X n6))) H locs := hG
          rw [e9] at hG
          exact hG
        refine lv_if_ne (tgt := 52) hx hb dX8_mark_43 (by decide) (fun c13 => ?_) (fun c13 => ?_)
        · replace h := h.1 c13
          refine lv_iload_n hx hb dX8_mark_52 rfl (lv_at hl 3 rfl) ?_
          by_cases c14_0 : x2 = 1
          · replace h := h.1 c14_0
            refine lv_lookup (tgt := 80) hx hb dX8_mark_53 (by decide) (by rw [c14_0] <;> rfl) (by decide) ?_
            refine lv_aload_n hx hb dX8_mark_80 rfl (lv_at hl 0 rfl) ?_
            obtain ⟨qq15, he16⟩ := at2 (o := o) (qp := qp) (oa := oa) (qa := qa) (cy := cy) (Z := Z) (X := X) (k := n6) hr8
            refine gx_getN (host := "PaperBodies") C i8_mark_X2 hG qq15 he16 rfl 1 (by decide) (by decide +kernel) rfl dX8_mark_81 ?_
            refine callSI (As := [.long (fJ (X n6) 1)]) (rest := []) C hG (c0_isLying l D cy (fJ (X n6) 1) _ h) 1 gX8_mark_X0_isLying rfl (by decide +kernel) ⟨⟨Nat.le_of_ble_eq_true rfl, Nat.le_of_ble_eq_true rfl⟩, rfl, rfl⟩ (Foc.none C.2.2.2.2.2.2.2.2.1) rfl hl.1 rfl (Nat.le_of_ble_eq_true rfl) dX8_mark_84 ⟨Nat.zero_le _, Nat.zero_le _⟩ (fun r17 z H locs h hG => ?_)
            refine lv_if_eq (tgt := 94) hx hb dX8_mark_87 (by decide) (fun c18 => ?_) (fun c18 => ?_)
            · replace h := h.1 c18
              refine lv_iconst (v := 0) hx hb dX8_mark_94 (by decide) ?_
              exact b8_mark_b95 (0 : Int32) Z X C h hG (lv_sub hl [1] rfl)
            · replace h := h.2 c18
              refine lv_iconst (v := 1) hx hb dX8_mark_90 (by decide) ?_
              refine lv_goto (tgt := 95) hx hb dX8_mark_91 (by decide) ?_
              exact b8_mark_b95 (1 : Int32) Z X C h hG (lv_sub hl [1] rfl)
          by_cases c14_1 : x2 = 2
          · replace h := h.2.1 c14_1
            refine lv_lookup (tgt := 96) hx hb dX8_mark_53 (by decide) (by rw [c14_1] <;> rfl) (by decide) ?_
            refine lv_aload_n hx hb dX8_mark_96 rfl (lv_at hl 0 rfl) ?_
            obtain ⟨qq19, he20⟩ := at2 (o := o) (qp := qp) (oa := oa) (qa := qa) (cy := cy) (Z := Z) (X := X) (k := n6) hr8
            refine gx_getN (host := "PaperBodies") C i8_mark_X2 hG qq19 he20 rfl 2 (by decide) (by decide +kernel) rfl dX8_mark_97 ?_
            exact retI (w := (fun z : MS × (Nat → MS) => wP o qp oa qa cy z.1 z.2)) (S := (Z, X)) (Qp := (fun r z => z.2 = X ∧ Q r z.1)) C hG ⟨rfl, h⟩ dX8_mark_100
          replace h := h.2.2 c14_0 c14_1
          refine lv_lookup (tgt := 101) (off := 48) hx hb dX8_mark_53 (by decide) (by rw [show (#[(1, 27), (2, 43)] : Array (Int × Int)).toList = [(1, 27), (2, 43)] from rfl, Op.lookupswitch.offset_cons, if_neg (sw_ne c14_0), Op.lookupswitch.offset_cons, if_neg (sw_ne c14_1)]; rfl) (by decide) ?_
          refine lv_aload_n hx hb dX8_mark_101 rfl (lv_at hl 0 rfl) ?_
          obtain ⟨qq21, he22⟩ := at2 (o := o) (qp := qp) (oa := oa) (qa := qa) (cy := cy) (Z := Z) (X := X) (k := n6) hr8
          refine gx_getN (host := "PaperBodies") C i8_mark_X2 hG qq21 he22 rfl 3 (by decide) (by decide +kernel) rfl dX8_mark_102 ?_
          exact retI (w := (fun z : MS × (Nat → MS) => wP o qp oa qa cy z.1 z.2)) (S := (Z, X)) (Qp := (fun r z => z.2 = X ∧ Q r z.1)) C hG ⟨rfl, h⟩ dX8_mark_105
        · replace h := h.2 c13
          refine lv_aload_n hx hb dX8_mark_46 rfl (lv_at hl 1 rfl) ?_
          refine lv_iconst (v := 3) hx hb dX8_mark_47 (by decide) ?_
          refine callVI (As := [.int (3 : Int32)]) (rest := []) C hG (c8_refuse l D cy o qp oa qa (3 : Int32) Z X _ h) 1 gX8_mark_X8_refuse rfl (by decide +kernel) ⟨⟨Nat.le_of_ble_eq_true rfl, Nat.le_of_ble_eq_true rfl⟩, rfl, rfl⟩ rfl rfl (Foc.all (w' := (fun z : MS × (Nat → MS) => wP o qp oa qa cy z.1 z.2)) (S' := (Z, X)) C.2.2.2.2.2.2.2.2.1) rfl hl.1 rfl (Nat.le_of_ble_eq_true rfl) dX8_mark_48 ⟨Nat.zero_le _, Nat.zero_le _⟩ (fun r23 z H locs h hG => ?_)
          obtain ⟨S24, u25⟩ := z
          obtain ⟨eu25, h⟩ := h
          have eu25 : u25 = X := eu25
          replace h := h
          subst u25
          have hG : GW D A s (wP o qp oa qa cy S24 X) H locs := hG
          exact retI (w := (fun z : MS × (Nat → MS) => wP o qp oa qa cy z.1 z.2)) (S := (S24, X)) (Qp := (fun r z => z.2 = X ∧ Q r z.1)) C hG ⟨rfl, h⟩ dX8_mark_51
      · replace h := h.2 c10
        refine lv_aload_n hx hb dX8_mark_32 rfl (lv_at hl 1 rfl) ?_
        refine lv_iconst (v := 1) hx hb dX8_mark_33 (by decide) ?_
        refine callVI (As := [.int (1 : Int32)]) (rest := []) C hG (c8_refuse l D cy o qp oa qa (1 : Int32) Z X _ h) 1 gX8_mark_X8_refuse rfl (by decide +kernel) ⟨⟨Nat.le_of_ble_eq_true rfl, Nat.le_of_ble_eq_true rfl⟩, rfl, rfl⟩ rfl rfl (Foc.all (w' := (fun z : MS × (Nat → MS) => wP o qp oa qa cy z.1 z.2)) (S' := (Z, X)) C.2.2.2.2.2.2.2.2.1) rfl hl.1 rfl (Nat.le_of_ble_eq_true rfl) dX8_mark_34 ⟨Nat.zero_le _, Nat.zero_le _⟩ (fun r26 z H locs h hG => ?_)
        obtain ⟨S27, u28⟩ := z
        obtain ⟨eu28, h⟩ := h
        have eu28 : u28 = X := eu28
        replace h := h
        subst u28
        have hG : GW D A s (wP o qp oa qa cy S27 X) H locs := hG
        exact retI (w := (fun z : MS × (Nat → MS) => wP o qp oa qa cy z.1 z.2)) (S := (S27, X)) (Qp := (fun r z => z.2 = X ∧ Q r z.1)) C hG ⟨rfl, h⟩ dX8_mark_37
    · replace h := h.2 c4
      exact b8_mark_b16 Z X C h hG (lv_sub hl [0] rfl)
-- X8_squares
theorem i8_squares_X8 : ∀ w ∈ wsX80, w ∈ wsX8_squares := fun w h => List.mem_cons_of_mem _ (inG_X8 w h)
theorem i8_squares_X2 : ∀ w ∈ wsX20, w ∈ wsX8_squares := fun w h => List.mem_cons_of_mem _ (inG_X2 w h)
theorem k8_squares_11 : Cond.fieldLink RX8 11 "PaperBodies" "figures" "[LPaperBodies$Figure;" ∈ wsX8_squares := (List.mem_cons_of_mem _ mw_317)
theorem k8_squares_147 : Cond.fieldLink RX8 147 "PaperBodies" "latestTold" "J" ∈ wsX8_squares := (List.mem_cons_of_mem _ mw_390)
def w8_squares (x1 : Int32) (Z : MS) (X : (Nat → MS)) (Q : Int32 → MS → Prop) : Prop :=
  w8_isFigure x1 (fun r1 => ((¬ r1 = 0 → vp_in x1 6 ∧ (0 ≤ (x1.toNatClampNeg) ∧ (x1.toNatClampNeg) < 6) ∧ w2_isThere (X (x1.toNatClampNeg)) (fun r4 => ((¬ r4 = 0 → ∀ S10 : MS, S10 = sJ Z 11 (fJ (X (x1.toNatClampNeg)) 1) → w13_bitCount_95d88 (fJ (X (x1.toNatClampNeg)) 1) (fun r13 => Q r13 S10)) ∧ (r4 = 0 → w8_refuse (1 : Int32) Z X (fun r14 S15 => Q r14 S15))))) ∧ (r1 = 0 → Q (-1 : Int32) Z)))
set_option maxHeartbeats 4000000 in
set_option maxRecDepth 100000 in
theorem c8_squares (l : Launch) (D : va_G) (cy : Nat → ClassId)  (o : Nat) (qp oa : Nat → Nat) (qa : Nat → Nat → Nat) (x1 : Int32) (Z : MS) (X : (Nat → MS)) (Q : Int32 → MS → Prop) (h : w8_squares x1 Z X Q) : MetI l yX8_squares wsX8_squares ({ frames := 2, cells := 0, slots := 0, locals := 43 } : Room) D cy nestWs (fun z : MS × (Nat → MS) => wP o qp oa qa cy z.1 z.2) [.ref o, .int x1] (Z, X) (fun r z => z.2 = X ∧ Q r z.1) := by
  refine MetI.mk RX8 cX8_squares 2 .int (by decide) rfl nestWs_ok rfl (Nat.le_of_ble_eq_true rfl) ?_
  intro p e s m below meth c A ls C hG hl
  have hl : lv_has ls 2 [(0, .ref o), (1, .int x1)] := hl
  have hx := C.1
  have hb := C.2.1
  unfold w8_squares at h
  refine lv_iload_n hx hb dX8_squares_0 rfl (lv_at hl 1 rfl) ?_
  refine callSI (As := [.int x1]) (rest := []) C hG (c8_isFigure l D cy x1 _ h) 1 gX8_squares_X8_isFigure rfl (by decide +kernel) ⟨⟨Nat.le_of_ble_eq_true rfl, Nat.le_of_ble_eq_true rfl⟩, rfl, rfl⟩ (Foc.none C.2.2.2.2.2.2.2.2.1) rfl hl.1 rfl (Nat.le_of_ble_eq_true rfl) dX8_squares_1 ⟨Nat.zero_le _, Nat.zero_le _⟩ (fun r1 z H locs h hG => ?_)
  refine lv_if_ne (tgt := 9) hx hb dX8_squares_4 (by decide) (fun c2 => ?_) (fun c2 => ?_)
  · replace h := h.1 c2
    refine lv_aload_n hx hb dX8_squares_9 rfl (lv_at hl 0 rfl) ?_
    refine gx_get C i8_squares_X8 hG 0 rfl rfl 0 (by decide) k8_squares_11 rfl dX8_squares_10 ?_
    refine lv_iload_n hx hb dX8_squares_13 rfl (lv_at hl 1 rfl) ?_
    obtain ⟨hv3, h⟩ := h
    refine gx_aald (C' := "PaperBodies$Figure") C hG 1 3 rfl rfl hv3 dX8_squares_14 ?_
    obtain ⟨hr5, h⟩ := h
    refine callVI (As := []) (rest := []) C hG (c2_isThere l D cy (oa (x1.toNatClampNeg)) (qa (x1.toNatClampNeg)) (X (x1.toNatClampNeg)) _ h) 0 gX8_squares_X2_isThere rfl (by decide +kernel) ⟨⟨Nat.le_of_ble_eq_true rfl, Nat.le_of_ble_eq_true rfl⟩, rfl, rfl⟩ rfl rfl (fo_2 C.2.2.2.2.2.2.2.2.1 (k0 := (x1.toNatClampNeg)) hr5) rfl hl.1 rfl (Nat.le_of_ble_eq_true rfl) dX8_squares_15 ⟨Nat.zero_le _, Nat.zero_le _⟩ (fun r4 u6 H locs h hG => ?_)
    obtain ⟨eu6, h⟩ := h
    have eu6 : u6 = (X (x1.toNatClampNeg)) := eu6
    subst u6
    have hG : GW D A s (wP o qp oa qa cy Z X) H locs := by
      have e9 : (va_up X (x1.toNatClampNeg) (X (x1.toNatClampNeg))) = X := by simp only [up_same]
      have hG : GW D A s (wP o qp oa qa cy Z (va_up X (x1.toNatClampNeg) (X (x1.toNatClampNeg)))) H locs := hG
      rw [e9] at hG
      exact hG
    refine lv_if_ne (tgt := 27) hx hb dX8_squares_18 (by decide) (fun c7 => ?_) (fun c7 => ?_)
    · replace h := h.1 c7
      refine lv_aload_n hx hb dX8_squares_27 rfl (lv_at hl 0 rfl) ?_
      refine lv_aload_n hx hb dX8_squares_28 rfl (lv_at hl 0 rfl) ?_
      refine gx_get C i8_squares_X8 hG 0 rfl rfl 0 (by decide) k8_squares_11 rfl dX8_squares_29 ?_
      refine lv_iload_n hx hb dX8_squares_32 rfl (lv_at hl 1 rfl) ?_
      refine gx_aald (C' := "PaperBodies$Figure") C hG 1 3 rfl rfl hv3 dX8_squares_33 ?_
      obtain ⟨qq8, he9⟩ := at2 (o := o) (qp := qp) (oa := oa) (qa := qa) (cy := cy) (Z := Z) (X := X) (k := (x1.toNatClampNeg)) hr5
      refine gx_getN (host := "PaperBodies") C i8_squares_X2 hG qq8 he9 rfl 1 (by decide) (by decide +kernel) rfl dX8_squares_34 ?_
      refine gx_put (ty := .long) (ws' := wP o qp oa qa cy (sJ Z 11 (fJ (X (x1.toNatClampNeg)) 1)) X) C i8_squares_X8 tyX8 tyX8_ok nmX8 hG 0 rfl rfl 11 (by decide) k8_squares_147 rfl (by decide +kernel) rfl rfl (Nat.le_of_ble_eq_true rfl) dX8_squares_37 rfl (fun H locs hG => ?_)
      obtain ⟨S10, eS10⟩ : ∃ z : MS, z = sJ Z 11 (fJ (X (x1.toNatClampNeg)) 1) := ⟨_, rfl⟩
      rw [← eS10] at hG
      replace h := h S10 eS10
      refine lv_aload_n hx hb dX8_squares_40 rfl (lv_at hl 0 rfl) ?_
      refine gx_get C i8_squares_X8 hG 0 rfl rfl 0 (by decide) k8_squares_11 rfl dX8_squares_41 ?_
      refine lv_iload_n hx hb dX8_squares_44 rfl (lv_at hl 1 rfl) ?_
      refine gx_aald (C' := "PaperBodies$Figure") C hG 1 3 rfl rfl hv3 dX8_squares_45 ?_
      obtain ⟨qq11, he12⟩ := at2 (o := o) (qp := qp) (oa := oa) (qa := qa) (cy := cy) (Z := S10) (X := X) (k := (x1.toNatClampNeg)) hr5
      refine gx_getN (host := "PaperBodies") C i8_squares_X2 hG qq11 he12 rfl 1 (by decide) (by decide +kernel) rfl dX8_squares_46 ?_
      refine callSI (As := [.long (fJ (X (x1.toNatClampNeg)) 1)]) (rest := []) C hG (c13_bitCount_95d88 l D cy (fJ (X (x1.toNatClampNeg)) 1) _ h) 1 gX8_squares_J13_bitCount_95d88 rfl (by decide +kernel) ⟨⟨Nat.le_of_ble_eq_true rfl, Nat.le_of_ble_eq_true rfl⟩, rfl, rfl⟩ (Foc.none C.2.2.2.2.2.2.2.2.1) rfl hl.1 rfl (Nat.le_of_ble_eq_true rfl) dX8_squares_49 ⟨Nat.zero_le _, Nat.zero_le _⟩ (fun r13 z H locs h hG => ?_)
      exact retI (w := (fun z : MS × (Nat → MS) => wP o qp oa qa cy z.1 z.2)) (S := (S10, X)) (Qp := (fun r z => z.2 = X ∧ Q r z.1)) C hG ⟨rfl, h⟩ dX8_squares_52
    · replace h := h.2 c7
      refine lv_aload_n hx hb dX8_squares_21 rfl (lv_at hl 0 rfl) ?_
      refine lv_iconst (v := 1) hx hb dX8_squares_22 (by decide) ?_
      refine callVI (As := [.int (1 : Int32)]) (rest := []) C hG (c8_refuse l D cy o qp oa qa (1 : Int32) Z X _ h) 1 gX8_squares_X8_refuse rfl (by decide +kernel) ⟨⟨Nat.le_of_ble_eq_true rfl, Nat.le_of_ble_eq_true rfl⟩, rfl, rfl⟩ rfl rfl (Foc.all (w' := (fun z : MS × (Nat → MS) => wP o qp oa qa cy z.1 z.2)) (S' := (Z, X)) C.2.2.2.2.2.2.2.2.1) rfl hl.1 rfl (Nat.le_of_ble_eq_true rfl) dX8_squares_23 ⟨Nat.zero_le _, Nat.zero_le _⟩ (fun r14 z H locs h hG => ?_)
      obtain ⟨S15, u16⟩ := z
      obtain ⟨eu16, h⟩ := h
      have eu16 : u16 = X := eu16
      replace h := h
      subst u16
      have hG : GW D A s (wP o qp oa qa cy S15 X) H locs := hG
      exact retI (w := (fun z : MS × (Nat → MS) => wP o qp oa qa cy z.1 z.2)) (S := (S15, X)) (Qp := (fun r z => z.2 = X ∧ Q r z.1)) C hG ⟨rfl, h⟩ dX8_squares_26
  · replace h := h.2 c2
    refine lv_iconst (v := -1) hx hb dX8_squares_7 (by decide) ?_
    exact retI (w := (fun z : MS × (Nat → MS) => wP o qp oa qa cy z.1 z.2)) (S := (Z, X)) (Qp := (fun r z => z.2 = X ∧ Q r z.1)) C hG ⟨rfl, h⟩ dX8_squares_8
-- X8_turn
theorem i8_turn_X8 : ∀ w ∈ wsX80, w ∈ wsX8_turn := fun w h => List.mem_cons_of_mem _ (inG_X8 w h)
theorem i8_turn_X2 : ∀ w ∈ wsX20, w ∈ wsX8_turn := fun w h => List.mem_cons_of_mem _ (inG_X2 w h)
theorem k8_turn_11 : Cond.fieldLink RX8 11 "PaperBodies" "figures" "[LPaperBodies$Figure;" ∈ wsX8_turn := (List.mem_cons_of_mem _ mw_317)
def w8_turn_b19 (Z : MS) (X : (Nat → MS)) (Q : Int32 → MS → (Nat → MS) → Prop) : Prop :=
  Q (-1 : Int32) Z X
set_option maxHeartbeats 4000000 in
set_option maxRecDepth 100000 in
theorem b8_turn_b19 {p : Program} {l : Launch} {e : Env} {s : State} {m : MethodId} {args : Array Value} {below : List Frame} {meth : Method} {c : Code} {D : va_G} {cy : Nat → ClassId} {A : Nat → Prop} {o : Nat} {qp oa : Nat → Nat} {qa : Nat → Nat → Nat} (Z : MS) (X : (Nat → MS)) {Q : Int32 → MS → (Nat → MS) → Prop} (C : Cx p s m args meth c cX8_turn 4 (some .int) wsX8_turn RX8 D cy nestWs A) (h : w8_turn_b19 Z X Q) {H : Heap} {locs : List Loc} (hG : GW D A s (wP o qp oa qa cy Z X) H locs) {ls : Array Slot} (hl : lv_has ls 4 [(0, .ref o)]) : W p l e ({ frames := 4, cells := 0, slots := 0, locals := 86 } : Room) s m args below meth c H locs 0 0 (MQ below (va_Qi (fun r z => Q r z.1 z.2) (B1 D (fun z : MS × (Nat → MS) => wP o qp oa qa cy z.1 z.2) A) A) args s 0 0 A) (F0 m 19 ls []) := by
  have hx := C.1
  have hb := C.2.1
  unfold w8_turn_b19 at h
  refine lv_iconst (v := -1) hx hb dX8_turn_19 (by decide) ?_
  exact retI (w := (fun z : MS × (Nat → MS) => wP o qp oa qa cy z.1 z.2)) (S := (Z, X)) (Qp := (fun r z => Q r z.1 z.2)) C hG h dX8_turn_20
def w8_turn (x1 : Int32) (x2 : Int32) (x3 : Int32) (Z : MS) (X : (Nat → MS)) (Q : Int32 → MS → (Nat → MS) → Prop) : Prop :=
  w8_isFigure x1 (fun r1 => ((r1 = 0 → w8_turn_b19 Z X Q) ∧ (¬ r1 = 0 → w8_isFigure x3 (fun r3 => ((r3 = 0 → w8_turn_b19 Z X Q) ∧ (¬ r3 = 0 → ((¬ x1 = x3 → vp_in x1 6 ∧ (0 ≤ (x1.toNatClampNeg) ∧ (x1.toNatClampNeg) < 6) ∧ w2_isThere (X (x1.toNatClampNeg)) (fun r7 => ((¬ r7 = 0 → vp_in x3 6 ∧ w0_turned (fJ (X (x1.toNatClampNeg)) 1) x2 (fun r14 => (0 ≤ (x3.toNatClampNeg) ∧ (x3.toNatClampNeg) < 6) ∧ w2_putPlain r14 (X (x3.toNatClampNeg)) (fun S16 => ∀ X17 : Nat → MS, X17 = (va_up X (x3.toNatClampNeg) S16) → Q (1 : Int32) Z X17))) ∧ (r7 = 0 → w8_refuse (1 : Int32) Z X (fun r18 S19 => Q r18 S19 X))))) ∧ (x1 = x3 → w8_turn_b19 Z X Q))))))))
set_option maxHeartbeats 4000000 in
set_option maxRecDepth 100000 in
theorem c8_turn (l : Launch) (D : va_G) (cy : Nat → ClassId)  (o : Nat) (qp oa : Nat → Nat) (qa : Nat → Nat → Nat) (x1 : Int32) (x2 : Int32) (x3 : Int32) (Z : MS) (X : (Nat → MS)) (Q : Int32 → MS → (Nat → MS) → Prop) (h : w8_turn x1 x2 x3 Z X Q) : MetI l yX8_turn wsX8_turn ({ frames := 4, cells := 0, slots := 0, locals := 86 } : Room) D cy nestWs (fun z : MS × (Nat → MS) => wP o qp oa qa cy z.1 z.2) [.ref o, .int x1, .int x2, .int x3] (Z, X) (fun r z => Q r z.1 z.2) := by
  refine MetI.mk RX8 cX8_turn 4 .int (by decide) rfl nestWs_ok rfl (Nat.le_of_ble_eq_true rfl) ?_
  intro p e s m below meth c A ls C hG hl
  have hl : lv_has ls 4 [(0, .ref o), (1, .int x1), (2, .int x2), (3, .int x3)] := hl
  have hx := C.1
  have hb := C.2.1
  unfold w8_turn at h
  refine lv_iload_n hx hb dX8_turn_0 rfl (lv_at hl 1 rfl) ?_
  refine callSI (As := [.int x1]) (rest := []) C hG (c8_isFigure l D cy x1 _ h) 1 gX8_turn_X8_isFigure rfl (by decide +kernel) ⟨⟨Nat.le_of_ble_eq_true rfl, Nat.le_of_ble_eq_true rfl⟩, rfl, rfl⟩ (Foc.none C.2.2.2.2.2.2.2.2.1) rfl hl.1 rfl (Nat.le_of_ble_eq_true rfl) dX8_turn_1 ⟨Nat.zero_le _, Nat.zero_le _⟩ (fun r1 z H locs h hG => ?_)
  refine lv_if_eq (tgt := 19) hx hb dX8_turn_4 (by decide) (fun c2 => ?_) (fun c2 => ?_)
  · replace h := h.1 c2
    exact b8_turn_b19 Z X C h hG (lv_sub hl [0] rfl)
  · replace h := h.2 c2
    refine lv_iload_n hx hb dX8_turn_7 rfl (lv_at hl 3 rfl) ?_
    refine callSI (As := [.int x3]) (rest := []) C hG (c8_isFigure l D cy x3 _ h) 1 gX8_turn_X8_isFigure rfl (by decide +kernel) ⟨⟨Nat.le_of_ble_eq_true rfl, Nat.le_of_ble_eq_true rfl⟩, rfl, rfl⟩ (Foc.none C.2.2.2.2.2.2.2.2.1) rfl hl.1 rfl (Nat.le_of_ble_eq_true rfl) dX8_turn_8 ⟨Nat.zero_le _, Nat.zero_le _⟩ (fun r3 z H locs h hG => ?_)
    refine lv_if_eq (tgt := 19) hx hb dX8_turn_11 (by decide) (fun c4 => ?_) (fun c4 => ?_)
    · replace h := h.1 c4
      exact b8_turn_b19 Z X C h hG (lv_sub hl [0] rfl)
    · replace h := h.2 c4
      refine lv_iload_n hx hb dX8_turn_14 rfl (lv_at hl 1 rfl) ?_
      refine lv_iload_n hx hb dX8_turn_15 rfl (lv_at hl 3 rfl) ?_
      refine lv_icmp_ne (tgt := 21) hx hb dX8_turn_16 (by decide) (fun c5 => ?_) (fun c5 => ?_)
      · replace h := h.1 c5
        refine lv_aload_n hx hb dX8_turn_21 rfl (lv_at hl 0 rfl) ?_
        refine gx_get C i8_turn_X8 hG 0 rfl rfl 0 (by decide) k8_turn_11 rfl dX8_turn_22 ?_
        refine lv_iload_n hx hb dX8_turn_25 rfl (lv_at hl 1 rfl) ?_
        obtain ⟨hv6, h⟩ := h
        refine gx_aald (C' := "PaperBodies$Figure") C hG 1 3 rfl rfl hv6 dX8_turn_26 ?_
        obtain ⟨hr8, h⟩ := h
        refine callVI (As := []) (rest := []) C hG (c2_isThere l D cy (oa (x1.toNatClampNeg)) (qa (x1.toNatClampNeg)) (X (x1.toNatClampNeg)) _ h) 0 gX8_turn_X2_isThere rfl (by decide +kernel) ⟨⟨Nat.le_of_ble_eq_true rfl, Nat.le_of_ble_eq_true rfl⟩, rfl, rfl⟩ rfl rfl (fo_2 C.2.2.2.2.2.2.2.2.1 (k0 := (x1.toNatClampNeg)) hr8) rfl hl.1 rfl (Nat.le_of_ble_eq_true rfl) dX8_turn_27 ⟨Nat.zero_le _, Nat.zero_le _⟩ (fun r7 u9 H locs h hG => ?_)
        obtain ⟨eu9, h⟩ := h
        have eu9 : u9 = (X (x1.toNatClampNeg)) := eu9
        subst u9
        have hG : GW D A s (wP o qp oa qa cy Z X) H locs := by
          have e9 : (va_up X (x1.toNatClampNeg) (X (x1.toNatClampNeg))) = X := by simp only [up_same]
          have hG : GW D A s (wP o qp oa qa cy Z (va_up X (x1.toNatClampNeg) (X (x1.toNatClampNeg)))) H locs := hG
          rw [e9] at hG
          exact hG
        refine lv_if_ne (tgt := 39) hx hb dX8_turn_30 (by decide) (fun c10 => ?_) (fun c10 => ?_)
        · replace h := h.1 c10
          refine lv_aload_n hx hb dX8_turn_39 rfl (lv_at hl 0 rfl) ?_
          refine gx_get C i8_turn_X8 hG 0 rfl rfl 0 (by decide) k8_turn_11 rfl dX8_turn_40 ?_
          refine lv_iload_n hx hb dX8_turn_43 rfl (lv_at hl 3 rfl) ?_
          obtain ⟨hv11, h⟩ := h
          refine gx_aald (C' := "PaperBodies$Figure") C hG 1 3 rfl rfl hv11 dX8_turn_44 ?_
          refine lv_aload_n hx hb dX8_turn_45 rfl (lv_at hl 0 rfl) ?_
          refine gx_get C i8_turn_X8 hG 0 rfl rfl 0 (by decide) k8_turn_11 rfl dX8_turn_46 ?_
          refine lv_iload_n hx hb dX8_turn_49 rfl (lv_at hl 1 rfl) ?_
          refine gx_aald (C' := "PaperBodies$Figure") C hG 1 3 rfl rfl hv6 dX8_turn_50 ?_
          obtain ⟨qq12, he13⟩ := at2 (o := o) (qp := qp) (oa := oa) (qa := qa) (cy := cy) (Z := Z) (X := X) (k := (x1.toNatClampNeg)) hr8
          refine gx_getN (host := "PaperBodies") C i8_turn_X2 hG qq12 he13 rfl 1 (by decide) (by decide +kernel) rfl dX8_turn_51 ?_
          refine lv_iload_n hx hb dX8_turn_54 rfl (lv_at hl 2 rfl) ?_
          refine callSL (As := [.long (fJ (X (x1.toNatClampNeg)) 1), .int x2]) (rest := [.ref (oa (x3.toNatClampNeg))]) C hG (c0_turned l D cy (fJ (X (x1.toNatClampNeg)) 1) x2 _ h) 2 gX8_turn_X0_turned rfl (by decide +kernel) ⟨⟨Nat.le_of_ble_eq_true rfl, Nat.le_of_ble_eq_true rfl⟩, rfl, rfl⟩ (Foc.none C.2.2.2.2.2.2.2.2.1) rfl hl.1 rfl (Nat.le_of_ble_eq_true rfl) dX8_turn_55 ⟨Nat.zero_le _, Nat.zero_le _⟩ (fun r14 z H locs h hG => ?_)
          obtain ⟨hr15, h⟩ := h
          refine callVV (As := [.long r14]) (rest := []) C hG (c2_putPlain l D cy (oa (x3.toNatClampNeg)) (qa (x3.toNatClampNeg)) r14 (X (x3.toNatClampNeg)) _ h) 1 gX8_turn_X2_putPlain rfl (by decide +kernel) ⟨⟨Nat.le_of_ble_eq_true rfl, Nat.le_of_ble_eq_true rfl⟩, rfl, rfl⟩ rfl rfl (fo_2 C.2.2.2.2.2.2.2.2.1 (k0 := (x3.toNatClampNeg)) hr15) rfl hl.1 rfl (Nat.le_of_ble_eq_true rfl) dX8_turn_58 ⟨Nat.zero_le _, Nat.zero_le _⟩ (fun  S16 H locs h hG => ?_)
          obtain ⟨X17, eX17⟩ : ∃ z : Nat → MS, z = (va_up X (x3.toNatClampNeg) S16) := ⟨_, rfl⟩
          have hG : GW D A s (wP o qp oa qa cy Z X17) H locs := by rw [eX17]; exact hG
          replace h := h X17 eX17
          refine lv_iconst (v := 1) hx hb dX8_turn_61 (by decide) ?_
          exact retI (w := (fun z : MS × (Nat → MS) => wP o qp oa qa cy z.1 z.2)) (S := (Z, X17)) (Qp := (fun r z => Q r z.1 z.2)) C hG h dX8_turn_62
        · replace h := h.2 c10
          refine lv_aload_n hx hb dX8_turn_33 rfl (lv_at hl 0 rfl) ?_
          refine lv_iconst (v := 1) hx hb dX8_turn_34 (by decide) ?_
          refine callVI (As := [.int (1 : Int32)]) (rest := []) C hG (c8_refuse l D cy o qp oa qa (1 : Int32) Z X _ h) 1 gX8_turn_X8_refuse rfl (by decide +kernel) ⟨⟨Nat.le_of_ble_eq_true rfl, Nat.le_of_ble_eq_true rfl⟩, rfl, rfl⟩ rfl rfl (Foc.all (w' := (fun z : MS × (Nat → MS) => wP o qp oa qa cy z.1 z.2)) (S' := (Z, X)) C.2.2.2.2.2.2.2.2.1) rfl hl.1 rfl (Nat.le_of_ble_eq_true rfl) dX8_turn_35 ⟨Nat.zero_le _, Nat.zero_le _⟩ (fun r18 z H locs h hG => ?_)
          obtain ⟨S19, u20⟩ := z
          obtain ⟨eu20, h⟩ := h
          have eu20 : u20 = X := eu20
          replace h := h
          subst u20
          have hG : GW D A s (wP o qp oa qa cy S19 X) H locs := hG
          exact retI (w := (fun z : MS × (Nat → MS) => wP o qp oa qa cy z.1 z.2)) (S := (S19, X)) (Qp := (fun r z => Q r z.1 z.2)) C hG h dX8_turn_38
      · replace h := h.2 c5
        exact b8_turn_b19 Z X C h hG (lv_sub hl [0] rfl)
-- X8_alike
theorem i8_alike_X8 : ∀ w ∈ wsX80, w ∈ wsX8_alike := fun w h => List.mem_cons_of_mem _ (inG_X8 w h)
theorem i8_alike_X2 : ∀ w ∈ wsX20, w ∈ wsX8_alike := fun w h => List.mem_cons_of_mem _ (inG_X2 w h)
theorem k8_alike_11 : Cond.fieldLink RX8 11 "PaperBodies" "figures" "[LPaperBodies$Figure;" ∈ wsX8_alike := (List.mem_cons_of_mem _ mw_317)
def w8_alike_b75 (t0 : Int32) (Z : MS) (X : (Nat → MS)) (Q : Int32 → MS → Prop) : Prop :=
  Q t0 Z
set_option maxHeartbeats 4000000 in
set_option maxRecDepth 100000 in
theorem b8_alike_b75 {p : Program} {l : Launch} {e : Env} {s : State} {m : MethodId} {args : Array Value} {below : List Frame} {meth : Method} {c : Code} {D : va_G} {cy : Nat → ClassId} {A : Nat → Prop} {o : Nat} {qp oa : Nat → Nat} {qa : Nat → Nat → Nat} (t0 : Int32) (Z : MS) (X : (Nat → MS)) {Q : Int32 → MS → Prop} (C : Cx p s m args meth c cX8_alike 3 (some .int) wsX8_alike RX8 D cy nestWs A) (h : w8_alike_b75 t0 Z X Q) {H : Heap} {locs : List Loc} (hG : GW D A s (wP o qp oa qa cy Z X) H locs) {ls : Array Slot} (hl : lv_has ls 3 [(0, .ref o)]) : W p l e ({ frames := 3, cells := 0, slots := 0, locals := 80 } : Room) s m args below meth c H locs 0 0 (MQ below (va_Qi (fun r z => z.2 = X ∧ Q r z.1) (B1 D (fun z : MS × (Nat → MS) => wP o qp oa qa cy z.1 z.2) A) A) args s 0 0 A) (F0 m 75 ls [.int t0]) := by
  have hx := C.1
  have hb := C.2.1
  unfold w8_alike_b75 at h
  exact retI (w := (fun z : MS × (Nat → MS) => wP o qp oa qa cy z.1 z.2)) (S := (Z, X)) (Qp := (fun r z => z.2 = X ∧ Q r z.1)) C hG ⟨rfl, h⟩ dX8_alike_75
def w8_alike_b40 (Z : MS) (X : (Nat → MS)) (Q : Int32 → MS → Prop) : Prop :=
  w8_refuse (1 : Int32) Z X (fun r1 S2 => Q r1 S2)
set_option maxHeartbeats 4000000 in
set_option maxRecDepth 100000 in
theorem b8_alike_b40 {p : Program} {l : Launch} {e : Env} {s : State} {m : MethodId} {args : Array Value} {below : List Frame} {meth : Method} {c : Code} {D : va_G} {cy : Nat → ClassId} {A : Nat → Prop} {o : Nat} {qp oa : Nat → Nat} {qa : Nat → Nat → Nat} (Z : MS) (X : (Nat → MS)) {Q : Int32 → MS → Prop} (C : Cx p s m args meth c cX8_alike 3 (some .int) wsX8_alike RX8 D cy nestWs A) (h : w8_alike_b40 Z X Q) {H : Heap} {locs : List Loc} (hG : GW D A s (wP o qp oa qa cy Z X) H locs) {ls : Array Slot} (hl : lv_has ls 3 [(0, .ref o)]) : W p l e ({ frames := 3, cells := 0, slots := 0, locals := 80 } : Room) s m args below meth c H locs 0 0 (MQ below (va_Qi (fun r z => z.2 = X ∧ Q r z.1) (B1 D (fun z : MS × (Nat → MS) => wP o qp oa qa cy z.1 z.2) A) A) args s 0 0 A) (F0 m 40 ls []) := by
  have hx := C.1
  have hb := C.2.1
  unfold w8_alike_b40 at h
  refine lv_aload_n hx hb dX8_alike_40 rfl (lv_at hl 0 rfl) ?_
  refine lv_iconst (v := 1) hx hb dX8_alike_41 (by decide) ?_
  refine callVI (As := [.int (1 : Int32)]) (rest := []) C hG (c8_refuse l D cy o qp oa qa (1 : Int32) Z X _ h) 1 gX8_alike_X8_refuse rfl (by decide +kernel) ⟨⟨Nat.le_of_ble_eq_true rfl, Nat.le_of_ble_eq_true rfl⟩, rfl, rfl⟩ rfl rfl (Foc.all (w' := (fun z : MS × (Nat → MS) => wP o qp oa qa cy z.1 z.2)) (S' := (Z, X)) C.2.2.2.2.2.2.2.2.1) rfl hl.1 rfl (Nat.le_of_ble_eq_true rfl) dX8_alike_42 ⟨Nat.zero_le _, Nat.zero_le _⟩ (fun r1 z H locs h hG => ?_)
  obtain ⟨S2, u3⟩ := z
  obtain ⟨eu3, h⟩ := h
  have eu3 : u3 = X := eu3
  replace h := h
  subst u3
  have hG : GW D A s (wP o qp oa qa cy S2 X) H locs := hG
  exact retI (w := (fun z : MS × (Nat → MS) => wP o qp oa qa cy z.1 z.2)) (S := (S2, X)) (Qp := (fun r z => z.2 = X ∧ Q r z.1)) C hG ⟨rfl, h⟩ dX8_alike_45
def w8_alike_b14 (Z : MS) (X : (Nat → MS)) (Q : Int32 → MS → Prop) : Prop :=
  Q (-1 : Int32) Z
set_option maxHeartbeats 4000000 in
set_option maxRecDepth 100000 in
theorem b8_alike_b14 {p : Program} {l : Launch} {e : Env} {s : State} {m : MethodId} {args : Array Value} {below : List Frame} {meth : Method} {c : Code} {D : va_G} {cy : Nat → ClassId} {A : Nat → Prop} {o : Nat} {qp oa : Nat → Nat} {qa : Nat → Nat → Nat} (Z : MS) (X : (Nat → MS)) {Q : Int32 → MS → Prop} (C : Cx p s m args meth c cX8_alike 3 (some .int) wsX8_alike RX8 D cy nestWs A) (h : w8_alike_b14 Z X Q) {H : Heap} {locs : List Loc} (hG : GW D A s (wP o qp oa qa cy Z X) H locs) {ls : Array Slot} (hl : lv_has ls 3 [(0, .ref o)]) : W p l e ({ frames := 3, cells := 0, slots := 0, locals := 80 } : Room) s m args below meth c H locs 0 0 (MQ below (va_Qi (fun r z => z.2 = X ∧ Q r z.1) (B1 D (fun z : MS × (Nat → MS) => wP o qp oa qa cy z.1 z.2) A) A) args s 0 0 A) (F0 m 14 ls []) := by
  have hx := C.1
  have hb := C.2.1
  unfold w8_alike_b14 at h
  refine lv_iconst (v := -1) hx hb dX8_alike_14 (by decide) ?_
  exact retI (w := (fun z : MS × (Nat → MS) => wP o qp oa qa cy z.1 z.2)) (S := (Z, X)) (Qp := (fun r z => z.2 = X ∧ Q r z.1)) C hG ⟨rfl, h⟩ dX8_alike_15
def w8_alike (x1 : Int32) (x2 : Int32) (Z : MS) (X : (Nat → MS)) (Q : Int32 → MS → Prop) : Prop :=
  w8_isFigure x1 (fun r1 => ((r1 = 0 → w8_alike_b14 Z X Q) ∧ (¬ r1 = 0 → w8_isFigure x2 (fun r3 => ((¬ r3 = 0 → vp_in x1 6 ∧ (0 ≤ (x1.toNatClampNeg) ∧ (x1.toNatClampNeg) < 6) ∧ w2_isThere (X (x1.toNatClampNeg)) (fun r6 => ((r6 = 0 → w8_alike_b40 Z X Q) ∧ (¬ r6 = 0 → vp_in x2 6 ∧ (0 ≤ (x2.toNatClampNeg) ∧ (x2.toNatClampNeg) < 6) ∧ w2_isThere (X (x2.toNatClampNeg)) (fun r11 => ((¬ r11 = 0 → w0_areAlike (fJ (X (x1.toNatClampNeg)) 1) (fJ (X (x2.toNatClampNeg)) 1) (fun r19 => ((r19 = 0 → w8_alike_b75 (0 : Int32) Z X Q) ∧ (¬ r19 = 0 → w8_alike_b75 (1 : Int32) Z X Q)))) ∧ (r11 = 0 → w8_alike_b40 Z X Q))))))) ∧ (r3 = 0 → w8_alike_b14 Z X Q))))))
set_option maxHeartbeats 4000000 in
set_option maxRecDepth 100000 in
theorem c8_alike (l : Launch) (D : va_G) (cy : Nat → ClassId)  (o : Nat) (qp oa : Nat → Nat) (qa : Nat → Nat → Nat) (x1 : Int32) (x2 : Int32) (Z : MS) (X : (Nat → MS)) (Q : Int32 → MS → Prop) (h : w8_alike x1 x2 Z X Q) : MetI l yX8_alike wsX8_alike ({ frames := 3, cells := 0, slots := 0, locals := 80 } : Room) D cy nestWs (fun z : MS × (Nat → MS) => wP o qp oa qa cy z.1 z.2) [.ref o, .int x1, .int x2] (Z, X) (fun r z => z.2 = X ∧ Q r z.1) := by
  refine MetI.mk RX8 cX8_alike 3 .int (by decide) rfl nestWs_ok rfl (Nat.le_of_ble_eq_true rfl) ?_
  intro p e s m below meth c A ls C hG hl
  have hl : lv_has ls 3 [(0, .ref o), (1, .int x1), (2, .int x2)] := hl
  have hx := C.1
  have hb := C.2.1
  unfold w8_alike at h
  refine lv_iload_n hx hb dX8_alike_0 rfl (lv_at hl 1 rfl) ?_
  refine callSI (As := [.int x1]) (rest := []) C hG (c8_isFigure l D cy x1 _ h) 1 gX8_alike_X8_isFigure rfl (by decide +kernel) ⟨⟨Nat.le_of_ble_eq_true rfl, Nat.le_of_ble_eq_true rfl⟩, rfl, rfl⟩ (Foc.none C.2.2.2.2.2.2.2.2.1) rfl hl.1 rfl (Nat.le_of_ble_eq_true rfl) dX8_alike_1 ⟨Nat.zero_le _, Nat.zero_le _⟩ (fun r1 z H locs h hG => ?_)
  refine lv_if_eq (tgt := 14) hx hb dX8_alike_4 (by decide) (fun c2 => ?_) (fun c2 => ?_)
  · replace h := h.1 c2
    exact b8_alike_b14 Z X C h hG (lv_sub hl [0] rfl)
  · replace h := h.2 c2
    refine lv_iload_n hx hb dX8_alike_7 rfl (lv_at hl 2 rfl) ?_
    refine callSI (As := [.int x2]) (rest := []) C hG (c8_isFigure l D cy x2 _ h) 1 gX8_alike_X8_isFigure rfl (by decide +kernel) ⟨⟨Nat.le_of_ble_eq_true rfl, Nat.le_of_ble_eq_true rfl⟩, rfl, rfl⟩ (Foc.none C.2.2.2.2.2.2.2.2.1) rfl hl.1 rfl (Nat.le_of_ble_eq_true rfl) dX8_alike_8 ⟨Nat.zero_le _, Nat.zero_le _⟩ (fun r3 z H locs h hG => ?_)
    refine lv_if_ne (tgt := 16) hx hb dX8_alike_11 (by decide) (fun c4 => ?_) (fun c4 => ?_)
    · replace h := h.1 c4
      refine lv_aload_n hx hb dX8_alike_16 rfl (lv_at hl 0 rfl) ?_
      refine gx_get C i8_alike_X8 hG 0 rfl rfl 0 (by decide) k8_alike_11 rfl dX8_alike_17 ?_
      refine lv_iload_n hx hb dX8_alike_20 rfl (lv_at hl 1 rfl) ?_
      obtain ⟨hv5, h⟩ := h
      refine gx_aald (C' := "PaperBodies$Figure") C hG 1 3 rfl rfl hv5 dX8_alike_21 ?_
      obtain ⟨hr7, h⟩ := h
      refine callVI (As := []) (rest := []) C hG (c2_isThere l D cy (oa (x1.toNatClampNeg)) (qa (x1.toNatClampNeg)) (X (x1.toNatClampNeg)) _ h) 0 gX8_alike_X2_isThere rfl (by decide +kernel) ⟨⟨Nat.le_of_ble_eq_true rfl, Nat.le_of_ble_eq_true rfl⟩, rfl, rfl⟩ rfl rfl (fo_2 C.2.2.2.2.2.2.2.2.1 (k0 := (x1.toNatClampNeg)) hr7) rfl hl.1 rfl (Nat.le_of_ble_eq_true rfl) dX8_alike_22 ⟨Nat.zero_le _, Nat.zero_le _⟩ (fun r6 u8 H locs h hG => ?_)
      obtain ⟨eu8, h⟩ := h
      have eu8 : u8 = (X (x1.toNatClampNeg)) := eu8
      subst u8
      have hG : GW D A s (wP o qp oa qa cy Z X) H locs := by
        have e9 : (va_up X (x1.toNatClampNeg) (X (x1.toNatClampNeg))) = X := by simp only [up_same]
        have hG : GW D A s (wP o qp oa qa cy Z (va_up X (x1.toNatClampNeg) (X (x1.toNatClampNeg)))) H locs := hG
        rw [e9] at hG
        exact hG
      refine lv_if_eq (tgt := 40) hx hb dX8_alike_25 (by decide) (fun c9 => ?_) (fun c9 => ?_)
      · replace h := h.1 c9
        exact b8_alike_b40 Z X C h hG (lv_sub hl [0] rfl)
      · replace h := h.2 c9
        refine lv_aload_n hx hb dX8_alike_28 rfl (lv_at hl 0 rfl) ?_
        refine gx_get C i8_alike_X8 hG 0 rfl rfl 0 (by decide) k8_alike_11 rfl dX8_alike_29 ?_
        refine lv_iload_n hx hb dX8_alike_32 rfl (lv_at hl 2 rfl) ?_
        obtain ⟨hv10, h⟩ := h
        refine gx_aald (C' := "PaperBodies$Figure") C hG 1 3 rfl rfl hv10 dX8_alike_33 ?_
        obtain ⟨hr12, h⟩ := h
        refine callVI (As := []) (rest := []) C hG (c2_isThere l D cy (oa (x2.toNatClampNeg)) (qa (x2.toNatClampNeg)) (X (x2.toNatClampNeg)) _ h) 0 gX8_alike_X2_isThere rfl (by decide +kernel) ⟨⟨Nat.le_of_ble_eq_true rfl, Nat.le_of_ble_eq_true rfl⟩, rfl, rfl⟩ rfl rfl (fo_2 C.2.2.2.2.2.2.2.2.1 (k0 := (x2.toNatClampNeg)) hr12) rfl hl.1 rfl (Nat.le_of_ble_eq_true rfl) dX8_alike_34 ⟨Nat.zero_le _, Nat.zero_le _⟩ (fun r11 u13 H locs h hG => ?_)
        obtain ⟨eu13, h⟩ := h
        have eu13 : u13 = (X (x2.toNatClampNeg)) := eu13
        subst u13
        have hG : GW D A s (wP o qp oa qa cy Z X) H locs := by
          have e9 : (va_up X (x2.toNatClampNeg) (X (x2.toNatClampNeg))) = X := by simp only [up_same]
          have hG : GW D A s (wP o qp oa qa cy Z (va_up X (x2.toNatClampNeg) (X (x2.toNatClampNeg)))) H locs := hG
          rw [e9] at hG
          exact hG
        refine lv_if_ne (tgt := 46) hx hb dX8_alike_37 (by decide) (fun c14 => ?_) (fun c14 => ?_)
        · replace h := h.1 c14
          refine lv_aload_n hx hb dX8_alike_46 rfl (lv_at hl 0 rfl) ?_
          refine gx_get C i8_alike_X8 hG 0 rfl rfl 0 (by decide) k8_alike_11 rfl dX8_alike_47 ?_
          refine lv_iload_n hx hb dX8_alike_50 rfl (lv_at hl 1 rfl) ?_
          refine gx_aald (C' := "PaperBodies$Figure") C hG 1 3 rfl rfl hv5 dX8_alike_51 ?_
          obtain ⟨qq15, he16⟩ := at2 (o := o) (qp := qp) (oa := oa) (qa := qa) (cy := cy) (Z := Z) (X := X) (k := (x1.toNatClampNeg)) hr7
          refine gx_getN (host := "PaperBodies") C i8_alike_X2 hG qq15 he16 rfl 1 (by decide) (by decide +kernel) rfl dX8_alike_52 ?_
          refine lv_aload_n hx hb dX8_alike_55 rfl (lv_at hl 0 rfl) ?_
          refine gx_get C i8_alike_X8 hG 0 rfl rfl 0 (by decide) k8_alike_11 rfl dX8_alike_56 ?_
          refine lv_iload_n hx hb dX8_alike_59 rfl (lv_at hl 2 rfl) ?_
          refine gx_aald (C' := "PaperBodies$Figure") C hG 1 3 rfl rfl hv10 dX8_alike_60 ?_
          obtain ⟨qq17, he18⟩ := at2 (o := o) (qp := qp) (oa := oa) (qa := qa) (cy := cy) (Z := Z) (X := X) (k := (x2.toNatClampNeg)) hr12
          refine gx_getN (host := "PaperBodies") C i8_alike_X2 hG qq17 he18 rfl 1 (by decide) (by decide +kernel) rfl dX8_alike_61 ?_
          refine callSI (As := [.long (fJ (X (x1.toNatClampNeg)) 1), .long (fJ (X (x2.toNatClampNeg)) 1)]) (rest := []) C hG (c0_areAlike l D cy (fJ (X (x1.toNatClampNeg)) 1) (fJ (X (x2.toNatClampNeg)) 1) _ h) 2 gX8_alike_X0_areAlike rfl (by decide +kernel) ⟨⟨Nat.le_of_ble_eq_true rfl, Nat.le_of_ble_eq_true rfl⟩, rfl, rfl⟩ (Foc.none C.2.2.2.2.2.2.2.2.1) rfl hl.1 rfl (Nat.le_of_ble_eq_true rfl) dX8_alike_64 ⟨Nat.zero_le _, Nat.zero_le _⟩ (fun r19 z H locs h hG => ?_)
          refine lv_if_eq (tgt := 74) hx hb dX8_alike_67 (by decide) (fun c20 => ?_) (fun c20 => ?_)
          · replace h := h.1 c20
            refine lv_iconst (v := 0) hx hb dX8_alike_74 (by decide) ?_
            exact b8_alike_b75 (0 : Int32) Z X C h hG (lv_sub hl [0] rfl)
          · replace h := h.2 c20
            refine lv_iconst (v := 1) hx hb dX8_alike_70 (by decide) ?_
            refine lv_goto (tgt := 75) hx hb dX8_alike_71 (by decide) ?_
            exact b8_alike_b75 (1 : Int32) Z X C h hG (lv_sub hl [0] rfl)
        · replace h := h.2 c14
          exact b8_alike_b40 Z X C h hG (lv_sub hl [0] rfl)
    · replace h := h.2 c4
      exact b8_alike_b14 Z X C h hG (lv_sub hl [0] rfl)
