-- X8_count
def w8_count (x1 : Int32) (Z : MS) (X : (Nat → MS)) (Q : Int32 → Prop) : Prop :=
  ((x1 = 0 → w8_figuresThere Z X (fun r2 => Q r2)) ∧ (x1 = 1 → w8_squaresInAll Z X (fun r5 => Q r5)) ∧ (x1 = 2 → w8_boxesThere Z X (fun r8 => Q r8)) ∧ (x1 = 3 → w8_cellsInAll Z X (fun r11 => Q r11)) ∧ (x1 = 4 → w8_rowsThere Z X (fun r14 => Q r14)) ∧ (¬ x1 = 0 → ¬ x1 = 1 → ¬ x1 = 2 → ¬ x1 = 3 → ¬ x1 = 4 → Q (-1 : Int32)))
set_option maxHeartbeats 4000000 in
set_option maxRecDepth 100000 in
theorem c8_count (l : Launch) (D : va_G) (cy : Nat → ClassId)  (o : Nat) (qp oa : Nat → Nat) (qa : Nat → Nat → Nat) (x1 : Int32) (Z : MS) (X : (Nat → MS)) (Q : Int32 → Prop) (h : w8_count x1 Z X Q) : MetI l yX8_count wsX8_count ({ frames := 2, cells := 0, slots := 0, locals := 43 } : Room) D cy nestWs (fun z : MS × (Nat → MS) => wP o qp oa qa cy z.1 z.2) [.ref o, .int x1] (Z, X) (fun r z => z.1 = Z ∧ z.2 = X ∧ Q r ) := by
  refine MetI.mk RX8 cX8_count 2 .int (by decide) rfl nestWs_ok rfl (Nat.le_of_ble_eq_true rfl) ?_
  intro p e s m below meth c A ls C hG hl
  have hl : lv_has ls 2 [(0, .ref o), (1, .int x1)] := hl
  have hx := C.1
  have hb := C.2.1
  unfold w8_count at h
  refine lv_iload_n hx hb dX8_count_0 rfl (lv_at hl 1 rfl) ?_
  by_cases c1_0 : x1 = 0
  · replace h := h.1 c1_0
    refine lv_tableIn (tgt := 36) hx hb dX8_count_1 (by rw [c1_0]; decide) (by rw [c1_0]; decide) (by rw [c1_0]; rfl) (by decide) ?_
    refine lv_aload_n hx hb dX8_count_36 rfl (lv_at hl 0 rfl) ?_
    refine callVI (As := []) (rest := []) C hG (c8_figuresThere l D cy o qp oa qa Z X _ h) 0 gX8_count_X8_figuresThere rfl (by decide +kernel) ⟨⟨Nat.le_of_ble_eq_true rfl, Nat.le_of_ble_eq_true rfl⟩, rfl, rfl⟩ rfl rfl (Foc.all (w' := (fun z : MS × (Nat → MS) => wP o qp oa qa cy z.1 z.2)) (S' := (Z, X)) C.2.2.2.2.2.2.2.2.1) rfl hl.1 rfl (Nat.le_of_ble_eq_true rfl) dX8_count_37 ⟨Nat.zero_le _, Nat.zero_le _⟩ (fun r2 z H locs h hG => ?_)
    obtain ⟨u3, u4⟩ := z
    obtain ⟨eu3, h⟩ := h
    have eu3 : u3 = Z := eu3
    obtain ⟨eu4, h⟩ := h
    have eu4 : u4 = X := eu4
    replace h := h
    subst u3
    subst u4
    have hG : GW D A s (wP o qp oa qa cy Z X) H locs := hG
    exact retI (w := (fun z : MS × (Nat → MS) => wP o qp oa qa cy z.1 z.2)) (S := (Z, X)) (Qp := (fun r z => z.1 = Z ∧ z.2 = X ∧ Q r )) C hG ⟨rfl, rfl, h⟩ dX8_count_40
  by_cases c1_1 : x1 = 1
  · replace h := h.2.1 c1_1
    refine lv_tableIn (tgt := 41) hx hb dX8_count_1 (by rw [c1_1]; decide) (by rw [c1_1]; decide) (by rw [c1_1]; rfl) (by decide) ?_
    refine lv_aload_n hx hb dX8_count_41 rfl (lv_at hl 0 rfl) ?_
    refine callVI (As := []) (rest := []) C hG (c8_squaresInAll l D cy o qp oa qa Z X _ h) 0 gX8_count_X8_squaresInAll rfl (by decide +kernel) ⟨⟨Nat.le_of_ble_eq_true rfl, Nat.le_of_ble_eq_true rfl⟩, rfl, rfl⟩ rfl rfl (Foc.all (w' := (fun z : MS × (Nat → MS) => wP o qp oa qa cy z.1 z.2)) (S' := (Z, X)) C.2.2.2.2.2.2.2.2.1) rfl hl.1 rfl (Nat.le_of_ble_eq_true rfl) dX8_count_42 ⟨Nat.zero_le _, Nat.zero_le _⟩ (fun r5 z H locs h hG => ?_)
    obtain ⟨u6, u7⟩ := z
    obtain ⟨eu6, h⟩ := h
    have eu6 : u6 = Z := eu6
    obtain ⟨eu7, h⟩ := h
    have eu7 : u7 = X := eu7
    replace h := h
    subst u6
    subst u7
    have hG : GW D A s (wP o qp oa qa cy Z X) H locs := hG
    exact retI (w := (fun z : MS × (Nat → MS) => wP o qp oa qa cy z.1 z.2)) (S := (Z, X)) (Qp := (fun r z => z.1 = Z ∧ z.2 = X ∧ Q r )) C hG ⟨rfl, rfl, h⟩ dX8_count_45
  by_cases c1_2 : x1 = 2
  · replace h := h.2.2.1 c1_2
    refine lv_tableIn (tgt := 46) hx hb dX8_count_1 (by rw [c1_2]; decide) (by rw [c1_2]; decide) (by rw [c1_2]; rfl) (by decide) ?_
    refine lv_aload_n hx hb dX8_count_46 rfl (lv_at hl 0 rfl) ?_
    refine callVI (As := []) (rest := []) C hG (c8_boxesThere l D cy o qp oa qa Z X _ h) 0 gX8_count_X8_boxesThere rfl (by decide +kernel) ⟨⟨Nat.le_of_ble_eq_true rfl, Nat.le_of_ble_eq_true rfl⟩, rfl, rfl⟩ rfl rfl (Foc.all (w' := (fun z : MS × (Nat → MS) => wP o qp oa qa cy z.1 z.2)) (S' := (Z, X)) C.2.2.2.2.2.2.2.2.1) rfl hl.1 rfl (Nat.le_of_ble_eq_true rfl) dX8_count_47 ⟨Nat.zero_le _, Nat.zero_le _⟩ (fun r8 z H locs h hG => ?_)
    obtain ⟨u9, u10⟩ := z
    obtain ⟨eu9, h⟩ := h
    have eu9 : u9 = Z := eu9
    obtain ⟨eu10, h⟩ := h
    have eu10 : u10 = X := eu10
    replace h := h
    subst u9
    subst u10
    have hG : GW D A s (wP o qp oa qa cy Z X) H locs := hG
    exact retI (w := (fun z : MS × (Nat → MS) => wP o qp oa qa cy z.1 z.2)) (S := (Z, X)) (Qp := (fun r z => z.1 = Z ∧ z.2 = X ∧ Q r )) C hG ⟨rfl, rfl, h⟩ dX8_count_50
  by_cases c1_3 : x1 = 3
  · replace h := h.2.2.2.1 c1_3
    refine lv_tableIn (tgt := 51) hx hb dX8_count_1 (by rw [c1_3]; decide) (by rw [c1_3]; decide) (by rw [c1_3]; rfl) (by decide) ?_
    refine lv_aload_n hx hb dX8_count_51 rfl (lv_at hl 0 rfl) ?_
    refine callVI (As := []) (rest := []) C hG (c8_cellsInAll l D cy o qp oa qa Z X _ h) 0 gX8_count_X8_cellsInAll rfl (by decide +kernel) ⟨⟨Nat.le_of_ble_eq_true rfl, Nat.le_of_ble_eq_true rfl⟩, rfl, rfl⟩ rfl rfl (Foc.all (w' := (fun z : MS × (Nat → MS) => wP o qp oa qa cy z.1 z.2)) (S' := (Z, X)) C.2.2.2.2.2.2.2.2.1) rfl hl.1 rfl (Nat.le_of_ble_eq_true rfl) dX8_count_52 ⟨Nat.zero_le _, Nat.zero_le _⟩ (fun r11 z H locs h hG => ?_)
    obtain ⟨u12, u13⟩ := z
    obtain ⟨eu12, h⟩ := h
    have eu12 : u12 = Z := eu12
    obtain ⟨eu13, h⟩ := h
    have eu13 : u13 = X := eu13
    replace h := h
    subst u12
    subst u13
    have hG : GW D A s (wP o qp oa qa cy Z X) H locs := hG
    exact retI (w := (fun z : MS × (Nat → MS) => wP o qp oa qa cy z.1 z.2)) (S := (Z, X)) (Qp := (fun r z => z.1 = Z ∧ z.2 = X ∧ Q r )) C hG ⟨rfl, rfl, h⟩ dX8_count_55
  by_cases c1_4 : x1 = 4
  · replace h := h.2.2.2.2.1 c1_4
    refine lv_tableIn (tgt := 56) hx hb dX8_count_1 (by rw [c1_4]; decide) (by rw [c1_4]; decide) (by rw [c1_4]; rfl) (by decide) ?_
    refine lv_aload_n hx hb dX8_count_56 rfl (lv_at hl 0 rfl) ?_
    refine callVI (As := []) (rest := []) C hG (c8_rowsThere l D cy o qp oa qa Z X _ h) 0 gX8_count_X8_rowsThere rfl (by decide +kernel) ⟨⟨Nat.le_of_ble_eq_true rfl, Nat.le_of_ble_eq_true rfl⟩, rfl, rfl⟩ rfl rfl (Foc.all (w' := (fun z : MS × (Nat → MS) => wP o qp oa qa cy z.1 z.2)) (S' := (Z, X)) C.2.2.2.2.2.2.2.2.1) rfl hl.1 rfl (Nat.le_of_ble_eq_true rfl) dX8_count_57 ⟨Nat.zero_le _, Nat.zero_le _⟩ (fun r14 z H locs h hG => ?_)
    obtain ⟨u15, u16⟩ := z
    obtain ⟨eu15, h⟩ := h
    have eu15 : u15 = Z := eu15
    obtain ⟨eu16, h⟩ := h
    have eu16 : u16 = X := eu16
    replace h := h
    subst u15
    subst u16
    have hG : GW D A s (wP o qp oa qa cy Z X) H locs := hG
    exact retI (w := (fun z : MS × (Nat → MS) => wP o qp oa qa cy z.1 z.2)) (S := (Z, X)) (Qp := (fun r z => z.1 = Z ∧ z.2 = X ∧ Q r )) C hG ⟨rfl, rfl, h⟩ dX8_count_60
  replace h := h.2.2.2.2.2 c1_0 c1_1 c1_2 c1_3 c1_4
  refine lv_tableOut (tgt := 61) hx hb dX8_count_1 (sw_out 0 5 (by decide) (fun j hj => by rcases (show j = 0 ∨ j = 1 ∨ j = 2 ∨ j = 3 ∨ j = 4 by omega) with rfl | rfl | rfl | rfl | rfl <;> first | exact c1_0 | exact c1_1 | exact c1_2 | exact c1_3 | exact c1_4)) (by decide) ?_
  refine lv_iconst (v := -1) hx hb dX8_count_61 (by decide) ?_
  exact retI (w := (fun z : MS × (Nat → MS) => wP o qp oa qa cy z.1 z.2)) (S := (Z, X)) (Qp := (fun r z => z.1 = Z ∧ z.2 = X ∧ Q r )) C hG ⟨rfl, rfl, h⟩ dX8_count_62
-- X8_finding
theorem i8_finding_X8 : ∀ w ∈ wsX80, w ∈ wsX8_finding := fun w h => List.mem_cons_of_mem _ (inG_X8 w h)
theorem k8_finding_300 : Cond.fieldLink RX8 300 "PaperBodies" "latestFinding" "I" ∈ wsX8_finding := (List.mem_cons_of_mem _ mw_363)
def w8_finding (Z : MS) (X : (Nat → MS)) (Q : Int32 → Prop) : Prop :=
  Q (fI Z 10)
set_option maxHeartbeats 4000000 in
set_option maxRecDepth 100000 in
theorem c8_finding (l : Launch) (D : va_G) (cy : Nat → ClassId)  (o : Nat) (qp oa : Nat → Nat) (qa : Nat → Nat → Nat) (Z : MS) (X : (Nat → MS)) (Q : Int32 → Prop) (h : w8_finding Z X Q) : MetI l yX8_finding wsX8_finding ({ frames := 0, cells := 0, slots := 0, locals := 0 } : Room) D cy nestWs (fun z : MS × (Nat → MS) => wP o qp oa qa cy z.1 z.2) [.ref o] (Z, X) (fun r z => z.1 = Z ∧ z.2 = X ∧ Q r ) := by
  refine MetI.mk RX8 cX8_finding 1 .int (by decide) rfl nestWs_ok rfl (Nat.le_of_ble_eq_true rfl) ?_
  intro p e s m below meth c A ls C hG hl
  have hl : lv_has ls 1 [(0, .ref o)] := hl
  have hx := C.1
  have hb := C.2.1
  unfold w8_finding at h
  refine lv_aload_n hx hb dX8_finding_0 rfl (lv_at hl 0 rfl) ?_
  refine gx_get C i8_finding_X8 hG 0 rfl rfl 10 (by decide) k8_finding_300 rfl dX8_finding_1 ?_
  exact retI (w := (fun z : MS × (Nat → MS) => wP o qp oa qa cy z.1 z.2)) (S := (Z, X)) (Qp := (fun r z => z.1 = Z ∧ z.2 = X ∧ Q r )) C hG ⟨rfl, rfl, h⟩ dX8_finding_4
-- X8_findings
theorem i8_findings_X8 : ∀ w ∈ wsX80, w ∈ wsX8_findings := fun w h => List.mem_cons_of_mem _ (inG_X8 w h)
theorem k8_findings_63 : Cond.fieldLink RX8 63 "PaperBodies" "timesFound" "[I" ∈ wsX8_findings := (List.mem_cons_of_mem _ mw_337)
def w8_findings_b19 (t0 : Int32) (Z : MS) (X : (Nat → MS)) (Q : Int32 → Prop) : Prop :=
  Q t0
set_option maxHeartbeats 4000000 in
set_option maxRecDepth 100000 in
theorem b8_findings_b19 {p : Program} {l : Launch} {e : Env} {s : State} {m : MethodId} {args : Array Value} {below : List Frame} {meth : Method} {c : Code} {D : va_G} {cy : Nat → ClassId} {A : Nat → Prop} {o : Nat} {qp oa : Nat → Nat} {qa : Nat → Nat → Nat} (t0 : Int32) (Z : MS) (X : (Nat → MS)) {Q : Int32 → Prop} (C : Cx p s m args meth c cX8_findings 2 (some .int) wsX8_findings RX8 D cy nestWs A) (h : w8_findings_b19 t0 Z X Q) {H : Heap} {locs : List Loc} (hG : GW D A s (wP o qp oa qa cy Z X) H locs) {ls : Array Slot} (hl : lv_has ls 2 [(0, .ref o)]) : W p l e ({ frames := 1, cells := 0, slots := 0, locals := 22 } : Room) s m args below meth c H locs 0 0 (MQ below (va_Qi (fun r z => z.1 = Z ∧ z.2 = X ∧ Q r ) (B1 D (fun z : MS × (Nat → MS) => wP o qp oa qa cy z.1 z.2) A) A) args s 0 0 A) (F0 m 19 ls [.int t0]) := by
  have hx := C.1
  have hb := C.2.1
  unfold w8_findings_b19 at h
  exact retI (w := (fun z : MS × (Nat → MS) => wP o qp oa qa cy z.1 z.2)) (S := (Z, X)) (Qp := (fun r z => z.1 = Z ∧ z.2 = X ∧ Q r )) C hG ⟨rfl, rfl, h⟩ dX8_findings_19
def w8_findings (x1 : Int32) (Z : MS) (X : (Nat → MS)) (Q : Int32 → Prop) : Prop :=
  w8_within x1 (1 : Int32) (5 : Int32) (fun r1 => ((r1 = 0 → w8_findings_b19 (-1 : Int32) Z X Q) ∧ (¬ r1 = 0 → vp_in x1 6 ∧ w8_findings_b19 (rA Z 9 x1) Z X Q)))
set_option maxHeartbeats 4000000 in
set_option maxRecDepth 100000 in
theorem c8_findings (l : Launch) (D : va_G) (cy : Nat → ClassId)  (o : Nat) (qp oa : Nat → Nat) (qa : Nat → Nat → Nat) (x1 : Int32) (Z : MS) (X : (Nat → MS)) (Q : Int32 → Prop) (h : w8_findings x1 Z X Q) : MetI l yX8_findings wsX8_findings ({ frames := 1, cells := 0, slots := 0, locals := 22 } : Room) D cy nestWs (fun z : MS × (Nat → MS) => wP o qp oa qa cy z.1 z.2) [.ref o, .int x1] (Z, X) (fun r z => z.1 = Z ∧ z.2 = X ∧ Q r ) := by
  refine MetI.mk RX8 cX8_findings 2 .int (by decide) rfl nestWs_ok rfl (Nat.le_of_ble_eq_true rfl) ?_
  intro p e s m below meth c A ls C hG hl
  have hl : lv_has ls 2 [(0, .ref o), (1, .int x1)] := hl
  have hx := C.1
  have hb := C.2.1
  unfold w8_findings at h
  refine lv_iload_n hx hb dX8_findings_0 rfl (lv_at hl 1 rfl) ?_
  refine lv_iconst (v := 1) hx hb dX8_findings_1 (by decide) ?_
  refine lv_iconst (v := 5) hx hb dX8_findings_2 (by decide) ?_
  refine callSI (As := [.int x1, .int (1 : Int32), .int (5 : Int32)]) (rest := []) C hG (c8_within l D cy x1 (1 : Int32) (5 : Int32) _ h) 3 gX8_findings_X8_within rfl (by decide +kernel) ⟨⟨Nat.le_of_ble_eq_true rfl, Nat.le_of_ble_eq_true rfl⟩, rfl, rfl⟩ (Foc.none C.2.2.2.2.2.2.2.2.1) rfl hl.1 rfl (Nat.le_of_ble_eq_true rfl) dX8_findings_3 ⟨Nat.zero_le _, Nat.zero_le _⟩ (fun r1 z H locs h hG => ?_)
  refine lv_if_eq (tgt := 18) hx hb dX8_findings_6 (by decide) (fun c2 => ?_) (fun c2 => ?_)
  · replace h := h.1 c2
    refine lv_iconst (v := -1) hx hb dX8_findings_18 (by decide) ?_
    exact b8_findings_b19 (-1 : Int32) Z X C h hG (lv_sub hl [0] rfl)
  · replace h := h.2 c2
    refine lv_aload_n hx hb dX8_findings_9 rfl (lv_at hl 0 rfl) ?_
    refine gx_get C i8_findings_X8 hG 0 rfl rfl 9 (by decide) k8_findings_63 rfl dX8_findings_10 ?_
    refine lv_iload_n hx hb dX8_findings_13 rfl (lv_at hl 1 rfl) ?_
    obtain ⟨hv3, h⟩ := h
    refine gx_ald C hG 4 rfl hv3 dX8_findings_14 ?_
    refine lv_goto (tgt := 19) hx hb dX8_findings_15 (by decide) ?_
    exact b8_findings_b19 (rA Z 9 x1) Z X C h hG (lv_sub hl [0] rfl)
-- X8_digest
theorem i8_digest_X8 : ∀ w ∈ wsX80, w ∈ wsX8_digest := fun w h => List.mem_cons_of_mem _ (inG_X8 w h)
theorem k8_digest_11 : Cond.fieldLink RX8 11 "PaperBodies" "figures" "[LPaperBodies$Figure;" ∈ wsX8_digest := (List.mem_cons_of_mem _ mw_317)
theorem k8_digest_17 : Cond.fieldLink RX8 17 "PaperBodies" "boxes" "[LPaperBodies$Box;" ∈ wsX8_digest := (List.mem_cons_of_mem _ mw_319)
theorem k8_digest_23 : Cond.fieldLink RX8 23 "PaperBodies" "rows" "[LPaperBodies$Row;" ∈ wsX8_digest := (List.mem_cons_of_mem _ mw_321)
theorem k8_digest_303 : Cond.constantLong RX8 303 (17) ∈ wsX8_digest := (List.mem_cons_of_mem _ mw_524)
def w8_digest_d55 (K55 : Int64 → Int32 → Prop) (x1 : Int64) (x3 : Int32) (Z : MS) (X : (Nat → MS)) (Q : Int64 → Prop) : Prop :=
  (((4 : Int32) ≤ x3 → Q x1) ∧ (¬ (4 : Int32) ≤ x3 → vp_in x3 4 ∧ (10 ≤ (10 + x3.toNatClampNeg) ∧ (10 + x3.toNatClampNeg) < 15) ∧ w5_digestInto x1 (X (10 + x3.toNatClampNeg)) (fun r3 => ∀ y6 : Int32, y6 = x3 + 1 → K55 r3 y6)))
set_option maxHeartbeats 4000000 in
set_option maxRecDepth 100000 in
theorem b8_digest_d55 {p : Program} {l : Launch} {e : Env} {s : State} {m : MethodId} {args : Array Value} {below : List Frame} {meth : Method} {c : Code} {D : va_G} {cy : Nat → ClassId} {A : Nat → Prop} {o : Nat} {qp oa : Nat → Nat} {qa : Nat → Nat → Nat} {K55 : Int64 → Int32 → Prop} (x1 : Int64) (x3 : Int32) (Z : MS) (X : (Nat → MS)) {Q : Int64 → Prop} (C : Cx p s m args meth c cX8_digest 4 (some .long) wsX8_digest RX8 D cy nestWs A) (hK55 : ∀ (x1 : Int64) (x3 : Int32) (H : Heap) (locs : List Loc) (ls : Array Slot), K55 x1 x3 → GW D A s (wP o qp oa qa cy Z X) H locs → lv_has ls 4 [(0, .ref o), (1, .long x1), (3, .int x3)] → W p l e ({ frames := 2, cells := 0, slots := 0, locals := 45 } : Room) s m args below meth c H locs 0 0 (MQ below (va_Ql (fun r z => z.1 = Z ∧ z.2 = X ∧ Q r ) (B1 D (fun z : MS × (Nat → MS) => wP o qp oa qa cy z.1 z.2) A) A) args s 0 0 A) (F0 m 55 ls [])) (h : w8_digest_d55 K55 x1 x3 Z X Q) {H : Heap} {locs : List Loc} (hG : GW D A s (wP o qp oa qa cy Z X) H locs) {ls : Array Slot} (hl : lv_has ls 4 [(0, .ref o), (1, .long x1), (3, .int x3)]) : W p l e ({ frames := 2, cells := 0, slots := 0, locals := 45 } : Room) s m args below meth c H locs 0 0 (MQ below (va_Ql (fun r z => z.1 = Z ∧ z.2 = X ∧ Q r ) (B1 D (fun z : MS × (Nat → MS) => wP o qp oa qa cy z.1 z.2) A) A) args s 0 0 A) (F0 m 55 ls []) := by
  have hx := C.1
  have hb := C.2.1
  unfold w8_digest_d55 at h
  refine lv_iload_n hx hb dX8_digest_55 rfl (lv_at hl 2 rfl) ?_
  refine lv_iconst (v := 4) hx hb dX8_digest_56 (by decide) ?_
  refine lv_icmp_ge (tgt := 77) hx hb dX8_digest_57 (by decide) (fun c1 => ?_) (fun c1 => ?_)
  · replace h := h.1 c1
    refine lv_lload_n hx hb dX8_digest_77 rfl (lv_at hl 1 rfl) ?_
    exact retL (w := (fun z : MS × (Nat → MS) => wP o qp oa qa cy z.1 z.2)) (S := (Z, X)) (Qp := (fun r z => z.1 = Z ∧ z.2 = X ∧ Q r )) C hG ⟨rfl, rfl, h⟩ dX8_digest_78
  · replace h := h.2 c1
    refine lv_aload_n hx hb dX8_digest_60 rfl (lv_at hl 0 rfl) ?_
    refine gx_get C i8_digest_X8 hG 0 rfl rfl 2 (by decide) k8_digest_23 rfl dX8_digest_61 ?_
    refine lv_iload_n hx hb dX8_digest_64 rfl (lv_at hl 2 rfl) ?_
    obtain ⟨hv2, h⟩ := h
    refine gx_aald (C' := "PaperBodies$Row") C hG 3 4 rfl rfl hv2 dX8_digest_65 ?_
    refine lv_lload_n hx hb dX8_digest_66 rfl (lv_at hl 1 rfl) ?_
    obtain ⟨hr4, h⟩ := h
    refine callVL (As := [.long x1]) (rest := []) C hG (c5_digestInto l D cy (oa (10 + x3.toNatClampNeg)) (qa (10 + x3.toNatClampNeg)) x1 (X (10 + x3.toNatClampNeg)) _ h) 1 gX8_digest_X5_digestInto rfl (by decide +kernel) ⟨⟨Nat.le_of_ble_eq_true rfl, Nat.le_of_ble_eq_true rfl⟩, rfl, rfl⟩ rfl rfl (fo_5 C.2.2.2.2.2.2.2.2.1 (k0 := (10 + x3.toNatClampNeg)) hr4) rfl hl.1 rfl (Nat.le_of_ble_eq_true rfl) dX8_digest_67 ⟨Nat.zero_le _, Nat.zero_le _⟩ (fun r3 u5 H locs h hG => ?_)
    obtain ⟨eu5, h⟩ := h
    have eu5 : u5 = (X (10 + x3.toNatClampNeg)) := eu5
    subst u5
    have hG : GW D A s (wP o qp oa qa cy Z X) H locs := by
      have e9 : (va_up X (10 + x3.toNatClampNeg) (X (10 + x3.toNatClampNeg))) = X := by simp only [up_same]
      have hG : GW D A s (wP o qp oa qa cy Z (va_up X (10 + x3.toNatClampNeg) (X (10 + x3.toNatClampNeg)))) H locs := hG
      rw [e9] at hG
      exact hG
    refine lv_lstore_n (lv' := [(1, .long r3), (0, .ref o), (3, .int x3)]) hx hb dX8_digest_70 rfl hl (by decide) rfl (fun ls hl => ?_)
    obtain ⟨y6, ey6⟩ : ∃ y : Int32, y = x3 + 1 := ⟨_, rfl⟩
    replace h := h y6 ey6
    refine lv_iinc (v := y6) (lv' := [(3, .int y6), (1, .long r3), (0, .ref o)]) hx hb dX8_digest_71 hl (k := 2) rfl (by rw [ey6]; rfl) (by decide) rfl (fun ls hl => ?_)
    refine lv_goto (tgt := 55) hx hb dX8_digest_74 (by decide) ?_
    exact hK55 r3 y6 _ _ _ h hG (lv_sub hl [2, 1, 0] rfl)
def w8_digest_F55 (Z : MS) (X : (Nat → MS)) (Q : Int64 → Prop) (K : Int64 × Int32 → Prop) (a : Int64 × Int32) : Prop := w8_digest_d55 (fun y0 y1 => K (y0, y1)) a.1 a.2 Z X Q
def w8_digest_b55 (x1 : Int64) (x3 : Int32) (Z : MS) (X : (Nat → MS)) (Q : Int64 → Prop) : Prop := lp (w8_digest_F55 Z X Q) (x1, x3)
set_option maxHeartbeats 4000000 in
set_option maxRecDepth 100000 in
theorem b8_digest_b55 {p : Program} {l : Launch} {e : Env} {s : State} {m : MethodId} {args : Array Value} {below : List Frame} {meth : Method} {c : Code} {D : va_G} {cy : Nat → ClassId} {A : Nat → Prop} {o : Nat} {qp oa : Nat → Nat} {qa : Nat → Nat → Nat} (x1 : Int64) (x3 : Int32) (Z : MS) (X : (Nat → MS)) {Q : Int64 → Prop} (C : Cx p s m args meth c cX8_digest 4 (some .long) wsX8_digest RX8 D cy nestWs A) (h : w8_digest_b55 x1 x3 Z X Q) {H : Heap} {locs : List Loc} (hG : GW D A s (wP o qp oa qa cy Z X) H locs) {ls : Array Slot} (hl : lv_has ls 4 [(0, .ref o), (1, .long x1), (3, .int x3)]) : W p l e ({ frames := 2, cells := 0, slots := 0, locals := 45 } : Room) s m args below meth c H locs 0 0 (MQ below (va_Ql (fun r z => z.1 = Z ∧ z.2 = X ∧ Q r ) (B1 D (fun z : MS × (Nat → MS) => wP o qp oa qa cy z.1 z.2) A) A) args s 0 0 A) (F0 m 55 ls []) := by
  obtain ⟨k, hn⟩ := h
  induction k generalizing x1 x3 H locs ls with
  | zero => exact hn.elim
  | succ k ih => exact b8_digest_d55 (K55 := fun y0 y1 => itr (w8_digest_F55 Z X Q) k (y0, y1)) x1 x3 Z X C (fun x1 x3 H locs ls hk hG hl => ih x1 x3 hG hl hk) hn hG hl
def w8_digest_d31 (K31 : Int64 → Int32 → Prop) (x1 : Int64) (x3 : Int32) (Z : MS) (X : (Nat → MS)) (Q : Int64 → Prop) : Prop :=
  (((4 : Int32) ≤ x3 → w8_digest_b55 x1 (0 : Int32) Z X Q) ∧ (¬ (4 : Int32) ≤ x3 → vp_in x3 4 ∧ (6 ≤ (6 + x3.toNatClampNeg) ∧ (6 + x3.toNatClampNeg) < 10) ∧ w1_digestInto x1 (X (6 + x3.toNatClampNeg)) (fun r3 => ∀ y6 : Int32, y6 = x3 + 1 → K31 r3 y6)))
set_option maxHeartbeats 4000000 in
set_option maxRecDepth 100000 in
theorem b8_digest_d31 {p : Program} {l : Launch} {e : Env} {s : State} {m : MethodId} {args : Array Value} {below : List Frame} {meth : Method} {c : Code} {D : va_G} {cy : Nat → ClassId} {A : Nat → Prop} {o : Nat} {qp oa : Nat → Nat} {qa : Nat → Nat → Nat} {K31 : Int64 → Int32 → Prop} (x1 : Int64) (x3 : Int32) (Z : MS) (X : (Nat → MS)) {Q : Int64 → Prop} (C : Cx p s m args meth c cX8_digest 4 (some .long) wsX8_digest RX8 D cy nestWs A) (hK31 : ∀ (x1 : Int64) (x3 : Int32) (H : Heap) (locs : List Loc) (ls : Array Slot), K31 x1 x3 → GW D A s (wP o qp oa qa cy Z X) H locs → lv_has ls 4 [(0, .ref o), (1, .long x1), (3, .int x3)] → W p l e ({ frames := 2, cells := 0, slots := 0, locals := 45 } : Room) s m args below meth c H locs 0 0 (MQ below (va_Ql (fun r z => z.1 = Z ∧ z.2 = X ∧ Q r ) (B1 D (fun z : MS × (Nat → MS) => wP o qp oa qa cy z.1 z.2) A) A) args s 0 0 A) (F0 m 31 ls [])) (h : w8_digest_d31 K31 x1 x3 Z X Q) {H : Heap} {locs : List Loc} (hG : GW D A s (wP o qp oa qa cy Z X) H locs) {ls : Array Slot} (hl : lv_has ls 4 [(0, .ref o), (1, .long x1), (3, .int x3)]) : W p l e ({ frames := 2, cells := 0, slots := 0, locals := 45 } : Room) s m args below meth c H locs 0 0 (MQ below (va_Ql (fun r z => z.1 = Z ∧ z.2 = X ∧ Q r ) (B1 D (fun z : MS × (Nat → MS) => wP o qp oa qa cy z.1 z.2) A) A) args s 0 0 A) (F0 m 31 ls []) := by
  have hx := C.1
  have hb := C.2.1
  unfold w8_digest_d31 at h
  refine lv_iload_n hx hb dX8_digest_31 rfl (lv_at hl 2 rfl) ?_
  refine lv_iconst (v := 4) hx hb dX8_digest_32 (by decide) ?_
  refine lv_icmp_ge (tgt := 53) hx hb dX8_digest_33 (by decide) (fun c1 => ?_) (fun c1 => ?_)
  · replace h := h.1 c1
    refine lv_iconst (v := 0) hx hb dX8_digest_53 (by decide) ?_
    refine lv_istore_n (lv' := [(3, .int (0 : Int32)), (0, .ref o), (1, .long x1)]) hx hb dX8_digest_54 rfl hl (by decide) rfl (fun ls hl => ?_)
    exact b8_digest_b55 x1 (0 : Int32) Z X C h hG (lv_sub hl [1, 2, 0] rfl)
  · replace h := h.2 c1
    refine lv_aload_n hx hb dX8_digest_36 rfl (lv_at hl 0 rfl) ?_
    refine gx_get C i8_digest_X8 hG 0 rfl rfl 1 (by decide) k8_digest_17 rfl dX8_digest_37 ?_
    refine lv_iload_n hx hb dX8_digest_40 rfl (lv_at hl 2 rfl) ?_
    obtain ⟨hv2, h⟩ := h
    refine gx_aald (C' := "PaperBodies$Box") C hG 2 2 rfl rfl hv2 dX8_digest_41 ?_
    refine lv_lload_n hx hb dX8_digest_42 rfl (lv_at hl 1 rfl) ?_
    obtain ⟨hr4, h⟩ := h
    refine callVL (As := [.long x1]) (rest := []) C hG (c1_digestInto l D cy (oa (6 + x3.toNatClampNeg)) (qa (6 + x3.toNatClampNeg)) x1 (X (6 + x3.toNatClampNeg)) _ h) 1 gX8_digest_X1_digestInto rfl (by decide +kernel) ⟨⟨Nat.le_of_ble_eq_true rfl, Nat.le_of_ble_eq_true rfl⟩, rfl, rfl⟩ rfl rfl (fo_1 C.2.2.2.2.2.2.2.2.1 (k0 := (6 + x3.toNatClampNeg)) hr4) rfl hl.1 rfl (Nat.le_of_ble_eq_true rfl) dX8_digest_43 ⟨Nat.zero_le _, Nat.zero_le _⟩ (fun r3 u5 H locs h hG => ?_)
    obtain ⟨eu5, h⟩ := h
    have eu5 : u5 = (X (6 + x3.toNatClampNeg)) := eu5
    subst u5
    have hG : GW D A s (wP o qp oa qa cy Z X) H locs := by
      have e9 : (va_up X (6 + x3.toNatClampNeg) (X (6 + x3.toNatClampNeg))) = X := by simp only [up_same]
      have hG : GW D A s (wP o qp oa qa cy Z (va_up X (6 + x3.toNatClampNeg) (X (6 + x3.toNatClampNeg)))) H locs := hG
      rw [e9] at hG
      exact hG
    refine lv_lstore_n (lv' := [(1, .long r3), (0, .ref o), (3, .int x3)]) hx hb dX8_digest_46 rfl hl (by decide) rfl (fun ls hl => ?_)
    obtain ⟨y6, ey6⟩ : ∃ y : Int32, y = x3 + 1 := ⟨_, rfl⟩
    replace h := h y6 ey6
    refine lv_iinc (v := y6) (lv' := [(3, .int y6), (1, .long r3), (0, .ref o)]) hx hb dX8_digest_47 hl (k := 2) rfl (by rw [ey6]; rfl) (by decide) rfl (fun ls hl => ?_)
    refine lv_goto (tgt := 31) hx hb dX8_digest_50 (by decide) ?_
    exact hK31 r3 y6 _ _ _ h hG (lv_sub hl [2, 1, 0] rfl)
def w8_digest_F31 (Z : MS) (X : (Nat → MS)) (Q : Int64 → Prop) (K : Int64 × Int32 → Prop) (a : Int64 × Int32) : Prop := w8_digest_d31 (fun y0 y1 => K (y0, y1)) a.1 a.2 Z X Q
def w8_digest_b31 (x1 : Int64) (x3 : Int32) (Z : MS) (X : (Nat → MS)) (Q : Int64 → Prop) : Prop := lp (w8_digest_F31 Z X Q) (x1, x3)
set_option maxHeartbeats 4000000 in
set_option maxRecDepth 100000 in
theorem b8_digest_b31 {p : Program} {l : Launch} {e : Env} {s : State} {m : MethodId} {args : Array Value} {below : List Frame} {meth : Method} {c : Code} {D : va_G} {cy : Nat → ClassId} {A : Nat → Prop} {o : Nat} {qp oa : Nat → Nat} {qa : Nat → Nat → Nat} (x1 : Int64) (x3 : Int32) (Z : MS) (X : (Nat → MS)) {Q : Int64 → Prop} (C : Cx p s m args meth c cX8_digest 4 (some .long) wsX8_digest RX8 D cy nestWs A) (h : w8_digest_b31 x1 x3 Z X Q) {H : Heap} {locs : List Loc} (hG : GW D A s (wP o qp oa qa cy Z X) H locs) {ls : Array Slot} (hl : lv_has ls 4 [(0, .ref o), (1, .long x1), (3, .int x3)]) : W p l e ({ frames := 2, cells := 0, slots := 0, locals := 45 } : Room) s m args below meth c H locs 0 0 (MQ below (va_Ql (fun r z => z.1 = Z ∧ z.2 = X ∧ Q r ) (B1 D (fun z : MS × (Nat → MS) => wP o qp oa qa cy z.1 z.2) A) A) args s 0 0 A) (F0 m 31 ls []) := by
  obtain ⟨k, hn⟩ := h
  induction k generalizing x1 x3 H locs ls with
  | zero => exact hn.elim
  | succ k ih => exact b8_digest_d31 (K31 := fun y0 y1 => itr (w8_digest_F31 Z X Q) k (y0, y1)) x1 x3 Z X C (fun x1 x3 H locs ls hk hG hl => ih x1 x3 hG hl hk) hn hG hl
def w8_digest_d6 (K6 : Int64 → Int32 → Prop) (x1 : Int64) (x3 : Int32) (Z : MS) (X : (Nat → MS)) (Q : Int64 → Prop) : Prop :=
  (((6 : Int32) ≤ x3 → w8_digest_b31 x1 (0 : Int32) Z X Q) ∧ (¬ (6 : Int32) ≤ x3 → vp_in x3 6 ∧ (0 ≤ (x3.toNatClampNeg) ∧ (x3.toNatClampNeg) < 6) ∧ w2_digestInto x1 (X (x3.toNatClampNeg)) (fun r3 => ∀ y6 : Int32, y6 = x3 + 1 → K6 r3 y6)))
set_option maxHeartbeats 4000000 in
set_option maxRecDepth 100000 in
theorem b8_digest_d6 {p : Program} {l : Launch} {e : Env} {s : State} {m : MethodId} {args : Array Value} {below : List Frame} {meth : Method} {c : Code} {D : va_G} {cy : Nat → ClassId} {A : Nat → Prop} {o : Nat} {qp oa : Nat → Nat} {qa : Nat → Nat → Nat} {K6 : Int64 → Int32 → Prop} (x1 : Int64) (x3 : Int32) (Z : MS) (X : (Nat → MS)) {Q : Int64 → Prop} (C : Cx p s m args meth c cX8_digest 4 (some .long) wsX8_digest RX8 D cy nestWs A) (hK6 : ∀ (x1 : Int64) (x3 : Int32) (H : Heap) (locs : List Loc) (ls : Array Slot), K6 x1 x3 → GW D A s (wP o qp oa qa cy Z X) H locs → lv_has ls 4 [(0, .ref o), (1, .long x1), (3, .int x3)] → W p l e ({ frames := 2, cells := 0, slots := 0, locals := 45 } : Room) s m args below meth c H locs 0 0 (MQ below (va_Ql (fun r z => z.1 = Z ∧ z.2 = X ∧ Q r ) (B1 D (fun z : MS × (Nat → MS) => wP o qp oa qa cy z.1 z.2) A) A) args s 0 0 A) (F0 m 6 ls [])) (h : w8_digest_d6 K6 x1 x3 Z X Q) {H : Heap} {locs : List Loc} (hG : GW D A s (wP o qp oa qa cy Z X) H locs) {ls : Array Slot} (hl : lv_has ls 4 [(0, .ref o), (1, .long x1), (3, .int x3)]) : W p l e ({ frames := 2, cells := 0, slots := 0, locals := 45 } : Room) s m args below meth c H locs 0 0 (MQ below (va_Ql (fun r z => z.1 = Z ∧ z.2 = X ∧ Q r ) (B1 D (fun z : MS × (Nat → MS) => wP o qp oa qa cy z.1 z.2) A) A) args s 0 0 A) (F0 m 6 ls []) := by
  have hx := C.1
  have hb := C.2.1
  unfold w8_digest_d6 at h
  refine lv_iload_n hx hb dX8_digest_6 rfl (lv_at hl 2 rfl) ?_
  refine lv_bipush (v := 6) hx hb dX8_digest_7 (by decide) ?_
  refine lv_icmp_ge (tgt := 29) hx hb dX8_digest_9 (by decide) (fun c1 => ?_) (fun c1 => ?_)
  · replace h := h.1 c1
    refine lv_iconst (v := 0) hx hb dX8_digest_29 (by decide) ?_
    refine lv_istore_n (lv' := [(3, .int (0 : Int32)), (0, .ref o), (1, .long x1)]) hx hb dX8_digest_30 rfl hl (by decide) rfl (fun ls hl => ?_)
    exact b8_digest_b31 x1 (0 : Int32) Z X C h hG (lv_sub hl [1, 2, 0] rfl)
  · replace h := h.2 c1
    refine lv_aload_n hx hb dX8_digest_12 rfl (lv_at hl 0 rfl) ?_
    refine gx_get C i8_digest_X8 hG 0 rfl rfl 0 (by decide) k8_digest_11 rfl dX8_digest_13 ?_
    refine lv_iload_n hx hb dX8_digest_16 rfl (lv_at hl 2 rfl) ?_
    obtain ⟨hv2, h⟩ := h
    refine gx_aald (C' := "PaperBodies$Figure") C hG 1 3 rfl rfl hv2 dX8_digest_17 ?_
    refine lv_lload_n hx hb dX8_digest_18 rfl (lv_at hl 1 rfl) ?_
    obtain ⟨hr4, h⟩ := h
    refine callVL (As := [.long x1]) (rest := []) C hG (c2_digestInto l D cy (oa (x3.toNatClampNeg)) (qa (x3.toNatClampNeg)) x1 (X (x3.toNatClampNeg)) _ h) 1 gX8_digest_X2_digestInto rfl (by decide +kernel) ⟨⟨Nat.le_of_ble_eq_true rfl, Nat.le_of_ble_eq_true rfl⟩, rfl, rfl⟩ rfl rfl (fo_2 C.2.2.2.2.2.2.2.2.1 (k0 := (x3.toNatClampNeg)) hr4) rfl hl.1 rfl (Nat.le_of_ble_eq_true rfl) dX8_digest_19 ⟨Nat.zero_le _, Nat.zero_le _⟩ (fun r3 u5 H locs h hG => ?_)
    obtain ⟨eu5, h⟩ := h
    have eu5 : u5 = (X (x3.toNatClampNeg)) := eu5
    subst u5
    have hG : GW D A s (wP o qp oa qa cy Z X) H locs := by
      have e9 : (va_up X (x3.toNatClampNeg) (X (x3.toNatClampNeg))) = X := by simp only [up_same]
      have hG : GW D A s (wP o qp oa qa cy Z (va_up X (x3.toNatClampNeg) (X (x3.toNatClampNeg)))) H locs := hG
      rw [e9] at hG
      exact hG
    refine lv_lstore_n (lv' := [(1, .long r3), (0, .ref o), (3, .int x3)]) hx hb dX8_digest_22 rfl hl (by decide) rfl (fun ls hl => ?_)
    obtain ⟨y6, ey6⟩ : ∃ y : Int32, y = x3 + 1 := ⟨_, rfl⟩
    replace h := h y6 ey6
    refine lv_iinc (v := y6) (lv' := [(3, .int y6), (1, .long r3), (0, .ref o)]) hx hb dX8_digest_23 hl (k := 2) rfl (by rw [ey6]; rfl) (by decide) rfl (fun ls hl => ?_)
    refine lv_goto (tgt := 6) hx hb dX8_digest_26 (by decide) ?_
    exact hK6 r3 y6 _ _ _ h hG (lv_sub hl [2, 1, 0] rfl)
def w8_digest_F6 (Z : MS) (X : (Nat → MS)) (Q : Int64 → Prop) (K : Int64 × Int32 → Prop) (a : Int64 × Int32) : Prop := w8_digest_d6 (fun y0 y1 => K (y0, y1)) a.1 a.2 Z X Q
def w8_digest_b6 (x1 : Int64) (x3 : Int32) (Z : MS) (X : (Nat → MS)) (Q : Int64 → Prop) : Prop := lp (w8_digest_F6 Z X Q) (x1, x3)
set_option maxHeartbeats 4000000 in
set_option maxRecDepth 100000 in
theorem b8_digest_b6 {p : Program} {l : Launch} {e : Env} {s : State} {m : MethodId} {args : Array Value} {below : List Frame} {meth : Method} {c : Code} {D : va_G} {cy : Nat → ClassId} {A : Nat → Prop} {o : Nat} {qp oa : Nat → Nat} {qa : Nat → Nat → Nat} (x1 : Int64) (x3 : Int32) (Z : MS) (X : (Nat → MS)) {Q : Int64 → Prop} (C : Cx p s m args meth c cX8_digest 4 (some .long) wsX8_digest RX8 D cy nestWs A) (h : w8_digest_b6 x1 x3 Z X Q) {H : Heap} {locs : List Loc} (hG : GW D A s (wP o qp oa qa cy Z X) H locs) {ls : Array Slot} (hl : lv_has ls 4 [(0, .ref o), (1, .long x1), (3, .int x3)]) : W p l e ({ frames := 2, cells := 0, slots := 0, locals := 45 } : Room) s m args below meth c H locs 0 0 (MQ below (va_Ql (fun r z => z.1 = Z ∧ z.2 = X ∧ Q r ) (B1 D (fun z : MS × (Nat → MS) => wP o qp oa qa cy z.1 z.2) A) A) args s 0 0 A) (F0 m 6 ls []) := by
  obtain ⟨k, hn⟩ := h
  induction k generalizing x1 x3 H locs ls with
  | zero => exact hn.elim
  | succ k ih => exact b8_digest_d6 (K6 := fun y0 y1 => itr (w8_digest_F6 Z X Q) k (y0, y1)) x1 x3 Z X C (fun x1 x3 H locs ls hk hG hl => ih x1 x3 hG hl hk) hn hG hl
def w8_digest (Z : MS) (X : (Nat → MS)) (Q : Int64 → Prop) : Prop :=
  w8_digest_b6 (17 : Int64) (0 : Int32) Z X Q
set_option maxHeartbeats 4000000 in
set_option maxRecDepth 100000 in
theorem c8_digest (l : Launch) (D : va_G) (cy : Nat → ClassId)  (o : Nat) (qp oa : Nat → Nat) (qa : Nat → Nat → Nat) (Z : MS) (X : (Nat → MS)) (Q : Int64 → Prop) (h : w8_digest Z X Q) : MetL l yX8_digest wsX8_digest ({ frames := 2, cells := 0, slots := 0, locals := 45 } : Room) D cy nestWs (fun z : MS × (Nat → MS) => wP o qp oa qa cy z.1 z.2) [.ref o] (Z, X) (fun r z => z.1 = Z ∧ z.2 = X ∧ Q r ) := by
  refine MetL.mk RX8 cX8_digest 4 (by decide) rfl nestWs_ok rfl (Nat.le_of_ble_eq_true rfl) ?_
  intro p e s m below meth c A ls C hG hl
  have hl : lv_has ls 4 [(0, .ref o)] := hl
  have hx := C.1
  have hb := C.2.1
  unfold w8_digest at h
  refine lv_ldc2 (v := 17) hx hb C.2.2.2.1 (C.2.2.2.2.1 _ k8_digest_303) dX8_digest_0 ?_
  refine lv_lstore_n (lv' := [(1, .long (17 : Int64)), (0, .ref o)]) hx hb dX8_digest_3 rfl hl (by decide) rfl (fun ls hl => ?_)
  refine lv_iconst (v := 0) hx hb dX8_digest_4 (by decide) ?_
  refine lv_istore_n (lv' := [(3, .int (0 : Int32)), (1, .long (17 : Int64)), (0, .ref o)]) hx hb dX8_digest_5 rfl hl (by decide) rfl (fun ls hl => ?_)
  exact b8_digest_b6 (17 : Int64) (0 : Int32) Z X C h hG (lv_sub hl [2, 1, 0] rfl)
