-- X8_layOutTo
theorem i8_layOutTo_X8 : ∀ w ∈ wsX80, w ∈ wsX8_layOutTo := fun w h => List.mem_cons_of_mem _ (inG_X8 w h)
theorem i8_layOutTo_X6 : ∀ w ∈ wsX60, w ∈ wsX8_layOutTo := fun w h => List.mem_cons_of_mem _ (inG_X6 w h)
theorem k8_layOutTo_35 : Cond.fieldLink RX8 35 "PaperBodies" "folded" "LPaperBodies$Sheet;" ∈ wsX8_layOutTo := (List.mem_cons_of_mem _ mw_326)
theorem k8_layOutTo_39 : Cond.fieldLink RX8 39 "PaperBodies" "laidOut" "LPaperBodies$Sheet;" ∈ wsX8_layOutTo := (List.mem_cons_of_mem _ mw_327)
def w8_layOutTo (x1 : Nat) (x2 : Nat) (x3 : Int32) (x4 : Int32) (x5 : Nat) (Z : MS) (X : (Nat → MS)) (Q : Int32 → (Nat → MS) → Prop) : Prop :=
  w8_frameOf x3 (0 : Int32) (fun r1 => (6 ≤ x2 ∧ x2 < 10) ∧ (10 ≤ x5 ∧ x5 < 15) ∧ w6_layOutFrom r1 x4 (X 16) (X x2) (X x5) (fun r2 S5 => ∀ X8 : Nat → MS, X8 = (va_up X 16 S5) → ((¬ r2 = 0 → w0_least (fJ (X8 16) 4) (fun r12 => w6_frameAt r12 (X8 16) (fun r13 => w6_isWhole (fJ (X8 16) 4) r13 (X8 15) (X8 x2) (fun r17 S18 => ∀ X20 : Nat → MS, X20 = (va_up X8 15 S18) → ((¬ r17 = 0 → (0 ≤ x1 ∧ x1 < 6) ∧ w2_putNet (fJ (X20 16) 4) (r13 >>> ((2 : Int32) &&& 31)) (X20 x1) (X20 x2) (fun S25 => ∀ X27 : Nat → MS, X27 = (va_up X20 x1 S25) → Q (2 : Int32) X27)) ∧ (r17 = 0 → Q (1 : Int32) X20)))))) ∧ (r2 = 0 → Q (0 : Int32) X8))))
set_option maxHeartbeats 4000000 in
set_option maxRecDepth 100000 in
theorem c8_layOutTo (l : Launch) (D : va_G) (cy : Nat → ClassId)  (o : Nat) (qp oa : Nat → Nat) (qa : Nat → Nat → Nat) (x1 : Nat) (x2 : Nat) (x3 : Int32) (x4 : Int32) (x5 : Nat) (Z : MS) (X : (Nat → MS)) (Q : Int32 → (Nat → MS) → Prop) (h : w8_layOutTo x1 x2 x3 x4 x5 Z X Q) : MetI l yX8_layOutTo wsX8_layOutTo ({ frames := 5, cells := 0, slots := 0, locals := 124 } : Room) D cy nestWs (fun z : MS × (Nat → MS) => wP o qp oa qa cy z.1 z.2) [.ref o, .ref (oa x1), .ref (oa x2), .int x3, .int x4, .ref (oa x5)] (Z, X) (fun r z => z.1 = Z ∧ Q r z.2) := by
  refine MetI.mk RX8 cX8_layOutTo 7 .int (by decide) rfl nestWs_ok rfl (Nat.le_of_ble_eq_true rfl) ?_
  intro p e s m below meth c A ls C hG hl
  have hl : lv_has ls 7 [(0, .ref o), (1, .ref (oa x1)), (2, .ref (oa x2)), (3, .int x3), (4, .int x4), (5, .ref (oa x5))] := hl
  have hx := C.1
  have hb := C.2.1
  unfold w8_layOutTo at h
  refine lv_aload_n hx hb dX8_layOutTo_0 rfl (lv_at hl 0 rfl) ?_
  refine gx_get C i8_layOutTo_X8 hG 0 rfl rfl 5 (by decide) k8_layOutTo_39 rfl dX8_layOutTo_1 ?_
  refine lv_aload_n hx hb dX8_layOutTo_4 rfl (lv_at hl 2 rfl) ?_
  refine lv_iload_n hx hb dX8_layOutTo_5 rfl (lv_at hl 3 rfl) ?_
  refine lv_iconst (v := 0) hx hb dX8_layOutTo_6 (by decide) ?_
  refine callSI (As := [.int x3, .int (0 : Int32)]) (rest := [.ref (oa x2), .ref (oa 16)]) C hG (c8_frameOf l D cy x3 (0 : Int32) _ h) 2 gX8_layOutTo_X8_frameOf rfl (by decide +kernel) ⟨⟨Nat.le_of_ble_eq_true rfl, Nat.le_of_ble_eq_true rfl⟩, rfl, rfl⟩ (Foc.none C.2.2.2.2.2.2.2.2.1) rfl hl.1 rfl (Nat.le_of_ble_eq_true rfl) dX8_layOutTo_7 ⟨Nat.zero_le _, Nat.zero_le _⟩ (fun r1 z H locs h hG => ?_)
  refine lv_iload hx hb dX8_layOutTo_10 (lv_at hl 4 rfl) ?_
  refine lv_aload hx hb dX8_layOutTo_12 (lv_at hl 5 rfl) ?_
  obtain ⟨hr3, h⟩ := h
  obtain ⟨hr4, h⟩ := h
  refine callVI (As := [.ref (oa x2), .int r1, .int x4, .ref (oa x5)]) (rest := []) C hG (c6_layOutFrom l D cy (oa 16) (qa 16) (oa x2) (qa x2) (oa x5) (qa x5) r1 x4 (X 16) (X x2) (X x5) _ h) 4 gX8_layOutTo_X6_layOutFrom rfl (by decide +kernel) ⟨⟨Nat.le_of_ble_eq_true rfl, Nat.le_of_ble_eq_true rfl⟩, rfl, rfl⟩ rfl rfl (fo_6_1_5 C.2.2.2.2.2.2.2.2.1 (k0 := 16) (k1 := x2) (k2 := x5) ⟨by decide, by decide⟩ hr3 hr4) rfl hl.1 rfl (Nat.le_of_ble_eq_true rfl) dX8_layOutTo_14 ⟨Nat.zero_le _, Nat.zero_le _⟩ (fun r2 z H locs h hG => ?_)
  obtain ⟨S5, u6, u7⟩ := z
  obtain ⟨eu6, h⟩ := h
  have eu6 : u6 = (X x2) := eu6
  obtain ⟨eu7, h⟩ := h
  have eu7 : u7 = (X x5) := eu7
  replace h := h
  subst u6
  subst u7
  obtain ⟨X8, eX8⟩ : ∃ z : Nat → MS, z = (va_up X 16 S5) := ⟨_, rfl⟩
  have hG : GW D A s (wP o qp oa qa cy Z X8) H locs := by
    rw [eX8]
    have e9 : (va_up (va_up (va_up X 16 S5) x2 (X x2)) x5 (X x5)) = (va_up X 16 S5) := by rw [up_back (show x2 ≠ 16 by omega), up_back (show x5 ≠ 16 by omega)]
    rw [← e9]
    exact hG
  replace h := h X8 eX8
  refine lv_if_ne (tgt := 22) hx hb dX8_layOutTo_17 (by decide) (fun c9 => ?_) (fun c9 => ?_)
  · replace h := h.1 c9
    refine lv_aload_n hx hb dX8_layOutTo_22 rfl (lv_at hl 0 rfl) ?_
    refine gx_get C i8_layOutTo_X8 hG 0 rfl rfl 5 (by decide) k8_layOutTo_39 rfl dX8_layOutTo_23 ?_
    refine lv_aload_n hx hb dX8_layOutTo_26 rfl (lv_at hl 0 rfl) ?_
    refine gx_get C i8_layOutTo_X8 hG 0 rfl rfl 5 (by decide) k8_layOutTo_39 rfl dX8_layOutTo_27 ?_
    obtain ⟨qq10, he11⟩ := at6 (o := o) (qp := qp) (oa := oa) (qa := qa) (cy := cy) (Z := Z) (X := X8) (k := 16) ⟨by decide, by decide⟩
    refine gx_getN (host := "PaperBodies") C i8_layOutTo_X6 hG qq10 he11 rfl 4 (by decide) (by decide +kernel) rfl dX8_layOutTo_30 ?_
    refine callSI (As := [.long (fJ (X8 16) 4)]) (rest := [.ref (oa 16)]) C hG (c0_least l D cy (fJ (X8 16) 4) _ h) 1 gX8_layOutTo_X0_least rfl (by decide +kernel) ⟨⟨Nat.le_of_ble_eq_true rfl, Nat.le_of_ble_eq_true rfl⟩, rfl, rfl⟩ (Foc.none C.2.2.2.2.2.2.2.2.1) rfl hl.1 rfl (Nat.le_of_ble_eq_true rfl) dX8_layOutTo_33 ⟨Nat.zero_le _, Nat.zero_le _⟩ (fun r12 z H locs h hG => ?_)
    refine callVI (As := [.int r12]) (rest := []) C hG (c6_frameAt l D cy (oa 16) (qa 16) r12 (X8 16) _ h) 1 gX8_layOutTo_X6_frameAt rfl (by decide +kernel) ⟨⟨Nat.le_of_ble_eq_true rfl, Nat.le_of_ble_eq_true rfl⟩, rfl, rfl⟩ rfl rfl (fo_6 C.2.2.2.2.2.2.2.2.1 (k0 := 16) ⟨by decide, by decide⟩) rfl hl.1 rfl (Nat.le_of_ble_eq_true rfl) dX8_layOutTo_36 ⟨Nat.zero_le _, Nat.zero_le _⟩ (fun r13 u14 H locs h hG => ?_)
    obtain ⟨eu14, h⟩ := h
    have eu14 : u14 = (X8 16) := eu14
    subst u14
    have hG : GW D A s (wP o qp oa qa cy Z X8) H locs := by
      have e9 : (va_up X8 16 (X8 16)) = X8 := by simp only [up_same]
      have hG : GW D A s (wP o qp oa qa cy Z (va_up X8 16 (X8 16))) H locs := hG
      rw [e9] at hG
      exact hG
    refine lv_istore (lv' := [(6, .int r13), (0, .ref o), (1, .ref (oa x1)), (2, .ref (oa x2)), (3, .int x3), (4, .int x4), (5, .ref (oa x5))]) hx hb dX8_layOutTo_39 hl (by decide) rfl (fun ls hl => ?_)
    refine lv_aload_n hx hb dX8_layOutTo_41 rfl (lv_at hl 1 rfl) ?_
    refine gx_get C i8_layOutTo_X8 hG 0 rfl rfl 4 (by decide) k8_layOutTo_35 rfl dX8_layOutTo_42 ?_
    refine lv_aload_n hx hb dX8_layOutTo_45 rfl (lv_at hl 3 rfl) ?_
    refine lv_aload_n hx hb dX8_layOutTo_46 rfl (lv_at hl 1 rfl) ?_
    refine gx_get C i8_layOutTo_X8 hG 0 rfl rfl 5 (by decide) k8_layOutTo_39 rfl dX8_layOutTo_47 ?_
    obtain ⟨qq15, he16⟩ := at6 (o := o) (qp := qp) (oa := oa) (qa := qa) (cy := cy) (Z := Z) (X := X8) (k := 16) ⟨by decide, by decide⟩
    refine gx_getN (host := "PaperBodies") C i8_layOutTo_X6 hG qq15 he16 rfl 4 (by decide) (by decide +kernel) rfl dX8_layOutTo_50 ?_
    refine lv_iload hx hb dX8_layOutTo_53 (lv_at hl 0 rfl) ?_
    refine callVI (As := [.ref (oa x2), .long (fJ (X8 16) 4), .int r13]) (rest := []) C hG (c6_isWhole l D cy (oa 15) (qa 15) (oa x2) (qa x2) (fJ (X8 16) 4) r13 (X8 15) (X8 x2) _ h) 3 gX8_layOutTo_X6_isWhole rfl (by decide +kernel) ⟨⟨Nat.le_of_ble_eq_true rfl, Nat.le_of_ble_eq_true rfl⟩, rfl, rfl⟩ rfl rfl (fo_6_1 C.2.2.2.2.2.2.2.2.1 (k0 := 15) (k1 := x2) ⟨by decide, by decide⟩ hr3) rfl hl.1 rfl (Nat.le_of_ble_eq_true rfl) dX8_layOutTo_55 ⟨Nat.zero_le _, Nat.zero_le _⟩ (fun r17 z H locs h hG => ?_)
    obtain ⟨S18, u19⟩ := z
    obtain ⟨eu19, h⟩ := h
    have eu19 : u19 = (X8 x2) := eu19
    replace h := h
    subst u19
    obtain ⟨X20, eX20⟩ : ∃ z : Nat → MS, z = (va_up X8 15 S18) := ⟨_, rfl⟩
    have hG : GW D A s (wP o qp oa qa cy Z X20) H locs := by
      rw [eX20]
      have e9 : (va_up (va_up X8 15 S18) x2 (X8 x2)) = (va_up X8 15 S18) := by rw [up_back (show x2 ≠ 15 by omega)]
      rw [← e9]
      exact hG
    replace h := h X20 eX20
    refine lv_if_ne (tgt := 63) hx hb dX8_layOutTo_58 (by decide) (fun c21 => ?_) (fun c21 => ?_)
    · replace h := h.1 c21
      refine lv_aload_n hx hb dX8_layOutTo_63 rfl (lv_at hl 2 rfl) ?_
      refine lv_aload_n hx hb dX8_layOutTo_64 rfl (lv_at hl 1 rfl) ?_
      refine gx_get C i8_layOutTo_X8 hG 0 rfl rfl 5 (by decide) k8_layOutTo_39 rfl dX8_layOutTo_65 ?_
      obtain ⟨qq22, he23⟩ := at6 (o := o) (qp := qp) (oa := oa) (qa := qa) (cy := cy) (Z := Z) (X := X20) (k := 16) ⟨by decide, by decide⟩
      refine gx_getN (host := "PaperBodies") C i8_layOutTo_X6 hG qq22 he23 rfl 4 (by decide) (by decide +kernel) rfl dX8_layOutTo_68 ?_
      refine lv_iload hx hb dX8_layOutTo_71 (lv_at hl 0 rfl) ?_
      refine lv_iconst (v := 2) hx hb dX8_layOutTo_73 (by decide) ?_
      refine lv_ishr hx hb dX8_layOutTo_74 ?_
      refine lv_aload_n hx hb dX8_layOutTo_75 rfl (lv_at hl 3 rfl) ?_
      obtain ⟨hr24, h⟩ := h
      refine callVV (As := [.long (fJ (X20 16) 4), .int (r13 >>> ((2 : Int32) &&& 31)), .ref (oa x2)]) (rest := []) C hG (c2_putNet l D cy (oa x1) (qa x1) (oa x2) (qa x2) (fJ (X20 16) 4) (r13 >>> ((2 : Int32) &&& 31)) (X20 x1) (X20 x2) _ h) 3 gX8_layOutTo_X2_putNet rfl (by decide +kernel) ⟨⟨Nat.le_of_ble_eq_true rfl, Nat.le_of_ble_eq_true rfl⟩, rfl, rfl⟩ rfl rfl (fo_2_1 C.2.2.2.2.2.2.2.2.1 (k0 := x1) (k1 := x2) hr24 hr3) rfl hl.1 rfl (Nat.le_of_ble_eq_true rfl) dX8_layOutTo_76 ⟨Nat.zero_le _, Nat.zero_le _⟩ (fun  z H locs h hG => ?_)
      obtain ⟨S25, u26⟩ := z
      obtain ⟨eu26, h⟩ := h
      have eu26 : u26 = (X20 x2) := eu26
      replace h := h
      subst u26
      obtain ⟨X27, eX27⟩ : ∃ z : Nat → MS, z = (va_up X20 x1 S25) := ⟨_, rfl⟩
      have hG : GW D A s (wP o qp oa qa cy Z X27) H locs := by
        rw [eX27]
        have e9 : (va_up (va_up X20 x1 S25) x2 (X20 x2)) = (va_up X20 x1 S25) := by rw [up_back (show x2 ≠ x1 by omega)]
        rw [← e9]
        exact hG
      replace h := h X27 eX27
      refine lv_iconst (v := 2) hx hb dX8_layOutTo_79 (by decide) ?_
      exact retI (w := (fun z : MS × (Nat → MS) => wP o qp oa qa cy z.1 z.2)) (S := (Z, X27)) (Qp := (fun r z => z.1 = Z ∧ Q r z.2)) C hG ⟨rfl, h⟩ dX8_layOutTo_80
    · replace h := h.2 c21
      refine lv_iconst (v := 1) hx hb dX8_layOutTo_61 (by decide) ?_
      exact retI (w := (fun z : MS × (Nat → MS) => wP o qp oa qa cy z.1 z.2)) (S := (Z, X20)) (Qp := (fun r z => z.1 = Z ∧ Q r z.2)) C hG ⟨rfl, h⟩ dX8_layOutTo_62
  · replace h := h.2 c9
    refine lv_iconst (v := 0) hx hb dX8_layOutTo_20 (by decide) ?_
    exact retI (w := (fun z : MS × (Nat → MS) => wP o qp oa qa cy z.1 z.2)) (S := (Z, X8)) (Qp := (fun r z => z.1 = Z ∧ Q r z.2)) C hG ⟨rfl, h⟩ dX8_layOutTo_21
-- X8_layOut
theorem i8_layOut_X8 : ∀ w ∈ wsX80, w ∈ wsX8_layOut := fun w h => List.mem_cons_of_mem _ (inG_X8 w h)
theorem k8_layOut_11 : Cond.fieldLink RX8 11 "PaperBodies" "figures" "[LPaperBodies$Figure;" ∈ wsX8_layOut := (List.mem_cons_of_mem _ mw_317)
theorem k8_layOut_17 : Cond.fieldLink RX8 17 "PaperBodies" "boxes" "[LPaperBodies$Box;" ∈ wsX8_layOut := (List.mem_cons_of_mem _ mw_319)
theorem k8_layOut_28 : Cond.fieldLink RX8 28 "PaperBodies" "allWays" "LPaperBodies$Row;" ∈ wsX8_layOut := (List.mem_cons_of_mem _ mw_323)
def w8_layOut_b22 (Z : MS) (X : (Nat → MS)) (Q : Int32 → MS → (Nat → MS) → Prop) : Prop :=
  Q (-1 : Int32) Z X
set_option maxHeartbeats 4000000 in
set_option maxRecDepth 100000 in
theorem b8_layOut_b22 {p : Program} {l : Launch} {e : Env} {s : State} {m : MethodId} {args : Array Value} {below : List Frame} {meth : Method} {c : Code} {D : va_G} {cy : Nat → ClassId} {A : Nat → Prop} {o : Nat} {qp oa : Nat → Nat} {qa : Nat → Nat → Nat} (Z : MS) (X : (Nat → MS)) {Q : Int32 → MS → (Nat → MS) → Prop} (C : Cx p s m args meth c cX8_layOut 6 (some .int) wsX8_layOut RX8 D cy nestWs A) (h : w8_layOut_b22 Z X Q) {H : Heap} {locs : List Loc} (hG : GW D A s (wP o qp oa qa cy Z X) H locs) {ls : Array Slot} (hl : lv_has ls 6 [(0, .ref o)]) : W p l e ({ frames := 6, cells := 0, slots := 0, locals := 150 } : Room) s m args below meth c H locs 0 0 (MQ below (va_Qi (fun r z => Q r z.1 z.2) (B1 D (fun z : MS × (Nat → MS) => wP o qp oa qa cy z.1 z.2) A) A) args s 0 0 A) (F0 m 22 ls []) := by
  have hx := C.1
  have hb := C.2.1
  unfold w8_layOut_b22 at h
  refine lv_iconst (v := -1) hx hb dX8_layOut_22 (by decide) ?_
  exact retI (w := (fun z : MS × (Nat → MS) => wP o qp oa qa cy z.1 z.2)) (S := (Z, X)) (Qp := (fun r z => Q r z.1 z.2)) C hG h dX8_layOut_23
def w8_layOut (x1 : Int32) (x2 : Int32) (x3 : Int32) (x4 : Int32) (Z : MS) (X : (Nat → MS)) (Q : Int32 → MS → (Nat → MS) → Prop) : Prop :=
  w8_isBox x1 (fun r1 => ((r1 = 0 → w8_layOut_b22 Z X Q) ∧ (¬ r1 = 0 → w8_isSquare x3 (fun r3 => ((r3 = 0 → w8_layOut_b22 Z X Q) ∧ (¬ r3 = 0 → w8_isFigure x4 (fun r5 => ((¬ r5 = 0 → vp_in x1 4 ∧ (6 ≤ (6 + x1.toNatClampNeg) ∧ (6 + x1.toNatClampNeg) < 10) ∧ w8_missingCell x2 (X (6 + x1.toNatClampNeg)) (fun r8 => ((r8 = 0 → vp_in x4 6 ∧ w8_layOutTo (x4.toNatClampNeg) (6 + x1.toNatClampNeg) x2 x3 14 Z X (fun r13 S15 => Q r13 Z S15)) ∧ (¬ r8 = 0 → w8_refuse r8 Z X (fun r16 S17 => Q r16 S17 X))))) ∧ (r5 = 0 → w8_layOut_b22 Z X Q)))))))))
set_option maxHeartbeats 4000000 in
set_option maxRecDepth 100000 in
theorem c8_layOut (l : Launch) (D : va_G) (cy : Nat → ClassId)  (o : Nat) (qp oa : Nat → Nat) (qa : Nat → Nat → Nat) (x1 : Int32) (x2 : Int32) (x3 : Int32) (x4 : Int32) (Z : MS) (X : (Nat → MS)) (Q : Int32 → MS → (Nat → MS) → Prop) (h : w8_layOut x1 x2 x3 x4 Z X Q) : MetI l yX8_layOut wsX8_layOut ({ frames := 6, cells := 0, slots := 0, locals := 150 } : Room) D cy nestWs (fun z : MS × (Nat → MS) => wP o qp oa qa cy z.1 z.2) [.ref o, .int x1, .int x2, .int x3, .int x4] (Z, X) (fun r z => Q r z.1 z.2) := by
  refine MetI.mk RX8 cX8_layOut 6 .int (by decide) rfl nestWs_ok rfl (Nat.le_of_ble_eq_true rfl) ?_
  intro p e s m below meth c A ls C hG hl
  have hl : lv_has ls 6 [(0, .ref o), (1, .int x1), (2, .int x2), (3, .int x3), (4, .int x4)] := hl
  have hx := C.1
  have hb := C.2.1
  unfold w8_layOut at h
  refine lv_iload_n hx hb dX8_layOut_0 rfl (lv_at hl 1 rfl) ?_
  refine callSI (As := [.int x1]) (rest := []) C hG (c8_isBox l D cy x1 _ h) 1 gX8_layOut_X8_isBox rfl (by decide +kernel) ⟨⟨Nat.le_of_ble_eq_true rfl, Nat.le_of_ble_eq_true rfl⟩, rfl, rfl⟩ (Foc.none C.2.2.2.2.2.2.2.2.1) rfl hl.1 rfl (Nat.le_of_ble_eq_true rfl) dX8_layOut_1 ⟨Nat.zero_le _, Nat.zero_le _⟩ (fun r1 z H locs h hG => ?_)
  refine lv_if_eq (tgt := 22) hx hb dX8_layOut_4 (by decide) (fun c2 => ?_) (fun c2 => ?_)
  · replace h := h.1 c2
    exact b8_layOut_b22 Z X C h hG (lv_sub hl [0] rfl)
  · replace h := h.2 c2
    refine lv_iload_n hx hb dX8_layOut_7 rfl (lv_at hl 3 rfl) ?_
    refine callSI (As := [.int x3]) (rest := []) C hG (c8_isSquare l D cy x3 _ h) 1 gX8_layOut_X8_isSquare rfl (by decide +kernel) ⟨⟨Nat.le_of_ble_eq_true rfl, Nat.le_of_ble_eq_true rfl⟩, rfl, rfl⟩ (Foc.none C.2.2.2.2.2.2.2.2.1) rfl hl.1 rfl (Nat.le_of_ble_eq_true rfl) dX8_layOut_8 ⟨Nat.zero_le _, Nat.zero_le _⟩ (fun r3 z H locs h hG => ?_)
    refine lv_if_eq (tgt := 22) hx hb dX8_layOut_11 (by decide) (fun c4 => ?_) (fun c4 => ?_)
    · replace h := h.1 c4
      exact b8_layOut_b22 Z X C h hG (lv_sub hl [0] rfl)
    · replace h := h.2 c4
      refine lv_iload hx hb dX8_layOut_14 (lv_at hl 4 rfl) ?_
      refine callSI (As := [.int x4]) (rest := []) C hG (c8_isFigure l D cy x4 _ h) 1 gX8_layOut_X8_isFigure rfl (by decide +kernel) ⟨⟨Nat.le_of_ble_eq_true rfl, Nat.le_of_ble_eq_true rfl⟩, rfl, rfl⟩ (Foc.none C.2.2.2.2.2.2.2.2.1) rfl hl.1 rfl (Nat.le_of_ble_eq_true rfl) dX8_layOut_16 ⟨Nat.zero_le _, Nat.zero_le _⟩ (fun r5 z H locs h hG => ?_)
      refine lv_if_ne (tgt := 24) hx hb dX8_layOut_19 (by decide) (fun c6 => ?_) (fun c6 => ?_)
      · replace h := h.1 c6
        refine lv_aload_n hx hb dX8_layOut_24 rfl (lv_at hl 0 rfl) ?_
        refine gx_get C i8_layOut_X8 hG 0 rfl rfl 1 (by decide) k8_layOut_17 rfl dX8_layOut_25 ?_
        refine lv_iload_n hx hb dX8_layOut_28 rfl (lv_at hl 1 rfl) ?_
        obtain ⟨hv7, h⟩ := h
        refine gx_aald (C' := "PaperBodies$Box") C hG 2 2 rfl rfl hv7 dX8_layOut_29 ?_
        refine lv_iload_n hx hb dX8_layOut_30 rfl (lv_at hl 2 rfl) ?_
        obtain ⟨hr9, h⟩ := h
        refine callSI (As := [.ref (oa (6 + x1.toNatClampNeg)), .int x2]) (rest := []) C hG (c8_missingCell l D cy (oa (6 + x1.toNatClampNeg)) (qa (6 + x1.toNatClampNeg)) x2 (X (6 + x1.toNatClampNeg)) _ h) 2 gX8_layOut_X8_missingCell rfl (by decide +kernel) ⟨⟨Nat.le_of_ble_eq_true rfl, Nat.le_of_ble_eq_true rfl⟩, rfl, rfl⟩ (fo_1 C.2.2.2.2.2.2.2.2.1 (k0 := (6 + x1.toNatClampNeg)) hr9) rfl hl.1 rfl (Nat.le_of_ble_eq_true rfl) dX8_layOut_31 ⟨Nat.zero_le _, Nat.zero_le _⟩ (fun r8 u10 H locs h hG => ?_)
        obtain ⟨eu10, h⟩ := h
        have eu10 : u10 = (X (6 + x1.toNatClampNeg)) := eu10
        subst u10
        have hG : GW D A s (wP o qp oa qa cy Z X) H locs := by
          have e9 : (va_up X (6 + x1.toNatClampNeg) (X (6 + x1.toNatClampNeg))) = X := by simp only [up_same]
          have hG : GW D A s (wP o qp oa qa cy Z (va_up X (6 + x1.toNatClampNeg) (X (6 + x1.toNatClampNeg)))) H locs := hG
          rw [e9] at hG
          exact hG
        refine lv_istore (lv' := [(5, .int r8), (0, .ref o), (1, .int x1), (2, .int x2), (3, .int x3), (4, .int x4)]) hx hb dX8_layOut_34 hl (by decide) rfl (fun ls hl => ?_)
        refine lv_iload hx hb dX8_layOut_36 (lv_at hl 0 rfl) ?_
        refine lv_if_eq (tgt := 48) hx hb dX8_layOut_38 (by decide) (fun c11 => ?_) (fun c11 => ?_)
        · replace h := h.1 c11
          refine lv_aload_n hx hb dX8_layOut_48 rfl (lv_at hl 1 rfl) ?_
          refine lv_aload_n hx hb dX8_layOut_49 rfl (lv_at hl 1 rfl) ?_
          refine gx_get C i8_layOut_X8 hG 0 rfl rfl 0 (by decide) k8_layOut_11 rfl dX8_layOut_50 ?_
          refine lv_iload hx hb dX8_layOut_53 (lv_at hl 5 rfl) ?_
          obtain ⟨hv12, h⟩ := h
          refine gx_aald (C' := "PaperBodies$Figure") C hG 1 3 rfl rfl hv12 dX8_layOut_55 ?_
          refine lv_aload_n hx hb dX8_layOut_56 rfl (lv_at hl 1 rfl) ?_
          refine gx_get C i8_layOut_X8 hG 0 rfl rfl 1 (by decide) k8_layOut_17 rfl dX8_layOut_57 ?_
          refine lv_iload_n hx hb dX8_layOut_60 rfl (lv_at hl 2 rfl) ?_
          refine gx_aald (C' := "PaperBodies$Box") C hG 2 2 rfl rfl hv7 dX8_layOut_61 ?_
          refine lv_iload_n hx hb dX8_layOut_62 rfl (lv_at hl 3 rfl) ?_
          refine lv_iload_n hx hb dX8_layOut_63 rfl (lv_at hl 4 rfl) ?_
          refine lv_aload_n hx hb dX8_layOut_64 rfl (lv_at hl 1 rfl) ?_
          refine gx_get C i8_layOut_X8 hG 0 rfl rfl 3 (by decide) k8_layOut_28 rfl dX8_layOut_65 ?_
          refine callVI (As := [.ref (oa (x4.toNatClampNeg)), .ref (oa (6 + x1.toNatClampNeg)), .int x2, .int x3, .ref (oa 14)]) (rest := []) C hG (c8_layOutTo l D cy o qp oa qa (x4.toNatClampNeg) (6 + x1.toNatClampNeg) x2 x3 14 Z X _ h) 5 gX8_layOut_X8_layOutTo rfl (by decide +kernel) ⟨⟨Nat.le_of_ble_eq_true rfl, Nat.le_of_ble_eq_true rfl⟩, rfl, rfl⟩ rfl rfl (Foc.all (w' := (fun z : MS × (Nat → MS) => wP o qp oa qa cy z.1 z.2)) (S' := (Z, X)) C.2.2.2.2.2.2.2.2.1) rfl hl.1 rfl (Nat.le_of_ble_eq_true rfl) dX8_layOut_68 ⟨Nat.zero_le _, Nat.zero_le _⟩ (fun r13 z H locs h hG => ?_)
          obtain ⟨u14, S15⟩ := z
          obtain ⟨eu14, h⟩ := h
          have eu14 : u14 = Z := eu14
          replace h := h
          subst u14
          have hG : GW D A s (wP o qp oa qa cy Z S15) H locs := hG
          exact retI (w := (fun z : MS × (Nat → MS) => wP o qp oa qa cy z.1 z.2)) (S := (Z, S15)) (Qp := (fun r z => Q r z.1 z.2)) C hG h dX8_layOut_71
        · replace h := h.2 c11
          refine lv_aload_n hx hb dX8_layOut_41 rfl (lv_at hl 1 rfl) ?_
          refine lv_iload hx hb dX8_layOut_42 (lv_at hl 0 rfl) ?_
          refine callVI (As := [.int r8]) (rest := []) C hG (c8_refuse l D cy o qp oa qa r8 Z X _ h) 1 gX8_layOut_X8_refuse rfl (by decide +kernel) ⟨⟨Nat.le_of_ble_eq_true rfl, Nat.le_of_ble_eq_true rfl⟩, rfl, rfl⟩ rfl rfl (Foc.all (w' := (fun z : MS × (Nat → MS) => wP o qp oa qa cy z.1 z.2)) (S' := (Z, X)) C.2.2.2.2.2.2.2.2.1) rfl hl.1 rfl (Nat.le_of_ble_eq_true rfl) dX8_layOut_44 ⟨Nat.zero_le _, Nat.zero_le _⟩ (fun r16 z H locs h hG => ?_)
          obtain ⟨S17, u18⟩ := z
          obtain ⟨eu18, h⟩ := h
          have eu18 : u18 = X := eu18
          replace h := h
          subst u18
          have hG : GW D A s (wP o qp oa qa cy S17 X) H locs := hG
          exact retI (w := (fun z : MS × (Nat → MS) => wP o qp oa qa cy z.1 z.2)) (S := (S17, X)) (Qp := (fun r z => Q r z.1 z.2)) C hG h dX8_layOut_47
      · replace h := h.2 c6
        exact b8_layOut_b22 Z X C h hG (lv_sub hl [0] rfl)
-- X8_layOutBy
theorem i8_layOutBy_X8 : ∀ w ∈ wsX80, w ∈ wsX8_layOutBy := fun w h => List.mem_cons_of_mem _ (inG_X8 w h)
theorem k8_layOutBy_11 : Cond.fieldLink RX8 11 "PaperBodies" "figures" "[LPaperBodies$Figure;" ∈ wsX8_layOutBy := (List.mem_cons_of_mem _ mw_317)
theorem k8_layOutBy_17 : Cond.fieldLink RX8 17 "PaperBodies" "boxes" "[LPaperBodies$Box;" ∈ wsX8_layOutBy := (List.mem_cons_of_mem _ mw_319)
theorem k8_layOutBy_23 : Cond.fieldLink RX8 23 "PaperBodies" "rows" "[LPaperBodies$Row;" ∈ wsX8_layOutBy := (List.mem_cons_of_mem _ mw_321)
def w8_layOutBy_b30 (Z : MS) (X : (Nat → MS)) (Q : Int32 → MS → (Nat → MS) → Prop) : Prop :=
  Q (-1 : Int32) Z X
set_option maxHeartbeats 4000000 in
set_option maxRecDepth 100000 in
theorem b8_layOutBy_b30 {p : Program} {l : Launch} {e : Env} {s : State} {m : MethodId} {args : Array Value} {below : List Frame} {meth : Method} {c : Code} {D : va_G} {cy : Nat → ClassId} {A : Nat → Prop} {o : Nat} {qp oa : Nat → Nat} {qa : Nat → Nat → Nat} (Z : MS) (X : (Nat → MS)) {Q : Int32 → MS → (Nat → MS) → Prop} (C : Cx p s m args meth c cX8_layOutBy 7 (some .int) wsX8_layOutBy RX8 D cy nestWs A) (h : w8_layOutBy_b30 Z X Q) {H : Heap} {locs : List Loc} (hG : GW D A s (wP o qp oa qa cy Z X) H locs) {ls : Array Slot} (hl : lv_has ls 7 [(0, .ref o)]) : W p l e ({ frames := 6, cells := 0, slots := 0, locals := 150 } : Room) s m args below meth c H locs 0 0 (MQ below (va_Qi (fun r z => Q r z.1 z.2) (B1 D (fun z : MS × (Nat → MS) => wP o qp oa qa cy z.1 z.2) A) A) args s 0 0 A) (F0 m 30 ls []) := by
  have hx := C.1
  have hb := C.2.1
  unfold w8_layOutBy_b30 at h
  refine lv_iconst (v := -1) hx hb dX8_layOutBy_30 (by decide) ?_
  exact retI (w := (fun z : MS × (Nat → MS) => wP o qp oa qa cy z.1 z.2)) (S := (Z, X)) (Qp := (fun r z => Q r z.1 z.2)) C hG h dX8_layOutBy_31
def w8_layOutBy (x1 : Int32) (x2 : Int32) (x3 : Int32) (x4 : Int32) (x5 : Int32) (Z : MS) (X : (Nat → MS)) (Q : Int32 → MS → (Nat → MS) → Prop) : Prop :=
  w8_isBox x1 (fun r1 => ((r1 = 0 → w8_layOutBy_b30 Z X Q) ∧ (¬ r1 = 0 → w8_isSquare x3 (fun r3 => ((r3 = 0 → w8_layOutBy_b30 Z X Q) ∧ (¬ r3 = 0 → w8_isRow x4 (fun r5 => ((r5 = 0 → w8_layOutBy_b30 Z X Q) ∧ (¬ r5 = 0 → w8_isFigure x5 (fun r7 => ((¬ r7 = 0 → vp_in x4 4 ∧ (10 ≤ (10 + x4.toNatClampNeg) ∧ (10 + x4.toNatClampNeg) < 15) ∧ w5_isThere (X (10 + x4.toNatClampNeg)) (fun r10 => ((¬ r10 = 0 → vp_in x1 4 ∧ (6 ≤ (6 + x1.toNatClampNeg) ∧ (6 + x1.toNatClampNeg) < 10) ∧ w8_missingCell x2 (X (6 + x1.toNatClampNeg)) (fun r15 => ((r15 = 0 → vp_in x5 6 ∧ w8_layOutTo (x5.toNatClampNeg) (6 + x1.toNatClampNeg) x2 x3 (10 + x4.toNatClampNeg) Z X (fun r20 S22 => Q r20 Z S22)) ∧ (¬ r15 = 0 → w8_refuse r15 Z X (fun r23 S24 => Q r23 S24 X))))) ∧ (r10 = 0 → w8_refuse (1 : Int32) Z X (fun r26 S27 => Q r26 S27 X))))) ∧ (r7 = 0 → w8_layOutBy_b30 Z X Q))))))))))))
set_option maxHeartbeats 4000000 in
set_option maxRecDepth 100000 in
theorem c8_layOutBy (l : Launch) (D : va_G) (cy : Nat → ClassId)  (o : Nat) (qp oa : Nat → Nat) (qa : Nat → Nat → Nat) (x1 : Int32) (x2 : Int32) (x3 : Int32) (x4 : Int32) (x5 : Int32) (Z : MS) (X : (Nat → MS)) (Q : Int32 → MS → (Nat → MS) → Prop) (h : w8_layOutBy x1 x2 x3 x4 x5 Z X Q) : MetI l yX8_layOutBy wsX8_layOutBy ({ frames := 6, cells := 0, slots := 0, locals := 150 } : Room) D cy nestWs (fun z : MS × (Nat → MS) => wP o qp oa qa cy z.1 z.2) [.ref o, .int x1, .int x2, .int x3, .int x4, .int x5] (Z, X) (fun r z => Q r z.1 z.2) := by
  refine MetI.mk RX8 cX8_layOutBy 7 .int (by decide) rfl nestWs_ok rfl (Nat.le_of_ble_eq_true rfl) ?_
  intro p e s m below meth c A ls C hG hl
  have hl : lv_has ls 7 [(0, .ref o), (1, .int x1), (2, .int x2), (3, .int x3), (4, .int x4), (5, .int x5)] := hl
  have hx := C.1
  have hb := C.2.1
  unfold w8_layOutBy at h
  refine lv_iload_n hx hb dX8_layOutBy_0 rfl (lv_at hl 1 rfl) ?_
  refine callSI (As := [.int x1]) (rest := []) C hG (c8_isBox l D cy x1 _ h) 1 gX8_layOutBy_X8_isBox rfl (by decide +kernel) ⟨⟨Nat.le_of_ble_eq_true rfl, Nat.le_of_ble_eq_true rfl⟩, rfl, rfl⟩ (Foc.none C.2.2.2.2.2.2.2.2.1) rfl hl.1 rfl (Nat.le_of_ble_eq_true rfl) dX8_layOutBy_1 ⟨Nat.zero_le _, Nat.zero_le _⟩ (fun r1 z H locs h hG => ?_)
  refine lv_if_eq (tgt := 30) hx hb dX8_layOutBy_4 (by decide) (fun c2 => ?_) (fun c2 => ?_)
  · replace h := h.1 c2
    exact b8_layOutBy_b30 Z X C h hG (lv_sub hl [0] rfl)
  · replace h := h.2 c2
    refine lv_iload_n hx hb dX8_layOutBy_7 rfl (lv_at hl 3 rfl) ?_
    refine callSI (As := [.int x3]) (rest := []) C hG (c8_isSquare l D cy x3 _ h) 1 gX8_layOutBy_X8_isSquare rfl (by decide +kernel) ⟨⟨Nat.le_of_ble_eq_true rfl, Nat.le_of_ble_eq_true rfl⟩, rfl, rfl⟩ (Foc.none C.2.2.2.2.2.2.2.2.1) rfl hl.1 rfl (Nat.le_of_ble_eq_true rfl) dX8_layOutBy_8 ⟨Nat.zero_le _, Nat.zero_le _⟩ (fun r3 z H locs h hG => ?_)
    refine lv_if_eq (tgt := 30) hx hb dX8_layOutBy_11 (by decide) (fun c4 => ?_) (fun c4 => ?_)
    · replace h := h.1 c4
      exact b8_layOutBy_b30 Z X C h hG (lv_sub hl [0] rfl)
    · replace h := h.2 c4
      refine lv_iload hx hb dX8_layOutBy_14 (lv_at hl 4 rfl) ?_
      refine callSI (As := [.int x4]) (rest := []) C hG (c8_isRow l D cy x4 _ h) 1 gX8_layOutBy_X8_isRow rfl (by decide +kernel) ⟨⟨Nat.le_of_ble_eq_true rfl, Nat.le_of_ble_eq_true rfl⟩, rfl, rfl⟩ (Foc.none C.2.2.2.2.2.2.2.2.1) rfl hl.1 rfl (Nat.le_of_ble_eq_true rfl) dX8_layOutBy_16 ⟨Nat.zero_le _, Nat.zero_le _⟩ (fun r5 z H locs h hG => ?_)
      refine lv_if_eq (tgt := 30) hx hb dX8_layOutBy_19 (by decide) (fun c6 => ?_) (fun c6 => ?_)
      · replace h := h.1 c6
        exact b8_layOutBy_b30 Z X C h hG (lv_sub hl [0] rfl)
      · replace h := h.2 c6
        refine lv_iload hx hb dX8_layOutBy_22 (lv_at hl 5 rfl) ?_
        refine callSI (As := [.int x5]) (rest := []) C hG (c8_isFigure l D cy x5 _ h) 1 gX8_layOutBy_X8_isFigure rfl (by decide +kernel) ⟨⟨Nat.le_of_ble_eq_true rfl, Nat.le_of_ble_eq_true rfl⟩, rfl, rfl⟩ (Foc.none C.2.2.2.2.2.2.2.2.1) rfl hl.1 rfl (Nat.le_of_ble_eq_true rfl) dX8_layOutBy_24 ⟨Nat.zero_le _, Nat.zero_le _⟩ (fun r7 z H locs h hG => ?_)
        refine lv_if_ne (tgt := 32) hx hb dX8_layOutBy_27 (by decide) (fun c8 => ?_) (fun c8 => ?_)
        · replace h := h.1 c8
          refine lv_aload_n hx hb dX8_layOutBy_32 rfl (lv_at hl 0 rfl) ?_
          refine gx_get C i8_layOutBy_X8 hG 0 rfl rfl 2 (by decide) k8_layOutBy_23 rfl dX8_layOutBy_33 ?_
          refine lv_iload hx hb dX8_layOutBy_36 (lv_at hl 4 rfl) ?_
          obtain ⟨hv9, h⟩ := h
          refine gx_aald (C' := "PaperBodies$Row") C hG 3 4 rfl rfl hv9 dX8_layOutBy_38 ?_
          obtain ⟨hr11, h⟩ := h
          refine callVI (As := []) (rest := []) C hG (c5_isThere l D cy (oa (10 + x4.toNatClampNeg)) (qa (10 + x4.toNatClampNeg)) (X (10 + x4.toNatClampNeg)) _ h) 0 gX8_layOutBy_X5_isThere rfl (by decide +kernel) ⟨⟨Nat.le_of_ble_eq_true rfl, Nat.le_of_ble_eq_true rfl⟩, rfl, rfl⟩ rfl rfl (fo_5 C.2.2.2.2.2.2.2.2.1 (k0 := (10 + x4.toNatClampNeg)) hr11) rfl hl.1 rfl (Nat.le_of_ble_eq_true rfl) dX8_layOutBy_39 ⟨Nat.zero_le _, Nat.zero_le _⟩ (fun r10 u12 H locs h hG => ?_)
          obtain ⟨eu12, h⟩ := h
          have eu12 : u12 = (X (10 + x4.toNatClampNeg)) := eu12
          subst u12
          have hG : GW D A s (wP o qp oa qa cy Z X) H locs := by
            have e9 : (va_up X (10 + x4.toNatClampNeg) (X (10 + x4.toNatClampNeg))) = X := by simp only [up_same]
            have hG : GW D A s (wP o qp oa qa cy Z (va_up X (10 + x4.toNatClampNeg) (X (10 + x4.toNatClampNeg)))) H locs := hG
            rw [e9] at hG
            exact hG
          refine lv_if_ne (tgt := 51) hx hb dX8_layOutBy_42 (by decide) (fun c13 => ?_) (fun c13 => ?_)
          · replace h := h.1 c13
            refine lv_aload_n hx hb dX8_layOutBy_51 rfl (lv_at hl 0 rfl) ?_
            refine gx_get C i8_layOutBy_X8 hG 0 rfl rfl 1 (by decide) k8_layOutBy_17 rfl dX8_layOutBy_52 ?_
            refine lv_iload_n hx hb dX8_layOutBy_55 rfl (lv_at hl 1 rfl) ?_
            obtain ⟨hv14, h⟩ := h
            refine gx_aald (C' := "PaperBodies$Box") C hG 2 2 rfl rfl hv14 dX8_layOutBy_56 ?_
            refine lv_iload_n hx hb dX8_layOutBy_57 rfl (lv_at hl 2 rfl) ?_
            obtain ⟨hr16, h⟩ := h
            refine callSI (As := [.ref (oa (6 + x1.toNatClampNeg)), .int x2]) (rest := []) C hG (c8_missingCell l D cy (oa (6 + x1.toNatClampNeg)) (qa (6 + x1.toNatClampNeg)) x2 (X (6 + x1.toNatClampNeg)) _ h) 2 gX8_layOutBy_X8_missingCell rfl (by decide +kernel) ⟨⟨Nat.le_of_ble_eq_true rfl, Nat.le_of_ble_eq_true rfl⟩, rfl, rfl⟩ (fo_1 C.2.2.2.2.2.2.2.2.1 (k0 := (6 + x1.toNatClampNeg)) hr16) rfl hl.1 rfl (Nat.le_of_ble_eq_true rfl) dX8_layOutBy_58 ⟨Nat.zero_le _, Nat.zero_le _⟩ (fun r15 u17 H locs h hG => ?_)
            obtain ⟨eu17, h⟩ := h
            have eu17 : u17 = (X (6 + x1.toNatClampNeg)) := eu17
            subst u17
            have hG : GW D A s (wP o qp oa qa cy Z X) H locs := by
              have e9 : (va_up X (6 + x1.toNatClampNeg) (X (6 + x1.toNatClampNeg))) = X := by simp only [up_same]
              have hG : GW D A s (wP o qp oa qa cy Z (va_up X (6 + x1.toNatClampNeg) (X (6 + x1.toNatClampNeg)))) H locs := hG
              rw [e9] at hG
              exact hG
            refine lv_istore (lv' := [(6, .int r15), (0, .ref o), (1, .int x1), (2, .int x2), (3, .int x3), (4, .int x4), (5, .int x5)]) hx hb dX8_layOutBy_61 hl (by decide) rfl (fun ls hl => ?_)
            refine lv_iload hx hb dX8_layOutBy_63 (lv_at hl 0 rfl) ?_
            refine lv_if_eq (tgt := 75) hx hb dX8_layOutBy_65 (by decide) (fun c18 => ?_) (fun c18 => ?_)
            · replace h := h.1 c18
              refine lv_aload_n hx hb dX8_layOutBy_75 rfl (lv_at hl 1 rfl) ?_
              refine lv_aload_n hx hb dX8_layOutBy_76 rfl (lv_at hl 1 rfl) ?_
              refine gx_get C i8_layOutBy_X8 hG 0 rfl rfl 0 (by decide) k8_layOutBy_11 rfl dX8_layOutBy_77 ?_
              refine lv_iload hx hb dX8_layOutBy_80 (lv_at hl 6 rfl) ?_
              obtain ⟨hv19, h⟩ := h
              refine gx_aald (C' := "PaperBodies$Figure") C hG 1 3 rfl rfl hv19 dX8_layOutBy_82 ?_
              refine lv_aload_n hx hb dX8_layOutBy_83 rfl (lv_at hl 1 rfl) ?_
              refine gx_get C i8_layOutBy_X8 hG 0 rfl rfl 1 (by decide) k8_layOutBy_17 rfl dX8_layOutBy_84 ?_
              refine lv_iload_n hx hb dX8_layOutBy_87 rfl (lv_at hl 2 rfl) ?_
              refine gx_aald (C' := "PaperBodies$Box") C hG 2 2 rfl rfl hv14 dX8_layOutBy_88 ?_
              refine lv_iload_n hx hb dX8_layOutBy_89 rfl (lv_at hl 3 rfl) ?_
              refine lv_iload_n hx hb dX8_layOutBy_90 rfl (lv_at hl 4 rfl) ?_
              refine lv_aload_n hx hb dX8_layOutBy_91 rfl (lv_at hl 1 rfl) ?_
              refine gx_get C i8_layOutBy_X8 hG 0 rfl rfl 2 (by decide) k8_layOutBy_23 rfl dX8_layOutBy_92 ?_
              refine lv_iload hx hb dX8_layOutBy_95 (lv_at hl 5 rfl) ?_
              refine gx_aald (C' := "PaperBodies$Row") C hG 3 4 rfl rfl hv9 dX8_layOutBy_97 ?_
              refine callVI (As := [.ref (oa (x5.toNatClampNeg)), .ref (oa (6 + x1.toNatClampNeg)), .int x2, .int x3, .ref (oa (10 + x4.toNatClampNeg))]) (rest := []) C hG (c8_layOutTo l D cy o qp oa qa (x5.toNatClampNeg) (6 + x1.toNatClampNeg) x2 x3 (10 + x4.toNatClampNeg) Z X _ h) 5 gX8_layOutBy_X8_layOutTo rfl (by decide +kernel) ⟨⟨Nat.le_of_ble_eq_true rfl, Nat.le_of_ble_eq_true rfl⟩, rfl, rfl⟩ rfl rfl (Foc.all (w' := (fun z : MS × (Nat → MS) => wP o qp oa qa cy z.1 z.2)) (S' := (Z, X)) C.2.2.2.2.2.2.2.2.1) rfl hl.1 rfl (Nat.le_of_ble_eq_true rfl) dX8_layOutBy_98 ⟨Nat.zero_le _, Nat.zero_le _⟩ (fun r20 z H locs h hG => ?_)
              obtain ⟨u21, S22⟩ := z
              obtain ⟨eu21, h⟩ := h
              have eu21 : u21 = Z := eu21
              replace h := h
              subst u21
              have hG : GW D A s (wP o qp oa qa cy Z S22) H locs := hG
              exact retI (w := (fun z : MS × (Nat → MS) => wP o qp oa qa cy z.1 z.2)) (S := (Z, S22)) (Qp := (fun r z => Q r z.1 z.2)) C hG h dX8_layOutBy_101
            · replace h := h.2 c18
              refine lv_aload_n hx hb dX8_layOutBy_68 rfl (lv_at hl 1 rfl) ?_
              refine lv_iload hx hb dX8_layOutBy_69 (lv_at hl 0 rfl) ?_
              refine callVI (As := [.int r15]) (rest := []) C hG (c8_refuse l D cy o qp oa qa r15 Z X _ h) 1 gX8_layOutBy_X8_refuse rfl (by decide +kernel) ⟨⟨Nat.le_of_ble_eq_true rfl, Nat.le_of_ble_eq_true rfl⟩, rfl, rfl⟩ rfl rfl (Foc.all (w' := (fun z : MS × (Nat → MS) => wP o qp oa qa cy z.1 z.2)) (S' := (Z, X)) C.2.2.2.2.2.2.2.2.1) rfl hl.1 rfl (Nat.le_of_ble_eq_true rfl) dX8_layOutBy_71 ⟨Nat.zero_le _, Nat.zero_le _⟩ (fun r23 z H locs h hG => ?_)
              obtain ⟨S24, u25⟩ := z
              obtain ⟨eu25, h⟩ := h
              have eu25 : u25 = X := eu25
              replace h := h
              subst u25
              have hG : GW D A s (wP o qp oa qa cy S24 X) H locs := hG
              exact retI (w := (fun z : MS × (Nat → MS) => wP o qp oa qa cy z.1 z.2)) (S := (S24, X)) (Qp := (fun r z => Q r z.1 z.2)) C hG h dX8_layOutBy_74
          · replace h := h.2 c13
            refine lv_aload_n hx hb dX8_layOutBy_45 rfl (lv_at hl 0 rfl) ?_
            refine lv_iconst (v := 1) hx hb dX8_layOutBy_46 (by decide) ?_
            refine callVI (As := [.int (1 : Int32)]) (rest := []) C hG (c8_refuse l D cy o qp oa qa (1 : Int32) Z X _ h) 1 gX8_layOutBy_X8_refuse rfl (by decide +kernel) ⟨⟨Nat.le_of_ble_eq_true rfl, Nat.le_of_ble_eq_true rfl⟩, rfl, rfl⟩ rfl rfl (Foc.all (w' := (fun z : MS × (Nat → MS) => wP o qp oa qa cy z.1 z.2)) (S' := (Z, X)) C.2.2.2.2.2.2.2.2.1) rfl hl.1 rfl (Nat.le_of_ble_eq_true rfl) dX8_layOutBy_47 ⟨Nat.zero_le _, Nat.zero_le _⟩ (fun r26 z H locs h hG => ?_)
            obtain ⟨S27, u28⟩ := z
            obtain ⟨eu28, h⟩ := h
            have eu28 : u28 = X := eu28
            replace h := h
            subst u28
            have hG : GW D A s (wP o qp oa qa cy S27 X) H locs := hG
            exact retI (w := (fun z : MS × (Nat → MS) => wP o qp oa qa cy z.1 z.2)) (S := (S27, X)) (Qp := (fun r z => Q r z.1 z.2)) C hG h dX8_layOutBy_50
        · replace h := h.2 c8
          exact b8_layOutBy_b30 Z X C h hG (lv_sub hl [0] rfl)
-- X8_way
theorem i8_way_X8 : ∀ w ∈ wsX80, w ∈ wsX8_way := fun w h => List.mem_cons_of_mem _ (inG_X8 w h)
theorem k8_way_17 : Cond.fieldLink RX8 17 "PaperBodies" "boxes" "[LPaperBodies$Box;" ∈ wsX8_way := (List.mem_cons_of_mem _ mw_319)
theorem k8_way_45 : Cond.fieldLink RX8 45 "PaperBodies" "unfolding" "LPaperBodies$Unfolding;" ∈ wsX8_way := (List.mem_cons_of_mem _ mw_330)
def w8_way_b38 (x1 : Int32) (x2 : Int32) (x3 : Int32) (x4 : Int32) (Z : MS) (X : (Nat → MS)) (Q : Int32 → MS → (Nat → MS) → Prop) : Prop :=
  ((x4 = 0 → vp_in x1 4 ∧ (6 ≤ (6 + x1.toNatClampNeg) ∧ (6 + x1.toNatClampNeg) < 10) ∧ w7_shortest x2 x3 (X 17) (X (6 + x1.toNatClampNeg)) (fun r3 S5 => ∀ X7 : Nat → MS, X7 = (va_up X 17 S5) → Q r3 Z X7)) ∧ (¬ x4 = 0 → w8_refuse x4 Z X (fun r8 S9 => Q r8 S9 X)))
set_option maxHeartbeats 4000000 in
set_option maxRecDepth 100000 in
theorem b8_way_b38 {p : Program} {l : Launch} {e : Env} {s : State} {m : MethodId} {args : Array Value} {below : List Frame} {meth : Method} {c : Code} {D : va_G} {cy : Nat → ClassId} {A : Nat → Prop} {o : Nat} {qp oa : Nat → Nat} {qa : Nat → Nat → Nat} (x1 : Int32) (x2 : Int32) (x3 : Int32) (x4 : Int32) (Z : MS) (X : (Nat → MS)) {Q : Int32 → MS → (Nat → MS) → Prop} (C : Cx p s m args meth c cX8_way 5 (some .int) wsX8_way RX8 D cy nestWs A) (h : w8_way_b38 x1 x2 x3 x4 Z X Q) {H : Heap} {locs : List Loc} (hG : GW D A s (wP o qp oa qa cy Z X) H locs) {ls : Array Slot} (hl : lv_has ls 5 [(0, .ref o), (1, .int x1), (2, .int x2), (3, .int x3), (4, .int x4)]) : W p l e ({ frames := 13, cells := 0, slots := 0, locals := 340 } : Room) s m args below meth c H locs 0 0 (MQ below (va_Qi (fun r z => Q r z.1 z.2) (B1 D (fun z : MS × (Nat → MS) => wP o qp oa qa cy z.1 z.2) A) A) args s 0 0 A) (F0 m 38 ls []) := by
  have hx := C.1
  have hb := C.2.1
  unfold w8_way_b38 at h
  refine lv_iload hx hb dX8_way_38 (lv_at hl 4 rfl) ?_
  refine lv_if_eq (tgt := 50) hx hb dX8_way_40 (by decide) (fun c1 => ?_) (fun c1 => ?_)
  · replace h := h.1 c1
    refine lv_aload_n hx hb dX8_way_50 rfl (lv_at hl 0 rfl) ?_
    refine gx_get C i8_way_X8 hG 0 rfl rfl 6 (by decide) k8_way_45 rfl dX8_way_51 ?_
    refine lv_aload_n hx hb dX8_way_54 rfl (lv_at hl 0 rfl) ?_
    refine gx_get C i8_way_X8 hG 0 rfl rfl 1 (by decide) k8_way_17 rfl dX8_way_55 ?_
    refine lv_iload_n hx hb dX8_way_58 rfl (lv_at hl 1 rfl) ?_
    obtain ⟨hv2, h⟩ := h
    refine gx_aald (C' := "PaperBodies$Box") C hG 2 2 rfl rfl hv2 dX8_way_59 ?_
    refine lv_iload_n hx hb dX8_way_60 rfl (lv_at hl 2 rfl) ?_
    refine lv_iload_n hx hb dX8_way_61 rfl (lv_at hl 3 rfl) ?_
    obtain ⟨hr4, h⟩ := h
    refine callVI (As := [.ref (oa (6 + x1.toNatClampNeg)), .int x2, .int x3]) (rest := []) C hG (c7_shortest l D cy (oa 17) (qa 17) (oa (6 + x1.toNatClampNeg)) (qa (6 + x1.toNatClampNeg)) x2 x3 (X 17) (X (6 + x1.toNatClampNeg)) _ h) 3 gX8_way_X7_shortest rfl (by decide +kernel) ⟨⟨Nat.le_of_ble_eq_true rfl, Nat.le_of_ble_eq_true rfl⟩, rfl, rfl⟩ rfl rfl (fo_7_1 C.2.2.2.2.2.2.2.2.1 (k0 := 17) (k1 := (6 + x1.toNatClampNeg)) ⟨by decide, by decide⟩ hr4) rfl hl.1 rfl (Nat.le_of_ble_eq_true rfl) dX8_way_62 ⟨Nat.zero_le _, Nat.zero_le _⟩ (fun r3 z H locs h hG => ?_)
    obtain ⟨S5, u6⟩ := z
    obtain ⟨eu6, h⟩ := h
    have eu6 : u6 = (X (6 + x1.toNatClampNeg)) := eu6
    replace h := h
    subst u6
    obtain ⟨X7, eX7⟩ : ∃ z : Nat → MS, z = (va_up X 17 S5) := ⟨_, rfl⟩
    have hG : GW D A s (wP o qp oa qa cy Z X7) H locs := by
      rw [eX7]
      have e9 : (va_up (va_up X 17 S5) (6 + x1.toNatClampNeg) (X (6 + x1.toNatClampNeg))) = (va_up X 17 S5) := by rw [up_back (show (6 + x1.toNatClampNeg) ≠ 17 by omega)]
      rw [← e9]
      exact hG
    replace h := h X7 eX7
    exact retI (w := (fun z : MS × (Nat → MS) => wP o qp oa qa cy z.1 z.2)) (S := (Z, X7)) (Qp := (fun r z => Q r z.1 z.2)) C hG h dX8_way_65
  · replace h := h.2 c1
    refine lv_aload_n hx hb dX8_way_43 rfl (lv_at hl 0 rfl) ?_
    refine lv_iload hx hb dX8_way_44 (lv_at hl 4 rfl) ?_
    refine callVI (As := [.int x4]) (rest := []) C hG (c8_refuse l D cy o qp oa qa x4 Z X _ h) 1 gX8_way_X8_refuse rfl (by decide +kernel) ⟨⟨Nat.le_of_ble_eq_true rfl, Nat.le_of_ble_eq_true rfl⟩, rfl, rfl⟩ rfl rfl (Foc.all (w' := (fun z : MS × (Nat → MS) => wP o qp oa qa cy z.1 z.2)) (S' := (Z, X)) C.2.2.2.2.2.2.2.2.1) rfl hl.1 rfl (Nat.le_of_ble_eq_true rfl) dX8_way_46 ⟨Nat.zero_le _, Nat.zero_le _⟩ (fun r8 z H locs h hG => ?_)
    obtain ⟨S9, u10⟩ := z
    obtain ⟨eu10, h⟩ := h
    have eu10 : u10 = X := eu10
    replace h := h
    subst u10
    have hG : GW D A s (wP o qp oa qa cy S9 X) H locs := hG
    exact retI (w := (fun z : MS × (Nat → MS) => wP o qp oa qa cy z.1 z.2)) (S := (S9, X)) (Qp := (fun r z => Q r z.1 z.2)) C hG h dX8_way_49
def w8_way (x1 : Int32) (x2 : Int32) (x3 : Int32) (Z : MS) (X : (Nat → MS)) (Q : Int32 → MS → (Nat → MS) → Prop) : Prop :=
  w8_isBox x1 (fun r1 => ((¬ r1 = 0 → vp_in x1 4 ∧ (6 ≤ (6 + x1.toNatClampNeg) ∧ (6 + x1.toNatClampNeg) < 10) ∧ w8_missingCell x2 (X (6 + x1.toNatClampNeg)) (fun r4 => ((¬ r4 = 0 → w8_way_b38 x1 x2 x3 r4 Z X Q) ∧ (r4 = 0 → w8_missingCell x3 (X (6 + x1.toNatClampNeg)) (fun r8 => w8_way_b38 x1 x2 x3 r8 Z X Q))))) ∧ (r1 = 0 → Q (-1 : Int32) Z X)))
set_option maxHeartbeats 4000000 in
set_option maxRecDepth 100000 in
theorem c8_way (l : Launch) (D : va_G) (cy : Nat → ClassId)  (o : Nat) (qp oa : Nat → Nat) (qa : Nat → Nat → Nat) (x1 : Int32) (x2 : Int32) (x3 : Int32) (Z : MS) (X : (Nat → MS)) (Q : Int32 → MS → (Nat → MS) → Prop) (h : w8_way x1 x2 x3 Z X Q) : MetI l yX8_way wsX8_way ({ frames := 13, cells := 0, slots := 0, locals := 340 } : Room) D cy nestWs (fun z : MS × (Nat → MS) => wP o qp oa qa cy z.1 z.2) [.ref o, .int x1, .int x2, .int x3] (Z, X) (fun r z => Q r z.1 z.2) := by
  refine MetI.mk RX8 cX8_way 5 .int (by decide) rfl nestWs_ok rfl (Nat.le_of_ble_eq_true rfl) ?_
  intro p e s m below meth c A ls C hG hl
  have hl : lv_has ls 5 [(0, .ref o), (1, .int x1), (2, .int x2), (3, .int x3)] := hl
  have hx := C.1
  have hb := C.2.1
  unfold w8_way at h
  refine lv_iload_n hx hb dX8_way_0 rfl (lv_at hl 1 rfl) ?_
  refine callSI (As := [.int x1]) (rest := []) C hG (c8_isBox l D cy x1 _ h) 1 gX8_way_X8_isBox rfl (by decide +kernel) ⟨⟨Nat.le_of_ble_eq_true rfl, Nat.le_of_ble_eq_true rfl⟩, rfl, rfl⟩ (Foc.none C.2.2.2.2.2.2.2.2.1) rfl hl.1 rfl (Nat.le_of_ble_eq_true rfl) dX8_way_1 ⟨Nat.zero_le _, Nat.zero_le _⟩ (fun r1 z H locs h hG => ?_)
  refine lv_if_ne (tgt := 9) hx hb dX8_way_4 (by decide) (fun c2 => ?_) (fun c2 => ?_)
  · replace h := h.1 c2
    refine lv_aload_n hx hb dX8_way_9 rfl (lv_at hl 0 rfl) ?_
    refine gx_get C i8_way_X8 hG 0 rfl rfl 1 (by decide) k8_way_17 rfl dX8_way_10 ?_
    refine lv_iload_n hx hb dX8_way_13 rfl (lv_at hl 1 rfl) ?_
    obtain ⟨hv3, h⟩ := h
    refine gx_aald (C' := "PaperBodies$Box") C hG 2 2 rfl rfl hv3 dX8_way_14 ?_
    refine lv_iload_n hx hb dX8_way_15 rfl (lv_at hl 2 rfl) ?_
    obtain ⟨hr5, h⟩ := h
    refine callSI (As := [.ref (oa (6 + x1.toNatClampNeg)), .int x2]) (rest := []) C hG (c8_missingCell l D cy (oa (6 + x1.toNatClampNeg)) (qa (6 + x1.toNatClampNeg)) x2 (X (6 + x1.toNatClampNeg)) _ h) 2 gX8_way_X8_missingCell rfl (by decide +kernel) ⟨⟨Nat.le_of_ble_eq_true rfl, Nat.le_of_ble_eq_true rfl⟩, rfl, rfl⟩ (fo_1 C.2.2.2.2.2.2.2.2.1 (k0 := (6 + x1.toNatClampNeg)) hr5) rfl hl.1 rfl (Nat.le_of_ble_eq_true rfl) dX8_way_16 ⟨Nat.zero_le _, Nat.zero_le _⟩ (fun r4 u6 H locs h hG => ?_)
    obtain ⟨eu6, h⟩ := h
    have eu6 : u6 = (X (6 + x1.toNatClampNeg)) := eu6
    subst u6
    have hG : GW D A s (wP o qp oa qa cy Z X) H locs := by
      have e9 : (va_up X (6 + x1.toNatClampNeg) (X (6 + x1.toNatClampNeg))) = X := by simp only [up_same]
      have hG : GW D A s (wP o qp oa qa cy Z (va_up X (6 + x1.toNatClampNeg) (X (6 + x1.toNatClampNeg)))) H locs := hG
      rw [e9] at hG
      exact hG
    refine lv_istore (lv' := [(4, .int r4), (0, .ref o), (1, .int x1), (2, .int x2), (3, .int x3)]) hx hb dX8_way_19 hl (by decide) rfl (fun ls hl => ?_)
    refine lv_iload hx hb dX8_way_21 (lv_at hl 0 rfl) ?_
    refine lv_if_ne (tgt := 38) hx hb dX8_way_23 (by decide) (fun c7 => ?_) (fun c7 => ?_)
    · replace h := h.1 c7
      exact b8_way_b38 x1 x2 x3 r4 Z X C h hG (lv_sub hl [1, 2, 3, 4, 0] rfl)
    · replace h := h.2 c7
      refine lv_aload_n hx hb dX8_way_26 rfl (lv_at hl 1 rfl) ?_
      refine gx_get C i8_way_X8 hG 0 rfl rfl 1 (by decide) k8_way_17 rfl dX8_way_27 ?_
      refine lv_iload_n hx hb dX8_way_30 rfl (lv_at hl 2 rfl) ?_
      refine gx_aald (C' := "PaperBodies$Box") C hG 2 2 rfl rfl hv3 dX8_way_31 ?_
      refine lv_iload_n hx hb dX8_way_32 rfl (lv_at hl 4 rfl) ?_
      refine callSI (As := [.ref (oa (6 + x1.toNatClampNeg)), .int x3]) (rest := []) C hG (c8_missingCell l D cy (oa (6 + x1.toNatClampNeg)) (qa (6 + x1.toNatClampNeg)) x3 (X (6 + x1.toNatClampNeg)) _ h) 2 gX8_way_X8_missingCell rfl (by decide +kernel) ⟨⟨Nat.le_of_ble_eq_true rfl, Nat.le_of_ble_eq_true rfl⟩, rfl, rfl⟩ (fo_1 C.2.2.2.2.2.2.2.2.1 (k0 := (6 + x1.toNatClampNeg)) hr5) rfl hl.1 rfl (Nat.le_of_ble_eq_true rfl) dX8_way_33 ⟨Nat.zero_le _, Nat.zero_le _⟩ (fun r8 u9 H locs h hG => ?_)
      obtain ⟨eu9, h⟩ := h
      have eu9 : u9 = (X (6 + x1.toNatClampNeg)) := eu9
      subst u9
      have hG : GW D A s (wP o qp oa qa cy Z X) H locs := by
        have e9 : (va_up X (6 + x1.toNatClampNeg) (X (6 + x1.toNatClampNeg))) = X := by simp only [up_same]
        have hG : GW D A s (wP o qp oa qa cy Z (va_up X (6 + x1.toNatClampNeg) (X (6 + x1.toNatClampNeg)))) H locs := hG
        rw [e9] at hG
        exact hG
      refine lv_istore (lv' := [(4, .int r8), (0, .ref o), (1, .int x1), (2, .int x2), (3, .int x3)]) hx hb dX8_way_36 hl (by decide) rfl (fun ls hl => ?_)
      exact b8_way_b38 x1 x2 x3 r8 Z X C h hG (lv_sub hl [1, 2, 3, 4, 0] rfl)
  · replace h := h.2 c2
    refine lv_iconst (v := -1) hx hb dX8_way_7 (by decide) ?_
    exact retI (w := (fun z : MS × (Nat → MS) => wP o qp oa qa cy z.1 z.2)) (S := (Z, X)) (Qp := (fun r z => Q r z.1 z.2)) C hG h dX8_way_8
-- X8_farthest
theorem i8_farthest_X8 : ∀ w ∈ wsX80, w ∈ wsX8_farthest := fun w h => List.mem_cons_of_mem _ (inG_X8 w h)
theorem i8_farthest_X1 : ∀ w ∈ wsX10, w ∈ wsX8_farthest := fun w h => List.mem_cons_of_mem _ (inG_X1 w h)
theorem k8_farthest_17 : Cond.fieldLink RX8 17 "PaperBodies" "boxes" "[LPaperBodies$Box;" ∈ wsX8_farthest := (List.mem_cons_of_mem _ mw_319)
theorem k8_farthest_45 : Cond.fieldLink RX8 45 "PaperBodies" "unfolding" "LPaperBodies$Unfolding;" ∈ wsX8_farthest := (List.mem_cons_of_mem _ mw_330)
theorem k8_farthest_147 : Cond.fieldLink RX8 147 "PaperBodies" "latestTold" "J" ∈ wsX8_farthest := (List.mem_cons_of_mem _ mw_390)
def w8_farthest_b86 (K39 : Int32 → Int32 → Int32 → (Nat → MS) → Prop) (x1 : Int32) (x2 : Int32) (x4 : Int32) (x5 : Int32) (x6 : Int32) (Z : MS) (X : (Nat → MS)) (Q : Int32 → MS → (Nat → MS) → Prop) : Prop :=
  ∀ y1 : Int32, y1 = x6 + 1 → K39 x4 x5 y1 X
set_option maxHeartbeats 4000000 in
set_option maxRecDepth 100000 in
theorem b8_farthest_b86 {p : Program} {l : Launch} {e : Env} {s : State} {m : MethodId} {args : Array Value} {below : List Frame} {meth : Method} {c : Code} {D : va_G} {cy : Nat → ClassId} {A : Nat → Prop} {o : Nat} {qp oa : Nat → Nat} {qa : Nat → Nat → Nat} {K39 : Int32 → Int32 → Int32 → (Nat → MS) → Prop} (x1 : Int32) (x2 : Int32) (x4 : Int32) (x5 : Int32) (x6 : Int32) (Z : MS) (X : (Nat → MS)) {Q : Int32 → MS → (Nat → MS) → Prop} (C : Cx p s m args meth c cX8_farthest 8 (some .int) wsX8_farthest RX8 D cy nestWs A) (hK39 : ∀ (x4 : Int32) (x5 : Int32) (x6 : Int32) (X : (Nat → MS)) (H : Heap) (locs : List Loc) (ls : Array Slot), K39 x4 x5 x6 X → GW D A s (wP o qp oa qa cy Z X) H locs → lv_has ls 8 [(0, .ref o), (1, .int x1), (2, .int x2), (4, .int x4), (5, .int x5), (6, .int x6)] → W p l e ({ frames := 13, cells := 0, slots := 0, locals := 340 } : Room) s m args below meth c H locs 0 0 (MQ below (va_Qi (fun r z => Q r z.1 z.2) (B1 D (fun z : MS × (Nat → MS) => wP o qp oa qa cy z.1 z.2) A) A) args s 0 0 A) (F0 m 39 ls [])) (h : w8_farthest_b86 K39 x1 x2 x4 x5 x6 Z X Q) {H : Heap} {locs : List Loc} (hG : GW D A s (wP o qp oa qa cy Z X) H locs) {ls : Array Slot} (hl : lv_has ls 8 [(0, .ref o), (1, .int x1), (2, .int x2), (4, .int x4), (5, .int x5), (6, .int x6)]) : W p l e ({ frames := 13, cells := 0, slots := 0, locals := 340 } : Room) s m args below meth c H locs 0 0 (MQ below (va_Qi (fun r z => Q r z.1 z.2) (B1 D (fun z : MS × (Nat → MS) => wP o qp oa qa cy z.1 z.2) A) A) args s 0 0 A) (F0 m 86 ls []) := by
  have hx := C.1
  have hb := C.2.1
  unfold w8_farthest_b86 at h
  obtain ⟨y1, ey1⟩ : ∃ y : Int32, y = x6 + 1 := ⟨_, rfl⟩
  replace h := h y1 ey1
  refine lv_iinc (v := y1) (lv' := [(6, .int y1), (0, .ref o), (1, .int x1), (2, .int x2), (4, .int x4), (5, .int x5)]) hx hb dX8_farthest_86 hl (k := 5) rfl (by rw [ey1]; rfl) (by decide) rfl (fun ls hl => ?_)
  refine lv_goto (tgt := 39) hx hb dX8_farthest_89 (by decide) ?_
  exact hK39 x4 x5 y1 X _ _ _ h hG (lv_sub hl [1, 2, 3, 4, 5, 0] rfl)
def w8_farthest_d39 (K39 : Int32 → Int32 → Int32 → (Nat → MS) → Prop) (x1 : Int32) (x2 : Int32) (x4 : Int32) (x5 : Int32) (x6 : Int32) (Z : MS) (X : (Nat → MS)) (Q : Int32 → MS → (Nat → MS) → Prop) : Prop :=
  vp_in x1 4 ∧ (6 ≤ (6 + x1.toNatClampNeg) ∧ (6 + x1.toNatClampNeg) < 10) ∧ (((fI (X (6 + x1.toNatClampNeg)) 6) ≤ x6 → ∀ S6 : MS, S6 = sJ Z 11 x5.toInt64 → Q x4 S6 X) ∧ (¬ (fI (X (6 + x1.toNatClampNeg)) 6) ≤ x6 → w7_shortest x2 x6 (X 17) (X (6 + x1.toNatClampNeg)) (fun r7 S8 => ∀ X10 : Nat → MS, X10 = (va_up X 17 S8) → ((r7 ≤ x5 → w8_farthest_b86 K39 x1 x2 x4 x5 x6 Z X10 Q) ∧ (¬ r7 ≤ x5 → w8_farthest_b86 K39 x1 x2 x6 r7 x6 Z X10 Q)))))
set_option maxHeartbeats 4000000 in
set_option maxRecDepth 100000 in
theorem b8_farthest_d39 {p : Program} {l : Launch} {e : Env} {s : State} {m : MethodId} {args : Array Value} {below : List Frame} {meth : Method} {c : Code} {D : va_G} {cy : Nat → ClassId} {A : Nat → Prop} {o : Nat} {qp oa : Nat → Nat} {qa : Nat → Nat → Nat} {K39 : Int32 → Int32 → Int32 → (Nat → MS) → Prop} (x1 : Int32) (x2 : Int32) (x4 : Int32) (x5 : Int32) (x6 : Int32) (Z : MS) (X : (Nat → MS)) {Q : Int32 → MS → (Nat → MS) → Prop} (C : Cx p s m args meth c cX8_farthest 8 (some .int) wsX8_farthest RX8 D cy nestWs A) (hK39 : ∀ (x4 : Int32) (x5 : Int32) (x6 : Int32) (X : (Nat → MS)) (H : Heap) (locs : List Loc) (ls : Array Slot), K39 x4 x5 x6 X → GW D A s (wP o qp oa qa cy Z X) H locs → lv_has ls 8 [(0, .ref o), (1, .int x1), (2, .int x2), (4, .int x4), (5, .int x5), (6, .int x6)] → W p l e ({ frames := 13, cells := 0, slots := 0, locals := 340 } : Room) s m args below meth c H locs 0 0 (MQ below (va_Qi (fun r z => Q r z.1 z.2) (B1 D (fun z : MS × (Nat → MS) => wP o qp oa qa cy z.1 z.2) A) A) args s 0 0 A) (F0 m 39 ls [])) (h : w8_farthest_d39 K39 x1 x2 x4 x5 x6 Z X Q) {H : Heap} {locs : List Loc} (hG : GW D A s (wP o qp oa qa cy Z X) H locs) {ls : Array Slot} (hl : lv_has ls 8 [(0, .ref o), (1, .int x1), (2, .int x2), (4, .int x4), (5, .int x5), (6, .int x6)]) : W p l e ({ frames := 13, cells := 0, slots := 0, locals := 340 } : Room) s m args below meth c H locs 0 0 (MQ below (va_Qi (fun r z => Q r z.1 z.2) (B1 D (fun z : MS × (Nat → MS) => wP o qp oa qa cy z.1 z.2) A) A) args s 0 0 A) (F0 m 39 ls []) := by
  have hx := C.1
  have hb := C.2.1
  unfold w8_farthest_d39 at h
  refine lv_iload hx hb dX8_farthest_39 (lv_at hl 5 rfl) ?_
  refine lv_aload_n hx hb dX8_farthest_41 rfl (lv_at hl 0 rfl) ?_
  refine gx_get C i8_farthest_X8 hG 0 rfl rfl 1 (by decide) k8_farthest_17 rfl dX8_farthest_42 ?_
  refine lv_iload_n hx hb dX8_farthest_45 rfl (lv_at hl 1 rfl) ?_
  obtain ⟨hv1, h⟩ := h
  refine gx_aald (C' := "PaperBodies$Box") C hG 2 2 rfl rfl hv1 dX8_farthest_46 ?_
  obtain ⟨hr2, h⟩ := h
  obtain ⟨qq3, he4⟩ := at1 (o := o) (qp := qp) (oa := oa) (qa := qa) (cy := cy) (Z := Z) (X := X) (k := (6 + x1.toNatClampNeg)) hr2
  refine gx_getN (host := "PaperBodies") C i8_farthest_X1 hG qq3 he4 rfl 6 (by decide) (by decide +kernel) rfl dX8_farthest_47 ?_
  refine lv_icmp_ge (tgt := 92) hx hb dX8_farthest_50 (by decide) (fun c5 => ?_) (fun c5 => ?_)
  · replace h := h.1 c5
    refine lv_aload_n hx hb dX8_farthest_92 rfl (lv_at hl 0 rfl) ?_
    refine lv_iload hx hb dX8_farthest_93 (lv_at hl 4 rfl) ?_
    refine lv_i2l hx hb dX8_farthest_95 rfl ?_
    refine gx_put (ty := .long) (ws' := wP o qp oa qa cy (sJ Z 11 x5.toInt64) X) C i8_farthest_X8 tyX8 tyX8_ok nmX8 hG 0 rfl rfl 11 (by decide) k8_farthest_147 rfl (by decide +kernel) rfl rfl (Nat.le_of_ble_eq_true rfl) dX8_farthest_96 rfl (fun H locs hG => ?_)
    obtain ⟨S6, eS6⟩ : ∃ z : MS, z = sJ Z 11 x5.toInt64 := ⟨_, rfl⟩
    rw [← eS6] at hG
    replace h := h S6 eS6
    refine lv_iload hx hb dX8_farthest_99 (lv_at hl 3 rfl) ?_
    exact retI (w := (fun z : MS × (Nat → MS) => wP o qp oa qa cy z.1 z.2)) (S := (S6, X)) (Qp := (fun r z => Q r z.1 z.2)) C hG h dX8_farthest_101
  · replace h := h.2 c5
    refine lv_aload_n hx hb dX8_farthest_53 rfl (lv_at hl 0 rfl) ?_
    refine gx_get C i8_farthest_X8 hG 0 rfl rfl 6 (by decide) k8_farthest_45 rfl dX8_farthest_54 ?_
    refine lv_aload_n hx hb dX8_farthest_57 rfl (lv_at hl 0 rfl) ?_
    refine gx_get C i8_farthest_X8 hG 0 rfl rfl 1 (by decide) k8_farthest_17 rfl dX8_farthest_58 ?_
    refine lv_iload_n hx hb dX8_farthest_61 rfl (lv_at hl 1 rfl) ?_
    refine gx_aald (C' := "PaperBodies$Box") C hG 2 2 rfl rfl hv1 dX8_farthest_62 ?_
    refine lv_iload_n hx hb dX8_farthest_63 rfl (lv_at hl 2 rfl) ?_
    refine lv_iload hx hb dX8_farthest_64 (lv_at hl 5 rfl) ?_
    refine callVI (As := [.ref (oa (6 + x1.toNatClampNeg)), .int x2, .int x6]) (rest := []) C hG (c7_shortest l D cy (oa 17) (qa 17) (oa (6 + x1.toNatClampNeg)) (qa (6 + x1.toNatClampNeg)) x2 x6 (X 17) (X (6 + x1.toNatClampNeg)) _ h) 3 gX8_farthest_X7_shortest rfl (by decide +kernel) ⟨⟨Nat.le_of_ble_eq_true rfl, Nat.le_of_ble_eq_true rfl⟩, rfl, rfl⟩ rfl rfl (fo_7_1 C.2.2.2.2.2.2.2.2.1 (k0 := 17) (k1 := (6 + x1.toNatClampNeg)) ⟨by decide, by decide⟩ hr2) rfl hl.1 rfl (Nat.le_of_ble_eq_true rfl) dX8_farthest_66 ⟨Nat.zero_le _, Nat.zero_le _⟩ (fun r7 z H locs h hG => ?_)
    obtain ⟨S8, u9⟩ := z
    obtain ⟨eu9, h⟩ := h
    have eu9 : u9 = (X (6 + x1.toNatClampNeg)) := eu9
    replace h := h
    subst u9
    obtain ⟨X10, eX10⟩ : ∃ z : Nat → MS, z = (va_up X 17 S8) := ⟨_, rfl⟩
    have hG : GW D A s (wP o qp oa qa cy Z X10) H locs := by
      rw [eX10]
      have e9 : (va_up (va_up X 17 S8) (6 + x1.toNatClampNeg) (X (6 + x1.toNatClampNeg))) = (va_up X 17 S8) := by rw [up_back (show (6 + x1.toNatClampNeg) ≠ 17 by omega)]
      rw [← e9]
      exact hG
    replace h := h X10 eX10
    refine lv_istore (lv' := [(7, .int r7), (0, .ref o), (1, .int x1), (2, .int x2), (4, .int x4), (5, .int x5), (6, .int x6)]) hx hb dX8_farthest_69 hl (by decide) rfl (fun ls hl => ?_)
    refine lv_iload hx hb dX8_farthest_71 (lv_at hl 0 rfl) ?_
    refine lv_iload hx hb dX8_farthest_73 (lv_at hl 5 rfl) ?_
    refine lv_icmp_le (tgt := 86) hx hb dX8_farthest_75 (by decide) (fun c11 => ?_) (fun c11 => ?_)
    · replace h := h.1 c11
      exact b8_farthest_b86 (K39 := K39) x1 x2 x4 x5 x6 Z X10 C hK39 h hG (lv_sub hl [1, 2, 3, 4, 5, 6] rfl)
    · replace h := h.2 c11
      refine lv_iload hx hb dX8_farthest_78 (lv_at hl 0 rfl) ?_
      refine lv_istore (lv' := [(5, .int r7), (7, .int r7), (0, .ref o), (1, .int x1), (2, .int x2), (4, .int x4), (6, .int x6)]) hx hb dX8_farthest_80 hl (by decide) rfl (fun ls hl => ?_)
      refine lv_iload hx hb dX8_farthest_82 (lv_at hl 6 rfl) ?_
      refine lv_istore (lv' := [(4, .int x6), (5, .int r7), (7, .int r7), (0, .ref o), (1, .int x1), (2, .int x2), (6, .int x6)]) hx hb dX8_farthest_84 hl (by decide) rfl (fun ls hl => ?_)
      exact b8_farthest_b86 (K39 := K39) x1 x2 x6 r7 x6 Z X10 C hK39 h hG (lv_sub hl [3, 4, 5, 0, 1, 6] rfl)
def w8_farthest_F39 (x1 : Int32) (x2 : Int32) (Z : MS) (Q : Int32 → MS → (Nat → MS) → Prop) (K : Int32 × Int32 × Int32 × (Nat → MS) → Prop) (a : Int32 × Int32 × Int32 × (Nat → MS)) : Prop := w8_farthest_d39 (fun y0 y1 y2 y3 => K (y0, y1, y2, y3)) x1 x2 a.1 a.2.1 a.2.2.1 Z a.2.2.2 Q
def w8_farthest_b39 (x1 : Int32) (x2 : Int32) (x4 : Int32) (x5 : Int32) (x6 : Int32) (Z : MS) (X : (Nat → MS)) (Q : Int32 → MS → (Nat → MS) → Prop) : Prop := lp (w8_farthest_F39 x1 x2 Z Q) (x4, x5, x6, X)
set_option maxHeartbeats 4000000 in
set_option maxRecDepth 100000 in
theorem b8_farthest_b39 {p : Program} {l : Launch} {e : Env} {s : State} {m : MethodId} {args : Array Value} {below : List Frame} {meth : Method} {c : Code} {D : va_G} {cy : Nat → ClassId} {A : Nat → Prop} {o : Nat} {qp oa : Nat → Nat} {qa : Nat → Nat → Nat} (x1 : Int32) (x2 : Int32) (x4 : Int32) (x5 : Int32) (x6 : Int32) (Z : MS) (X : (Nat → MS)) {Q : Int32 → MS → (Nat → MS) → Prop} (C : Cx p s m args meth c cX8_farthest 8 (some .int) wsX8_farthest RX8 D cy nestWs A) (h : w8_farthest_b39 x1 x2 x4 x5 x6 Z X Q) {H : Heap} {locs : List Loc} (hG : GW D A s (wP o qp oa qa cy Z X) H locs) {ls : Array Slot} (hl : lv_has ls 8 [(0, .ref o), (1, .int x1), (2, .int x2), (4, .int x4), (5, .int x5), (6, .int x6)]) : W p l e ({ frames := 13, cells := 0, slots := 0, locals := 340 } : Room) s m args below meth c H locs 0 0 (MQ below (va_Qi (fun r z => Q r z.1 z.2) (B1 D (fun z : MS × (Nat → MS) => wP o qp oa qa cy z.1 z.2) A) A) args s 0 0 A) (F0 m 39 ls []) := by
  obtain ⟨k, hn⟩ := h
  induction k generalizing x4 x5 x6 X H locs ls with
  | zero => exact hn.elim
  | succ k ih => exact b8_farthest_d39 (K39 := fun y0 y1 y2 y3 => itr (w8_farthest_F39 x1 x2 Z Q) k (y0, y1, y2, y3)) x1 x2 x4 x5 x6 Z X C (fun x4 x5 x6 X H locs ls hk hG hl => ih x4 x5 x6 X hG hl hk) hn hG hl
def w8_farthest (x1 : Int32) (x2 : Int32) (Z : MS) (X : (Nat → MS)) (Q : Int32 → MS → (Nat → MS) → Prop) : Prop :=
  w8_isBox x1 (fun r1 => ((¬ r1 = 0 → vp_in x1 4 ∧ (6 ≤ (6 + x1.toNatClampNeg) ∧ (6 + x1.toNatClampNeg) < 10) ∧ w8_missingCell x2 (X (6 + x1.toNatClampNeg)) (fun r4 => ((r4 = 0 → w8_farthest_b39 x1 x2 (0 : Int32) (-1 : Int32) (0 : Int32) Z X Q) ∧ (¬ r4 = 0 → w8_refuse r4 Z X (fun r8 S9 => Q r8 S9 X))))) ∧ (r1 = 0 → Q (-1 : Int32) Z X)))
set_option maxHeartbeats 4000000 in
set_option maxRecDepth 100000 in
theorem c8_farthest (l : Launch) (D : va_G) (cy : Nat → ClassId)  (o : Nat) (qp oa : Nat → Nat) (qa : Nat → Nat → Nat) (x1 : Int32) (x2 : Int32) (Z : MS) (X : (Nat → MS)) (Q : Int32 → MS → (Nat → MS) → Prop) (h : w8_farthest x1 x2 Z X Q) : MetI l yX8_farthest wsX8_farthest ({ frames := 13, cells := 0, slots := 0, locals := 340 } : Room) D cy nestWs (fun z : MS × (Nat → MS) => wP o qp oa qa cy z.1 z.2) [.ref o, .int x1, .int x2] (Z, X) (fun r z => Q r z.1 z.2) := by
  refine MetI.mk RX8 cX8_farthest 8 .int (by decide) rfl nestWs_ok rfl (Nat.le_of_ble_eq_true rfl) ?_
  intro p e s m below meth c A ls C hG hl
  have hl : lv_has ls 8 [(0, .ref o), (1, .int x1), (2, .int x2)] := hl
  have hx := C.1
  have hb := C.2.1
  unfold w8_farthest at h
  refine lv_iload_n hx hb dX8_farthest_0 rfl (lv_at hl 1 rfl) ?_
  refine callSI (As := [.int x1]) (rest := []) C hG (c8_isBox l D cy x1 _ h) 1 gX8_farthest_X8_isBox rfl (by decide +kernel) ⟨⟨Nat.le_of_ble_eq_true rfl, Nat.le_of_ble_eq_true rfl⟩, rfl, rfl⟩ (Foc.none C.2.2.2.2.2.2.2.2.1) rfl hl.1 rfl (Nat.le_of_ble_eq_true rfl) dX8_farthest_1 ⟨Nat.zero_le _, Nat.zero_le _⟩ (fun r1 z H locs h hG => ?_)
  refine lv_if_ne (tgt := 9) hx hb dX8_farthest_4 (by decide) (fun c2 => ?_) (fun c2 => ?_)
  · replace h := h.1 c2
    refine lv_aload_n hx hb dX8_farthest_9 rfl (lv_at hl 0 rfl) ?_
    refine gx_get C i8_farthest_X8 hG 0 rfl rfl 1 (by decide) k8_farthest_17 rfl dX8_farthest_10 ?_
    refine lv_iload_n hx hb dX8_farthest_13 rfl (lv_at hl 1 rfl) ?_
    obtain ⟨hv3, h⟩ := h
    refine gx_aald (C' := "PaperBodies$Box") C hG 2 2 rfl rfl hv3 dX8_farthest_14 ?_
    refine lv_iload_n hx hb dX8_farthest_15 rfl (lv_at hl 2 rfl) ?_
    obtain ⟨hr5, h⟩ := h
    refine callSI (As := [.ref (oa (6 + x1.toNatClampNeg)), .int x2]) (rest := []) C hG (c8_missingCell l D cy (oa (6 + x1.toNatClampNeg)) (qa (6 + x1.toNatClampNeg)) x2 (X (6 + x1.toNatClampNeg)) _ h) 2 gX8_farthest_X8_missingCell rfl (by decide +kernel) ⟨⟨Nat.le_of_ble_eq_true rfl, Nat.le_of_ble_eq_true rfl⟩, rfl, rfl⟩ (fo_1 C.2.2.2.2.2.2.2.2.1 (k0 := (6 + x1.toNatClampNeg)) hr5) rfl hl.1 rfl (Nat.le_of_ble_eq_true rfl) dX8_farthest_16 ⟨Nat.zero_le _, Nat.zero_le _⟩ (fun r4 u6 H locs h hG => ?_)
    obtain ⟨eu6, h⟩ := h
    have eu6 : u6 = (X (6 + x1.toNatClampNeg)) := eu6
    subst u6
    have hG : GW D A s (wP o qp oa qa cy Z X) H locs := by
      have e9 : (va_up X (6 + x1.toNatClampNeg) (X (6 + x1.toNatClampNeg))) = X := by simp only [up_same]
      have hG : GW D A s (wP o qp oa qa cy Z (va_up X (6 + x1.toNatClampNeg) (X (6 + x1.toNatClampNeg)))) H locs := hG
      rw [e9] at hG
      exact hG
    refine lv_istore_n (lv' := [(3, .int r4), (0, .ref o), (1, .int x1), (2, .int x2)]) hx hb dX8_farthest_19 rfl hl (by decide) rfl (fun ls hl => ?_)
    refine lv_iload_n hx hb dX8_farthest_20 rfl (lv_at hl 0 rfl) ?_
    refine lv_if_eq (tgt := 30) hx hb dX8_farthest_21 (by decide) (fun c7 => ?_) (fun c7 => ?_)
    · replace h := h.1 c7
      refine lv_iconst (v := 0) hx hb dX8_farthest_30 (by decide) ?_
      refine lv_istore (lv' := [(4, .int (0 : Int32)), (3, .int r4), (0, .ref o), (1, .int x1), (2, .int x2)]) hx hb dX8_farthest_31 hl (by decide) rfl (fun ls hl => ?_)
      refine lv_iconst (v := -1) hx hb dX8_farthest_33 (by decide) ?_
      refine lv_istore (lv' := [(5, .int (-1 : Int32)), (4, .int (0 : Int32)), (3, .int r4), (0, .ref o), (1, .int x1), (2, .int x2)]) hx hb dX8_farthest_34 hl (by decide) rfl (fun ls hl => ?_)
      refine lv_iconst (v := 0) hx hb dX8_farthest_36 (by decide) ?_
      refine lv_istore (lv' := [(6, .int (0 : Int32)), (5, .int (-1 : Int32)), (4, .int (0 : Int32)), (3, .int r4), (0, .ref o), (1, .int x1), (2, .int x2)]) hx hb dX8_farthest_37 hl (by decide) rfl (fun ls hl => ?_)
      exact b8_farthest_b39 x1 x2 (0 : Int32) (-1 : Int32) (0 : Int32) Z X C h hG (lv_sub hl [4, 5, 6, 2, 1, 0] rfl)
    · replace h := h.2 c7
      refine lv_aload_n hx hb dX8_farthest_24 rfl (lv_at hl 1 rfl) ?_
      refine lv_iload_n hx hb dX8_farthest_25 rfl (lv_at hl 0 rfl) ?_
      refine callVI (As := [.int r4]) (rest := []) C hG (c8_refuse l D cy o qp oa qa r4 Z X _ h) 1 gX8_farthest_X8_refuse rfl (by decide +kernel) ⟨⟨Nat.le_of_ble_eq_true rfl, Nat.le_of_ble_eq_true rfl⟩, rfl, rfl⟩ rfl rfl (Foc.all (w' := (fun z : MS × (Nat → MS) => wP o qp oa qa cy z.1 z.2)) (S' := (Z, X)) C.2.2.2.2.2.2.2.2.1) rfl hl.1 rfl (Nat.le_of_ble_eq_true rfl) dX8_farthest_26 ⟨Nat.zero_le _, Nat.zero_le _⟩ (fun r8 z H locs h hG => ?_)
      obtain ⟨S9, u10⟩ := z
      obtain ⟨eu10, h⟩ := h
      have eu10 : u10 = X := eu10
      replace h := h
      subst u10
      have hG : GW D A s (wP o qp oa qa cy S9 X) H locs := hG
      exact retI (w := (fun z : MS × (Nat → MS) => wP o qp oa qa cy z.1 z.2)) (S := (S9, X)) (Qp := (fun r z => Q r z.1 z.2)) C hG h dX8_farthest_29
  · replace h := h.2 c2
    refine lv_iconst (v := -1) hx hb dX8_farthest_7 (by decide) ?_
    exact retI (w := (fun z : MS × (Nat → MS) => wP o qp oa qa cy z.1 z.2)) (S := (Z, X)) (Qp := (fun r z => Q r z.1 z.2)) C hG h dX8_farthest_8
-- X8_mean
theorem i8_mean_X8 : ∀ w ∈ wsX80, w ∈ wsX8_mean := fun w h => List.mem_cons_of_mem _ (inG_X8 w h)
theorem i8_mean_X1 : ∀ w ∈ wsX10, w ∈ wsX8_mean := fun w h => List.mem_cons_of_mem _ (inG_X1 w h)
theorem k8_mean_17 : Cond.fieldLink RX8 17 "PaperBodies" "boxes" "[LPaperBodies$Box;" ∈ wsX8_mean := (List.mem_cons_of_mem _ mw_319)
theorem k8_mean_45 : Cond.fieldLink RX8 45 "PaperBodies" "unfolding" "LPaperBodies$Unfolding;" ∈ wsX8_mean := (List.mem_cons_of_mem _ mw_330)
def w8_mean_b104 (t0 : Int32) (Z : MS) (X : (Nat → MS)) (Q : Int32 → MS → (Nat → MS) → Prop) : Prop :=
  Q t0 Z X
set_option maxHeartbeats 4000000 in
set_option maxRecDepth 100000 in
theorem b8_mean_b104 {p : Program} {l : Launch} {e : Env} {s : State} {m : MethodId} {args : Array Value} {below : List Frame} {meth : Method} {c : Code} {D : va_G} {cy : Nat → ClassId} {A : Nat → Prop} {o : Nat} {qp oa : Nat → Nat} {qa : Nat → Nat → Nat} (t0 : Int32) (Z : MS) (X : (Nat → MS)) {Q : Int32 → MS → (Nat → MS) → Prop} (C : Cx p s m args meth c cX8_mean 6 (some .int) wsX8_mean RX8 D cy nestWs A) (h : w8_mean_b104 t0 Z X Q) {H : Heap} {locs : List Loc} (hG : GW D A s (wP o qp oa qa cy Z X) H locs) {ls : Array Slot} (hl : lv_has ls 6 [(0, .ref o)]) : W p l e ({ frames := 13, cells := 0, slots := 0, locals := 340 } : Room) s m args below meth c H locs 0 0 (MQ below (va_Qi (fun r z => Q r z.1 z.2) (B1 D (fun z : MS × (Nat → MS) => wP o qp oa qa cy z.1 z.2) A) A) args s 0 0 A) (F0 m 104 ls [.int t0]) := by
  have hx := C.1
  have hb := C.2.1
  unfold w8_mean_b104 at h
  exact retI (w := (fun z : MS × (Nat → MS) => wP o qp oa qa cy z.1 z.2)) (S := (Z, X)) (Qp := (fun r z => Q r z.1 z.2)) C hG h dX8_mean_104
def w8_mean_d36 (K36 : Int32 → Int32 → (Nat → MS) → Prop) (x1 : Int32) (x2 : Int32) (x4 : Int32) (x5 : Int32) (Z : MS) (X : (Nat → MS)) (Q : Int32 → MS → (Nat → MS) → Prop) : Prop :=
  vp_in x1 4 ∧ (6 ≤ (6 + x1.toNatClampNeg) ∧ (6 + x1.toNatClampNeg) < 10) ∧ (((fI (X (6 + x1.toNatClampNeg)) 6) ≤ x5 → ∀ y8 : Int32, y8 = ((fI (X (6 + x1.toNatClampNeg)) 6) - (1 : Int32)) → ((y8 ≤ 0 → w8_mean_b104 (0 : Int32) Z X Q) ∧ (¬ y8 ≤ 0 → ¬ y8 = 0 ∧ w8_mean_b104 (x4 / y8) Z X Q))) ∧ (¬ (fI (X (6 + x1.toNatClampNeg)) 6) ≤ x5 → w7_shortest x2 x5 (X 17) (X (6 + x1.toNatClampNeg)) (fun r11 S12 => ∀ X14 : Nat → MS, X14 = (va_up X 17 S12) → ∀ y15 : Int32, y15 = (x4 + r11) → ∀ y16 : Int32, y16 = x5 + 1 → K36 y15 y16 X14)))
set_option maxHeartbeats 4000000 in
set_option maxRecDepth 100000 in
theorem b8_mean_d36 {p : Program} {l : Launch} {e : Env} {s : State} {m : MethodId} {args : Array Value} {below : List Frame} {meth : Method} {c : Code} {D : va_G} {cy : Nat → ClassId} {A : Nat → Prop} {o : Nat} {qp oa : Nat → Nat} {qa : Nat → Nat → Nat} {K36 : Int32 → Int32 → (Nat → MS) → Prop} (x1 : Int32) (x2 : Int32) (x4 : Int32) (x5 : Int32) (Z : MS) (X : (Nat → MS)) {Q : Int32 → MS → (Nat → MS) → Prop} (C : Cx p s m args meth c cX8_mean 6 (some .int) wsX8_mean RX8 D cy nestWs A) (hK36 : ∀ (x4 : Int32) (x5 : Int32) (X : (Nat → MS)) (H : Heap) (locs : List Loc) (ls : Array Slot), K36 x4 x5 X → GW D A s (wP o qp oa qa cy Z X) H locs → lv_has ls 6 [(0, .ref o), (1, .int x1), (2, .int x2), (4, .int x4), (5, .int x5)] → W p l e ({ frames := 13, cells := 0, slots := 0, locals := 340 } : Room) s m args below meth c H locs 0 0 (MQ below (va_Qi (fun r z => Q r z.1 z.2) (B1 D (fun z : MS × (Nat → MS) => wP o qp oa qa cy z.1 z.2) A) A) args s 0 0 A) (F0 m 36 ls [])) (h : w8_mean_d36 K36 x1 x2 x4 x5 Z X Q) {H : Heap} {locs : List Loc} (hG : GW D A s (wP o qp oa qa cy Z X) H locs) {ls : Array Slot} (hl : lv_has ls 6 [(0, .ref o), (1, .int x1), (2, .int x2), (4, .int x4), (5, .int x5)]) : W p l e ({ frames := 13, cells := 0, slots := 0, locals := 340 } : Room) s m args below meth c H locs 0 0 (MQ below (va_Qi (fun r z => Q r z.1 z.2) (B1 D (fun z : MS × (Nat → MS) => wP o qp oa qa cy z.1 z.2) A) A) args s 0 0 A) (F0 m 36 ls []) := by
  have hx := C.1
  have hb := C.2.1
  unfold w8_mean_d36 at h
  refine lv_iload hx hb dX8_mean_36 (lv_at hl 4 rfl) ?_
  refine lv_aload_n hx hb dX8_mean_38 rfl (lv_at hl 0 rfl) ?_
  refine gx_get C i8_mean_X8 hG 0 rfl rfl 1 (by decide) k8_mean_17 rfl dX8_mean_39 ?_
  refine lv_iload_n hx hb dX8_mean_42 rfl (lv_at hl 1 rfl) ?_
  obtain ⟨hv1, h⟩ := h
  refine gx_aald (C' := "PaperBodies$Box") C hG 2 2 rfl rfl hv1 dX8_mean_43 ?_
  obtain ⟨hr2, h⟩ := h
  obtain ⟨qq3, he4⟩ := at1 (o := o) (qp := qp) (oa := oa) (qa := qa) (cy := cy) (Z := Z) (X := X) (k := (6 + x1.toNatClampNeg)) hr2
  refine gx_getN (host := "PaperBodies") C i8_mean_X1 hG qq3 he4 rfl 6 (by decide) (by decide +kernel) rfl dX8_mean_44 ?_
  refine lv_icmp_ge (tgt := 77) hx hb dX8_mean_47 (by decide) (fun c5 => ?_) (fun c5 => ?_)
  · replace h := h.1 c5
    refine lv_aload_n hx hb dX8_mean_77 rfl (lv_at hl 0 rfl) ?_
    refine gx_get C i8_mean_X8 hG 0 rfl rfl 1 (by decide) k8_mean_17 rfl dX8_mean_78 ?_
    refine lv_iload_n hx hb dX8_mean_81 rfl (lv_at hl 1 rfl) ?_
    refine gx_aald (C' := "PaperBodies$Box") C hG 2 2 rfl rfl hv1 dX8_mean_82 ?_
    obtain ⟨qq6, he7⟩ := at1 (o := o) (qp := qp) (oa := oa) (qa := qa) (cy := cy) (Z := Z) (X := X) (k := (6 + x1.toNatClampNeg)) hr2
    refine gx_getN (host := "PaperBodies") C i8_mean_X1 hG qq6 he7 rfl 6 (by decide) (by decide +kernel) rfl dX8_mean_83 ?_
    refine lv_iconst (v := 1) hx hb dX8_mean_86 (by decide) ?_
    refine lv_isub hx hb dX8_mean_87 ?_
    refine lv_topi (fun y8 ey8 => ?_)
    replace h := h y8 ey8
    refine lv_istore (lv' := [(5, .int y8), (0, .ref o), (1, .int x1), (2, .int x2), (4, .int x4)]) hx hb dX8_mean_88 hl (by decide) rfl (fun ls hl => ?_)
    refine lv_iload hx hb dX8_mean_90 (lv_at hl 0 rfl) ?_
    refine lv_if_le (tgt := 103) hx hb dX8_mean_92 (by decide) (fun c9 => ?_) (fun c9 => ?_)
    · replace h := h.1 c9
      refine lv_iconst (v := 0) hx hb dX8_mean_103 (by decide) ?_
      exact b8_mean_b104 (0 : Int32) Z X C h hG (lv_sub hl [1] rfl)
    · replace h := h.2 c9
      refine lv_iload hx hb dX8_mean_95 (lv_at hl 4 rfl) ?_
      refine lv_iload hx hb dX8_mean_97 (lv_at hl 0 rfl) ?_
      obtain ⟨hz10, h⟩ := h
      refine lv_idiv hx hb dX8_mean_99 hz10 ?_
      refine lv_goto (tgt := 104) hx hb dX8_mean_100 (by decide) ?_
      exact b8_mean_b104 (x4 / y8) Z X C h hG (lv_sub hl [1] rfl)
  · replace h := h.2 c5
    refine lv_iload hx hb dX8_mean_50 (lv_at hl 3 rfl) ?_
    refine lv_aload_n hx hb dX8_mean_52 rfl (lv_at hl 0 rfl) ?_
    refine gx_get C i8_mean_X8 hG 0 rfl rfl 6 (by decide) k8_mean_45 rfl dX8_mean_53 ?_
    refine lv_aload_n hx hb dX8_mean_56 rfl (lv_at hl 0 rfl) ?_
    refine gx_get C i8_mean_X8 hG 0 rfl rfl 1 (by decide) k8_mean_17 rfl dX8_mean_57 ?_
    refine lv_iload_n hx hb dX8_mean_60 rfl (lv_at hl 1 rfl) ?_
    refine gx_aald (C' := "PaperBodies$Box") C hG 2 2 rfl rfl hv1 dX8_mean_61 ?_
    refine lv_iload_n hx hb dX8_mean_62 rfl (lv_at hl 2 rfl) ?_
    refine lv_iload hx hb dX8_mean_63 (lv_at hl 4 rfl) ?_
    refine callVI (As := [.ref (oa (6 + x1.toNatClampNeg)), .int x2, .int x5]) (rest := [.int x4]) C hG (c7_shortest l D cy (oa 17) (qa 17) (oa (6 + x1.toNatClampNeg)) (qa (6 + x1.toNatClampNeg)) x2 x5 (X 17) (X (6 + x1.toNatClampNeg)) _ h) 3 gX8_mean_X7_shortest rfl (by decide +kernel) ⟨⟨Nat.le_of_ble_eq_true rfl, Nat.le_of_ble_eq_true rfl⟩, rfl, rfl⟩ rfl rfl (fo_7_1 C.2.2.2.2.2.2.2.2.1 (k0 := 17) (k1 := (6 + x1.toNatClampNeg)) ⟨by decide, by decide⟩ hr2) rfl hl.1 rfl (Nat.le_of_ble_eq_true rfl) dX8_mean_65 ⟨Nat.zero_le _, Nat.zero_le _⟩ (fun r11 z H locs h hG => ?_)
    obtain ⟨S12, u13⟩ := z
    obtain ⟨eu13, h⟩ := h
    have eu13 : u13 = (X (6 + x1.toNatClampNeg)) := eu13
    replace h := h
    subst u13
    obtain ⟨X14, eX14⟩ : ∃ z : Nat → MS, z = (va_up X 17 S12) := ⟨_, rfl⟩
    have hG : GW D A s (wP o qp oa qa cy Z X14) H locs := by
      rw [eX14]
      have e9 : (va_up (va_up X 17 S12) (6 + x1.toNatClampNeg) (X (6 + x1.toNatClampNeg))) = (va_up X 17 S12) := by rw [up_back (show (6 + x1.toNatClampNeg) ≠ 17 by omega)]
      rw [← e9]
      exact hG
    replace h := h X14 eX14
    refine lv_iadd hx hb dX8_mean_68 ?_
    refine lv_topi (fun y15 ey15 => ?_)
    replace h := h y15 ey15
    refine lv_istore (lv' := [(4, .int y15), (0, .ref o), (1, .int x1), (2, .int x2), (5, .int x5)]) hx hb dX8_mean_69 hl (by decide) rfl (fun ls hl => ?_)
    obtain ⟨y16, ey16⟩ : ∃ y : Int32, y = x5 + 1 := ⟨_, rfl⟩
    replace h := h y16 ey16
    refine lv_iinc (v := y16) (lv' := [(5, .int y16), (4, .int y15), (0, .ref o), (1, .int x1), (2, .int x2)]) hx hb dX8_mean_71 hl (k := 4) rfl (by rw [ey16]; rfl) (by decide) rfl (fun ls hl => ?_)
    refine lv_goto (tgt := 36) hx hb dX8_mean_74 (by decide) ?_
    exact hK36 y15 y16 X14 _ _ _ h hG (lv_sub hl [2, 3, 4, 1, 0] rfl)
def w8_mean_F36 (x1 : Int32) (x2 : Int32) (Z : MS) (Q : Int32 → MS → (Nat → MS) → Prop) (K : Int32 × Int32 × (Nat → MS) → Prop) (a : Int32 × Int32 × (Nat → MS)) : Prop := w8_mean_d36 (fun y0 y1 y2 => K (y0, y1, y2)) x1 x2 a.1 a.2.1 Z a.2.2 Q
def w8_mean_b36 (x1 : Int32) (x2 : Int32) (x4 : Int32) (x5 : Int32) (Z : MS) (X : (Nat → MS)) (Q : Int32 → MS → (Nat → MS) → Prop) : Prop := lp (w8_mean_F36 x1 x2 Z Q) (x4, x5, X)
set_option maxHeartbeats 4000000 in
set_option maxRecDepth 100000 in
theorem b8_mean_b36 {p : Program} {l : Launch} {e : Env} {s : State} {m : MethodId} {args : Array Value} {below : List Frame} {meth : Method} {c : Code} {D : va_G} {cy : Nat → ClassId} {A : Nat → Prop} {o : Nat} {qp oa : Nat → Nat} {qa : Nat → Nat → Nat} (x1 : Int32) (x2 : Int32) (x4 : Int32) (x5 : Int32) (Z : MS) (X : (Nat → MS)) {Q : Int32 → MS → (Nat → MS) → Prop} (C : Cx p s m args meth c cX8_mean 6 (some .int) wsX8_mean RX8 D cy nestWs A) (h : w8_mean_b36 x1 x2 x4 x5 Z X Q) {H : Heap} {locs : List Loc} (hG : GW D A s (wP o qp oa qa cy Z X) H locs) {ls : Array Slot} (hl : lv_has ls 6 [(0, .ref o), (1, .int x1), (2, .int x2), (4, .int x4), (5, .int x5)]) : W p l e ({ frames := 13, cells := 0, slots := 0, locals := 340 } : Room) s m args below meth c H locs 0 0 (MQ below (va_Qi (fun r z => Q r z.1 z.2) (B1 D (fun z : MS × (Nat → MS) => wP o qp oa qa cy z.1 z.2) A) A) args s 0 0 A) (F0 m 36 ls []) := by
  obtain ⟨k, hn⟩ := h
  induction k generalizing x4 x5 X H locs ls with
  | zero => exact hn.elim
  | succ k ih => exact b8_mean_d36 (K36 := fun y0 y1 y2 => itr (w8_mean_F36 x1 x2 Z Q) k (y0, y1, y2)) x1 x2 x4 x5 Z X C (fun x4 x5 X H locs ls hk hG hl => ih x4 x5 X hG hl hk) hn hG hl
def w8_mean (x1 : Int32) (x2 : Int32) (Z : MS) (X : (Nat → MS)) (Q : Int32 → MS → (Nat → MS) → Prop) : Prop :=
  w8_isBox x1 (fun r1 => ((¬ r1 = 0 → vp_in x1 4 ∧ (6 ≤ (6 + x1.toNatClampNeg) ∧ (6 + x1.toNatClampNeg) < 10) ∧ w8_missingCell x2 (X (6 + x1.toNatClampNeg)) (fun r4 => ((r4 = 0 → w8_mean_b36 x1 x2 (0 : Int32) (0 : Int32) Z X Q) ∧ (¬ r4 = 0 → w8_refuse r4 Z X (fun r8 S9 => Q r8 S9 X))))) ∧ (r1 = 0 → Q (-1 : Int32) Z X)))
set_option maxHeartbeats 4000000 in
set_option maxRecDepth 100000 in
theorem c8_mean (l : Launch) (D : va_G) (cy : Nat → ClassId)  (o : Nat) (qp oa : Nat → Nat) (qa : Nat → Nat → Nat) (x1 : Int32) (x2 : Int32) (Z : MS) (X : (Nat → MS)) (Q : Int32 → MS → (Nat → MS) → Prop) (h : w8_mean x1 x2 Z X Q) : MetI l yX8_mean wsX8_mean ({ frames := 13, cells := 0, slots := 0, locals := 340 } : Room) D cy nestWs (fun z : MS × (Nat → MS) => wP o qp oa qa cy z.1 z.2) [.ref o, .int x1, .int x2] (Z, X) (fun r z => Q r z.1 z.2) := by
  refine MetI.mk RX8 cX8_mean 6 .int (by decide) rfl nestWs_ok rfl (Nat.le_of_ble_eq_true rfl) ?_
  intro p e s m below meth c A ls C hG hl
  have hl : lv_has ls 6 [(0, .ref o), (1, .int x1), (2, .int x2)] := hl
  have hx := C.1
  have hb := C.2.1
  unfold w8_mean at h
  refine lv_iload_n hx hb dX8_mean_0 rfl (lv_at hl 1 rfl) ?_
  refine callSI (As := [.int x1]) (rest := []) C hG (c8_isBox l D cy x1 _ h) 1 gX8_mean_X8_isBox rfl (by decide +kernel) ⟨⟨Nat.le_of_ble_eq_true rfl, Nat.le_of_ble_eq_true rfl⟩, rfl, rfl⟩ (Foc.none C.2.2.2.2.2.2.2.2.1) rfl hl.1 rfl (Nat.le_of_ble_eq_true rfl) dX8_mean_1 ⟨Nat.zero_le _, Nat.zero_le _⟩ (fun r1 z H locs h hG => ?_)
  refine lv_if_ne (tgt := 9) hx hb dX8_mean_4 (by decide) (fun c2 => ?_) (fun c2 => ?_)
  · replace h := h.1 c2
    refine lv_aload_n hx hb dX8_mean_9 rfl (lv_at hl 0 rfl) ?_
    refine gx_get C i8_mean_X8 hG 0 rfl rfl 1 (by decide) k8_mean_17 rfl dX8_mean_10 ?_
    refine lv_iload_n hx hb dX8_mean_13 rfl (lv_at hl 1 rfl) ?_
    obtain ⟨hv3, h⟩ := h
    refine gx_aald (C' := "PaperBodies$Box") C hG 2 2 rfl rfl hv3 dX8_mean_14 ?_
    refine lv_iload_n hx hb dX8_mean_15 rfl (lv_at hl 2 rfl) ?_
    obtain ⟨hr5, h⟩ := h
    refine callSI (As := [.ref (oa (6 + x1.toNatClampNeg)), .int x2]) (rest := []) C hG (c8_missingCell l D cy (oa (6 + x1.toNatClampNeg)) (qa (6 + x1.toNatClampNeg)) x2 (X (6 + x1.toNatClampNeg)) _ h) 2 gX8_mean_X8_missingCell rfl (by decide +kernel) ⟨⟨Nat.le_of_ble_eq_true rfl, Nat.le_of_ble_eq_true rfl⟩, rfl, rfl⟩ (fo_1 C.2.2.2.2.2.2.2.2.1 (k0 := (6 + x1.toNatClampNeg)) hr5) rfl hl.1 rfl (Nat.le_of_ble_eq_true rfl) dX8_mean_16 ⟨Nat.zero_le _, Nat.zero_le _⟩ (fun r4 u6 H locs h hG => ?_)
    obtain ⟨eu6, h⟩ := h
    have eu6 : u6 = (X (6 + x1.toNatClampNeg)) := eu6
    subst u6
    have hG : GW D A s (wP o qp oa qa cy Z X) H locs := by
      have e9 : (va_up X (6 + x1.toNatClampNeg) (X (6 + x1.toNatClampNeg))) = X := by simp only [up_same]
      have hG : GW D A s (wP o qp oa qa cy Z (va_up X (6 + x1.toNatClampNeg) (X (6 + x1.toNatClampNeg)))) H locs := hG
      rw [e9] at hG
      exact hG
    refine lv_istore_n (lv' := [(3, .int r4), (0, .ref o), (1, .int x1), (2, .int x2)]) hx hb dX8_mean_19 rfl hl (by decide) rfl (fun ls hl => ?_)
    refine lv_iload_n hx hb dX8_mean_20 rfl (lv_at hl 0 rfl) ?_
    refine lv_if_eq (tgt := 30) hx hb dX8_mean_21 (by decide) (fun c7 => ?_) (fun c7 => ?_)
    · replace h := h.1 c7
      refine lv_iconst (v := 0) hx hb dX8_mean_30 (by decide) ?_
      refine lv_istore (lv' := [(4, .int (0 : Int32)), (3, .int r4), (0, .ref o), (1, .int x1), (2, .int x2)]) hx hb dX8_mean_31 hl (by decide) rfl (fun ls hl => ?_)
      refine lv_iconst (v := 0) hx hb dX8_mean_33 (by decide) ?_
      refine lv_istore (lv' := [(5, .int (0 : Int32)), (4, .int (0 : Int32)), (3, .int r4), (0, .ref o), (1, .int x1), (2, .int x2)]) hx hb dX8_mean_34 hl (by decide) rfl (fun ls hl => ?_)
      exact b8_mean_b36 x1 x2 (0 : Int32) (0 : Int32) Z X C h hG (lv_sub hl [3, 4, 5, 1, 0] rfl)
    · replace h := h.2 c7
      refine lv_aload_n hx hb dX8_mean_24 rfl (lv_at hl 1 rfl) ?_
      refine lv_iload_n hx hb dX8_mean_25 rfl (lv_at hl 0 rfl) ?_
      refine callVI (As := [.int r4]) (rest := []) C hG (c8_refuse l D cy o qp oa qa r4 Z X _ h) 1 gX8_mean_X8_refuse rfl (by decide +kernel) ⟨⟨Nat.le_of_ble_eq_true rfl, Nat.le_of_ble_eq_true rfl⟩, rfl, rfl⟩ rfl rfl (Foc.all (w' := (fun z : MS × (Nat → MS) => wP o qp oa qa cy z.1 z.2)) (S' := (Z, X)) C.2.2.2.2.2.2.2.2.1) rfl hl.1 rfl (Nat.le_of_ble_eq_true rfl) dX8_mean_26 ⟨Nat.zero_le _, Nat.zero_le _⟩ (fun r8 z H locs h hG => ?_)
      obtain ⟨S9, u10⟩ := z
      obtain ⟨eu10, h⟩ := h
      have eu10 : u10 = X := eu10
      replace h := h
      subst u10
      have hG : GW D A s (wP o qp oa qa cy S9 X) H locs := hG
      exact retI (w := (fun z : MS × (Nat → MS) => wP o qp oa qa cy z.1 z.2)) (S := (S9, X)) (Qp := (fun r z => Q r z.1 z.2)) C hG h dX8_mean_29
  · replace h := h.2 c2
    refine lv_iconst (v := -1) hx hb dX8_mean_7 (by decide) ?_
    exact retI (w := (fun z : MS × (Nat → MS) => wP o qp oa qa cy z.1 z.2)) (S := (Z, X)) (Qp := (fun r z => Q r z.1 z.2)) C hG h dX8_mean_8
