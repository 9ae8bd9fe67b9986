-- X8_lay
theorem i8_lay_X8 : ∀ w ∈ wsX80, w ∈ wsX8_lay := fun w h => List.mem_cons_of_mem _ (inG_X8 w h)
theorem i8_lay_X5 : ∀ w ∈ wsX50, w ∈ wsX8_lay := fun w h => List.mem_cons_of_mem _ (inG_X5 w h)
theorem k8_lay_23 : Cond.fieldLink RX8 23 "PaperBodies" "rows" "[LPaperBodies$Row;" ∈ wsX8_lay := (List.mem_cons_of_mem _ mw_321)
theorem k8_lay_147 : Cond.fieldLink RX8 147 "PaperBodies" "latestTold" "J" ∈ wsX8_lay := (List.mem_cons_of_mem _ mw_390)
def w8_lay (x1 : Int32) (x2 : Int32) (x3 : Int32) (Z : MS) (X : (Nat → MS)) (Q : Int32 → MS → (Nat → MS) → Prop) : Prop :=
  w8_isRow x1 (fun r1 => ((¬ r1 = 0 → vp_in x1 4 ∧ (10 ≤ (10 + x1.toNatClampNeg) ∧ (10 + x1.toNatClampNeg) < 15) ∧ w5_isThere (X (10 + x1.toNatClampNeg)) (fun r4 => ((¬ r4 = 0 → w5_hasPlace x2 (X (10 + x1.toNatClampNeg)) (fun r8 => ((¬ r8 = 0 → vp_in x2 24 ∧ ∀ S16 : MS, S16 = sJ Z 11 (rA (X (10 + x1.toNatClampNeg)) 0 x2).toInt64 → ∀ X22 : Nat → MS, X22 = va_up X (10 + x1.toNatClampNeg) (sA (X (10 + x1.toNatClampNeg)) 0 x2 x3) → Q (1 : Int32) S16 X22) ∧ (r8 = 0 → w8_refuse (2 : Int32) Z X (fun r23 S24 => Q r23 S24 X))))) ∧ (r4 = 0 → w8_refuse (1 : Int32) Z X (fun r26 S27 => Q r26 S27 X))))) ∧ (r1 = 0 → Q (-1 : Int32) Z X)))
set_option maxHeartbeats 4000000 in
set_option maxRecDepth 100000 in
theorem c8_lay (l : Launch) (D : va_G) (cy : Nat → ClassId)  (o : Nat) (qp oa : Nat → Nat) (qa : Nat → Nat → Nat) (x1 : Int32) (x2 : Int32) (x3 : Int32) (Z : MS) (X : (Nat → MS)) (Q : Int32 → MS → (Nat → MS) → Prop) (h : w8_lay x1 x2 x3 Z X Q) : MetI l yX8_lay wsX8_lay ({ frames := 2, cells := 0, slots := 0, locals := 43 } : Room) D cy nestWs (fun z : MS × (Nat → MS) => wP o qp oa qa cy z.1 z.2) [.ref o, .int x1, .int x2, .int x3] (Z, X) (fun r z => Q r z.1 z.2) := by
  refine MetI.mk RX8 cX8_lay 4 .int (by decide) rfl nestWs_ok rfl (Nat.le_of_ble_eq_true rfl) ?_
  intro p e s m below meth c A ls C hG hl
  have hl : lv_has ls 4 [(0, .ref o), (1, .int x1), (2, .int x2), (3, .int x3)] := hl
  have hx := C.1
  have hb := C.2.1
  unfold w8_lay at h
  refine lv_iload_n hx hb dX8_lay_0 rfl (lv_at hl 1 rfl) ?_
  refine callSI (As := [.int x1]) (rest := []) C hG (c8_isRow l D cy x1 _ h) 1 gX8_lay_X8_isRow rfl (by decide +kernel) ⟨⟨Nat.le_of_ble_eq_true rfl, Nat.le_of_ble_eq_true rfl⟩, rfl, rfl⟩ (Foc.none C.2.2.2.2.2.2.2.2.1) rfl hl.1 rfl (Nat.le_of_ble_eq_true rfl) dX8_lay_1 ⟨Nat.zero_le _, Nat.zero_le _⟩ (fun r1 z H locs h hG => ?_)
  refine lv_if_ne (tgt := 9) hx hb dX8_lay_4 (by decide) (fun c2 => ?_) (fun c2 => ?_)
  · replace h := h.1 c2
    refine lv_aload_n hx hb dX8_lay_9 rfl (lv_at hl 0 rfl) ?_
    refine gx_get C i8_lay_X8 hG 0 rfl rfl 2 (by decide) k8_lay_23 rfl dX8_lay_10 ?_
    refine lv_iload_n hx hb dX8_lay_13 rfl (lv_at hl 1 rfl) ?_
    obtain ⟨hv3, h⟩ := h
    refine gx_aald (C' := "PaperBodies$Row") C hG 3 4 rfl rfl hv3 dX8_lay_14 ?_
    obtain ⟨hr5, h⟩ := h
    refine callVI (As := []) (rest := []) C hG (c5_isThere l D cy (oa (10 + x1.toNatClampNeg)) (qa (10 + x1.toNatClampNeg)) (X (10 + x1.toNatClampNeg)) _ h) 0 gX8_lay_X5_isThere rfl (by decide +kernel) ⟨⟨Nat.le_of_ble_eq_true rfl, Nat.le_of_ble_eq_true rfl⟩, rfl, rfl⟩ rfl rfl (fo_5 C.2.2.2.2.2.2.2.2.1 (k0 := (10 + x1.toNatClampNeg)) hr5) rfl hl.1 rfl (Nat.le_of_ble_eq_true rfl) dX8_lay_15 ⟨Nat.zero_le _, Nat.zero_le _⟩ (fun r4 u6 H locs h hG => ?_)
    obtain ⟨eu6, h⟩ := h
    have eu6 : u6 = (X (10 + x1.toNatClampNeg)) := eu6
    subst u6
    have hG : GW D A s (wP o qp oa qa cy Z X) H locs := by
      have e9 : (va_up X (10 + x1.toNatClampNeg) (X (10 + x1.toNatClampNeg))) = X := by simp only [up_same]
      have hG : GW D A s (wP o qp oa qa cy Z (va_up X (10 + x1.toNatClampNeg) (X (10 + x1.toNatClampNeg)))) H locs := hG
      rw [e9] at hG
      exact hG
    refine lv_if_ne (tgt := 27) hx hb dX8_lay_18 (by decide) (fun c7 => ?_) (fun c7 => ?_)
    · replace h := h.1 c7
      refine lv_aload_n hx hb dX8_lay_27 rfl (lv_at hl 0 rfl) ?_
      refine gx_get C i8_lay_X8 hG 0 rfl rfl 2 (by decide) k8_lay_23 rfl dX8_lay_28 ?_
      refine lv_iload_n hx hb dX8_lay_31 rfl (lv_at hl 1 rfl) ?_
      refine gx_aald (C' := "PaperBodies$Row") C hG 3 4 rfl rfl hv3 dX8_lay_32 ?_
      refine lv_iload_n hx hb dX8_lay_33 rfl (lv_at hl 2 rfl) ?_
      refine callVI (As := [.int x2]) (rest := []) C hG (c5_hasPlace l D cy (oa (10 + x1.toNatClampNeg)) (qa (10 + x1.toNatClampNeg)) x2 (X (10 + x1.toNatClampNeg)) _ h) 1 gX8_lay_X5_hasPlace rfl (by decide +kernel) ⟨⟨Nat.le_of_ble_eq_true rfl, Nat.le_of_ble_eq_true rfl⟩, rfl, rfl⟩ rfl rfl (fo_5 C.2.2.2.2.2.2.2.2.1 (k0 := (10 + x1.toNatClampNeg)) hr5) rfl hl.1 rfl (Nat.le_of_ble_eq_true rfl) dX8_lay_34 ⟨Nat.zero_le _, Nat.zero_le _⟩ (fun r8 u9 H locs h hG => ?_)
      obtain ⟨eu9, h⟩ := h
      have eu9 : u9 = (X (10 + x1.toNatClampNeg)) := eu9
      subst u9
      have hG : GW D A s (wP o qp oa qa cy Z X) H locs := by
        have e9 : (va_up X (10 + x1.toNatClampNeg) (X (10 + x1.toNatClampNeg))) = X := by simp only [up_same]
        have hG : GW D A s (wP o qp oa qa cy Z (va_up X (10 + x1.toNatClampNeg) (X (10 + x1.toNatClampNeg)))) H locs := hG
        rw [e9] at hG
        exact hG
      refine lv_if_ne (tgt := 46) hx hb dX8_lay_37 (by decide) (fun c10 => ?_) (fun c10 => ?_)
      · replace h := h.1 c10
        refine lv_aload_n hx hb dX8_lay_46 rfl (lv_at hl 0 rfl) ?_
        refine lv_aload_n hx hb dX8_lay_47 rfl (lv_at hl 0 rfl) ?_
        refine gx_get C i8_lay_X8 hG 0 rfl rfl 2 (by decide) k8_lay_23 rfl dX8_lay_48 ?_
        refine lv_iload_n hx hb dX8_lay_51 rfl (lv_at hl 1 rfl) ?_
        refine gx_aald (C' := "PaperBodies$Row") C hG 3 4 rfl rfl hv3 dX8_lay_52 ?_
        obtain ⟨qq11, he12⟩ := at5 (o := o) (qp := qp) (oa := oa) (qa := qa) (cy := cy) (Z := Z) (X := X) (k := (10 + x1.toNatClampNeg)) hr5
        refine gx_getN (host := "PaperBodies") C i8_lay_X5 hG qq11 he12 rfl 0 (by decide) (by decide +kernel) rfl dX8_lay_53 ?_
        refine lv_iload_n hx hb dX8_lay_56 rfl (lv_at hl 2 rfl) ?_
        obtain ⟨hv13, h⟩ := h
        obtain ⟨qq14, he15, -⟩ := at5_0 (o := o) (qp := qp) (oa := oa) (qa := qa) (cy := cy) (Z := Z) (X := X) (k := (10 + x1.toNatClampNeg)) hr5 (fun _ => 0)
        refine gx_ald C hG qq14 he15 hv13 dX8_lay_57 ?_
        refine lv_i2l hx hb dX8_lay_58 rfl ?_
        refine gx_put (ty := .long) (ws' := wP o qp oa qa cy (sJ Z 11 (rA (X (10 + x1.toNatClampNeg)) 0 x2).toInt64) X) C i8_lay_X8 tyX8 tyX8_ok nmX8 hG 0 rfl rfl 11 (by decide) k8_lay_147 rfl (by decide +kernel) rfl rfl (Nat.le_of_ble_eq_true rfl) dX8_lay_59 rfl (fun H locs hG => ?_)
        obtain ⟨S16, eS16⟩ : ∃ z : MS, z = sJ Z 11 (rA (X (10 + x1.toNatClampNeg)) 0 x2).toInt64 := ⟨_, rfl⟩
        rw [← eS16] at hG
        replace h := h S16 eS16
        refine lv_aload_n hx hb dX8_lay_62 rfl (lv_at hl 0 rfl) ?_
        refine gx_get C i8_lay_X8 hG 0 rfl rfl 2 (by decide) k8_lay_23 rfl dX8_lay_63 ?_
        refine lv_iload_n hx hb dX8_lay_66 rfl (lv_at hl 1 rfl) ?_
        refine gx_aald (C' := "PaperBodies$Row") C hG 3 4 rfl rfl hv3 dX8_lay_67 ?_
        obtain ⟨qq17, he18⟩ := at5 (o := o) (qp := qp) (oa := oa) (qa := qa) (cy := cy) (Z := S16) (X := X) (k := (10 + x1.toNatClampNeg)) hr5
        refine gx_getN (host := "PaperBodies") C i8_lay_X5 hG qq17 he18 rfl 0 (by decide) (by decide +kernel) rfl dX8_lay_68 ?_
        refine lv_iload_n hx hb dX8_lay_71 rfl (lv_at hl 2 rfl) ?_
        refine lv_iload_n hx hb dX8_lay_72 rfl (lv_at hl 3 rfl) ?_
        obtain ⟨qq19, he20, hs21⟩ := at5_0 (o := o) (qp := qp) (oa := oa) (qa := qa) (cy := cy) (Z := S16) (X := X) (k := (10 + x1.toNatClampNeg)) hr5 (upd (aI (X (10 + x1.toNatClampNeg)) 0) x2.toNatClampNeg x3)
        refine gx_astP (ws' := wP o qp oa qa cy S16 (va_up X (10 + x1.toNatClampNeg) (sA (X (10 + x1.toNatClampNeg)) 0 x2 x3))) C hG qq19 he20 hv13 dX8_lay_73 hs21 (fun H locs hG => ?_)
        obtain ⟨X22, eX22⟩ : ∃ z : Nat → MS, z = va_up X (10 + x1.toNatClampNeg) (sA (X (10 + x1.toNatClampNeg)) 0 x2 x3) := ⟨_, rfl⟩
        rw [← eX22] at hG
        replace h := h X22 eX22
        refine lv_iconst (v := 1) hx hb dX8_lay_74 (by decide) ?_
        exact retI (w := (fun z : MS × (Nat → MS) => wP o qp oa qa cy z.1 z.2)) (S := (S16, X22)) (Qp := (fun r z => Q r z.1 z.2)) C hG h dX8_lay_75
      · replace h := h.2 c10
        refine lv_aload_n hx hb dX8_lay_40 rfl (lv_at hl 0 rfl) ?_
        refine lv_iconst (v := 2) hx hb dX8_lay_41 (by decide) ?_
        refine callVI (As := [.int (2 : Int32)]) (rest := []) C hG (c8_refuse l D cy o qp oa qa (2 : Int32) Z X _ h) 1 gX8_lay_X8_refuse rfl (by decide +kernel) ⟨⟨Nat.le_of_ble_eq_true rfl, Nat.le_of_ble_eq_true rfl⟩, rfl, rfl⟩ rfl rfl (Foc.all (w' := (fun z : MS × (Nat → MS) => wP o qp oa qa cy z.1 z.2)) (S' := (Z, X)) C.2.2.2.2.2.2.2.2.1) rfl hl.1 rfl (Nat.le_of_ble_eq_true rfl) dX8_lay_42 ⟨Nat.zero_le _, Nat.zero_le _⟩ (fun r23 z H locs h hG => ?_)
        obtain ⟨S24, u25⟩ := z
        obtain ⟨eu25, h⟩ := h
        have eu25 : u25 = X := eu25
        replace h := h
        subst u25
        have hG : GW D A s (wP o qp oa qa cy S24 X) H locs := hG
        exact retI (w := (fun z : MS × (Nat → MS) => wP o qp oa qa cy z.1 z.2)) (S := (S24, X)) (Qp := (fun r z => Q r z.1 z.2)) C hG h dX8_lay_45
    · replace h := h.2 c7
      refine lv_aload_n hx hb dX8_lay_21 rfl (lv_at hl 0 rfl) ?_
      refine lv_iconst (v := 1) hx hb dX8_lay_22 (by decide) ?_
      refine callVI (As := [.int (1 : Int32)]) (rest := []) C hG (c8_refuse l D cy o qp oa qa (1 : Int32) Z X _ h) 1 gX8_lay_X8_refuse rfl (by decide +kernel) ⟨⟨Nat.le_of_ble_eq_true rfl, Nat.le_of_ble_eq_true rfl⟩, rfl, rfl⟩ rfl rfl (Foc.all (w' := (fun z : MS × (Nat → MS) => wP o qp oa qa cy z.1 z.2)) (S' := (Z, X)) C.2.2.2.2.2.2.2.2.1) rfl hl.1 rfl (Nat.le_of_ble_eq_true rfl) dX8_lay_23 ⟨Nat.zero_le _, Nat.zero_le _⟩ (fun r26 z H locs h hG => ?_)
      obtain ⟨S27, u28⟩ := z
      obtain ⟨eu28, h⟩ := h
      have eu28 : u28 = X := eu28
      replace h := h
      subst u28
      have hG : GW D A s (wP o qp oa qa cy S27 X) H locs := hG
      exact retI (w := (fun z : MS × (Nat → MS) => wP o qp oa qa cy z.1 z.2)) (S := (S27, X)) (Qp := (fun r z => Q r z.1 z.2)) C hG h dX8_lay_26
  · replace h := h.2 c2
    refine lv_iconst (v := -1) hx hb dX8_lay_7 (by decide) ?_
    exact retI (w := (fun z : MS × (Nat → MS) => wP o qp oa qa cy z.1 z.2)) (S := (Z, X)) (Qp := (fun r z => Q r z.1 z.2)) C hG h dX8_lay_8
-- X8_tear
theorem i8_tear_X8 : ∀ w ∈ wsX80, w ∈ wsX8_tear := fun w h => List.mem_cons_of_mem _ (inG_X8 w h)
theorem k8_tear_23 : Cond.fieldLink RX8 23 "PaperBodies" "rows" "[LPaperBodies$Row;" ∈ wsX8_tear := (List.mem_cons_of_mem _ mw_321)
def w8_tear (x1 : Int32) (Z : MS) (X : (Nat → MS)) (Q : Int32 → MS → (Nat → MS) → Prop) : Prop :=
  w8_isRow x1 (fun r1 => ((¬ r1 = 0 → vp_in x1 4 ∧ (10 ≤ (10 + x1.toNatClampNeg) ∧ (10 + x1.toNatClampNeg) < 15) ∧ w5_isThere (X (10 + x1.toNatClampNeg)) (fun r4 => ((¬ r4 = 0 → w5_takeAway (X (10 + x1.toNatClampNeg)) (fun S8 => ∀ X9 : Nat → MS, X9 = (va_up X (10 + x1.toNatClampNeg) S8) → Q (1 : Int32) Z X9)) ∧ (r4 = 0 → w8_refuse (1 : Int32) Z X (fun r10 S11 => Q r10 S11 X))))) ∧ (r1 = 0 → Q (-1 : Int32) Z X)))
set_option maxHeartbeats 4000000 in
set_option maxRecDepth 100000 in
theorem c8_tear (l : Launch) (D : va_G) (cy : Nat → ClassId)  (o : Nat) (qp oa : Nat → Nat) (qa : Nat → Nat → Nat) (x1 : Int32) (Z : MS) (X : (Nat → MS)) (Q : Int32 → MS → (Nat → MS) → Prop) (h : w8_tear x1 Z X Q) : MetI l yX8_tear wsX8_tear ({ frames := 2, cells := 0, slots := 0, locals := 43 } : Room) D cy nestWs (fun z : MS × (Nat → MS) => wP o qp oa qa cy z.1 z.2) [.ref o, .int x1] (Z, X) (fun r z => Q r z.1 z.2) := by
  refine MetI.mk RX8 cX8_tear 2 .int (by decide) rfl nestWs_ok rfl (Nat.le_of_ble_eq_true rfl) ?_
  intro p e s m below meth c A ls C hG hl
  have hl : lv_has ls 2 [(0, .ref o), (1, .int x1)] := hl
  have hx := C.1
  have hb := C.2.1
  unfold w8_tear at h
  refine lv_iload_n hx hb dX8_tear_0 rfl (lv_at hl 1 rfl) ?_
  refine callSI (As := [.int x1]) (rest := []) C hG (c8_isRow l D cy x1 _ h) 1 gX8_tear_X8_isRow rfl (by decide +kernel) ⟨⟨Nat.le_of_ble_eq_true rfl, Nat.le_of_ble_eq_true rfl⟩, rfl, rfl⟩ (Foc.none C.2.2.2.2.2.2.2.2.1) rfl hl.1 rfl (Nat.le_of_ble_eq_true rfl) dX8_tear_1 ⟨Nat.zero_le _, Nat.zero_le _⟩ (fun r1 z H locs h hG => ?_)
  refine lv_if_ne (tgt := 9) hx hb dX8_tear_4 (by decide) (fun c2 => ?_) (fun c2 => ?_)
  · replace h := h.1 c2
    refine lv_aload_n hx hb dX8_tear_9 rfl (lv_at hl 0 rfl) ?_
    refine gx_get C i8_tear_X8 hG 0 rfl rfl 2 (by decide) k8_tear_23 rfl dX8_tear_10 ?_
    refine lv_iload_n hx hb dX8_tear_13 rfl (lv_at hl 1 rfl) ?_
    obtain ⟨hv3, h⟩ := h
    refine gx_aald (C' := "PaperBodies$Row") C hG 3 4 rfl rfl hv3 dX8_tear_14 ?_
    obtain ⟨hr5, h⟩ := h
    refine callVI (As := []) (rest := []) C hG (c5_isThere l D cy (oa (10 + x1.toNatClampNeg)) (qa (10 + x1.toNatClampNeg)) (X (10 + x1.toNatClampNeg)) _ h) 0 gX8_tear_X5_isThere rfl (by decide +kernel) ⟨⟨Nat.le_of_ble_eq_true rfl, Nat.le_of_ble_eq_true rfl⟩, rfl, rfl⟩ rfl rfl (fo_5 C.2.2.2.2.2.2.2.2.1 (k0 := (10 + x1.toNatClampNeg)) hr5) rfl hl.1 rfl (Nat.le_of_ble_eq_true rfl) dX8_tear_15 ⟨Nat.zero_le _, Nat.zero_le _⟩ (fun r4 u6 H locs h hG => ?_)
    obtain ⟨eu6, h⟩ := h
    have eu6 : u6 = (X (10 + x1.toNatClampNeg)) := eu6
    subst u6
    have hG : GW D A s (wP o qp oa qa cy Z X) H locs := by
      have e9 : (va_up X (10 + x1.toNatClampNeg) (X (10 + x1.toNatClampNeg))) = X := by simp only [up_same]
      have hG : GW D A s (wP o qp oa qa cy Z (va_up X (10 + x1.toNatClampNeg) (X (10 + x1.toNatClampNeg)))) H locs := hG
      rw [e9] at hG
      exact hG
    refine lv_if_ne (tgt := 27) hx hb dX8_tear_18 (by decide) (fun c7 => ?_) (fun c7 => ?_)
    · replace h := h.1 c7
      refine lv_aload_n hx hb dX8_tear_27 rfl (lv_at hl 0 rfl) ?_
      refine gx_get C i8_tear_X8 hG 0 rfl rfl 2 (by decide) k8_tear_23 rfl dX8_tear_28 ?_
      refine lv_iload_n hx hb dX8_tear_31 rfl (lv_at hl 1 rfl) ?_
      refine gx_aald (C' := "PaperBodies$Row") C hG 3 4 rfl rfl hv3 dX8_tear_32 ?_
      refine callVV (As := []) (rest := []) C hG (c5_takeAway l D cy (oa (10 + x1.toNatClampNeg)) (qa (10 + x1.toNatClampNeg)) (X (10 + x1.toNatClampNeg)) _ h) 0 gX8_tear_X5_takeAway rfl (by decide +kernel) ⟨⟨Nat.le_of_ble_eq_true rfl, Nat.le_of_ble_eq_true rfl⟩, rfl, rfl⟩ rfl rfl (fo_5 C.2.2.2.2.2.2.2.2.1 (k0 := (10 + x1.toNatClampNeg)) hr5) rfl hl.1 rfl (Nat.le_of_ble_eq_true rfl) dX8_tear_33 ⟨Nat.zero_le _, Nat.zero_le _⟩ (fun  S8 H locs h hG => ?_)
      obtain ⟨X9, eX9⟩ : ∃ z : Nat → MS, z = (va_up X (10 + x1.toNatClampNeg) S8) := ⟨_, rfl⟩
      have hG : GW D A s (wP o qp oa qa cy Z X9) H locs := by rw [eX9]; exact hG
      replace h := h X9 eX9
      refine lv_iconst (v := 1) hx hb dX8_tear_36 (by decide) ?_
      exact retI (w := (fun z : MS × (Nat → MS) => wP o qp oa qa cy z.1 z.2)) (S := (Z, X9)) (Qp := (fun r z => Q r z.1 z.2)) C hG h dX8_tear_37
    · replace h := h.2 c7
      refine lv_aload_n hx hb dX8_tear_21 rfl (lv_at hl 0 rfl) ?_
      refine lv_iconst (v := 1) hx hb dX8_tear_22 (by decide) ?_
      refine callVI (As := [.int (1 : Int32)]) (rest := []) C hG (c8_refuse l D cy o qp oa qa (1 : Int32) Z X _ h) 1 gX8_tear_X8_refuse rfl (by decide +kernel) ⟨⟨Nat.le_of_ble_eq_true rfl, Nat.le_of_ble_eq_true rfl⟩, rfl, rfl⟩ rfl rfl (Foc.all (w' := (fun z : MS × (Nat → MS) => wP o qp oa qa cy z.1 z.2)) (S' := (Z, X)) C.2.2.2.2.2.2.2.2.1) rfl hl.1 rfl (Nat.le_of_ble_eq_true rfl) dX8_tear_23 ⟨Nat.zero_le _, Nat.zero_le _⟩ (fun r10 z H locs h hG => ?_)
      obtain ⟨S11, u12⟩ := z
      obtain ⟨eu12, h⟩ := h
      have eu12 : u12 = X := eu12
      replace h := h
      subst u12
      have hG : GW D A s (wP o qp oa qa cy S11 X) H locs := hG
      exact retI (w := (fun z : MS × (Nat → MS) => wP o qp oa qa cy z.1 z.2)) (S := (S11, X)) (Qp := (fun r z => Q r z.1 z.2)) C hG h dX8_tear_26
  · replace h := h.2 c2
    refine lv_iconst (v := -1) hx hb dX8_tear_7 (by decide) ?_
    exact retI (w := (fun z : MS × (Nat → MS) => wP o qp oa qa cy z.1 z.2)) (S := (Z, X)) (Qp := (fun r z => Q r z.1 z.2)) C hG h dX8_tear_8
-- X8_copy
theorem i8_copy_X8 : ∀ w ∈ wsX80, w ∈ wsX8_copy := fun w h => List.mem_cons_of_mem _ (inG_X8 w h)
theorem i8_copy_X5 : ∀ w ∈ wsX50, w ∈ wsX8_copy := fun w h => List.mem_cons_of_mem _ (inG_X5 w h)
theorem k8_copy_23 : Cond.fieldLink RX8 23 "PaperBodies" "rows" "[LPaperBodies$Row;" ∈ wsX8_copy := (List.mem_cons_of_mem _ mw_321)
theorem k8_copy_272 : (Cond.methodLink RX8 272 arraycopyName ∈ wsX8_copy ∧ Cond.native arraycopyName ∈ wsX8_copy) ∧ (Cond.static arraycopyName ∈ wsX8_copy ∧ Cond.initialized "java/lang/System" ∈ wsX8_copy) := ⟨⟨(List.mem_cons_of_mem _ mw_491), (List.mem_cons_of_mem _ mw_160)⟩, ⟨(List.mem_cons_of_mem _ mw_161), (List.mem_cons_of_mem _ mw_162)⟩⟩
def w8_copy_b88 (Z : MS) (X : (Nat → MS)) (Q : Int32 → MS → (Nat → MS) → Prop) : Prop :=
  w8_refuse (2 : Int32) Z X (fun r1 S2 => Q r1 S2 X)
set_option maxHeartbeats 4000000 in
set_option maxRecDepth 100000 in
theorem b8_copy_b88 {p : Program} {l : Launch} {e : Env} {s : State} {m : MethodId} {args : Array Value} {below : List Frame} {meth : Method} {c : Code} {D : va_G} {cy : Nat → ClassId} {A : Nat → Prop} {o : Nat} {qp oa : Nat → Nat} {qa : Nat → Nat → Nat} (Z : MS) (X : (Nat → MS)) {Q : Int32 → MS → (Nat → MS) → Prop} (C : Cx p s m args meth c cX8_copy 6 (some .int) wsX8_copy RX8 D cy nestWs A) (h : w8_copy_b88 Z X Q) {H : Heap} {locs : List Loc} (hG : GW D A s (wP o qp oa qa cy Z X) H locs) {ls : Array Slot} (hl : lv_has ls 6 [(0, .ref o)]) : W p l e ({ frames := 2, cells := 0, slots := 0, locals := 60 } : Room) s m args below meth c H locs 0 0 (MQ below (va_Qi (fun r z => Q r z.1 z.2) (B1 D (fun z : MS × (Nat → MS) => wP o qp oa qa cy z.1 z.2) A) A) args s 0 0 A) (F0 m 88 ls []) := by
  have hx := C.1
  have hb := C.2.1
  unfold w8_copy_b88 at h
  refine lv_aload_n hx hb dX8_copy_88 rfl (lv_at hl 0 rfl) ?_
  refine lv_iconst (v := 2) hx hb dX8_copy_89 (by decide) ?_
  refine callVI (As := [.int (2 : Int32)]) (rest := []) C hG (c8_refuse l D cy o qp oa qa (2 : Int32) Z X _ h) 1 gX8_copy_X8_refuse rfl (by decide +kernel) ⟨⟨Nat.le_of_ble_eq_true rfl, Nat.le_of_ble_eq_true rfl⟩, rfl, rfl⟩ rfl rfl (Foc.all (w' := (fun z : MS × (Nat → MS) => wP o qp oa qa cy z.1 z.2)) (S' := (Z, X)) C.2.2.2.2.2.2.2.2.1) rfl hl.1 rfl (Nat.le_of_ble_eq_true rfl) dX8_copy_90 ⟨Nat.zero_le _, Nat.zero_le _⟩ (fun r1 z H locs h hG => ?_)
  obtain ⟨S2, u3⟩ := z
  obtain ⟨eu3, h⟩ := h
  have eu3 : u3 = X := eu3
  replace h := h
  subst u3
  have hG : GW D A s (wP o qp oa qa cy S2 X) H locs := hG
  exact retI (w := (fun z : MS × (Nat → MS) => wP o qp oa qa cy z.1 z.2)) (S := (S2, X)) (Qp := (fun r z => Q r z.1 z.2)) C hG h dX8_copy_93
def w8_copy_b51 (Z : MS) (X : (Nat → MS)) (Q : Int32 → MS → (Nat → MS) → Prop) : Prop :=
  w8_refuse (1 : Int32) Z X (fun r1 S2 => Q r1 S2 X)
set_option maxHeartbeats 4000000 in
set_option maxRecDepth 100000 in
theorem b8_copy_b51 {p : Program} {l : Launch} {e : Env} {s : State} {m : MethodId} {args : Array Value} {below : List Frame} {meth : Method} {c : Code} {D : va_G} {cy : Nat → ClassId} {A : Nat → Prop} {o : Nat} {qp oa : Nat → Nat} {qa : Nat → Nat → Nat} (Z : MS) (X : (Nat → MS)) {Q : Int32 → MS → (Nat → MS) → Prop} (C : Cx p s m args meth c cX8_copy 6 (some .int) wsX8_copy RX8 D cy nestWs A) (h : w8_copy_b51 Z X Q) {H : Heap} {locs : List Loc} (hG : GW D A s (wP o qp oa qa cy Z X) H locs) {ls : Array Slot} (hl : lv_has ls 6 [(0, .ref o)]) : W p l e ({ frames := 2, cells := 0, slots := 0, locals := 60 } : Room) s m args below meth c H locs 0 0 (MQ below (va_Qi (fun r z => Q r z.1 z.2) (B1 D (fun z : MS × (Nat → MS) => wP o qp oa qa cy z.1 z.2) A) A) args s 0 0 A) (F0 m 51 ls []) := by
  have hx := C.1
  have hb := C.2.1
  unfold w8_copy_b51 at h
  refine lv_aload_n hx hb dX8_copy_51 rfl (lv_at hl 0 rfl) ?_
  refine lv_iconst (v := 1) hx hb dX8_copy_52 (by decide) ?_
  refine callVI (As := [.int (1 : Int32)]) (rest := []) C hG (c8_refuse l D cy o qp oa qa (1 : Int32) Z X _ h) 1 gX8_copy_X8_refuse rfl (by decide +kernel) ⟨⟨Nat.le_of_ble_eq_true rfl, Nat.le_of_ble_eq_true rfl⟩, rfl, rfl⟩ rfl rfl (Foc.all (w' := (fun z : MS × (Nat → MS) => wP o qp oa qa cy z.1 z.2)) (S' := (Z, X)) C.2.2.2.2.2.2.2.2.1) rfl hl.1 rfl (Nat.le_of_ble_eq_true rfl) dX8_copy_53 ⟨Nat.zero_le _, Nat.zero_le _⟩ (fun r1 z H locs h hG => ?_)
  obtain ⟨S2, u3⟩ := z
  obtain ⟨eu3, h⟩ := h
  have eu3 : u3 = X := eu3
  replace h := h
  subst u3
  have hG : GW D A s (wP o qp oa qa cy S2 X) H locs := hG
  exact retI (w := (fun z : MS × (Nat → MS) => wP o qp oa qa cy z.1 z.2)) (S := (S2, X)) (Qp := (fun r z => Q r z.1 z.2)) C hG h dX8_copy_56
def w8_copy_b14 (Z : MS) (X : (Nat → MS)) (Q : Int32 → MS → (Nat → MS) → Prop) : Prop :=
  Q (-1 : Int32) Z X
set_option maxHeartbeats 4000000 in
set_option maxRecDepth 100000 in
theorem b8_copy_b14 {p : Program} {l : Launch} {e : Env} {s : State} {m : MethodId} {args : Array Value} {below : List Frame} {meth : Method} {c : Code} {D : va_G} {cy : Nat → ClassId} {A : Nat → Prop} {o : Nat} {qp oa : Nat → Nat} {qa : Nat → Nat → Nat} (Z : MS) (X : (Nat → MS)) {Q : Int32 → MS → (Nat → MS) → Prop} (C : Cx p s m args meth c cX8_copy 6 (some .int) wsX8_copy RX8 D cy nestWs A) (h : w8_copy_b14 Z X Q) {H : Heap} {locs : List Loc} (hG : GW D A s (wP o qp oa qa cy Z X) H locs) {ls : Array Slot} (hl : lv_has ls 6 [(0, .ref o)]) : W p l e ({ frames := 2, cells := 0, slots := 0, locals := 60 } : Room) s m args below meth c H locs 0 0 (MQ below (va_Qi (fun r z => Q r z.1 z.2) (B1 D (fun z : MS × (Nat → MS) => wP o qp oa qa cy z.1 z.2) A) A) args s 0 0 A) (F0 m 14 ls []) := by
  have hx := C.1
  have hb := C.2.1
  unfold w8_copy_b14 at h
  refine lv_iconst (v := -1) hx hb dX8_copy_14 (by decide) ?_
  exact retI (w := (fun z : MS × (Nat → MS) => wP o qp oa qa cy z.1 z.2)) (S := (Z, X)) (Qp := (fun r z => Q r z.1 z.2)) C hG h dX8_copy_15
def w8_copy (x1 : Int32) (x2 : Int32) (x3 : Int32) (x4 : Int32) (x5 : Int32) (Z : MS) (X : (Nat → MS)) (Q : Int32 → MS → (Nat → MS) → Prop) : Prop :=
  w8_isRow x1 (fun r1 => ((r1 = 0 → w8_copy_b14 Z X Q) ∧ (¬ r1 = 0 → w8_isRow x3 (fun r3 => ((¬ r3 = 0 → ((0 ≤ x5 → vp_in x1 4 ∧ (10 ≤ (10 + x1.toNatClampNeg) ∧ (10 + x1.toNatClampNeg) < 15) ∧ w5_isThere (X (10 + x1.toNatClampNeg)) (fun r7 => ((r7 = 0 → w8_copy_b51 Z X Q) ∧ (¬ r7 = 0 → vp_in x3 4 ∧ (10 ≤ (10 + x3.toNatClampNeg) ∧ (10 + x3.toNatClampNeg) < 15) ∧ w5_isThere (X (10 + x3.toNatClampNeg)) (fun r12 => ((¬ r12 = 0 → w5_hasPlaces x2 x5 (X (10 + x1.toNatClampNeg)) (fun r16 => ((r16 = 0 → w8_copy_b88 Z X Q) ∧ (¬ r16 = 0 → w5_hasPlaces x4 x5 (X (10 + x3.toNatClampNeg)) (fun r19 => ((¬ r19 = 0 → (¬ x2 < 0 ∧ ¬ x4 < 0 ∧ ¬ x5 < 0 ∧ x2.toNatClampNeg + x5.toNatClampNeg ≤ 24 ∧ x4.toNatClampNeg + x5.toNatClampNeg ≤ 24) ∧ ∀ X27 : Nat → MS, X27 = va_up X (10 + x3.toNatClampNeg) (pA (X (10 + x3.toNatClampNeg)) 0 (va_cpy (aI (X (10 + x1.toNatClampNeg)) 0) (aI (X (10 + x3.toNatClampNeg)) 0) x2.toNatClampNeg x4.toNatClampNeg x5.toNatClampNeg)) → Q (1 : Int32) Z X27) ∧ (r19 = 0 → w8_copy_b88 Z X Q))))))) ∧ (r12 = 0 → w8_copy_b51 Z X Q))))))) ∧ (¬ 0 ≤ x5 → w8_refuse (5 : Int32) Z X (fun r33 S34 => Q r33 S34 X)))) ∧ (r3 = 0 → w8_copy_b14 Z X Q))))))
set_option maxHeartbeats 4000000 in
set_option maxRecDepth 100000 in
theorem c8_copy (l : Launch) (D : va_G) (cy : Nat → ClassId)  (o : Nat) (qp oa : Nat → Nat) (qa : Nat → Nat → Nat) (x1 : Int32) (x2 : Int32) (x3 : Int32) (x4 : Int32) (x5 : Int32) (Z : MS) (X : (Nat → MS)) (Q : Int32 → MS → (Nat → MS) → Prop) (h : w8_copy x1 x2 x3 x4 x5 Z X Q) : MetI l yX8_copy wsX8_copy ({ frames := 2, cells := 0, slots := 0, locals := 60 } : Room) D cy nestWs (fun z : MS × (Nat → MS) => wP o qp oa qa cy z.1 z.2) [.ref o, .int x1, .int x2, .int x3, .int x4, .int x5] (Z, X) (fun r z => Q r z.1 z.2) := by
  refine MetI.mk RX8 cX8_copy 6 .int (by decide) rfl nestWs_ok rfl (Nat.le_of_ble_eq_true rfl) ?_
  intro p e s m below meth c A ls C hG hl
  have hl : lv_has ls 6 [(0, .ref o), (1, .int x1), (2, .int x2), (3, .int x3), (4, .int x4), (5, .int x5)] := hl
  have hx := C.1
  have hb := C.2.1
  unfold w8_copy at h
  refine lv_iload_n hx hb dX8_copy_0 rfl (lv_at hl 1 rfl) ?_
  refine callSI (As := [.int x1]) (rest := []) C hG (c8_isRow l D cy x1 _ h) 1 gX8_copy_X8_isRow rfl (by decide +kernel) ⟨⟨Nat.le_of_ble_eq_true rfl, Nat.le_of_ble_eq_true rfl⟩, rfl, rfl⟩ (Foc.none C.2.2.2.2.2.2.2.2.1) rfl hl.1 rfl (Nat.le_of_ble_eq_true rfl) dX8_copy_1 ⟨Nat.zero_le _, Nat.zero_le _⟩ (fun r1 z H locs h hG => ?_)
  refine lv_if_eq (tgt := 14) hx hb dX8_copy_4 (by decide) (fun c2 => ?_) (fun c2 => ?_)
  · replace h := h.1 c2
    exact b8_copy_b14 Z X C h hG (lv_sub hl [0] rfl)
  · replace h := h.2 c2
    refine lv_iload_n hx hb dX8_copy_7 rfl (lv_at hl 3 rfl) ?_
    refine callSI (As := [.int x3]) (rest := []) C hG (c8_isRow l D cy x3 _ h) 1 gX8_copy_X8_isRow rfl (by decide +kernel) ⟨⟨Nat.le_of_ble_eq_true rfl, Nat.le_of_ble_eq_true rfl⟩, rfl, rfl⟩ (Foc.none C.2.2.2.2.2.2.2.2.1) rfl hl.1 rfl (Nat.le_of_ble_eq_true rfl) dX8_copy_8 ⟨Nat.zero_le _, Nat.zero_le _⟩ (fun r3 z H locs h hG => ?_)
    refine lv_if_ne (tgt := 16) hx hb dX8_copy_11 (by decide) (fun c4 => ?_) (fun c4 => ?_)
    · replace h := h.1 c4
      refine lv_iload hx hb dX8_copy_16 (lv_at hl 5 rfl) ?_
      refine lv_if_ge (tgt := 27) hx hb dX8_copy_18 (by decide) (fun c5 => ?_) (fun c5 => ?_)
      · replace h := h.1 c5
        refine lv_aload_n hx hb dX8_copy_27 rfl (lv_at hl 0 rfl) ?_
        refine gx_get C i8_copy_X8 hG 0 rfl rfl 2 (by decide) k8_copy_23 rfl dX8_copy_28 ?_
        refine lv_iload_n hx hb dX8_copy_31 rfl (lv_at hl 1 rfl) ?_
        obtain ⟨hv6, h⟩ := h
        refine gx_aald (C' := "PaperBodies$Row") C hG 3 4 rfl rfl hv6 dX8_copy_32 ?_
        obtain ⟨hr8, h⟩ := h
        refine callVI (As := []) (rest := []) C hG (c5_isThere l D cy (oa (10 + x1.toNatClampNeg)) (qa (10 + x1.toNatClampNeg)) (X (10 + x1.toNatClampNeg)) _ h) 0 gX8_copy_X5_isThere rfl (by decide +kernel) ⟨⟨Nat.le_of_ble_eq_true rfl, Nat.le_of_ble_eq_true rfl⟩, rfl, rfl⟩ rfl rfl (fo_5 C.2.2.2.2.2.2.2.2.1 (k0 := (10 + x1.toNatClampNeg)) hr8) rfl hl.1 rfl (Nat.le_of_ble_eq_true rfl) dX8_copy_33 ⟨Nat.zero_le _, Nat.zero_le _⟩ (fun r7 u9 H locs h hG => ?_)
        obtain ⟨eu9, h⟩ := h
        have eu9 : u9 = (X (10 + x1.toNatClampNeg)) := eu9
        subst u9
        have hG : GW D A s (wP o qp oa qa cy Z X) H locs := by
          have e9 : (va_up X (10 + x1.toNatClampNeg) (X (10 + x1.toNatClampNeg))) = X := by simp only [up_same]
          have hG : GW D A s (wP o qp oa qa cy Z (va_up X (10 + x1.toNatClampNeg) (X (10 + x1.toNatClampNeg)))) H locs := hG
          rw [e9] at hG
          exact hG
        refine lv_if_eq (tgt := 51) hx hb dX8_copy_36 (by decide) (fun c10 => ?_) (fun c10 => ?_)
        · replace h := h.1 c10
          exact b8_copy_b51 Z X C h hG (lv_sub hl [0] rfl)
        · replace h := h.2 c10
          refine lv_aload_n hx hb dX8_copy_39 rfl (lv_at hl 0 rfl) ?_
          refine gx_get C i8_copy_X8 hG 0 rfl rfl 2 (by decide) k8_copy_23 rfl dX8_copy_40 ?_
          refine lv_iload_n hx hb dX8_copy_43 rfl (lv_at hl 3 rfl) ?_
          obtain ⟨hv11, h⟩ := h
          refine gx_aald (C' := "PaperBodies$Row") C hG 3 4 rfl rfl hv11 dX8_copy_44 ?_
          obtain ⟨hr13, h⟩ := h
          refine callVI (As := []) (rest := []) C hG (c5_isThere l D cy (oa (10 + x3.toNatClampNeg)) (qa (10 + x3.toNatClampNeg)) (X (10 + x3.toNatClampNeg)) _ h) 0 gX8_copy_X5_isThere rfl (by decide +kernel) ⟨⟨Nat.le_of_ble_eq_true rfl, Nat.le_of_ble_eq_true rfl⟩, rfl, rfl⟩ rfl rfl (fo_5 C.2.2.2.2.2.2.2.2.1 (k0 := (10 + x3.toNatClampNeg)) hr13) rfl hl.1 rfl (Nat.le_of_ble_eq_true rfl) dX8_copy_45 ⟨Nat.zero_le _, Nat.zero_le _⟩ (fun r12 u14 H locs h hG => ?_)
          obtain ⟨eu14, h⟩ := h
          have eu14 : u14 = (X (10 + x3.toNatClampNeg)) := eu14
          subst u14
          have hG : GW D A s (wP o qp oa qa cy Z X) H locs := by
            have e9 : (va_up X (10 + x3.toNatClampNeg) (X (10 + x3.toNatClampNeg))) = X := by simp only [up_same]
            have hG : GW D A s (wP o qp oa qa cy Z (va_up X (10 + x3.toNatClampNeg) (X (10 + x3.toNatClampNeg)))) H locs := hG
            rw [e9] at hG
            exact hG
          refine lv_if_ne (tgt := 57) hx hb dX8_copy_48 (by decide) (fun c15 => ?_) (fun c15 => ?_)
          · replace h := h.1 c15
            refine lv_aload_n hx hb dX8_copy_57 rfl (lv_at hl 0 rfl) ?_
            refine gx_get C i8_copy_X8 hG 0 rfl rfl 2 (by decide) k8_copy_23 rfl dX8_copy_58 ?_
            refine lv_iload_n hx hb dX8_copy_61 rfl (lv_at hl 1 rfl) ?_
            refine gx_aald (C' := "PaperBodies$Row") C hG 3 4 rfl rfl hv6 dX8_copy_62 ?_
            refine lv_iload_n hx hb dX8_copy_63 rfl (lv_at hl 2 rfl) ?_
            refine lv_iload hx hb dX8_copy_64 (lv_at hl 5 rfl) ?_
            refine callVI (As := [.int x2, .int x5]) (rest := []) C hG (c5_hasPlaces l D cy (oa (10 + x1.toNatClampNeg)) (qa (10 + x1.toNatClampNeg)) x2 x5 (X (10 + x1.toNatClampNeg)) _ h) 2 gX8_copy_X5_hasPlaces rfl (by decide +kernel) ⟨⟨Nat.le_of_ble_eq_true rfl, Nat.le_of_ble_eq_true rfl⟩, rfl, rfl⟩ rfl rfl (fo_5 C.2.2.2.2.2.2.2.2.1 (k0 := (10 + x1.toNatClampNeg)) hr8) rfl hl.1 rfl (Nat.le_of_ble_eq_true rfl) dX8_copy_66 ⟨Nat.zero_le _, Nat.zero_le _⟩ (fun r16 u17 H locs h hG => ?_)
            obtain ⟨eu17, h⟩ := h
            have eu17 : u17 = (X (10 + x1.toNatClampNeg)) := eu17
            subst u17
            have hG : GW D A s (wP o qp oa qa cy Z X) H locs := by
              have e9 : (va_up X (10 + x1.toNatClampNeg) (X (10 + x1.toNatClampNeg))) = X := by simp only [up_same]
              have hG : GW D A s (wP o qp oa qa cy Z (va_up X (10 + x1.toNatClampNeg) (X (10 + x1.toNatClampNeg)))) H locs := hG
              rw [e9] at hG
              exact hG
            refine lv_if_eq (tgt := 88) hx hb dX8_copy_69 (by decide) (fun c18 => ?_) (fun c18 => ?_)
            · replace h := h.1 c18
              exact b8_copy_b88 Z X C h hG (lv_sub hl [0] rfl)
            · replace h := h.2 c18
              refine lv_aload_n hx hb dX8_copy_72 rfl (lv_at hl 0 rfl) ?_
              refine gx_get C i8_copy_X8 hG 0 rfl rfl 2 (by decide) k8_copy_23 rfl dX8_copy_73 ?_
              refine lv_iload_n hx hb dX8_copy_76 rfl (lv_at hl 3 rfl) ?_
              refine gx_aald (C' := "PaperBodies$Row") C hG 3 4 rfl rfl hv11 dX8_copy_77 ?_
              refine lv_iload hx hb dX8_copy_78 (lv_at hl 4 rfl) ?_
              refine lv_iload hx hb dX8_copy_80 (lv_at hl 5 rfl) ?_
              refine callVI (As := [.int x4, .int x5]) (rest := []) C hG (c5_hasPlaces l D cy (oa (10 + x3.toNatClampNeg)) (qa (10 + x3.toNatClampNeg)) x4 x5 (X (10 + x3.toNatClampNeg)) _ h) 2 gX8_copy_X5_hasPlaces rfl (by decide +kernel) ⟨⟨Nat.le_of_ble_eq_true rfl, Nat.le_of_ble_eq_true rfl⟩, rfl, rfl⟩ rfl rfl (fo_5 C.2.2.2.2.2.2.2.2.1 (k0 := (10 + x3.toNatClampNeg)) hr13) rfl hl.1 rfl (Nat.le_of_ble_eq_true rfl) dX8_copy_82 ⟨Nat.zero_le _, Nat.zero_le _⟩ (fun r19 u20 H locs h hG => ?_)
              obtain ⟨eu20, h⟩ := h
              have eu20 : u20 = (X (10 + x3.toNatClampNeg)) := eu20
              subst u20
              have hG : GW D A s (wP o qp oa qa cy Z X) H locs := by
                have e9 : (va_up X (10 + x3.toNatClampNeg) (X (10 + x3.toNatClampNeg))) = X := by simp only [up_same]
                have hG : GW D A s (wP o qp oa qa cy Z (va_up X (10 + x3.toNatClampNeg) (X (10 + x3.toNatClampNeg)))) H locs := hG
                rw [e9] at hG
                exact hG
              refine lv_if_ne (tgt := 94) hx hb dX8_copy_85 (by decide) (fun c21 => ?_) (fun c21 => ?_)
              · replace h := h.1 c21
                refine lv_aload_n hx hb dX8_copy_94 rfl (lv_at hl 0 rfl) ?_
                refine gx_get C i8_copy_X8 hG 0 rfl rfl 2 (by decide) k8_copy_23 rfl dX8_copy_95 ?_
                refine lv_iload_n hx hb dX8_copy_98 rfl (lv_at hl 1 rfl) ?_
                refine gx_aald (C' := "PaperBodies$Row") C hG 3 4 rfl rfl hv6 dX8_copy_99 ?_
                obtain ⟨qq22, he23⟩ := at5 (o := o) (qp := qp) (oa := oa) (qa := qa) (cy := cy) (Z := Z) (X := X) (k := (10 + x1.toNatClampNeg)) hr8
                refine gx_getN (host := "PaperBodies") C i8_copy_X5 hG qq22 he23 rfl 0 (by decide) (by decide +kernel) rfl dX8_copy_100 ?_
                refine lv_iload_n hx hb dX8_copy_103 rfl (lv_at hl 2 rfl) ?_
                refine lv_aload_n hx hb dX8_copy_104 rfl (lv_at hl 0 rfl) ?_
                refine gx_get C i8_copy_X8 hG 0 rfl rfl 2 (by decide) k8_copy_23 rfl dX8_copy_105 ?_
                refine lv_iload_n hx hb dX8_copy_108 rfl (lv_at hl 3 rfl) ?_
                refine gx_aald (C' := "PaperBodies$Row") C hG 3 4 rfl rfl hv11 dX8_copy_109 ?_
                obtain ⟨qq24, he25⟩ := at5 (o := o) (qp := qp) (oa := oa) (qa := qa) (cy := cy) (Z := Z) (X := X) (k := (10 + x3.toNatClampNeg)) hr13
                refine gx_getN (host := "PaperBodies") C i8_copy_X5 hG qq24 he25 rfl 0 (by decide) (by decide +kernel) rfl dX8_copy_110 ?_
                refine lv_iload hx hb dX8_copy_113 (lv_at hl 4 rfl) ?_
                refine lv_iload hx hb dX8_copy_115 (lv_at hl 5 rfl) ?_
                obtain ⟨hv26, h⟩ := h
                obtain ⟨qq28, he29, -⟩ := at5_0 (o := o) (qp := qp) (oa := oa) (qa := qa) (cy := cy) (Z := Z) (X := X) (k := (10 + x1.toNatClampNeg)) hr8 (va_cpy (aI (X (10 + x1.toNatClampNeg)) 0) (aI (X (10 + x3.toNatClampNeg)) 0) x2.toNatClampNeg x4.toNatClampNeg x5.toNatClampNeg)
                obtain ⟨qq30, he31, hs32⟩ := at5_0 (o := o) (qp := qp) (oa := oa) (qa := qa) (cy := cy) (Z := Z) (X := X) (k := (10 + x3.toNatClampNeg)) hr13 (va_cpy (aI (X (10 + x1.toNatClampNeg)) 0) (aI (X (10 + x3.toNatClampNeg)) 0) x2.toNatClampNeg x4.toNatClampNeg x5.toNatClampNeg)
                refine gx_copyP (ws' := wP o qp oa qa cy Z (va_up X (10 + x3.toNatClampNeg) (pA (X (10 + x3.toNatClampNeg)) 0 (va_cpy (aI (X (10 + x1.toNatClampNeg)) 0) (aI (X (10 + x3.toNatClampNeg)) 0) x2.toNatClampNeg x4.toNatClampNeg x5.toNatClampNeg)))) C hG (hl.1) (C.2.2.2.2.1 _ k8_copy_272.1.1) (C.2.2.2.2.1 _ k8_copy_272.1.2) (C.2.2.2.2.1 _ k8_copy_272.2.1) (C.2.2.2.2.1 _ k8_copy_272.2.2) qq28 qq30 he29 he31 hv26 (Nat.le_of_ble_eq_true rfl) (Nat.le_of_ble_eq_true rfl) dX8_copy_117 hs32 (fun H locs hG => ?_)
                obtain ⟨X27, eX27⟩ : ∃ z : Nat → MS, z = va_up X (10 + x3.toNatClampNeg) (pA (X (10 + x3.toNatClampNeg)) 0 (va_cpy (aI (X (10 + x1.toNatClampNeg)) 0) (aI (X (10 + x3.toNatClampNeg)) 0) x2.toNatClampNeg x4.toNatClampNeg x5.toNatClampNeg)) := ⟨_, rfl⟩
                rw [← eX27] at hG
                replace h := h X27 eX27
                refine lv_iconst (v := 1) hx hb dX8_copy_120 (by decide) ?_
                exact retI (w := (fun z : MS × (Nat → MS) => wP o qp oa qa cy z.1 z.2)) (S := (Z, X27)) (Qp := (fun r z => Q r z.1 z.2)) C hG h dX8_copy_121
              · replace h := h.2 c21
                exact b8_copy_b88 Z X C h hG (lv_sub hl [0] rfl)
          · replace h := h.2 c15
            exact b8_copy_b51 Z X C h hG (lv_sub hl [0] rfl)
      · replace h := h.2 c5
        refine lv_aload_n hx hb dX8_copy_21 rfl (lv_at hl 0 rfl) ?_
        refine lv_iconst (v := 5) hx hb dX8_copy_22 (by decide) ?_
        refine callVI (As := [.int (5 : Int32)]) (rest := []) C hG (c8_refuse l D cy o qp oa qa (5 : Int32) Z X _ h) 1 gX8_copy_X8_refuse rfl (by decide +kernel) ⟨⟨Nat.le_of_ble_eq_true rfl, Nat.le_of_ble_eq_true rfl⟩, rfl, rfl⟩ rfl rfl (Foc.all (w' := (fun z : MS × (Nat → MS) => wP o qp oa qa cy z.1 z.2)) (S' := (Z, X)) C.2.2.2.2.2.2.2.2.1) rfl hl.1 rfl (Nat.le_of_ble_eq_true rfl) dX8_copy_23 ⟨Nat.zero_le _, Nat.zero_le _⟩ (fun r33 z H locs h hG => ?_)
        obtain ⟨S34, u35⟩ := z
        obtain ⟨eu35, h⟩ := h
        have eu35 : u35 = X := eu35
        replace h := h
        subst u35
        have hG : GW D A s (wP o qp oa qa cy S34 X) H locs := hG
        exact retI (w := (fun z : MS × (Nat → MS) => wP o qp oa qa cy z.1 z.2)) (S := (S34, X)) (Qp := (fun r z => Q r z.1 z.2)) C hG h dX8_copy_26
    · replace h := h.2 c4
      exact b8_copy_b14 Z X C h hG (lv_sub hl [0] rfl)
-- X8_meanRow
theorem i8_meanRow_X8 : ∀ w ∈ wsX80, w ∈ wsX8_meanRow := fun w h => List.mem_cons_of_mem _ (inG_X8 w h)
theorem i8_meanRow_X5 : ∀ w ∈ wsX50, w ∈ wsX8_meanRow := fun w h => List.mem_cons_of_mem _ (inG_X5 w h)
theorem k8_meanRow_23 : Cond.fieldLink RX8 23 "PaperBodies" "rows" "[LPaperBodies$Row;" ∈ wsX8_meanRow := (List.mem_cons_of_mem _ mw_321)
theorem k8_meanRow_147 : Cond.fieldLink RX8 147 "PaperBodies" "latestTold" "J" ∈ wsX8_meanRow := (List.mem_cons_of_mem _ mw_390)
def w8_meanRow (x1 : Int32) (Z : MS) (X : (Nat → MS)) (Q : Int32 → MS → Prop) : Prop :=
  w8_isRow x1 (fun r1 => ((¬ r1 = 0 → vp_in x1 4 ∧ (10 ≤ (10 + x1.toNatClampNeg) ∧ (10 + x1.toNatClampNeg) < 15) ∧ w5_isThere (X (10 + x1.toNatClampNeg)) (fun r4 => ((¬ r4 = 0 → ∀ y10 : Int32, y10 = (fI (X (10 + x1.toNatClampNeg)) 1) → ((¬ y10 = 0 → w5_sum (X (10 + x1.toNatClampNeg)) (fun r12 => ¬ y10.toInt64 = 0 ∧ ∀ S15 : MS, S15 = sJ Z 11 (r12 / y10.toInt64) → Q (1 : Int32) S15)) ∧ (y10 = 0 → w8_refuse (4 : Int32) Z X (fun r16 S17 => Q r16 S17)))) ∧ (r4 = 0 → w8_refuse (1 : Int32) Z X (fun r19 S20 => Q r19 S20))))) ∧ (r1 = 0 → Q (-1 : Int32) Z)))
set_option maxHeartbeats 4000000 in
set_option maxRecDepth 100000 in
theorem c8_meanRow (l : Launch) (D : va_G) (cy : Nat → ClassId)  (o : Nat) (qp oa : Nat → Nat) (qa : Nat → Nat → Nat) (x1 : Int32) (Z : MS) (X : (Nat → MS)) (Q : Int32 → MS → Prop) (h : w8_meanRow x1 Z X Q) : MetI l yX8_meanRow wsX8_meanRow ({ frames := 2, cells := 0, slots := 0, locals := 43 } : Room) D cy nestWs (fun z : MS × (Nat → MS) => wP o qp oa qa cy z.1 z.2) [.ref o, .int x1] (Z, X) (fun r z => z.2 = X ∧ Q r z.1) := by
  refine MetI.mk RX8 cX8_meanRow 3 .int (by decide) rfl nestWs_ok rfl (Nat.le_of_ble_eq_true rfl) ?_
  intro p e s m below meth c A ls C hG hl
  have hl : lv_has ls 3 [(0, .ref o), (1, .int x1)] := hl
  have hx := C.1
  have hb := C.2.1
  unfold w8_meanRow at h
  refine lv_iload_n hx hb dX8_meanRow_0 rfl (lv_at hl 1 rfl) ?_
  refine callSI (As := [.int x1]) (rest := []) C hG (c8_isRow l D cy x1 _ h) 1 gX8_meanRow_X8_isRow rfl (by decide +kernel) ⟨⟨Nat.le_of_ble_eq_true rfl, Nat.le_of_ble_eq_true rfl⟩, rfl, rfl⟩ (Foc.none C.2.2.2.2.2.2.2.2.1) rfl hl.1 rfl (Nat.le_of_ble_eq_true rfl) dX8_meanRow_1 ⟨Nat.zero_le _, Nat.zero_le _⟩ (fun r1 z H locs h hG => ?_)
  refine lv_if_ne (tgt := 9) hx hb dX8_meanRow_4 (by decide) (fun c2 => ?_) (fun c2 => ?_)
  · replace h := h.1 c2
    refine lv_aload_n hx hb dX8_meanRow_9 rfl (lv_at hl 0 rfl) ?_
    refine gx_get C i8_meanRow_X8 hG 0 rfl rfl 2 (by decide) k8_meanRow_23 rfl dX8_meanRow_10 ?_
    refine lv_iload_n hx hb dX8_meanRow_13 rfl (lv_at hl 1 rfl) ?_
    obtain ⟨hv3, h⟩ := h
    refine gx_aald (C' := "PaperBodies$Row") C hG 3 4 rfl rfl hv3 dX8_meanRow_14 ?_
    obtain ⟨hr5, h⟩ := h
    refine callVI (As := []) (rest := []) C hG (c5_isThere l D cy (oa (10 + x1.toNatClampNeg)) (qa (10 + x1.toNatClampNeg)) (X (10 + x1.toNatClampNeg)) _ h) 0 gX8_meanRow_X5_isThere rfl (by decide +kernel) ⟨⟨Nat.le_of_ble_eq_true rfl, Nat.le_of_ble_eq_true rfl⟩, rfl, rfl⟩ rfl rfl (fo_5 C.2.2.2.2.2.2.2.2.1 (k0 := (10 + x1.toNatClampNeg)) hr5) rfl hl.1 rfl (Nat.le_of_ble_eq_true rfl) dX8_meanRow_15 ⟨Nat.zero_le _, Nat.zero_le _⟩ (fun r4 u6 H locs h hG => ?_)
    obtain ⟨eu6, h⟩ := h
    have eu6 : u6 = (X (10 + x1.toNatClampNeg)) := eu6
    subst u6
    have hG : GW D A s (wP o qp oa qa cy Z X) H locs := by
      have e9 : (va_up X (10 + x1.toNatClampNeg) (X (10 + x1.toNatClampNeg))) = X := by simp only [up_same]
      have hG : GW D A s (wP o qp oa qa cy Z (va_up X (10 + x1.toNatClampNeg) (X (10 + x1.toNatClampNeg)))) H locs := hG
      rw [e9] at hG
      exact hG
    refine lv_if_ne (tgt := 27) hx hb dX8_meanRow_18 (by decide) (fun c7 => ?_) (fun c7 => ?_)
    · replace h := h.1 c7
      refine lv_aload_n hx hb dX8_meanRow_27 rfl (lv_at hl 0 rfl) ?_
      refine gx_get C i8_meanRow_X8 hG 0 rfl rfl 2 (by decide) k8_meanRow_23 rfl dX8_meanRow_28 ?_
      refine lv_iload_n hx hb dX8_meanRow_31 rfl (lv_at hl 1 rfl) ?_
      refine gx_aald (C' := "PaperBodies$Row") C hG 3 4 rfl rfl hv3 dX8_meanRow_32 ?_
      obtain ⟨qq8, he9⟩ := at5 (o := o) (qp := qp) (oa := oa) (qa := qa) (cy := cy) (Z := Z) (X := X) (k := (10 + x1.toNatClampNeg)) hr5
      refine gx_getN (host := "PaperBodies") C i8_meanRow_X5 hG qq8 he9 rfl 1 (by decide) (by decide +kernel) rfl dX8_meanRow_33 ?_
      refine lv_topi (fun y10 ey10 => ?_)
      replace h := h y10 ey10
      refine lv_istore_n (lv' := [(2, .int y10), (0, .ref o), (1, .int x1)]) hx hb dX8_meanRow_36 rfl hl (by decide) rfl (fun ls hl => ?_)
      refine lv_iload_n hx hb dX8_meanRow_37 rfl (lv_at hl 0 rfl) ?_
      refine lv_if_ne (tgt := 47) hx hb dX8_meanRow_38 (by decide) (fun c11 => ?_) (fun c11 => ?_)
      · replace h := h.1 c11
        refine lv_aload_n hx hb dX8_meanRow_47 rfl (lv_at hl 1 rfl) ?_
        refine lv_aload_n hx hb dX8_meanRow_48 rfl (lv_at hl 1 rfl) ?_
        refine gx_get C i8_meanRow_X8 hG 0 rfl rfl 2 (by decide) k8_meanRow_23 rfl dX8_meanRow_49 ?_
        refine lv_iload_n hx hb dX8_meanRow_52 rfl (lv_at hl 2 rfl) ?_
        refine gx_aald (C' := "PaperBodies$Row") C hG 3 4 rfl rfl hv3 dX8_meanRow_53 ?_
        refine callVL (As := []) (rest := [.ref o]) C hG (c5_sum l D cy (oa (10 + x1.toNatClampNeg)) (qa (10 + x1.toNatClampNeg)) (X (10 + x1.toNatClampNeg)) _ h) 0 gX8_meanRow_X5_sum rfl (by decide +kernel) ⟨⟨Nat.le_of_ble_eq_true rfl, Nat.le_of_ble_eq_true rfl⟩, rfl, rfl⟩ rfl rfl (fo_5 C.2.2.2.2.2.2.2.2.1 (k0 := (10 + x1.toNatClampNeg)) hr5) rfl hl.1 rfl (Nat.le_of_ble_eq_true rfl) dX8_meanRow_54 ⟨Nat.zero_le _, Nat.zero_le _⟩ (fun r12 u13 H locs h hG => ?_)
        obtain ⟨eu13, h⟩ := h
        have eu13 : u13 = (X (10 + x1.toNatClampNeg)) := eu13
        subst u13
        have hG : GW D A s (wP o qp oa qa cy Z X) H locs := by
          have e9 : (va_up X (10 + x1.toNatClampNeg) (X (10 + x1.toNatClampNeg))) = X := by simp only [up_same]
          have hG : GW D A s (wP o qp oa qa cy Z (va_up X (10 + x1.toNatClampNeg) (X (10 + x1.toNatClampNeg)))) H locs := hG
          rw [e9] at hG
          exact hG
        refine lv_iload_n hx hb dX8_meanRow_57 rfl (lv_at hl 0 rfl) ?_
        refine lv_i2l hx hb dX8_meanRow_58 rfl ?_
        obtain ⟨hz14, h⟩ := h
        refine lv_ldiv hx hb dX8_meanRow_59 hz14 ?_
        refine gx_put (ty := .long) (ws' := wP o qp oa qa cy (sJ Z 11 (r12 / y10.toInt64)) X) C i8_meanRow_X8 tyX8 tyX8_ok nmX8 hG 0 rfl rfl 11 (by decide) k8_meanRow_147 rfl (by decide +kernel) rfl rfl (Nat.le_of_ble_eq_true rfl) dX8_meanRow_60 rfl (fun H locs hG => ?_)
        obtain ⟨S15, eS15⟩ : ∃ z : MS, z = sJ Z 11 (r12 / y10.toInt64) := ⟨_, rfl⟩
        rw [← eS15] at hG
        replace h := h S15 eS15
        refine lv_iconst (v := 1) hx hb dX8_meanRow_63 (by decide) ?_
        exact retI (w := (fun z : MS × (Nat → MS) => wP o qp oa qa cy z.1 z.2)) (S := (S15, X)) (Qp := (fun r z => z.2 = X ∧ Q r z.1)) C hG ⟨rfl, h⟩ dX8_meanRow_64
      · replace h := h.2 c11
        refine lv_aload_n hx hb dX8_meanRow_41 rfl (lv_at hl 1 rfl) ?_
        refine lv_iconst (v := 4) hx hb dX8_meanRow_42 (by decide) ?_
        refine callVI (As := [.int (4 : Int32)]) (rest := []) C hG (c8_refuse l D cy o qp oa qa (4 : Int32) Z X _ h) 1 gX8_meanRow_X8_refuse rfl (by decide +kernel) ⟨⟨Nat.le_of_ble_eq_true rfl, Nat.le_of_ble_eq_true rfl⟩, rfl, rfl⟩ rfl rfl (Foc.all (w' := (fun z : MS × (Nat → MS) => wP o qp oa qa cy z.1 z.2)) (S' := (Z, X)) C.2.2.2.2.2.2.2.2.1) rfl hl.1 rfl (Nat.le_of_ble_eq_true rfl) dX8_meanRow_43 ⟨Nat.zero_le _, Nat.zero_le _⟩ (fun r16 z H locs h hG => ?_)
        obtain ⟨S17, u18⟩ := z
        obtain ⟨eu18, h⟩ := h
        have eu18 : u18 = X := eu18
        replace h := h
        subst u18
        have hG : GW D A s (wP o qp oa qa cy S17 X) H locs := hG
        exact retI (w := (fun z : MS × (Nat → MS) => wP o qp oa qa cy z.1 z.2)) (S := (S17, X)) (Qp := (fun r z => z.2 = X ∧ Q r z.1)) C hG ⟨rfl, h⟩ dX8_meanRow_46
    · replace h := h.2 c7
      refine lv_aload_n hx hb dX8_meanRow_21 rfl (lv_at hl 0 rfl) ?_
      refine lv_iconst (v := 1) hx hb dX8_meanRow_22 (by decide) ?_
      refine callVI (As := [.int (1 : Int32)]) (rest := []) C hG (c8_refuse l D cy o qp oa qa (1 : Int32) Z X _ h) 1 gX8_meanRow_X8_refuse rfl (by decide +kernel) ⟨⟨Nat.le_of_ble_eq_true rfl, Nat.le_of_ble_eq_true rfl⟩, rfl, rfl⟩ rfl rfl (Foc.all (w' := (fun z : MS × (Nat → MS) => wP o qp oa qa cy z.1 z.2)) (S' := (Z, X)) C.2.2.2.2.2.2.2.2.1) rfl hl.1 rfl (Nat.le_of_ble_eq_true rfl) dX8_meanRow_23 ⟨Nat.zero_le _, Nat.zero_le _⟩ (fun r19 z H locs h hG => ?_)
      obtain ⟨S20, u21⟩ := z
      obtain ⟨eu21, h⟩ := h
      have eu21 : u21 = X := eu21
      replace h := h
      subst u21
      have hG : GW D A s (wP o qp oa qa cy S20 X) H locs := hG
      exact retI (w := (fun z : MS × (Nat → MS) => wP o qp oa qa cy z.1 z.2)) (S := (S20, X)) (Qp := (fun r z => z.2 = X ∧ Q r z.1)) C hG ⟨rfl, h⟩ dX8_meanRow_26
  · replace h := h.2 c2
    refine lv_iconst (v := -1) hx hb dX8_meanRow_7 (by decide) ?_
    exact retI (w := (fun z : MS × (Nat → MS) => wP o qp oa qa cy z.1 z.2)) (S := (Z, X)) (Qp := (fun r z => z.2 = X ∧ Q r z.1)) C hG ⟨rfl, h⟩ dX8_meanRow_8
-- X8_asked
theorem i8_asked_X8 : ∀ w ∈ wsX80, w ∈ wsX8_asked := fun w h => List.mem_cons_of_mem _ (inG_X8 w h)
theorem k8_asked_147 : Cond.fieldLink RX8 147 "PaperBodies" "latestTold" "J" ∈ wsX8_asked := (List.mem_cons_of_mem _ mw_390)
def w8_asked (Z : MS) (X : (Nat → MS)) (Q : Int64 → Prop) : Prop :=
  Q (fJ Z 11)
set_option maxHeartbeats 4000000 in
set_option maxRecDepth 100000 in
theorem c8_asked (l : Launch) (D : va_G) (cy : Nat → ClassId)  (o : Nat) (qp oa : Nat → Nat) (qa : Nat → Nat → Nat) (Z : MS) (X : (Nat → MS)) (Q : Int64 → Prop) (h : w8_asked Z X Q) : MetL l yX8_asked wsX8_asked ({ frames := 0, cells := 0, slots := 0, locals := 0 } : Room) D cy nestWs (fun z : MS × (Nat → MS) => wP o qp oa qa cy z.1 z.2) [.ref o] (Z, X) (fun r z => z.1 = Z ∧ z.2 = X ∧ Q r ) := by
  refine MetL.mk RX8 cX8_asked 1 (by decide) rfl nestWs_ok rfl (Nat.le_of_ble_eq_true rfl) ?_
  intro p e s m below meth c A ls C hG hl
  have hl : lv_has ls 1 [(0, .ref o)] := hl
  have hx := C.1
  have hb := C.2.1
  unfold w8_asked at h
  refine lv_aload_n hx hb dX8_asked_0 rfl (lv_at hl 0 rfl) ?_
  refine gx_get C i8_asked_X8 hG 0 rfl rfl 11 (by decide) k8_asked_147 rfl dX8_asked_1 ?_
  exact retL (w := (fun z : MS × (Nat → MS) => wP o qp oa qa cy z.1 z.2)) (S := (Z, X)) (Qp := (fun r z => z.1 = Z ∧ z.2 = X ∧ Q r )) C hG ⟨rfl, rfl, h⟩ dX8_asked_4
-- X8_figuresThere
theorem i8_figuresThere_X8 : ∀ w ∈ wsX80, w ∈ wsX8_figuresThere := fun w h => List.mem_cons_of_mem _ (inG_X8 w h)
theorem k8_figuresThere_11 : Cond.fieldLink RX8 11 "PaperBodies" "figures" "[LPaperBodies$Figure;" ∈ wsX8_figuresThere := (List.mem_cons_of_mem _ mw_317)
def w8_figuresThere_b28 (K4 : Int32 → Int32 → Prop) (x2 : Int32) (t0 : Int32) (t1 : Int32) (Z : MS) (X : (Nat → MS)) (Q : Int32 → Prop) : Prop :=
  ∀ y1 : Int32, y1 = (t0 + t1) → ∀ y2 : Int32, y2 = x2 + 1 → K4 y1 y2
set_option maxHeartbeats 4000000 in
set_option maxRecDepth 100000 in
theorem b8_figuresThere_b28 {p : Program} {l : Launch} {e : Env} {s : State} {m : MethodId} {args : Array Value} {below : List Frame} {meth : Method} {c : Code} {D : va_G} {cy : Nat → ClassId} {A : Nat → Prop} {o : Nat} {qp oa : Nat → Nat} {qa : Nat → Nat → Nat} {K4 : Int32 → Int32 → Prop} (x2 : Int32) (t0 : Int32) (t1 : Int32) (Z : MS) (X : (Nat → MS)) {Q : Int32 → Prop} (C : Cx p s m args meth c cX8_figuresThere 3 (some .int) wsX8_figuresThere RX8 D cy nestWs A) (hK4 : ∀ (x1 : Int32) (x2 : Int32) (H : Heap) (locs : List Loc) (ls : Array Slot), K4 x1 x2 → GW D A s (wP o qp oa qa cy Z X) H locs → lv_has ls 3 [(0, .ref o), (1, .int x1), (2, .int x2)] → W p l e ({ frames := 1, cells := 0, slots := 0, locals := 20 } : Room) s m args below meth c H locs 0 0 (MQ below (va_Qi (fun r z => z.1 = Z ∧ z.2 = X ∧ Q r ) (B1 D (fun z : MS × (Nat → MS) => wP o qp oa qa cy z.1 z.2) A) A) args s 0 0 A) (F0 m 4 ls [])) (h : w8_figuresThere_b28 K4 x2 t0 t1 Z X Q) {H : Heap} {locs : List Loc} (hG : GW D A s (wP o qp oa qa cy Z X) H locs) {ls : Array Slot} (hl : lv_has ls 3 [(0, .ref o), (2, .int x2)]) : W p l e ({ frames := 1, cells := 0, slots := 0, locals := 20 } : Room) s m args below meth c H locs 0 0 (MQ below (va_Qi (fun r z => z.1 = Z ∧ z.2 = X ∧ Q r ) (B1 D (fun z : MS × (Nat → MS) => wP o qp oa qa cy z.1 z.2) A) A) args s 0 0 A) (F0 m 28 ls [.int t1, .int t0]) := by
  have hx := C.1
  have hb := C.2.1
  unfold w8_figuresThere_b28 at h
  refine lv_iadd hx hb dX8_figuresThere_28 ?_
  refine lv_topi (fun y1 ey1 => ?_)
  replace h := h y1 ey1
  refine lv_istore_n (lv' := [(1, .int y1), (0, .ref o), (2, .int x2)]) hx hb dX8_figuresThere_29 rfl hl (by decide) rfl (fun ls hl => ?_)
  obtain ⟨y2, ey2⟩ : ∃ y : Int32, y = x2 + 1 := ⟨_, rfl⟩
  replace h := h y2 ey2
  refine lv_iinc (v := y2) (lv' := [(2, .int y2), (1, .int y1), (0, .ref o)]) hx hb dX8_figuresThere_30 hl (k := 2) rfl (by rw [ey2]; rfl) (by decide) rfl (fun ls hl => ?_)
  refine lv_goto (tgt := 4) hx hb dX8_figuresThere_33 (by decide) ?_
  exact hK4 y1 y2 _ _ _ h hG (lv_sub hl [2, 1, 0] rfl)
def w8_figuresThere_d4 (K4 : Int32 → Int32 → Prop) (x1 : Int32) (x2 : Int32) (Z : MS) (X : (Nat → MS)) (Q : Int32 → Prop) : Prop :=
  (((6 : Int32) ≤ x2 → Q x1) ∧ (¬ (6 : Int32) ≤ x2 → vp_in x2 6 ∧ (0 ≤ (x2.toNatClampNeg) ∧ (x2.toNatClampNeg) < 6) ∧ w2_isThere (X (x2.toNatClampNeg)) (fun r3 => ((r3 = 0 → w8_figuresThere_b28 K4 x2 x1 (0 : Int32) Z X Q) ∧ (¬ r3 = 0 → w8_figuresThere_b28 K4 x2 x1 (1 : Int32) Z X Q)))))
set_option maxHeartbeats 4000000 in
set_option maxRecDepth 100000 in
theorem b8_figuresThere_d4 {p : Program} {l : Launch} {e : Env} {s : State} {m : MethodId} {args : Array Value} {below : List Frame} {meth : Method} {c : Code} {D : va_G} {cy : Nat → ClassId} {A : Nat → Prop} {o : Nat} {qp oa : Nat → Nat} {qa : Nat → Nat → Nat} {K4 : Int32 → Int32 → Prop} (x1 : Int32) (x2 : Int32) (Z : MS) (X : (Nat → MS)) {Q : Int32 → Prop} (C : Cx p s m args meth c cX8_figuresThere 3 (some .int) wsX8_figuresThere RX8 D cy nestWs A) (hK4 : ∀ (x1 : Int32) (x2 : Int32) (H : Heap) (locs : List Loc) (ls : Array Slot), K4 x1 x2 → GW D A s (wP o qp oa qa cy Z X) H locs → lv_has ls 3 [(0, .ref o), (1, .int x1), (2, .int x2)] → W p l e ({ frames := 1, cells := 0, slots := 0, locals := 20 } : Room) s m args below meth c H locs 0 0 (MQ below (va_Qi (fun r z => z.1 = Z ∧ z.2 = X ∧ Q r ) (B1 D (fun z : MS × (Nat → MS) => wP o qp oa qa cy z.1 z.2) A) A) args s 0 0 A) (F0 m 4 ls [])) (h : w8_figuresThere_d4 K4 x1 x2 Z X Q) {H : Heap} {locs : List Loc} (hG : GW D A s (wP o qp oa qa cy Z X) H locs) {ls : Array Slot} (hl : lv_has ls 3 [(0, .ref o), (1, .int x1), (2, .int x2)]) : W p l e ({ frames := 1, cells := 0, slots := 0, locals := 20 } : Room) s m args below meth c H locs 0 0 (MQ below (va_Qi (fun r z => z.1 = Z ∧ z.2 = X ∧ Q r ) (B1 D (fun z : MS × (Nat → MS) => wP o qp oa qa cy z.1 z.2) A) A) args s 0 0 A) (F0 m 4 ls []) := by
  have hx := C.1
  have hb := C.2.1
  unfold w8_figuresThere_d4 at h
  refine lv_iload_n hx hb dX8_figuresThere_4 rfl (lv_at hl 2 rfl) ?_
  refine lv_bipush (v := 6) hx hb dX8_figuresThere_5 (by decide) ?_
  refine lv_icmp_ge (tgt := 36) hx hb dX8_figuresThere_7 (by decide) (fun c1 => ?_) (fun c1 => ?_)
  · replace h := h.1 c1
    refine lv_iload_n hx hb dX8_figuresThere_36 rfl (lv_at hl 1 rfl) ?_
    exact retI (w := (fun z : MS × (Nat → MS) => wP o qp oa qa cy z.1 z.2)) (S := (Z, X)) (Qp := (fun r z => z.1 = Z ∧ z.2 = X ∧ Q r )) C hG ⟨rfl, rfl, h⟩ dX8_figuresThere_37
  · replace h := h.2 c1
    refine lv_iload_n hx hb dX8_figuresThere_10 rfl (lv_at hl 1 rfl) ?_
    refine lv_aload_n hx hb dX8_figuresThere_11 rfl (lv_at hl 0 rfl) ?_
    refine gx_get C i8_figuresThere_X8 hG 0 rfl rfl 0 (by decide) k8_figuresThere_11 rfl dX8_figuresThere_12 ?_
    refine lv_iload_n hx hb dX8_figuresThere_15 rfl (lv_at hl 2 rfl) ?_
    obtain ⟨hv2, h⟩ := h
    refine gx_aald (C' := "PaperBodies$Figure") C hG 1 3 rfl rfl hv2 dX8_figuresThere_16 ?_
    obtain ⟨hr4, h⟩ := h
    refine callVI (As := []) (rest := [.int x1]) C hG (c2_isThere l D cy (oa (x2.toNatClampNeg)) (qa (x2.toNatClampNeg)) (X (x2.toNatClampNeg)) _ h) 0 gX8_figuresThere_X2_isThere rfl (by decide +kernel) ⟨⟨Nat.le_of_ble_eq_true rfl, Nat.le_of_ble_eq_true rfl⟩, rfl, rfl⟩ rfl rfl (fo_2 C.2.2.2.2.2.2.2.2.1 (k0 := (x2.toNatClampNeg)) hr4) rfl hl.1 rfl (Nat.le_of_ble_eq_true rfl) dX8_figuresThere_17 ⟨Nat.zero_le _, Nat.zero_le _⟩ (fun r3 u5 H locs h hG => ?_)
    obtain ⟨eu5, h⟩ := h
    have eu5 : u5 = (X (x2.toNatClampNeg)) := eu5
    subst u5
    have hG : GW D A s (wP o qp oa qa cy Z X) H locs := by
      have e9 : (va_up X (x2.toNatClampNeg) (X (x2.toNatClampNeg))) = X := by simp only [up_same]
      have hG : GW D A s (wP o qp oa qa cy Z (va_up X (x2.toNatClampNeg) (X (x2.toNatClampNeg)))) H locs := hG
      rw [e9] at hG
      exact hG
    refine lv_if_eq (tgt := 27) hx hb dX8_figuresThere_20 (by decide) (fun c6 => ?_) (fun c6 => ?_)
    · replace h := h.1 c6
      refine lv_iconst (v := 0) hx hb dX8_figuresThere_27 (by decide) ?_
      exact b8_figuresThere_b28 (K4 := K4) x2 x1 (0 : Int32) Z X C hK4 h hG (lv_sub hl [0, 2] rfl)
    · replace h := h.2 c6
      refine lv_iconst (v := 1) hx hb dX8_figuresThere_23 (by decide) ?_
      refine lv_goto (tgt := 28) hx hb dX8_figuresThere_24 (by decide) ?_
      exact b8_figuresThere_b28 (K4 := K4) x2 x1 (1 : Int32) Z X C hK4 h hG (lv_sub hl [0, 2] rfl)
def w8_figuresThere_F4 (Z : MS) (X : (Nat → MS)) (Q : Int32 → Prop) (K : Int32 × Int32 → Prop) (a : Int32 × Int32) : Prop := w8_figuresThere_d4 (fun y0 y1 => K (y0, y1)) a.1 a.2 Z X Q
def w8_figuresThere_b4 (x1 : Int32) (x2 : Int32) (Z : MS) (X : (Nat → MS)) (Q : Int32 → Prop) : Prop := lp (w8_figuresThere_F4 Z X Q) (x1, x2)
set_option maxHeartbeats 4000000 in
set_option maxRecDepth 100000 in
theorem b8_figuresThere_b4 {p : Program} {l : Launch} {e : Env} {s : State} {m : MethodId} {args : Array Value} {below : List Frame} {meth : Method} {c : Code} {D : va_G} {cy : Nat → ClassId} {A : Nat → Prop} {o : Nat} {qp oa : Nat → Nat} {qa : Nat → Nat → Nat} (x1 : Int32) (x2 : Int32) (Z : MS) (X : (Nat → MS)) {Q : Int32 → Prop} (C : Cx p s m args meth c cX8_figuresThere 3 (some .int) wsX8_figuresThere RX8 D cy nestWs A) (h : w8_figuresThere_b4 x1 x2 Z X Q) {H : Heap} {locs : List Loc} (hG : GW D A s (wP o qp oa qa cy Z X) H locs) {ls : Array Slot} (hl : lv_has ls 3 [(0, .ref o), (1, .int x1), (2, .int x2)]) : W p l e ({ frames := 1, cells := 0, slots := 0, locals := 20 } : Room) s m args below meth c H locs 0 0 (MQ below (va_Qi (fun r z => z.1 = Z ∧ z.2 = X ∧ Q r ) (B1 D (fun z : MS × (Nat → MS) => wP o qp oa qa cy z.1 z.2) A) A) args s 0 0 A) (F0 m 4 ls []) := by
  obtain ⟨k, hn⟩ := h
  induction k generalizing x1 x2 H locs ls with
  | zero => exact hn.elim
  | succ k ih => exact b8_figuresThere_d4 (K4 := fun y0 y1 => itr (w8_figuresThere_F4 Z X Q) k (y0, y1)) x1 x2 Z X C (fun x1 x2 H locs ls hk hG hl => ih x1 x2 hG hl hk) hn hG hl
def w8_figuresThere (Z : MS) (X : (Nat → MS)) (Q : Int32 → Prop) : Prop :=
  w8_figuresThere_b4 (0 : Int32) (0 : Int32) Z X Q
set_option maxHeartbeats 4000000 in
set_option maxRecDepth 100000 in
theorem c8_figuresThere (l : Launch) (D : va_G) (cy : Nat → ClassId)  (o : Nat) (qp oa : Nat → Nat) (qa : Nat → Nat → Nat) (Z : MS) (X : (Nat → MS)) (Q : Int32 → Prop) (h : w8_figuresThere Z X Q) : MetI l yX8_figuresThere wsX8_figuresThere ({ frames := 1, cells := 0, slots := 0, locals := 20 } : Room) D cy nestWs (fun z : MS × (Nat → MS) => wP o qp oa qa cy z.1 z.2) [.ref o] (Z, X) (fun r z => z.1 = Z ∧ z.2 = X ∧ Q r ) := by
  refine MetI.mk RX8 cX8_figuresThere 3 .int (by decide) rfl nestWs_ok rfl (Nat.le_of_ble_eq_true rfl) ?_
  intro p e s m below meth c A ls C hG hl
  have hl : lv_has ls 3 [(0, .ref o)] := hl
  have hx := C.1
  have hb := C.2.1
  unfold w8_figuresThere at h
  refine lv_iconst (v := 0) hx hb dX8_figuresThere_0 (by decide) ?_
  refine lv_istore_n (lv' := [(1, .int (0 : Int32)), (0, .ref o)]) hx hb dX8_figuresThere_1 rfl hl (by decide) rfl (fun ls hl => ?_)
  refine lv_iconst (v := 0) hx hb dX8_figuresThere_2 (by decide) ?_
  refine lv_istore_n (lv' := [(2, .int (0 : Int32)), (1, .int (0 : Int32)), (0, .ref o)]) hx hb dX8_figuresThere_3 rfl hl (by decide) rfl (fun ls hl => ?_)
  exact b8_figuresThere_b4 (0 : Int32) (0 : Int32) Z X C h hG (lv_sub hl [2, 1, 0] rfl)
-- X8_squaresInAll
theorem i8_squaresInAll_X8 : ∀ w ∈ wsX80, w ∈ wsX8_squaresInAll := fun w h => List.mem_cons_of_mem _ (inG_X8 w h)
theorem i8_squaresInAll_X2 : ∀ w ∈ wsX20, w ∈ wsX8_squaresInAll := fun w h => List.mem_cons_of_mem _ (inG_X2 w h)
theorem k8_squaresInAll_11 : Cond.fieldLink RX8 11 "PaperBodies" "figures" "[LPaperBodies$Figure;" ∈ wsX8_squaresInAll := (List.mem_cons_of_mem _ mw_317)
def w8_squaresInAll_d4 (K4 : Int32 → Int32 → Prop) (x1 : Int32) (x2 : Int32) (Z : MS) (X : (Nat → MS)) (Q : Int32 → Prop) : Prop :=
  (((6 : Int32) ≤ x2 → Q x1) ∧ (¬ (6 : Int32) ≤ x2 → vp_in x2 6 ∧ (0 ≤ (x2.toNatClampNeg) ∧ (x2.toNatClampNeg) < 6) ∧ w13_bitCount_95d88 (fJ (X (x2.toNatClampNeg)) 1) (fun r6 => ∀ y7 : Int32, y7 = (x1 + r6) → ∀ y8 : Int32, y8 = x2 + 1 → K4 y7 y8)))
set_option maxHeartbeats 4000000 in
set_option maxRecDepth 100000 in
theorem b8_squaresInAll_d4 {p : Program} {l : Launch} {e : Env} {s : State} {m : MethodId} {args : Array Value} {below : List Frame} {meth : Method} {c : Code} {D : va_G} {cy : Nat → ClassId} {A : Nat → Prop} {o : Nat} {qp oa : Nat → Nat} {qa : Nat → Nat → Nat} {K4 : Int32 → Int32 → Prop} (x1 : Int32) (x2 : Int32) (Z : MS) (X : (Nat → MS)) {Q : Int32 → Prop} (C : Cx p s m args meth c cX8_squaresInAll 3 (some .int) wsX8_squaresInAll RX8 D cy nestWs A) (hK4 : ∀ (x1 : Int32) (x2 : Int32) (H : Heap) (locs : List Loc) (ls : Array Slot), K4 x1 x2 → GW D A s (wP o qp oa qa cy Z X) H locs → lv_has ls 3 [(0, .ref o), (1, .int x1), (2, .int x2)] → W p l e ({ frames := 1, cells := 0, slots := 0, locals := 21 } : Room) s m args below meth c H locs 0 0 (MQ below (va_Qi (fun r z => z.1 = Z ∧ z.2 = X ∧ Q r ) (B1 D (fun z : MS × (Nat → MS) => wP o qp oa qa cy z.1 z.2) A) A) args s 0 0 A) (F0 m 4 ls [])) (h : w8_squaresInAll_d4 K4 x1 x2 Z X Q) {H : Heap} {locs : List Loc} (hG : GW D A s (wP o qp oa qa cy Z X) H locs) {ls : Array Slot} (hl : lv_has ls 3 [(0, .ref o), (1, .int x1), (2, .int x2)]) : W p l e ({ frames := 1, cells := 0, slots := 0, locals := 21 } : Room) s m args below meth c H locs 0 0 (MQ below (va_Qi (fun r z => z.1 = Z ∧ z.2 = X ∧ Q r ) (B1 D (fun z : MS × (Nat → MS) => wP o qp oa qa cy z.1 z.2) A) A) args s 0 0 A) (F0 m 4 ls []) := by
  have hx := C.1
  have hb := C.2.1
  unfold w8_squaresInAll_d4 at h
  refine lv_iload_n hx hb dX8_squaresInAll_4 rfl (lv_at hl 2 rfl) ?_
  refine lv_bipush (v := 6) hx hb dX8_squaresInAll_5 (by decide) ?_
  refine lv_icmp_ge (tgt := 31) hx hb dX8_squaresInAll_7 (by decide) (fun c1 => ?_) (fun c1 => ?_)
  · replace h := h.1 c1
    refine lv_iload_n hx hb dX8_squaresInAll_31 rfl (lv_at hl 1 rfl) ?_
    exact retI (w := (fun z : MS × (Nat → MS) => wP o qp oa qa cy z.1 z.2)) (S := (Z, X)) (Qp := (fun r z => z.1 = Z ∧ z.2 = X ∧ Q r )) C hG ⟨rfl, rfl, h⟩ dX8_squaresInAll_32
  · replace h := h.2 c1
    refine lv_iload_n hx hb dX8_squaresInAll_10 rfl (lv_at hl 1 rfl) ?_
    refine lv_aload_n hx hb dX8_squaresInAll_11 rfl (lv_at hl 0 rfl) ?_
    refine gx_get C i8_squaresInAll_X8 hG 0 rfl rfl 0 (by decide) k8_squaresInAll_11 rfl dX8_squaresInAll_12 ?_
    refine lv_iload_n hx hb dX8_squaresInAll_15 rfl (lv_at hl 2 rfl) ?_
    obtain ⟨hv2, h⟩ := h
    refine gx_aald (C' := "PaperBodies$Figure") C hG 1 3 rfl rfl hv2 dX8_squaresInAll_16 ?_
    obtain ⟨hr3, h⟩ := h
    obtain ⟨qq4, he5⟩ := at2 (o := o) (qp := qp) (oa := oa) (qa := qa) (cy := cy) (Z := Z) (X := X) (k := (x2.toNatClampNeg)) hr3
    refine gx_getN (host := "PaperBodies") C i8_squaresInAll_X2 hG qq4 he5 rfl 1 (by decide) (by decide +kernel) rfl dX8_squaresInAll_17 ?_
    refine callSI (As := [.long (fJ (X (x2.toNatClampNeg)) 1)]) (rest := [.int x1]) C hG (c13_bitCount_95d88 l D cy (fJ (X (x2.toNatClampNeg)) 1) _ h) 1 gX8_squaresInAll_J13_bitCount_95d88 rfl (by decide +kernel) ⟨⟨Nat.le_of_ble_eq_true rfl, Nat.le_of_ble_eq_true rfl⟩, rfl, rfl⟩ (Foc.none C.2.2.2.2.2.2.2.2.1) rfl hl.1 rfl (Nat.le_of_ble_eq_true rfl) dX8_squaresInAll_20 ⟨Nat.zero_le _, Nat.zero_le _⟩ (fun r6 z H locs h hG => ?_)
    refine lv_iadd hx hb dX8_squaresInAll_23 ?_
    refine lv_topi (fun y7 ey7 => ?_)
    replace h := h y7 ey7
    refine lv_istore_n (lv' := [(1, .int y7), (0, .ref o), (2, .int x2)]) hx hb dX8_squaresInAll_24 rfl hl (by decide) rfl (fun ls hl => ?_)
    obtain ⟨y8, ey8⟩ : ∃ y : Int32, y = x2 + 1 := ⟨_, rfl⟩
    replace h := h y8 ey8
    refine lv_iinc (v := y8) (lv' := [(2, .int y8), (1, .int y7), (0, .ref o)]) hx hb dX8_squaresInAll_25 hl (k := 2) rfl (by rw [ey8]; rfl) (by decide) rfl (fun ls hl => ?_)
    refine lv_goto (tgt := 4) hx hb dX8_squaresInAll_28 (by decide) ?_
    exact hK4 y7 y8 _ _ _ h hG (lv_sub hl [2, 1, 0] rfl)
def w8_squaresInAll_F4 (Z : MS) (X : (Nat → MS)) (Q : Int32 → Prop) (K : Int32 × Int32 → Prop) (a : Int32 × Int32) : Prop := w8_squaresInAll_d4 (fun y0 y1 => K (y0, y1)) a.1 a.2 Z X Q
def w8_squaresInAll_b4 (x1 : Int32) (x2 : Int32) (Z : MS) (X : (Nat → MS)) (Q : Int32 → Prop) : Prop := lp (w8_squaresInAll_F4 Z X Q) (x1, x2)
set_option maxHeartbeats 4000000 in
set_option maxRecDepth 100000 in
theorem b8_squaresInAll_b4 {p : Program} {l : Launch} {e : Env} {s : State} {m : MethodId} {args : Array Value} {below : List Frame} {meth : Method} {c : Code} {D : va_G} {cy : Nat → ClassId} {A : Nat → Prop} {o : Nat} {qp oa : Nat → Nat} {qa : Nat → Nat → Nat} (x1 : Int32) (x2 : Int32) (Z : MS) (X : (Nat → MS)) {Q : Int32 → Prop} (C : Cx p s m args meth c cX8_squaresInAll 3 (some .int) wsX8_squaresInAll RX8 D cy nestWs A) (h : w8_squaresInAll_b4 x1 x2 Z X Q) {H : Heap} {locs : List Loc} (hG : GW D A s (wP o qp oa qa cy Z X) H locs) {ls : Array Slot} (hl : lv_has ls 3 [(0, .ref o), (1, .int x1), (2, .int x2)]) : W p l e ({ frames := 1, cells := 0, slots := 0, locals := 21 } : Room) s m args below meth c H locs 0 0 (MQ below (va_Qi (fun r z => z.1 = Z ∧ z.2 = X ∧ Q r ) (B1 D (fun z : MS × (Nat → MS) => wP o qp oa qa cy z.1 z.2) A) A) args s 0 0 A) (F0 m 4 ls []) := by
  obtain ⟨k, hn⟩ := h
  induction k generalizing x1 x2 H locs ls with
  | zero => exact hn.elim
  | succ k ih => exact b8_squaresInAll_d4 (K4 := fun y0 y1 => itr (w8_squaresInAll_F4 Z X Q) k (y0, y1)) x1 x2 Z X C (fun x1 x2 H locs ls hk hG hl => ih x1 x2 hG hl hk) hn hG hl
def w8_squaresInAll (Z : MS) (X : (Nat → MS)) (Q : Int32 → Prop) : Prop :=
  w8_squaresInAll_b4 (0 : Int32) (0 : Int32) Z X Q
set_option maxHeartbeats 4000000 in
set_option maxRecDepth 100000 in
theorem c8_squaresInAll (l : Launch) (D : va_G) (cy : Nat → ClassId)  (o : Nat) (qp oa : Nat → Nat) (qa : Nat → Nat → Nat) (Z : MS) (X : (Nat → MS)) (Q : Int32 → Prop) (h : w8_squaresInAll Z X Q) : MetI l yX8_squaresInAll wsX8_squaresInAll ({ frames := 1, cells := 0, slots := 0, locals := 21 } : Room) D cy nestWs (fun z : MS × (Nat → MS) => wP o qp oa qa cy z.1 z.2) [.ref o] (Z, X) (fun r z => z.1 = Z ∧ z.2 = X ∧ Q r ) := by
  refine MetI.mk RX8 cX8_squaresInAll 3 .int (by decide) rfl nestWs_ok rfl (Nat.le_of_ble_eq_true rfl) ?_
  intro p e s m below meth c A ls C hG hl
  have hl : lv_has ls 3 [(0, .ref o)] := hl
  have hx := C.1
  have hb := C.2.1
  unfold w8_squaresInAll at h
  refine lv_iconst (v := 0) hx hb dX8_squaresInAll_0 (by decide) ?_
  refine lv_istore_n (lv' := [(1, .int (0 : Int32)), (0, .ref o)]) hx hb dX8_squaresInAll_1 rfl hl (by decide) rfl (fun ls hl => ?_)
  refine lv_iconst (v := 0) hx hb dX8_squaresInAll_2 (by decide) ?_
  refine lv_istore_n (lv' := [(2, .int (0 : Int32)), (1, .int (0 : Int32)), (0, .ref o)]) hx hb dX8_squaresInAll_3 rfl hl (by decide) rfl (fun ls hl => ?_)
  exact b8_squaresInAll_b4 (0 : Int32) (0 : Int32) Z X C h hG (lv_sub hl [2, 1, 0] rfl)
-- X8_boxesThere
theorem i8_boxesThere_X8 : ∀ w ∈ wsX80, w ∈ wsX8_boxesThere := fun w h => List.mem_cons_of_mem _ (inG_X8 w h)
theorem k8_boxesThere_17 : Cond.fieldLink RX8 17 "PaperBodies" "boxes" "[LPaperBodies$Box;" ∈ wsX8_boxesThere := (List.mem_cons_of_mem _ mw_319)
def w8_boxesThere_b27 (K4 : Int32 → Int32 → Prop) (x2 : Int32) (t0 : Int32) (t1 : Int32) (Z : MS) (X : (Nat → MS)) (Q : Int32 → Prop) : Prop :=
  ∀ y1 : Int32, y1 = (t0 + t1) → ∀ y2 : Int32, y2 = x2 + 1 → K4 y1 y2
set_option maxHeartbeats 4000000 in
set_option maxRecDepth 100000 in
theorem b8_boxesThere_b27 {p : Program} {l : Launch} {e : Env} {s : State} {m : MethodId} {args : Array Value} {below : List Frame} {meth : Method} {c : Code} {D : va_G} {cy : Nat → ClassId} {A : Nat → Prop} {o : Nat} {qp oa : Nat → Nat} {qa : Nat → Nat → Nat} {K4 : Int32 → Int32 → Prop} (x2 : Int32) (t0 : Int32) (t1 : Int32) (Z : MS) (X : (Nat → MS)) {Q : Int32 → Prop} (C : Cx p s m args meth c cX8_boxesThere 3 (some .int) wsX8_boxesThere RX8 D cy nestWs A) (hK4 : ∀ (x1 : Int32) (x2 : Int32) (H : Heap) (locs : List Loc) (ls : Array Slot), K4 x1 x2 → GW D A s (wP o qp oa qa cy Z X) H locs → lv_has ls 3 [(0, .ref o), (1, .int x1), (2, .int x2)] → W p l e ({ frames := 1, cells := 0, slots := 0, locals := 20 } : Room) s m args below meth c H locs 0 0 (MQ below (va_Qi (fun r z => z.1 = Z ∧ z.2 = X ∧ Q r ) (B1 D (fun z : MS × (Nat → MS) => wP o qp oa qa cy z.1 z.2) A) A) args s 0 0 A) (F0 m 4 ls [])) (h : w8_boxesThere_b27 K4 x2 t0 t1 Z X Q) {H : Heap} {locs : List Loc} (hG : GW D A s (wP o qp oa qa cy Z X) H locs) {ls : Array Slot} (hl : lv_has ls 3 [(0, .ref o), (2, .int x2)]) : W p l e ({ frames := 1, cells := 0, slots := 0, locals := 20 } : Room) s m args below meth c H locs 0 0 (MQ below (va_Qi (fun r z => z.1 = Z ∧ z.2 = X ∧ Q r ) (B1 D (fun z : MS × (Nat → MS) => wP o qp oa qa cy z.1 z.2) A) A) args s 0 0 A) (F0 m 27 ls [.int t1, .int t0]) := by
  have hx := C.1
  have hb := C.2.1
  unfold w8_boxesThere_b27 at h
  refine lv_iadd hx hb dX8_boxesThere_27 ?_
  refine lv_topi (fun y1 ey1 => ?_)
  replace h := h y1 ey1
  refine lv_istore_n (lv' := [(1, .int y1), (0, .ref o), (2, .int x2)]) hx hb dX8_boxesThere_28 rfl hl (by decide) rfl (fun ls hl => ?_)
  obtain ⟨y2, ey2⟩ : ∃ y : Int32, y = x2 + 1 := ⟨_, rfl⟩
  replace h := h y2 ey2
  refine lv_iinc (v := y2) (lv' := [(2, .int y2), (1, .int y1), (0, .ref o)]) hx hb dX8_boxesThere_29 hl (k := 2) rfl (by rw [ey2]; rfl) (by decide) rfl (fun ls hl => ?_)
  refine lv_goto (tgt := 4) hx hb dX8_boxesThere_32 (by decide) ?_
  exact hK4 y1 y2 _ _ _ h hG (lv_sub hl [2, 1, 0] rfl)
def w8_boxesThere_d4 (K4 : Int32 → Int32 → Prop) (x1 : Int32) (x2 : Int32) (Z : MS) (X : (Nat → MS)) (Q : Int32 → Prop) : Prop :=
  (((4 : Int32) ≤ x2 → Q x1) ∧ (¬ (4 : Int32) ≤ x2 → vp_in x2 4 ∧ (6 ≤ (6 + x2.toNatClampNeg) ∧ (6 + x2.toNatClampNeg) < 10) ∧ w1_isThere (X (6 + x2.toNatClampNeg)) (fun r3 => ((r3 = 0 → w8_boxesThere_b27 K4 x2 x1 (0 : Int32) Z X Q) ∧ (¬ r3 = 0 → w8_boxesThere_b27 K4 x2 x1 (1 : Int32) Z X Q)))))
set_option maxHeartbeats 4000000 in
set_option maxRecDepth 100000 in
theorem b8_boxesThere_d4 {p : Program} {l : Launch} {e : Env} {s : State} {m : MethodId} {args : Array Value} {below : List Frame} {meth : Method} {c : Code} {D : va_G} {cy : Nat → ClassId} {A : Nat → Prop} {o : Nat} {qp oa : Nat → Nat} {qa : Nat → Nat → Nat} {K4 : Int32 → Int32 → Prop} (x1 : Int32) (x2 : Int32) (Z : MS) (X : (Nat → MS)) {Q : Int32 → Prop} (C : Cx p s m args meth c cX8_boxesThere 3 (some .int) wsX8_boxesThere RX8 D cy nestWs A) (hK4 : ∀ (x1 : Int32) (x2 : Int32) (H : Heap) (locs : List Loc) (ls : Array Slot), K4 x1 x2 → GW D A s (wP o qp oa qa cy Z X) H locs → lv_has ls 3 [(0, .ref o), (1, .int x1), (2, .int x2)] → W p l e ({ frames := 1, cells := 0, slots := 0, locals := 20 } : Room) s m args below meth c H locs 0 0 (MQ below (va_Qi (fun r z => z.1 = Z ∧ z.2 = X ∧ Q r ) (B1 D (fun z : MS × (Nat → MS) => wP o qp oa qa cy z.1 z.2) A) A) args s 0 0 A) (F0 m 4 ls [])) (h : w8_boxesThere_d4 K4 x1 x2 Z X Q) {H : Heap} {locs : List Loc} (hG : GW D A s (wP o qp oa qa cy Z X) H locs) {ls : Array Slot} (hl : lv_has ls 3 [(0, .ref o), (1, .int x1), (2, .int x2)]) : W p l e ({ frames := 1, cells := 0, slots := 0, locals := 20 } : Room) s m args below meth c H locs 0 0 (MQ below (va_Qi (fun r z => z.1 = Z ∧ z.2 = X ∧ Q r ) (B1 D (fun z : MS × (Nat → MS) => wP o qp oa qa cy z.1 z.2) A) A) args s 0 0 A) (F0 m 4 ls []) := by
  have hx := C.1
  have hb := C.2.1
  unfold w8_boxesThere_d4 at h
  refine lv_iload_n hx hb dX8_boxesThere_4 rfl (lv_at hl 2 rfl) ?_
  refine lv_iconst (v := 4) hx hb dX8_boxesThere_5 (by decide) ?_
  refine lv_icmp_ge (tgt := 35) hx hb dX8_boxesThere_6 (by decide) (fun c1 => ?_) (fun c1 => ?_)
  · replace h := h.1 c1
    refine lv_iload_n hx hb dX8_boxesThere_35 rfl (lv_at hl 1 rfl) ?_
    exact retI (w := (fun z : MS × (Nat → MS) => wP o qp oa qa cy z.1 z.2)) (S := (Z, X)) (Qp := (fun r z => z.1 = Z ∧ z.2 = X ∧ Q r )) C hG ⟨rfl, rfl, h⟩ dX8_boxesThere_36
  · replace h := h.2 c1
    refine lv_iload_n hx hb dX8_boxesThere_9 rfl (lv_at hl 1 rfl) ?_
    refine lv_aload_n hx hb dX8_boxesThere_10 rfl (lv_at hl 0 rfl) ?_
    refine gx_get C i8_boxesThere_X8 hG 0 rfl rfl 1 (by decide) k8_boxesThere_17 rfl dX8_boxesThere_11 ?_
    refine lv_iload_n hx hb dX8_boxesThere_14 rfl (lv_at hl 2 rfl) ?_
    obtain ⟨hv2, h⟩ := h
    refine gx_aald (C' := "PaperBodies$Box") C hG 2 2 rfl rfl hv2 dX8_boxesThere_15 ?_
    obtain ⟨hr4, h⟩ := h
    refine callVI (As := []) (rest := [.int x1]) C hG (c1_isThere l D cy (oa (6 + x2.toNatClampNeg)) (qa (6 + x2.toNatClampNeg)) (X (6 + x2.toNatClampNeg)) _ h) 0 gX8_boxesThere_X1_isThere rfl (by decide +kernel) ⟨⟨Nat.le_of_ble_eq_true rfl, Nat.le_of_ble_eq_true rfl⟩, rfl, rfl⟩ rfl rfl (fo_1 C.2.2.2.2.2.2.2.2.1 (k0 := (6 + x2.toNatClampNeg)) hr4) rfl hl.1 rfl (Nat.le_of_ble_eq_true rfl) dX8_boxesThere_16 ⟨Nat.zero_le _, Nat.zero_le _⟩ (fun r3 u5 H locs h hG => ?_)
    obtain ⟨eu5, h⟩ := h
    have eu5 : u5 = (X (6 + x2.toNatClampNeg)) := eu5
    subst u5
    have hG : GW D A s (wP o qp oa qa cy Z X) H locs := by
      have e9 : (va_up X (6 + x2.toNatClampNeg) (X (6 + x2.toNatClampNeg))) = X := by simp only [up_same]
      have hG : GW D A s (wP o qp oa qa cy Z (va_up X (6 + x2.toNatClampNeg) (X (6 + x2.toNatClampNeg)))) H locs := hG
      rw [e9] at hG
      exact hG
    refine lv_if_eq (tgt := 26) hx hb dX8_boxesThere_19 (by decide) (fun c6 => ?_) (fun c6 => ?_)
    · replace h := h.1 c6
      refine lv_iconst (v := 0) hx hb dX8_boxesThere_26 (by decide) ?_
      exact b8_boxesThere_b27 (K4 := K4) x2 x1 (0 : Int32) Z X C hK4 h hG (lv_sub hl [0, 2] rfl)
    · replace h := h.2 c6
      refine lv_iconst (v := 1) hx hb dX8_boxesThere_22 (by decide) ?_
      refine lv_goto (tgt := 27) hx hb dX8_boxesThere_23 (by decide) ?_
      exact b8_boxesThere_b27 (K4 := K4) x2 x1 (1 : Int32) Z X C hK4 h hG (lv_sub hl [0, 2] rfl)
def w8_boxesThere_F4 (Z : MS) (X : (Nat → MS)) (Q : Int32 → Prop) (K : Int32 × Int32 → Prop) (a : Int32 × Int32) : Prop := w8_boxesThere_d4 (fun y0 y1 => K (y0, y1)) a.1 a.2 Z X Q
def w8_boxesThere_b4 (x1 : Int32) (x2 : Int32) (Z : MS) (X : (Nat → MS)) (Q : Int32 → Prop) : Prop := lp (w8_boxesThere_F4 Z X Q) (x1, x2)
set_option maxHeartbeats 4000000 in
set_option maxRecDepth 100000 in
theorem b8_boxesThere_b4 {p : Program} {l : Launch} {e : Env} {s : State} {m : MethodId} {args : Array Value} {below : List Frame} {meth : Method} {c : Code} {D : va_G} {cy : Nat → ClassId} {A : Nat → Prop} {o : Nat} {qp oa : Nat → Nat} {qa : Nat → Nat → Nat} (x1 : Int32) (x2 : Int32) (Z : MS) (X : (Nat → MS)) {Q : Int32 → Prop} (C : Cx p s m args meth c cX8_boxesThere 3 (some .int) wsX8_boxesThere RX8 D cy nestWs A) (h : w8_boxesThere_b4 x1 x2 Z X Q) {H : Heap} {locs : List Loc} (hG : GW D A s (wP o qp oa qa cy Z X) H locs) {ls : Array Slot} (hl : lv_has ls 3 [(0, .ref o), (1, .int x1), (2, .int x2)]) : W p l e ({ frames := 1, cells := 0, slots := 0, locals := 20 } : Room) s m args below meth c H locs 0 0 (MQ below (va_Qi (fun r z => z.1 = Z ∧ z.2 = X ∧ Q r ) (B1 D (fun z : MS × (Nat → MS) => wP o qp oa qa cy z.1 z.2) A) A) args s 0 0 A) (F0 m 4 ls []) := by
  obtain ⟨k, hn⟩ := h
  induction k generalizing x1 x2 H locs ls with
  | zero => exact hn.elim
  | succ k ih => exact b8_boxesThere_d4 (K4 := fun y0 y1 => itr (w8_boxesThere_F4 Z X Q) k (y0, y1)) x1 x2 Z X C (fun x1 x2 H locs ls hk hG hl => ih x1 x2 hG hl hk) hn hG hl
def w8_boxesThere (Z : MS) (X : (Nat → MS)) (Q : Int32 → Prop) : Prop :=
  w8_boxesThere_b4 (0 : Int32) (0 : Int32) Z X Q
set_option maxHeartbeats 4000000 in
set_option maxRecDepth 100000 in
theorem c8_boxesThere (l : Launch) (D : va_G) (cy : Nat → ClassId)  (o : Nat) (qp oa : Nat → Nat) (qa : Nat → Nat → Nat) (Z : MS) (X : (Nat → MS)) (Q : Int32 → Prop) (h : w8_boxesThere Z X Q) : MetI l yX8_boxesThere wsX8_boxesThere ({ frames := 1, cells := 0, slots := 0, locals := 20 } : Room) D cy nestWs (fun z : MS × (Nat → MS) => wP o qp oa qa cy z.1 z.2) [.ref o] (Z, X) (fun r z => z.1 = Z ∧ z.2 = X ∧ Q r ) := by
  refine MetI.mk RX8 cX8_boxesThere 3 .int (by decide) rfl nestWs_ok rfl (Nat.le_of_ble_eq_true rfl) ?_
  intro p e s m below meth c A ls C hG hl
  have hl : lv_has ls 3 [(0, .ref o)] := hl
  have hx := C.1
  have hb := C.2.1
  unfold w8_boxesThere at h
  refine lv_iconst (v := 0) hx hb dX8_boxesThere_0 (by decide) ?_
  refine lv_istore_n (lv' := [(1, .int (0 : Int32)), (0, .ref o)]) hx hb dX8_boxesThere_1 rfl hl (by decide) rfl (fun ls hl => ?_)
  refine lv_iconst (v := 0) hx hb dX8_boxesThere_2 (by decide) ?_
  refine lv_istore_n (lv' := [(2, .int (0 : Int32)), (1, .int (0 : Int32)), (0, .ref o)]) hx hb dX8_boxesThere_3 rfl hl (by decide) rfl (fun ls hl => ?_)
  exact b8_boxesThere_b4 (0 : Int32) (0 : Int32) Z X C h hG (lv_sub hl [2, 1, 0] rfl)
-- X8_cellsInAll
theorem i8_cellsInAll_X8 : ∀ w ∈ wsX80, w ∈ wsX8_cellsInAll := fun w h => List.mem_cons_of_mem _ (inG_X8 w h)
theorem i8_cellsInAll_X1 : ∀ w ∈ wsX10, w ∈ wsX8_cellsInAll := fun w h => List.mem_cons_of_mem _ (inG_X1 w h)
theorem k8_cellsInAll_17 : Cond.fieldLink RX8 17 "PaperBodies" "boxes" "[LPaperBodies$Box;" ∈ wsX8_cellsInAll := (List.mem_cons_of_mem _ mw_319)
def w8_cellsInAll_d4 (K4 : Int32 → Int32 → Prop) (x1 : Int32) (x2 : Int32) (Z : MS) (X : (Nat → MS)) (Q : Int32 → Prop) : Prop :=
  (((4 : Int32) ≤ x2 → Q x1) ∧ (¬ (4 : Int32) ≤ x2 → vp_in x2 4 ∧ (6 ≤ (6 + x2.toNatClampNeg) ∧ (6 + x2.toNatClampNeg) < 10) ∧ ∀ y6 : Int32, y6 = (x1 + (fI (X (6 + x2.toNatClampNeg)) 6)) → ∀ y7 : Int32, y7 = x2 + 1 → K4 y6 y7))
set_option maxHeartbeats 4000000 in
set_option maxRecDepth 100000 in
theorem b8_cellsInAll_d4 {p : Program} {l : Launch} {e : Env} {s : State} {m : MethodId} {args : Array Value} {below : List Frame} {meth : Method} {c : Code} {D : va_G} {cy : Nat → ClassId} {A : Nat → Prop} {o : Nat} {qp oa : Nat → Nat} {qa : Nat → Nat → Nat} {K4 : Int32 → Int32 → Prop} (x1 : Int32) (x2 : Int32) (Z : MS) (X : (Nat → MS)) {Q : Int32 → Prop} (C : Cx p s m args meth c cX8_cellsInAll 3 (some .int) wsX8_cellsInAll RX8 D cy nestWs A) (hK4 : ∀ (x1 : Int32) (x2 : Int32) (H : Heap) (locs : List Loc) (ls : Array Slot), K4 x1 x2 → GW D A s (wP o qp oa qa cy Z X) H locs → lv_has ls 3 [(0, .ref o), (1, .int x1), (2, .int x2)] → W p l e ({ frames := 0, cells := 0, slots := 0, locals := 0 } : Room) s m args below meth c H locs 0 0 (MQ below (va_Qi (fun r z => z.1 = Z ∧ z.2 = X ∧ Q r ) (B1 D (fun z : MS × (Nat → MS) => wP o qp oa qa cy z.1 z.2) A) A) args s 0 0 A) (F0 m 4 ls [])) (h : w8_cellsInAll_d4 K4 x1 x2 Z X Q) {H : Heap} {locs : List Loc} (hG : GW D A s (wP o qp oa qa cy Z X) H locs) {ls : Array Slot} (hl : lv_has ls 3 [(0, .ref o), (1, .int x1), (2, .int x2)]) : W p l e ({ frames := 0, cells := 0, slots := 0, locals := 0 } : Room) s m args below meth c H locs 0 0 (MQ below (va_Qi (fun r z => z.1 = Z ∧ z.2 = X ∧ Q r ) (B1 D (fun z : MS × (Nat → MS) => wP o qp oa qa cy z.1 z.2) A) A) args s 0 0 A) (F0 m 4 ls []) := by
  have hx := C.1
  have hb := C.2.1
  unfold w8_cellsInAll_d4 at h
  refine lv_iload_n hx hb dX8_cellsInAll_4 rfl (lv_at hl 2 rfl) ?_
  refine lv_iconst (v := 4) hx hb dX8_cellsInAll_5 (by decide) ?_
  refine lv_icmp_ge (tgt := 27) hx hb dX8_cellsInAll_6 (by decide) (fun c1 => ?_) (fun c1 => ?_)
  · replace h := h.1 c1
    refine lv_iload_n hx hb dX8_cellsInAll_27 rfl (lv_at hl 1 rfl) ?_
    exact retI (w := (fun z : MS × (Nat → MS) => wP o qp oa qa cy z.1 z.2)) (S := (Z, X)) (Qp := (fun r z => z.1 = Z ∧ z.2 = X ∧ Q r )) C hG ⟨rfl, rfl, h⟩ dX8_cellsInAll_28
  · replace h := h.2 c1
    refine lv_iload_n hx hb dX8_cellsInAll_9 rfl (lv_at hl 1 rfl) ?_
    refine lv_aload_n hx hb dX8_cellsInAll_10 rfl (lv_at hl 0 rfl) ?_
    refine gx_get C i8_cellsInAll_X8 hG 0 rfl rfl 1 (by decide) k8_cellsInAll_17 rfl dX8_cellsInAll_11 ?_
    refine lv_iload_n hx hb dX8_cellsInAll_14 rfl (lv_at hl 2 rfl) ?_
    obtain ⟨hv2, h⟩ := h
    refine gx_aald (C' := "PaperBodies$Box") C hG 2 2 rfl rfl hv2 dX8_cellsInAll_15 ?_
    obtain ⟨hr3, h⟩ := h
    obtain ⟨qq4, he5⟩ := at1 (o := o) (qp := qp) (oa := oa) (qa := qa) (cy := cy) (Z := Z) (X := X) (k := (6 + x2.toNatClampNeg)) hr3
    refine gx_getN (host := "PaperBodies") C i8_cellsInAll_X1 hG qq4 he5 rfl 6 (by decide) (by decide +kernel) rfl dX8_cellsInAll_16 ?_
    refine lv_iadd hx hb dX8_cellsInAll_19 ?_
    refine lv_topi (fun y6 ey6 => ?_)
    replace h := h y6 ey6
    refine lv_istore_n (lv' := [(1, .int y6), (0, .ref o), (2, .int x2)]) hx hb dX8_cellsInAll_20 rfl hl (by decide) rfl (fun ls hl => ?_)
    obtain ⟨y7, ey7⟩ : ∃ y : Int32, y = x2 + 1 := ⟨_, rfl⟩
    replace h := h y7 ey7
    refine lv_iinc (v := y7) (lv' := [(2, .int y7), (1, .int y6), (0, .ref o)]) hx hb dX8_cellsInAll_21 hl (k := 2) rfl (by rw [ey7]; rfl) (by decide) rfl (fun ls hl => ?_)
    refine lv_goto (tgt := 4) hx hb dX8_cellsInAll_24 (by decide) ?_
    exact hK4 y6 y7 _ _ _ h hG (lv_sub hl [2, 1, 0] rfl)
def w8_cellsInAll_F4 (Z : MS) (X : (Nat → MS)) (Q : Int32 → Prop) (K : Int32 × Int32 → Prop) (a : Int32 × Int32) : Prop := w8_cellsInAll_d4 (fun y0 y1 => K (y0, y1)) a.1 a.2 Z X Q
def w8_cellsInAll_b4 (x1 : Int32) (x2 : Int32) (Z : MS) (X : (Nat → MS)) (Q : Int32 → Prop) : Prop := lp (w8_cellsInAll_F4 Z X Q) (x1, x2)
set_option maxHeartbeats 4000000 in
set_option maxRecDepth 100000 in
theorem b8_cellsInAll_b4 {p : Program} {l : Launch} {e : Env} {s : State} {m : MethodId} {args : Array Value} {below : List Frame} {meth : Method} {c : Code} {D : va_G} {cy : Nat → ClassId} {A : Nat → Prop} {o : Nat} {qp oa : Nat → Nat} {qa : Nat → Nat → Nat} (x1 : Int32) (x2 : Int32) (Z : MS) (X : (Nat → MS)) {Q : Int32 → Prop} (C : Cx p s m args meth c cX8_cellsInAll 3 (some .int) wsX8_cellsInAll RX8 D cy nestWs A) (h : w8_cellsInAll_b4 x1 x2 Z X Q) {H : Heap} {locs : List Loc} (hG : GW D A s (wP o qp oa qa cy Z X) H locs) {ls : Array Slot} (hl : lv_has ls 3 [(0, .ref o), (1, .int x1), (2, .int x2)]) : W p l e ({ frames := 0, cells := 0, slots := 0, locals := 0 } : Room) s m args below meth c H locs 0 0 (MQ below (va_Qi (fun r z => z.1 = Z ∧ z.2 = X ∧ Q r ) (B1 D (fun z : MS × (Nat → MS) => wP o qp oa qa cy z.1 z.2) A) A) args s 0 0 A) (F0 m 4 ls []) := by
  obtain ⟨k, hn⟩ := h
  induction k generalizing x1 x2 H locs ls with
  | zero => exact hn.elim
  | succ k ih => exact b8_cellsInAll_d4 (K4 := fun y0 y1 => itr (w8_cellsInAll_F4 Z X Q) k (y0, y1)) x1 x2 Z X C (fun x1 x2 H locs ls hk hG hl => ih x1 x2 hG hl hk) hn hG hl
def w8_cellsInAll (Z : MS) (X : (Nat → MS)) (Q : Int32 → Prop) : Prop :=
  w8_cellsInAll_b4 (0 : Int32) (0 : Int32) Z X Q
set_option maxHeartbeats 4000000 in
set_option maxRecDepth 100000 in
theorem c8_cellsInAll (l : Launch) (D : va_G) (cy : Nat → ClassId)  (o : Nat) (qp oa : Nat → Nat) (qa : Nat → Nat → Nat) (Z : MS) (X : (Nat → MS)) (Q : Int32 → Prop) (h : w8_cellsInAll Z X Q) : MetI l yX8_cellsInAll wsX8_cellsInAll ({ frames := 0, cells := 0, slots := 0, locals := 0 } : Room) D cy nestWs (fun z : MS × (Nat → MS) => wP o qp oa qa cy z.1 z.2) [.ref o] (Z, X) (fun r z => z.1 = Z ∧ z.2 = X ∧ Q r ) := by
  refine MetI.mk RX8 cX8_cellsInAll 3 .int (by decide) rfl nestWs_ok rfl (Nat.le_of_ble_eq_true rfl) ?_
  intro p e s m below meth c A ls C hG hl
  have hl : lv_has ls 3 [(0, .ref o)] := hl
  have hx := C.1
  have hb := C.2.1
  unfold w8_cellsInAll at h
  refine lv_iconst (v := 0) hx hb dX8_cellsInAll_0 (by decide) ?_
  refine lv_istore_n (lv' := [(1, .int (0 : Int32)), (0, .ref o)]) hx hb dX8_cellsInAll_1 rfl hl (by decide) rfl (fun ls hl => ?_)
  refine lv_iconst (v := 0) hx hb dX8_cellsInAll_2 (by decide) ?_
  refine lv_istore_n (lv' := [(2, .int (0 : Int32)), (1, .int (0 : Int32)), (0, .ref o)]) hx hb dX8_cellsInAll_3 rfl hl (by decide) rfl (fun ls hl => ?_)
  exact b8_cellsInAll_b4 (0 : Int32) (0 : Int32) Z X C h hG (lv_sub hl [2, 1, 0] rfl)
-- X8_rowsThere
theorem i8_rowsThere_X8 : ∀ w ∈ wsX80, w ∈ wsX8_rowsThere := fun w h => List.mem_cons_of_mem _ (inG_X8 w h)
theorem k8_rowsThere_23 : Cond.fieldLink RX8 23 "PaperBodies" "rows" "[LPaperBodies$Row;" ∈ wsX8_rowsThere := (List.mem_cons_of_mem _ mw_321)
def w8_rowsThere_b27 (K4 : Int32 → Int32 → Prop) (x2 : Int32) (t0 : Int32) (t1 : Int32) (Z : MS) (X : (Nat → MS)) (Q : Int32 → Prop) : Prop :=
  ∀ y1 : Int32, y1 = (t0 + t1) → ∀ y2 : Int32, y2 = x2 + 1 → K4 y1 y2
set_option maxHeartbeats 4000000 in
set_option maxRecDepth 100000 in
theorem b8_rowsThere_b27 {p : Program} {l : Launch} {e : Env} {s : State} {m : MethodId} {args : Array Value} {below : List Frame} {meth : Method} {c : Code} {D : va_G} {cy : Nat → ClassId} {A : Nat → Prop} {o : Nat} {qp oa : Nat → Nat} {qa : Nat → Nat → Nat} {K4 : Int32 → Int32 → Prop} (x2 : Int32) (t0 : Int32) (t1 : Int32) (Z : MS) (X : (Nat → MS)) {Q : Int32 → Prop} (C : Cx p s m args meth c cX8_rowsThere 3 (some .int) wsX8_rowsThere RX8 D cy nestWs A) (hK4 : ∀ (x1 : Int32) (x2 : Int32) (H : Heap) (locs : List Loc) (ls : Array Slot), K4 x1 x2 → GW D A s (wP o qp oa qa cy Z X) H locs → lv_has ls 3 [(0, .ref o), (1, .int x1), (2, .int x2)] → W p l e ({ frames := 1, cells := 0, slots := 0, locals := 20 } : Room) s m args below meth c H locs 0 0 (MQ below (va_Qi (fun r z => z.1 = Z ∧ z.2 = X ∧ Q r ) (B1 D (fun z : MS × (Nat → MS) => wP o qp oa qa cy z.1 z.2) A) A) args s 0 0 A) (F0 m 4 ls [])) (h : w8_rowsThere_b27 K4 x2 t0 t1 Z X Q) {H : Heap} {locs : List Loc} (hG : GW D A s (wP o qp oa qa cy Z X) H locs) {ls : Array Slot} (hl : lv_has ls 3 [(0, .ref o), (2, .int x2)]) : W p l e ({ frames := 1, cells := 0, slots := 0, locals := 20 } : Room) s m args below meth c H locs 0 0 (MQ below (va_Qi (fun r z => z.1 = Z ∧ z.2 = X ∧ Q r ) (B1 D (fun z : MS × (Nat → MS) => wP o qp oa qa cy z.1 z.2) A) A) args s 0 0 A) (F0 m 27 ls [.int t1, .int t0]) := by
  have hx := C.1
  have hb := C.2.1
  unfold w8_rowsThere_b27 at h
  refine lv_iadd hx hb dX8_rowsThere_27 ?_
  refine lv_topi (fun y1 ey1 => ?_)
  replace h := h y1 ey1
  refine lv_istore_n (lv' := [(1, .int y1), (0, .ref o), (2, .int x2)]) hx hb dX8_rowsThere_28 rfl hl (by decide) rfl (fun ls hl => ?_)
  obtain ⟨y2, ey2⟩ : ∃ y : Int32, y = x2 + 1 := ⟨_, rfl⟩
  replace h := h y2 ey2
  refine lv_iinc (v := y2) (lv' := [(2, .int y2), (1, .int y1), (0, .ref o)]) hx hb dX8_rowsThere_29 hl (k := 2) rfl (by rw [ey2]; rfl) (by decide) rfl (fun ls hl => ?_)
  refine lv_goto (tgt := 4) hx hb dX8_rowsThere_32 (by decide) ?_
  exact hK4 y1 y2 _ _ _ h hG (lv_sub hl [2, 1, 0] rfl)
def w8_rowsThere_d4 (K4 : Int32 → Int32 → Prop) (x1 : Int32) (x2 : Int32) (Z : MS) (X : (Nat → MS)) (Q : Int32 → Prop) : Prop :=
  (((4 : Int32) ≤ x2 → Q x1) ∧ (¬ (4 : Int32) ≤ x2 → vp_in x2 4 ∧ (10 ≤ (10 + x2.toNatClampNeg) ∧ (10 + x2.toNatClampNeg) < 15) ∧ w5_isThere (X (10 + x2.toNatClampNeg)) (fun r3 => ((r3 = 0 → w8_rowsThere_b27 K4 x2 x1 (0 : Int32) Z X Q) ∧ (¬ r3 = 0 → w8_rowsThere_b27 K4 x2 x1 (1 : Int32) Z X Q)))))
set_option maxHeartbeats 4000000 in
set_option maxRecDepth 100000 in
theorem b8_rowsThere_d4 {p : Program} {l : Launch} {e : Env} {s : State} {m : MethodId} {args : Array Value} {below : List Frame} {meth : Method} {c : Code} {D : va_G} {cy : Nat → ClassId} {A : Nat → Prop} {o : Nat} {qp oa : Nat → Nat} {qa : Nat → Nat → Nat} {K4 : Int32 → Int32 → Prop} (x1 : Int32) (x2 : Int32) (Z : MS) (X : (Nat → MS)) {Q : Int32 → Prop} (C : Cx p s m args meth c cX8_rowsThere 3 (some .int) wsX8_rowsThere RX8 D cy nestWs A) (hK4 : ∀ (x1 : Int32) (x2 : Int32) (H : Heap) (locs : List Loc) (ls : Array Slot), K4 x1 x2 → GW D A s (wP o qp oa qa cy Z X) H locs → lv_has ls 3 [(0, .ref o), (1, .int x1), (2, .int x2)] → W p l e ({ frames := 1, cells := 0, slots := 0, locals := 20 } : Room) s m args below meth c H locs 0 0 (MQ below (va_Qi (fun r z => z.1 = Z ∧ z.2 = X ∧ Q r ) (B1 D (fun z : MS × (Nat → MS) => wP o qp oa qa cy z.1 z.2) A) A) args s 0 0 A) (F0 m 4 ls [])) (h : w8_rowsThere_d4 K4 x1 x2 Z X Q) {H : Heap} {locs : List Loc} (hG : GW D A s (wP o qp oa qa cy Z X) H locs) {ls : Array Slot} (hl : lv_has ls 3 [(0, .ref o), (1, .int x1), (2, .int x2)]) : W p l e ({ frames := 1, cells := 0, slots := 0, locals := 20 } : Room) s m args below meth c H locs 0 0 (MQ below (va_Qi (fun r z => z.1 = Z ∧ z.2 = X ∧ Q r ) (B1 D (fun z : MS × (Nat → MS) => wP o qp oa qa cy z.1 z.2) A) A) args s 0 0 A) (F0 m 4 ls []) := by
  have hx := C.1
  have hb := C.2.1
  unfold w8_rowsThere_d4 at h
  refine lv_iload_n hx hb dX8_rowsThere_4 rfl (lv_at hl 2 rfl) ?_
  refine lv_iconst (v := 4) hx hb dX8_rowsThere_5 (by decide) ?_
  refine lv_icmp_ge (tgt := 35) hx hb dX8_rowsThere_6 (by decide) (fun c1 => ?_) (fun c1 => ?_)
  · replace h := h.1 c1
    refine lv_iload_n hx hb dX8_rowsThere_35 rfl (lv_at hl 1 rfl) ?_
    exact retI (w := (fun z : MS × (Nat → MS) => wP o qp oa qa cy z.1 z.2)) (S := (Z, X)) (Qp := (fun r z => z.1 = Z ∧ z.2 = X ∧ Q r )) C hG ⟨rfl, rfl, h⟩ dX8_rowsThere_36
  · replace h := h.2 c1
    refine lv_iload_n hx hb dX8_rowsThere_9 rfl (lv_at hl 1 rfl) ?_
    refine lv_aload_n hx hb dX8_rowsThere_10 rfl (lv_at hl 0 rfl) ?_
    refine gx_get C i8_rowsThere_X8 hG 0 rfl rfl 2 (by decide) k8_rowsThere_23 rfl dX8_rowsThere_11 ?_
    refine lv_iload_n hx hb dX8_rowsThere_14 rfl (lv_at hl 2 rfl) ?_
    obtain ⟨hv2, h⟩ := h
    refine gx_aald (C' := "PaperBodies$Row") C hG 3 4 rfl rfl hv2 dX8_rowsThere_15 ?_
    obtain ⟨hr4, h⟩ := h
    refine callVI (As := []) (rest := [.int x1]) C hG (c5_isThere l D cy (oa (10 + x2.toNatClampNeg)) (qa (10 + x2.toNatClampNeg)) (X (10 + x2.toNatClampNeg)) _ h) 0 gX8_rowsThere_X5_isThere rfl (by decide +kernel) ⟨⟨Nat.le_of_ble_eq_true rfl, Nat.le_of_ble_eq_true rfl⟩, rfl, rfl⟩ rfl rfl (fo_5 C.2.2.2.2.2.2.2.2.1 (k0 := (10 + x2.toNatClampNeg)) hr4) rfl hl.1 rfl (Nat.le_of_ble_eq_true rfl) dX8_rowsThere_16 ⟨Nat.zero_le _, Nat.zero_le _⟩ (fun r3 u5 H locs h hG => ?_)
    obtain ⟨eu5, h⟩ := h
    have eu5 : u5 = (X (10 + x2.toNatClampNeg)) := eu5
    subst u5
    have hG : GW D A s (wP o qp oa qa cy Z X) H locs := by
      have e9 : (va_up X (10 + x2.toNatClampNeg) (X (10 + x2.toNatClampNeg))) = X := by simp only [up_same]
      have hG : GW D A s (wP o qp oa qa cy Z (va_up X (10 + x2.toNatClampNeg) (X (10 + x2.toNatClampNeg)))) H locs := hG
      rw [e9] at hG
      exact hG
    refine lv_if_eq (tgt := 26) hx hb dX8_rowsThere_19 (by decide) (fun c6 => ?_) (fun c6 => ?_)
    · replace h := h.1 c6
      refine lv_iconst (v := 0) hx hb dX8_rowsThere_26 (by decide) ?_
      exact b8_rowsThere_b27 (K4 := K4) x2 x1 (0 : Int32) Z X C hK4 h hG (lv_sub hl [0, 2] rfl)
    · replace h := h.2 c6
      refine lv_iconst (v := 1) hx hb dX8_rowsThere_22 (by decide) ?_
      refine lv_goto (tgt := 27) hx hb dX8_rowsThere_23 (by decide) ?_
      exact b8_rowsThere_b27 (K4 := K4) x2 x1 (1 : Int32) Z X C hK4 h hG (lv_sub hl [0, 2] rfl)
def w8_rowsThere_F4 (Z : MS) (X : (Nat → MS)) (Q : Int32 → Prop) (K : Int32 × Int32 → Prop) (a : Int32 × Int32) : Prop := w8_rowsThere_d4 (fun y0 y1 => K (y0, y1)) a.1 a.2 Z X Q
def w8_rowsThere_b4 (x1 : Int32) (x2 : Int32) (Z : MS) (X : (Nat → MS)) (Q : Int32 → Prop) : Prop := lp (w8_rowsThere_F4 Z X Q) (x1, x2)
set_option maxHeartbeats 4000000 in
set_option maxRecDepth 100000 in
theorem b8_rowsThere_b4 {p : Program} {l : Launch} {e : Env} {s : State} {m : MethodId} {args : Array Value} {below : List Frame} {meth : Method} {c : Code} {D : va_G} {cy : Nat → ClassId} {A : Nat → Prop} {o : Nat} {qp oa : Nat → Nat} {qa : Nat → Nat → Nat} (x1 : Int32) (x2 : Int32) (Z : MS) (X : (Nat → MS)) {Q : Int32 → Prop} (C : Cx p s m args meth c cX8_rowsThere 3 (some .int) wsX8_rowsThere RX8 D cy nestWs A) (h : w8_rowsThere_b4 x1 x2 Z X Q) {H : Heap} {locs : List Loc} (hG : GW D A s (wP o qp oa qa cy Z X) H locs) {ls : Array Slot} (hl : lv_has ls 3 [(0, .ref o), (1, .int x1), (2, .int x2)]) : W p l e ({ frames := 1, cells := 0, slots := 0, locals := 20 } : Room) s m args below meth c H locs 0 0 (MQ below (va_Qi (fun r z => z.1 = Z ∧ z.2 = X ∧ Q r ) (B1 D (fun z : MS × (Nat → MS) => wP o qp oa qa cy z.1 z.2) A) A) args s 0 0 A) (F0 m 4 ls []) := by
  obtain ⟨k, hn⟩ := h
  induction k generalizing x1 x2 H locs ls with
  | zero => exact hn.elim
  | succ k ih => exact b8_rowsThere_d4 (K4 := fun y0 y1 => itr (w8_rowsThere_F4 Z X Q) k (y0, y1)) x1 x2 Z X C (fun x1 x2 H locs ls hk hG hl => ih x1 x2 hG hl hk) hn hG hl
def w8_rowsThere (Z : MS) (X : (Nat → MS)) (Q : Int32 → Prop) : Prop :=
  w8_rowsThere_b4 (0 : Int32) (0 : Int32) Z X Q
set_option maxHeartbeats 4000000 in
set_option maxRecDepth 100000 in
theorem c8_rowsThere (l : Launch) (D : va_G) (cy : Nat → ClassId)  (o : Nat) (qp oa : Nat → Nat) (qa : Nat → Nat → Nat) (Z : MS) (X : (Nat → MS)) (Q : Int32 → Prop) (h : w8_rowsThere Z X Q) : MetI l yX8_rowsThere wsX8_rowsThere ({ frames := 1, cells := 0, slots := 0, locals := 20 } : Room) D cy nestWs (fun z : MS × (Nat → MS) => wP o qp oa qa cy z.1 z.2) [.ref o] (Z, X) (fun r z => z.1 = Z ∧ z.2 = X ∧ Q r ) := by
  refine MetI.mk RX8 cX8_rowsThere 3 .int (by decide) rfl nestWs_ok rfl (Nat.le_of_ble_eq_true rfl) ?_
  intro p e s m below meth c A ls C hG hl
  have hl : lv_has ls 3 [(0, .ref o)] := hl
  have hx := C.1
  have hb := C.2.1
  unfold w8_rowsThere at h
  refine lv_iconst (v := 0) hx hb dX8_rowsThere_0 (by decide) ?_
  refine lv_istore_n (lv' := [(1, .int (0 : Int32)), (0, .ref o)]) hx hb dX8_rowsThere_1 rfl hl (by decide) rfl (fun ls hl => ?_)
  refine lv_iconst (v := 0) hx hb dX8_rowsThere_2 (by decide) ?_
  refine lv_istore_n (lv' := [(2, .int (0 : Int32)), (1, .int (0 : Int32)), (0, .ref o)]) hx hb dX8_rowsThere_3 rfl hl (by decide) rfl (fun ls hl => ?_)
  exact b8_rowsThere_b4 (0 : Int32) (0 : Int32) Z X C h hG (lv_sub hl [2, 1, 0] rfl)
