-- X7_unfold
theorem k7_unfold_43 : (Cond.methodLink RX7 43 arraycopyName ∈ wsX7_unfold ∧ Cond.native arraycopyName ∈ wsX7_unfold) ∧ (Cond.static arraycopyName ∈ wsX7_unfold ∧ Cond.initialized "java/lang/System" ∈ wsX7_unfold) := ⟨⟨(List.mem_cons_of_mem _ mw_299), (List.mem_cons_of_mem _ mw_160)⟩, ⟨(List.mem_cons_of_mem _ mw_161), (List.mem_cons_of_mem _ mw_162)⟩⟩
def w7_unfold_b26 (V1 : MS) (V2 : (Nat → Int32)) (Q : (Nat → Int32) → Prop) : Prop :=
  Q V2
set_option maxHeartbeats 4000000 in
set_option maxRecDepth 100000 in
theorem b7_unfold_b26 {p : Program} {l : Launch} {e : Env} {s : State} {m : MethodId} {args : Array Value} {below : List Frame} {meth : Method} {c : Code} {D : va_G} {cy : Nat → ClassId} {A : Nat → Prop} {o1 : Nat} {q1 : Nat → Nat} {o2 : Nat} (V1 : MS) (V2 : (Nat → Int32)) {Q : (Nat → Int32) → Prop} (C : Cx p s m args meth c cX7_unfold 8 (none) wsX7_unfold RX7 D cy nestWs A) (h : w7_unfold_b26 V1 V2 Q) {H : Heap} {locs : List Loc} (hG : GW D A s (w1 o1 q1 cy V1 ++ [(o2, .inl (cy 0, 18, .inl V2))]) H locs) {ls : Array Slot} (hl : lv_has ls 8 [(0, .ref o1)]) : W p l e ({ frames := 3, cells := 0, slots := 0, locals := 64 } : Room) s m args below meth c H locs 0 0 (MQ below (va_Qv (fun z => z.1 = V1 ∧ Q z.2) (B1 D (fun z : MS × (Nat → Int32) => (w1 o1 q1 cy z.1 ++ [(o2, .inl (cy 0, 18, .inl z.2))] : va_W)) A) A) args s 0 0 A) (F0 m 26 ls []) := by
  have hx := C.1
  have hb := C.2.1
  unfold w7_unfold_b26 at h
  exact retV (w := (fun z : MS × (Nat → Int32) => (w1 o1 q1 cy z.1 ++ [(o2, .inl (cy 0, 18, .inl z.2))] : va_W))) (S := (V1, V2)) (Qp := (fun z => z.1 = V1 ∧ Q z.2)) C hG ⟨rfl, h⟩ dX7_unfold_26
def w7_unfold (x2 : Int32) (x3 : Int32) (x4 : Int32) (V1 : MS) (V2 : (Nat → Int32)) (Q : (Nat → Int32) → Prop) : Prop :=
  ∀ y1 : Int32, y1 = ((3 : Int32) * x4) → ∀ y2 : Int32, y2 = (y1 + (3 : Int32)) → ((y1 < 0 → w7_unfold_b26 V1 V2 Q) ∧ (¬ y1 < 0 → (((y2 + (3 : Int32)) ≤ (nI 18) → (¬ y1 < 0 ∧ ¬ y2 < 0 ∧ ¬ (3 : Int32) < 0 ∧ y1.toNatClampNeg + (3 : Int32).toNatClampNeg ≤ 18 ∧ y2.toNatClampNeg + (3 : Int32).toNatClampNeg ≤ 18) ∧ ∀ S6 : (Nat → Int32), S6 = (va_cpy V2 V2 y1.toNatClampNeg y2.toNatClampNeg (3 : Int32).toNatClampNeg) → w1_signOf x3 (fun r7 => w1_endAt x3 V1 (fun r8 => vp_in (y1 + (x3 >>> ((1 : Int32) &&& 31))) 18 ∧ ∀ y11 : Int32, y11 = (r7 * (r8 - (S6 (y1 + (x3 >>> ((1 : Int32) &&& 31))).toNatClampNeg))) → w1_endAt x3 V1 (fun r12 => vp_in (y2 + (x3 >>> ((1 : Int32) &&& 31))) 18 ∧ ∀ S15 : (Nat → Int32), S15 = upd S6 (y2 + (x3 >>> ((1 : Int32) &&& 31))).toNatClampNeg r12 → w1_endAt x2 V1 (fun r16 => w1_signOf x2 (fun r18 => vp_in (y2 + (x2 >>> ((1 : Int32) &&& 31))) 18 ∧ ∀ S20 : (Nat → Int32), S20 = upd S15 (y2 + (x2 >>> ((1 : Int32) &&& 31))).toNatClampNeg (r16 + (r18 * y11)) → Q S20)))))) ∧ (¬ (y2 + (3 : Int32)) ≤ (nI 18) → w7_unfold_b26 V1 V2 Q))))
set_option maxHeartbeats 4000000 in
set_option maxRecDepth 100000 in
theorem c7_unfold (l : Launch) (D : va_G) (cy : Nat → ClassId)  (o1 : Nat) (q1 : Nat → Nat) (o2 : Nat) (x2 : Int32) (x3 : Int32) (x4 : Int32) (V1 : MS) (V2 : (Nat → Int32)) (Q : (Nat → Int32) → Prop) (h : w7_unfold x2 x3 x4 V1 V2 Q) : MetV l yX7_unfold wsX7_unfold ({ frames := 3, cells := 0, slots := 0, locals := 64 } : Room) D cy nestWs (fun z : MS × (Nat → Int32) => (w1 o1 q1 cy z.1 ++ [(o2, .inl (cy 0, 18, .inl z.2))] : va_W)) [.ref o1, .ref o2, .int x2, .int x3, .int x4] (V1, V2) (fun z => z.1 = V1 ∧ Q z.2) := by
  refine MetV.mk RX7 cX7_unfold 8 (by decide) rfl nestWs_ok rfl (Nat.le_of_ble_eq_true rfl) ?_
  intro p e s m below meth c A ls C hG hl
  have hl : lv_has ls 8 [(0, .ref o1), (1, .ref o2), (2, .int x2), (3, .int x3), (4, .int x4)] := hl
  have hx := C.1
  have hb := C.2.1
  unfold w7_unfold at h
  refine lv_iconst (v := 3) hx hb dX7_unfold_0 (by decide) ?_
  refine lv_iload hx hb dX7_unfold_1 (lv_at hl 4 rfl) ?_
  refine lv_imul hx hb dX7_unfold_3 ?_
  refine lv_topi (fun y1 ey1 => ?_)
  replace h := h y1 ey1
  refine lv_istore (lv' := [(5, .int y1), (0, .ref o1), (1, .ref o2), (2, .int x2), (3, .int x3), (4, .int x4)]) hx hb dX7_unfold_4 hl (by decide) rfl (fun ls hl => ?_)
  refine lv_iload hx hb dX7_unfold_6 (lv_at hl 0 rfl) ?_
  refine lv_iconst (v := 3) hx hb dX7_unfold_8 (by decide) ?_
  refine lv_iadd hx hb dX7_unfold_9 ?_
  refine lv_topi (fun y2 ey2 => ?_)
  replace h := h y2 ey2
  refine lv_istore (lv' := [(6, .int y2), (5, .int y1), (0, .ref o1), (1, .ref o2), (2, .int x2), (3, .int x3), (4, .int x4)]) hx hb dX7_unfold_10 hl (by decide) rfl (fun ls hl => ?_)
  refine lv_iload hx hb dX7_unfold_12 (lv_at hl 1 rfl) ?_
  refine lv_if_lt (tgt := 26) hx hb dX7_unfold_14 (by decide) (fun c3 => ?_) (fun c3 => ?_)
  · replace h := h.1 c3
    exact b7_unfold_b26 V1 V2 C h hG (lv_sub hl [2] rfl)
  · replace h := h.2 c3
    refine lv_iload hx hb dX7_unfold_17 (lv_at hl 0 rfl) ?_
    refine lv_iconst (v := 3) hx hb dX7_unfold_19 (by decide) ?_
    refine lv_iadd hx hb dX7_unfold_20 ?_
    refine lv_aload_n hx hb dX7_unfold_21 rfl (lv_at hl 3 rfl) ?_
    refine gx_alen C hG 7 rfl dX7_unfold_22 ?_
    refine lv_icmp_le (tgt := 27) hx hb dX7_unfold_23 (by decide) (fun c4 => ?_) (fun c4 => ?_)
    · replace h := h.1 c4
      refine lv_aload_n hx hb dX7_unfold_27 rfl (lv_at hl 3 rfl) ?_
      refine lv_iload hx hb dX7_unfold_28 (lv_at hl 1 rfl) ?_
      refine lv_aload_n hx hb dX7_unfold_30 rfl (lv_at hl 3 rfl) ?_
      refine lv_iload hx hb dX7_unfold_31 (lv_at hl 0 rfl) ?_
      refine lv_iconst (v := 3) hx hb dX7_unfold_33 (by decide) ?_
      obtain ⟨hv5, h⟩ := h
      refine gx_copy (ws' := w1 o1 q1 cy V1 ++ [(o2, .inl (cy 0, 18, .inl ((va_cpy V2 V2 y1.toNatClampNeg y2.toNatClampNeg (3 : Int32).toNatClampNeg))))]) C hG (hl.1) (C.2.2.2.2.1 _ k7_unfold_43.1.1) (C.2.2.2.2.1 _ k7_unfold_43.1.2) (C.2.2.2.2.1 _ k7_unfold_43.2.1) (C.2.2.2.2.1 _ k7_unfold_43.2.2) 7 7 rfl rfl hv5 (Nat.le_of_ble_eq_true rfl) (Nat.le_of_ble_eq_true rfl) dX7_unfold_34 rfl (fun H locs hG => ?_)
      obtain ⟨S6, eS6⟩ : ∃ z : (Nat → Int32), z = (va_cpy V2 V2 y1.toNatClampNeg y2.toNatClampNeg (3 : Int32).toNatClampNeg) := ⟨_, rfl⟩
      rw [← eS6] at hG
      replace h := h S6 eS6
      refine lv_iload_n hx hb dX7_unfold_37 rfl (lv_at hl 5 rfl) ?_
      refine callSI (As := [.int x3]) (rest := []) C hG (c1_signOf l D cy x3 _ h) 1 gX7_unfold_X1_signOf rfl (by decide +kernel) ⟨⟨Nat.le_of_ble_eq_true rfl, Nat.le_of_ble_eq_true rfl⟩, rfl, rfl⟩ (Foc.none C.2.2.2.2.2.2.2.2.1) rfl hl.1 rfl (Nat.le_of_ble_eq_true rfl) dX7_unfold_38 ⟨Nat.zero_le _, Nat.zero_le _⟩ (fun r7 z H locs h hG => ?_)
      refine lv_aload_n hx hb dX7_unfold_41 rfl (lv_at hl 2 rfl) ?_
      refine lv_iload_n hx hb dX7_unfold_42 rfl (lv_at hl 5 rfl) ?_
      refine callVI (As := [.int x3]) (rest := [.int r7]) C hG (c1_endAt l D cy o1 q1 x3 V1 _ h) 1 gX7_unfold_X1_endAt rfl (by decide +kernel) ⟨⟨Nat.le_of_ble_eq_true rfl, Nat.le_of_ble_eq_true rfl⟩, rfl, rfl⟩ rfl rfl (Foc.pq (rv := fun z : MS => (w1 o1 q1 cy z ++ [(o2, .inl (cy 0, 18, .inl S6))] : va_W)) C.2.2.2.2.2.2.2.2.1 [0, 1, 2, 3, 4, 5, 6] [7] [1, 2, 3, 4, 5, 6, 7, 0] rfl rfl rfl rfl rfl (by decide) rfl (fun _ => rfl) (fun _ => rfl)) rfl hl.1 rfl (Nat.le_of_ble_eq_true rfl) dX7_unfold_43 ⟨Nat.zero_le _, Nat.zero_le _⟩ (fun r8 u9 H locs h hG => ?_)
      obtain ⟨eu9, h⟩ := h
      have eu9 : u9 = V1 := eu9
      subst u9
      have hG : GW D A s (w1 o1 q1 cy V1 ++ [(o2, .inl (cy 0, 18, .inl S6))]) H locs := hG
      refine lv_aload_n hx hb dX7_unfold_46 rfl (lv_at hl 3 rfl) ?_
      refine lv_iload hx hb dX7_unfold_47 (lv_at hl 1 rfl) ?_
      refine lv_iload_n hx hb dX7_unfold_49 rfl (lv_at hl 5 rfl) ?_
      refine lv_iconst (v := 1) hx hb dX7_unfold_50 (by decide) ?_
      refine lv_ishr hx hb dX7_unfold_51 ?_
      refine lv_iadd hx hb dX7_unfold_52 ?_
      obtain ⟨hv10, h⟩ := h
      refine gx_ald C hG 7 rfl hv10 dX7_unfold_53 ?_
      refine lv_isub hx hb dX7_unfold_54 ?_
      refine lv_imul hx hb dX7_unfold_55 ?_
      refine lv_topi (fun y11 ey11 => ?_)
      replace h := h y11 ey11
      refine lv_istore (lv' := [(7, .int y11), (6, .int y2), (5, .int y1), (0, .ref o1), (1, .ref o2), (2, .int x2), (3, .int x3), (4, .int x4)]) hx hb dX7_unfold_56 hl (by decide) rfl (fun ls hl => ?_)
      refine lv_aload_n hx hb dX7_unfold_58 rfl (lv_at hl 4 rfl) ?_
      refine lv_iload hx hb dX7_unfold_59 (lv_at hl 1 rfl) ?_
      refine lv_iload_n hx hb dX7_unfold_61 rfl (lv_at hl 6 rfl) ?_
      refine lv_iconst (v := 1) hx hb dX7_unfold_62 (by decide) ?_
      refine lv_ishr hx hb dX7_unfold_63 ?_
      refine lv_iadd hx hb dX7_unfold_64 ?_
      refine lv_aload_n hx hb dX7_unfold_65 rfl (lv_at hl 3 rfl) ?_
      refine lv_iload_n hx hb dX7_unfold_66 rfl (lv_at hl 6 rfl) ?_
      refine callVI (As := [.int x3]) (rest := [.int (y2 + (x3 >>> ((1 : Int32) &&& 31))), .ref o2]) C hG (c1_endAt l D cy o1 q1 x3 V1 _ h) 1 gX7_unfold_X1_endAt rfl (by decide +kernel) ⟨⟨Nat.le_of_ble_eq_true rfl, Nat.le_of_ble_eq_true rfl⟩, rfl, rfl⟩ rfl rfl (Foc.pq (rv := fun z : MS => (w1 o1 q1 cy z ++ [(o2, .inl (cy 0, 18, .inl S6))] : va_W)) C.2.2.2.2.2.2.2.2.1 [0, 1, 2, 3, 4, 5, 6] [7] [1, 2, 3, 4, 5, 6, 7, 0] rfl rfl rfl rfl rfl (by decide) rfl (fun _ => rfl) (fun _ => rfl)) rfl hl.1 rfl (Nat.le_of_ble_eq_true rfl) dX7_unfold_67 ⟨Nat.zero_le _, Nat.zero_le _⟩ (fun r12 u13 H locs h hG => ?_)
      obtain ⟨eu13, h⟩ := h
      have eu13 : u13 = V1 := eu13
      subst u13
      have hG : GW D A s (w1 o1 q1 cy V1 ++ [(o2, .inl (cy 0, 18, .inl S6))]) H locs := hG
      obtain ⟨hv14, h⟩ := h
      refine gx_ast (ws' := w1 o1 q1 cy V1 ++ [(o2, .inl (cy 0, 18, .inl (upd S6 (y2 + (x3 >>> ((1 : Int32) &&& 31))).toNatClampNeg r12)))]) C hG 7 rfl hv14 dX7_unfold_70 rfl (fun H locs hG => ?_)
      obtain ⟨S15, eS15⟩ : ∃ z : (Nat → Int32), z = upd S6 (y2 + (x3 >>> ((1 : Int32) &&& 31))).toNatClampNeg r12 := ⟨_, rfl⟩
      rw [← eS15] at hG
      replace h := h S15 eS15
      refine lv_aload_n hx hb dX7_unfold_71 rfl (lv_at hl 4 rfl) ?_
      refine lv_iload hx hb dX7_unfold_72 (lv_at hl 1 rfl) ?_
      refine lv_iload_n hx hb dX7_unfold_74 rfl (lv_at hl 5 rfl) ?_
      refine lv_iconst (v := 1) hx hb dX7_unfold_75 (by decide) ?_
      refine lv_ishr hx hb dX7_unfold_76 ?_
      refine lv_iadd hx hb dX7_unfold_77 ?_
      refine lv_aload_n hx hb dX7_unfold_78 rfl (lv_at hl 3 rfl) ?_
      refine lv_iload_n hx hb dX7_unfold_79 rfl (lv_at hl 5 rfl) ?_
      refine callVI (As := [.int x2]) (rest := [.int (y2 + (x2 >>> ((1 : Int32) &&& 31))), .ref o2]) C hG (c1_endAt l D cy o1 q1 x2 V1 _ h) 1 gX7_unfold_X1_endAt rfl (by decide +kernel) ⟨⟨Nat.le_of_ble_eq_true rfl, Nat.le_of_ble_eq_true rfl⟩, rfl, rfl⟩ rfl rfl (Foc.pq (rv := fun z : MS => (w1 o1 q1 cy z ++ [(o2, .inl (cy 0, 18, .inl S15))] : va_W)) C.2.2.2.2.2.2.2.2.1 [0, 1, 2, 3, 4, 5, 6] [7] [1, 2, 3, 4, 5, 6, 7, 0] rfl rfl rfl rfl rfl (by decide) rfl (fun _ => rfl) (fun _ => rfl)) rfl hl.1 rfl (Nat.le_of_ble_eq_true rfl) dX7_unfold_80 ⟨Nat.zero_le _, Nat.zero_le _⟩ (fun r16 u17 H locs h hG => ?_)
      obtain ⟨eu17, h⟩ := h
      have eu17 : u17 = V1 := eu17
      subst u17
      have hG : GW D A s (w1 o1 q1 cy V1 ++ [(o2, .inl (cy 0, 18, .inl S15))]) H locs := hG
      refine lv_iload_n hx hb dX7_unfold_83 rfl (lv_at hl 5 rfl) ?_
      refine callSI (As := [.int x2]) (rest := [.int r16, .int (y2 + (x2 >>> ((1 : Int32) &&& 31))), .ref o2]) C hG (c1_signOf l D cy x2 _ h) 1 gX7_unfold_X1_signOf rfl (by decide +kernel) ⟨⟨Nat.le_of_ble_eq_true rfl, Nat.le_of_ble_eq_true rfl⟩, rfl, rfl⟩ (Foc.none C.2.2.2.2.2.2.2.2.1) rfl hl.1 rfl (Nat.le_of_ble_eq_true rfl) dX7_unfold_84 ⟨Nat.zero_le _, Nat.zero_le _⟩ (fun r18 z H locs h hG => ?_)
      refine lv_iload hx hb dX7_unfold_87 (lv_at hl 0 rfl) ?_
      refine lv_imul hx hb dX7_unfold_89 ?_
      refine lv_iadd hx hb dX7_unfold_90 ?_
      obtain ⟨hv19, h⟩ := h
      refine gx_ast (ws' := w1 o1 q1 cy V1 ++ [(o2, .inl (cy 0, 18, .inl (upd S15 (y2 + (x2 >>> ((1 : Int32) &&& 31))).toNatClampNeg (r16 + (r18 * y11)))))]) C hG 7 rfl hv19 dX7_unfold_91 rfl (fun H locs hG => ?_)
      obtain ⟨S20, eS20⟩ : ∃ z : (Nat → Int32), z = upd S15 (y2 + (x2 >>> ((1 : Int32) &&& 31))).toNatClampNeg (r16 + (r18 * y11)) := ⟨_, rfl⟩
      rw [← eS20] at hG
      replace h := h S20 eS20
      exact retV (w := (fun z : MS × (Nat → Int32) => (w1 o1 q1 cy z.1 ++ [(o2, .inl (cy 0, 18, .inl z.2))] : va_W))) (S := (V1, S20)) (Qp := (fun z => z.1 = V1 ∧ Q z.2)) C hG ⟨rfl, h⟩ dX7_unfold_92
    · replace h := h.2 c4
      exact b7_unfold_b26 V1 V2 C h hG (lv_sub hl [2] rfl)
-- X7_shortestFrom
theorem k7_shortestFrom_33 : Cond.constant RX7 33 (1073741824) ∈ wsX7_shortestFrom := (List.mem_cons_of_mem _ mw_294)
theorem k7_shortestFrom_38 : (Cond.methodLink RX7 38 Lib.Math.min.name ∈ wsX7_shortestFrom ∧ Cond.static Lib.Math.min.name ∈ wsX7_shortestFrom) ∧ (Cond.initialized "java/lang/Math" ∈ wsX7_shortestFrom ∧ Cond.code Lib.Math.min.name Lib.Math.min.code 2 (some .int) ∈ wsX7_shortestFrom) := ⟨⟨(List.mem_cons_of_mem _ mw_302), (List.mem_cons_of_mem _ mw_230)⟩, ⟨(List.mem_cons_of_mem _ mw_231), (List.mem_cons_of_mem _ mw_232)⟩⟩
def w7_shortestFrom_b112 (Rec : Int32 → Int32 → Int32 → Int32 → MS → (Nat → Int32) → (Int32 → (Nat → Int32) → Prop) → Prop) (K37 : Int32 → Int32 → (Nat → Int32) → Prop) (x2 : Int32) (x3 : Int32) (x4 : Int32) (x5 : Int32) (x6 : Int32) (x7 : Int32) (V1 : MS) (V2 : (Nat → Int32)) (Q : Int32 → (Nat → Int32) → Prop) : Prop :=
  ∀ y1 : Int32, y1 = x7 + 1 → K37 x6 y1 V2
set_option maxHeartbeats 4000000 in
set_option maxRecDepth 100000 in
theorem b7_shortestFrom_b112 {p : Program} {l : Launch} {e : Env} {s : State} {m : MethodId} {args : Array Value} {below : List Frame} {meth : Method} {c : Code} {D : va_G} {cy : Nat → ClassId} {A : Nat → Prop} {o1 : Nat} {q1 : Nat → Nat} {o2 : Nat} {n : Nat} {Rec : Int32 → Int32 → Int32 → Int32 → MS → (Nat → Int32) → (Int32 → (Nat → Int32) → Prop) → Prop} {K37 : Int32 → Int32 → (Nat → Int32) → Prop} (x2 : Int32) (x3 : Int32) (x4 : Int32) (x5 : Int32) (x6 : Int32) (x7 : Int32) (V1 : MS) (V2 : (Nat → Int32)) {Q : Int32 → (Nat → Int32) → Prop} (C : Cx p s m args meth c cX7_shortestFrom 9 (some .int) wsX7_shortestFrom RX7 D cy nestWs A) (hRec : ∀ (x2 : Int32) (x3 : Int32) (x4 : Int32) (x5 : Int32) (V1 : MS) (V2 : (Nat → Int32)) (Q : Int32 → (Nat → Int32) → Prop), Rec x2 x3 x4 x5 V1 V2 Q → MetI l yX7_shortestFrom wsX7_shortestFrom ({ frames := 4 + n, cells := 0, slots := 0, locals := 91 + n * 28 } : Room) D cy nestWs (fun z : MS × (Nat → Int32) => (w1 o1 q1 cy z.1 ++ [(o2, .inl (cy 0, 18, .inl z.2))] : va_W)) [.ref o1, .ref o2, .int x2, .int x3, .int x4, .int x5] (V1, V2) (fun r z => z.1 = V1 ∧ Q r z.2)) (hK37 : ∀ (x6 : Int32) (x7 : Int32) (V2 : (Nat → Int32)) (H : Heap) (locs : List Loc) (ls : Array Slot), K37 x6 x7 V2 → GW D A s (w1 o1 q1 cy V1 ++ [(o2, .inl (cy 0, 18, .inl V2))]) H locs → lv_has ls 9 [(0, .ref o1), (1, .ref o2), (2, .int x2), (3, .int x3), (4, .int x4), (5, .int x5), (6, .int x6), (7, .int x7)] → W p l e ({ frames := 4 + (n + 1), cells := 0, slots := 0, locals := 91 + (n + 1) * 28 } : Room) s m args below meth c H locs 0 0 (MQ below (va_Qi (fun r z => z.1 = V1 ∧ Q r z.2) (B1 D (fun z : MS × (Nat → Int32) => (w1 o1 q1 cy z.1 ++ [(o2, .inl (cy 0, 18, .inl z.2))] : va_W)) A) A) args s 0 0 A) (F0 m 37 ls [])) (h : w7_shortestFrom_b112 Rec K37 x2 x3 x4 x5 x6 x7 V1 V2 Q) {H : Heap} {locs : List Loc} (hG : GW D A s (w1 o1 q1 cy V1 ++ [(o2, .inl (cy 0, 18, .inl V2))]) H locs) {ls : Array Slot} (hl : lv_has ls 9 [(0, .ref o1), (1, .ref o2), (2, .int x2), (3, .int x3), (4, .int x4), (5, .int x5), (6, .int x6), (7, .int x7)]) : W p l e ({ frames := 4 + (n + 1), cells := 0, slots := 0, locals := 91 + (n + 1) * 28 } : Room) s m args below meth c H locs 0 0 (MQ below (va_Qi (fun r z => z.1 = V1 ∧ Q r z.2) (B1 D (fun z : MS × (Nat → Int32) => (w1 o1 q1 cy z.1 ++ [(o2, .inl (cy 0, 18, .inl z.2))] : va_W)) A) A) args s 0 0 A) (F0 m 112 ls []) := by
  have hx := C.1
  have hb := C.2.1
  unfold w7_shortestFrom_b112 at h
  obtain ⟨y1, ey1⟩ : ∃ y : Int32, y = x7 + 1 := ⟨_, rfl⟩
  replace h := h y1 ey1
  refine lv_iinc (v := y1) (lv' := [(7, .int y1), (0, .ref o1), (1, .ref o2), (2, .int x2), (3, .int x3), (4, .int x4), (5, .int x5), (6, .int x6)]) hx hb dX7_shortestFrom_112 hl (k := 7) rfl (by rw [ey1]; rfl) (by decide) rfl (fun ls hl => ?_)
  refine lv_goto (tgt := 37) hx hb dX7_shortestFrom_115 (by decide) ?_
  exact hK37 x6 y1 V2 _ _ _ h hG (lv_sub hl [1, 2, 3, 4, 5, 6, 7, 0] rfl)
def w7_shortestFrom_b59 (Rec : Int32 → Int32 → Int32 → Int32 → MS → (Nat → Int32) → (Int32 → (Nat → Int32) → Prop) → Prop) (K37 : Int32 → Int32 → (Nat → Int32) → Prop) (x2 : Int32) (x3 : Int32) (x4 : Int32) (x5 : Int32) (x6 : Int32) (x7 : Int32) (t0 : Int32) (V1 : MS) (V2 : (Nat → Int32)) (Q : Int32 → (Nat → Int32) → Prop) : Prop :=
  ((t0 = 0 → w7_shortestFrom_b112 Rec K37 x2 x3 x4 x5 x6 x7 V1 V2 Q) ∧ (¬ t0 = 0 → ((¬ ((x4 >>> (x7 &&& 31)) &&& (1 : Int32)) = 0 → w7_shortestFrom_b112 Rec K37 x2 x3 x4 x5 x6 x7 V1 V2 Q) ∧ (((x4 >>> (x7 &&& 31)) &&& (1 : Int32)) = 0 → w7_unfold x3 x7 x5 V1 V2 (fun S4 => Rec x2 x7 (x4 ||| ((1 : Int32) <<< (x7 &&& 31))) (x5 + (1 : Int32)) V1 S4 (fun r5 S7 => ∀ y8 : Int32, y8 = (if r5 < x6 then r5 else x6) → w7_shortestFrom_b112 Rec K37 x2 x3 x4 x5 y8 x7 V1 S7 Q))))))
set_option maxHeartbeats 4000000 in
set_option maxRecDepth 100000 in
theorem b7_shortestFrom_b59 {p : Program} {l : Launch} {e : Env} {s : State} {m : MethodId} {args : Array Value} {below : List Frame} {meth : Method} {c : Code} {D : va_G} {cy : Nat → ClassId} {A : Nat → Prop} {o1 : Nat} {q1 : Nat → Nat} {o2 : Nat} {n : Nat} {Rec : Int32 → Int32 → Int32 → Int32 → MS → (Nat → Int32) → (Int32 → (Nat → Int32) → Prop) → Prop} {K37 : Int32 → Int32 → (Nat → Int32) → Prop} (x2 : Int32) (x3 : Int32) (x4 : Int32) (x5 : Int32) (x6 : Int32) (x7 : Int32) (t0 : Int32) (V1 : MS) (V2 : (Nat → Int32)) {Q : Int32 → (Nat → Int32) → Prop} (C : Cx p s m args meth c cX7_shortestFrom 9 (some .int) wsX7_shortestFrom RX7 D cy nestWs A) (hRec : ∀ (x2 : Int32) (x3 : Int32) (x4 : Int32) (x5 : Int32) (V1 : MS) (V2 : (Nat → Int32)) (Q : Int32 → (Nat → Int32) → Prop), Rec x2 x3 x4 x5 V1 V2 Q → MetI l yX7_shortestFrom wsX7_shortestFrom ({ frames := 4 + n, cells := 0, slots := 0, locals := 91 + n * 28 } : Room) D cy nestWs (fun z : MS × (Nat → Int32) => (w1 o1 q1 cy z.1 ++ [(o2, .inl (cy 0, 18, .inl z.2))] : va_W)) [.ref o1, .ref o2, .int x2, .int x3, .int x4, .int x5] (V1, V2) (fun r z => z.1 = V1 ∧ Q r z.2)) (hK37 : ∀ (x6 : Int32) (x7 : Int32) (V2 : (Nat → Int32)) (H : Heap) (locs : List Loc) (ls : Array Slot), K37 x6 x7 V2 → GW D A s (w1 o1 q1 cy V1 ++ [(o2, .inl (cy 0, 18, .inl V2))]) H locs → lv_has ls 9 [(0, .ref o1), (1, .ref o2), (2, .int x2), (3, .int x3), (4, .int x4), (5, .int x5), (6, .int x6), (7, .int x7)] → W p l e ({ frames := 4 + (n + 1), cells := 0, slots := 0, locals := 91 + (n + 1) * 28 } : Room) s m args below meth c H locs 0 0 (MQ below (va_Qi (fun r z => z.1 = V1 ∧ Q r z.2) (B1 D (fun z : MS × (Nat → Int32) => (w1 o1 q1 cy z.1 ++ [(o2, .inl (cy 0, 18, .inl z.2))] : va_W)) A) A) args s 0 0 A) (F0 m 37 ls [])) (h : w7_shortestFrom_b59 Rec K37 x2 x3 x4 x5 x6 x7 t0 V1 V2 Q) {H : Heap} {locs : List Loc} (hG : GW D A s (w1 o1 q1 cy V1 ++ [(o2, .inl (cy 0, 18, .inl V2))]) H locs) {ls : Array Slot} (hl : lv_has ls 9 [(0, .ref o1), (1, .ref o2), (2, .int x2), (3, .int x3), (4, .int x4), (5, .int x5), (6, .int x6), (7, .int x7)]) : W p l e ({ frames := 4 + (n + 1), cells := 0, slots := 0, locals := 91 + (n + 1) * 28 } : Room) s m args below meth c H locs 0 0 (MQ below (va_Qi (fun r z => z.1 = V1 ∧ Q r z.2) (B1 D (fun z : MS × (Nat → Int32) => (w1 o1 q1 cy z.1 ++ [(o2, .inl (cy 0, 18, .inl z.2))] : va_W)) A) A) args s 0 0 A) (F0 m 59 ls [.int t0]) := by
  have hx := C.1
  have hb := C.2.1
  unfold w7_shortestFrom_b59 at h
  refine lv_istore (lv' := [(8, .int t0), (0, .ref o1), (1, .ref o2), (2, .int x2), (3, .int x3), (4, .int x4), (5, .int x5), (6, .int x6), (7, .int x7)]) hx hb dX7_shortestFrom_59 hl (by decide) rfl (fun ls hl => ?_)
  refine lv_iload hx hb dX7_shortestFrom_61 (lv_at hl 0 rfl) ?_
  refine lv_if_eq (tgt := 112) hx hb dX7_shortestFrom_63 (by decide) (fun c1 => ?_) (fun c1 => ?_)
  · replace h := h.1 c1
    exact b7_shortestFrom_b112 (K37 := K37) x2 x3 x4 x5 x6 x7 V1 V2 C hRec hK37 h hG (lv_sub hl [1, 2, 3, 4, 5, 6, 7, 8] rfl)
  · replace h := h.2 c1
    refine lv_iload hx hb dX7_shortestFrom_66 (lv_at hl 5 rfl) ?_
    refine lv_iload hx hb dX7_shortestFrom_68 (lv_at hl 8 rfl) ?_
    refine lv_ishr hx hb dX7_shortestFrom_70 ?_
    refine lv_iconst (v := 1) hx hb dX7_shortestFrom_71 (by decide) ?_
    refine lv_iand hx hb dX7_shortestFrom_72 ?_
    refine lv_if_ne (tgt := 112) hx hb dX7_shortestFrom_73 (by decide) (fun c2 => ?_) (fun c2 => ?_)
    · replace h := h.1 c2
      exact b7_shortestFrom_b112 (K37 := K37) x2 x3 x4 x5 x6 x7 V1 V2 C hRec hK37 h hG (lv_sub hl [1, 2, 3, 4, 5, 6, 7, 8] rfl)
    · replace h := h.2 c2
      refine lv_aload_n hx hb dX7_shortestFrom_76 rfl (lv_at hl 1 rfl) ?_
      refine lv_aload_n hx hb dX7_shortestFrom_77 rfl (lv_at hl 2 rfl) ?_
      refine lv_iload_n hx hb dX7_shortestFrom_78 rfl (lv_at hl 4 rfl) ?_
      refine lv_iload hx hb dX7_shortestFrom_79 (lv_at hl 8 rfl) ?_
      refine lv_iload hx hb dX7_shortestFrom_81 (lv_at hl 6 rfl) ?_
      refine callSV (As := [.ref o1, .ref o2, .int x3, .int x7, .int x5]) (rest := []) C hG (c7_unfold l D cy o1 q1 o2 x3 x7 x5 V1 V2 _ h) 5 gX7_shortestFrom_X7_unfold rfl (by decide +kernel) ⟨⟨by dsimp only; omega, by dsimp only; omega⟩, rfl, rfl⟩ (Foc.all (w' := (fun z : MS × (Nat → Int32) => (w1 o1 q1 cy z.1 ++ [(o2, .inl (cy 0, 18, .inl z.2))] : va_W))) (S' := (V1, V2)) C.2.2.2.2.2.2.2.2.1) rfl hl.1 rfl (Nat.le_of_ble_eq_true rfl) dX7_shortestFrom_83 ⟨Nat.zero_le _, Nat.zero_le _⟩ (fun  z H locs h hG => ?_)
      obtain ⟨u3, S4⟩ := z
      obtain ⟨eu3, h⟩ := h
      have eu3 : u3 = V1 := eu3
      replace h := h
      subst u3
      have hG : GW D A s (w1 o1 q1 cy V1 ++ [(o2, .inl (cy 0, 18, .inl S4))]) H locs := hG
      refine lv_iload hx hb dX7_shortestFrom_86 (lv_at hl 7 rfl) ?_
      refine lv_aload_n hx hb dX7_shortestFrom_88 rfl (lv_at hl 1 rfl) ?_
      refine lv_aload_n hx hb dX7_shortestFrom_89 rfl (lv_at hl 2 rfl) ?_
      refine lv_iload_n hx hb dX7_shortestFrom_90 rfl (lv_at hl 3 rfl) ?_
      refine lv_iload hx hb dX7_shortestFrom_91 (lv_at hl 8 rfl) ?_
      refine lv_iload hx hb dX7_shortestFrom_93 (lv_at hl 5 rfl) ?_
      refine lv_iconst (v := 1) hx hb dX7_shortestFrom_95 (by decide) ?_
      refine lv_iload hx hb dX7_shortestFrom_96 (lv_at hl 8 rfl) ?_
      refine lv_ishl hx hb dX7_shortestFrom_98 ?_
      refine lv_ior hx hb dX7_shortestFrom_99 ?_
      refine lv_iload hx hb dX7_shortestFrom_100 (lv_at hl 6 rfl) ?_
      refine lv_iconst (v := 1) hx hb dX7_shortestFrom_102 (by decide) ?_
      refine lv_iadd hx hb dX7_shortestFrom_103 ?_
      refine callSI (As := [.ref o1, .ref o2, .int x2, .int x7, .int (x4 ||| ((1 : Int32) <<< (x7 &&& 31))), .int (x5 + (1 : Int32))]) (rest := [.int x6]) C hG (hRec x2 x7 (x4 ||| ((1 : Int32) <<< (x7 &&& 31))) (x5 + (1 : Int32)) V1 S4 _ h) 6 gX7_shortestFrom_X7_shortestFrom rfl (by decide +kernel) ⟨⟨by dsimp only; omega, by dsimp only; omega⟩, rfl, rfl⟩ (Foc.all (w' := (fun z : MS × (Nat → Int32) => (w1 o1 q1 cy z.1 ++ [(o2, .inl (cy 0, 18, .inl z.2))] : va_W))) (S' := (V1, S4)) C.2.2.2.2.2.2.2.2.1) rfl hl.1 rfl (Nat.le_of_ble_eq_true rfl) dX7_shortestFrom_104 ⟨Nat.zero_le _, Nat.zero_le _⟩ (fun r5 z H locs h hG => ?_)
      obtain ⟨u6, S7⟩ := z
      obtain ⟨eu6, h⟩ := h
      have eu6 : u6 = V1 := eu6
      replace h := h
      subst u6
      have hG : GW D A s (w1 o1 q1 cy V1 ++ [(o2, .inl (cy 0, 18, .inl S7))]) H locs := hG
      refine va_mmin hx hb (C.2.2.1.trans hl.1.symm) C.2.2.2.1 (C.2.2.2.2.1 _ k7_shortestFrom_38.1.1) (C.2.2.2.2.1 _ k7_shortestFrom_38.1.2) (C.2.2.2.2.1 _ k7_shortestFrom_38.2.1) (C.2.2.2.2.1 _ k7_shortestFrom_38.2.2) (by dsimp only; omega) (by simp; omega) (Nat.zero_le _) (Nat.zero_le _) dX7_shortestFrom_107 ?_
      refine lv_topi (fun y8 ey8 => ?_)
      replace h := h y8 ey8
      refine lv_istore (lv' := [(6, .int y8), (8, .int t0), (0, .ref o1), (1, .ref o2), (2, .int x2), (3, .int x3), (4, .int x4), (5, .int x5), (7, .int x7)]) hx hb dX7_shortestFrom_110 hl (by decide) rfl (fun ls hl => ?_)
      exact b7_shortestFrom_b112 (K37 := K37) x2 x3 x4 x5 y8 x7 V1 S7 C hRec hK37 h hG (lv_sub hl [2, 3, 4, 5, 6, 7, 0, 8] rfl)
def w7_shortestFrom_d37 (Rec : Int32 → Int32 → Int32 → Int32 → MS → (Nat → Int32) → (Int32 → (Nat → Int32) → Prop) → Prop) (K37 : Int32 → Int32 → (Nat → Int32) → Prop) (x2 : Int32) (x3 : Int32) (x4 : Int32) (x5 : Int32) (x6 : Int32) (x7 : Int32) (V1 : MS) (V2 : (Nat → Int32)) (Q : Int32 → (Nat → Int32) → Prop) : Prop :=
  (((6 : Int32) ≤ x7 → Q x6 V2) ∧ (¬ (6 : Int32) ≤ x7 → (((x7 >>> ((1 : Int32) &&& 31)) = (x3 >>> ((1 : Int32) &&& 31)) → w7_shortestFrom_b59 Rec K37 x2 x3 x4 x5 x6 x7 (0 : Int32) V1 V2 Q) ∧ (¬ (x7 >>> ((1 : Int32) &&& 31)) = (x3 >>> ((1 : Int32) &&& 31)) → w7_shortestFrom_b59 Rec K37 x2 x3 x4 x5 x6 x7 (1 : Int32) V1 V2 Q))))
set_option maxHeartbeats 4000000 in
set_option maxRecDepth 100000 in
theorem b7_shortestFrom_d37 {p : Program} {l : Launch} {e : Env} {s : State} {m : MethodId} {args : Array Value} {below : List Frame} {meth : Method} {c : Code} {D : va_G} {cy : Nat → ClassId} {A : Nat → Prop} {o1 : Nat} {q1 : Nat → Nat} {o2 : Nat} {n : Nat} {Rec : Int32 → Int32 → Int32 → Int32 → MS → (Nat → Int32) → (Int32 → (Nat → Int32) → Prop) → Prop} {K37 : Int32 → Int32 → (Nat → Int32) → Prop} (x2 : Int32) (x3 : Int32) (x4 : Int32) (x5 : Int32) (x6 : Int32) (x7 : Int32) (V1 : MS) (V2 : (Nat → Int32)) {Q : Int32 → (Nat → Int32) → Prop} (C : Cx p s m args meth c cX7_shortestFrom 9 (some .int) wsX7_shortestFrom RX7 D cy nestWs A) (hRec : ∀ (x2 : Int32) (x3 : Int32) (x4 : Int32) (x5 : Int32) (V1 : MS) (V2 : (Nat → Int32)) (Q : Int32 → (Nat → Int32) → Prop), Rec x2 x3 x4 x5 V1 V2 Q → MetI l yX7_shortestFrom wsX7_shortestFrom ({ frames := 4 + n, cells := 0, slots := 0, locals := 91 + n * 28 } : Room) D cy nestWs (fun z : MS × (Nat → Int32) => (w1 o1 q1 cy z.1 ++ [(o2, .inl (cy 0, 18, .inl z.2))] : va_W)) [.ref o1, .ref o2, .int x2, .int x3, .int x4, .int x5] (V1, V2) (fun r z => z.1 = V1 ∧ Q r z.2)) (hK37 : ∀ (x6 : Int32) (x7 : Int32) (V2 : (Nat → Int32)) (H : Heap) (locs : List Loc) (ls : Array Slot), K37 x6 x7 V2 → GW D A s (w1 o1 q1 cy V1 ++ [(o2, .inl (cy 0, 18, .inl V2))]) H locs → lv_has ls 9 [(0, .ref o1), (1, .ref o2), (2, .int x2), (3, .int x3), (4, .int x4), (5, .int x5), (6, .int x6), (7, .int x7)] → W p l e ({ frames := 4 + (n + 1), cells := 0, slots := 0, locals := 91 + (n + 1) * 28 } : Room) s m args below meth c H locs 0 0 (MQ below (va_Qi (fun r z => z.1 = V1 ∧ Q r z.2) (B1 D (fun z : MS × (Nat → Int32) => (w1 o1 q1 cy z.1 ++ [(o2, .inl (cy 0, 18, .inl z.2))] : va_W)) A) A) args s 0 0 A) (F0 m 37 ls [])) (h : w7_shortestFrom_d37 Rec K37 x2 x3 x4 x5 x6 x7 V1 V2 Q) {H : Heap} {locs : List Loc} (hG : GW D A s (w1 o1 q1 cy V1 ++ [(o2, .inl (cy 0, 18, .inl V2))]) H locs) {ls : Array Slot} (hl : lv_has ls 9 [(0, .ref o1), (1, .ref o2), (2, .int x2), (3, .int x3), (4, .int x4), (5, .int x5), (6, .int x6), (7, .int x7)]) : W p l e ({ frames := 4 + (n + 1), cells := 0, slots := 0, locals := 91 + (n + 1) * 28 } : Room) s m args below meth c H locs 0 0 (MQ below (va_Qi (fun r z => z.1 = V1 ∧ Q r z.2) (B1 D (fun z : MS × (Nat → Int32) => (w1 o1 q1 cy z.1 ++ [(o2, .inl (cy 0, 18, .inl z.2))] : va_W)) A) A) args s 0 0 A) (F0 m 37 ls []) := by
  have hx := C.1
  have hb := C.2.1
  unfold w7_shortestFrom_d37 at h
  refine lv_iload hx hb dX7_shortestFrom_37 (lv_at hl 7 rfl) ?_
  refine lv_bipush (v := 6) hx hb dX7_shortestFrom_39 (by decide) ?_
  refine lv_icmp_ge (tgt := 118) hx hb dX7_shortestFrom_41 (by decide) (fun c1 => ?_) (fun c1 => ?_)
  · replace h := h.1 c1
    refine lv_iload hx hb dX7_shortestFrom_118 (lv_at hl 6 rfl) ?_
    exact retI (w := (fun z : MS × (Nat → Int32) => (w1 o1 q1 cy z.1 ++ [(o2, .inl (cy 0, 18, .inl z.2))] : va_W))) (S := (V1, V2)) (Qp := (fun r z => z.1 = V1 ∧ Q r z.2)) C hG ⟨rfl, h⟩ dX7_shortestFrom_120
  · replace h := h.2 c1
    refine lv_iload hx hb dX7_shortestFrom_44 (lv_at hl 7 rfl) ?_
    refine lv_iconst (v := 1) hx hb dX7_shortestFrom_46 (by decide) ?_
    refine lv_ishr hx hb dX7_shortestFrom_47 ?_
    refine lv_iload_n hx hb dX7_shortestFrom_48 rfl (lv_at hl 3 rfl) ?_
    refine lv_iconst (v := 1) hx hb dX7_shortestFrom_49 (by decide) ?_
    refine lv_ishr hx hb dX7_shortestFrom_50 ?_
    refine lv_icmp_eq (tgt := 58) hx hb dX7_shortestFrom_51 (by decide) (fun c2 => ?_) (fun c2 => ?_)
    · replace h := h.1 c2
      refine lv_iconst (v := 0) hx hb dX7_shortestFrom_58 (by decide) ?_
      exact b7_shortestFrom_b59 (K37 := K37) x2 x3 x4 x5 x6 x7 (0 : Int32) V1 V2 C hRec hK37 h hG hl
    · replace h := h.2 c2
      refine lv_iconst (v := 1) hx hb dX7_shortestFrom_54 (by decide) ?_
      refine lv_goto (tgt := 59) hx hb dX7_shortestFrom_55 (by decide) ?_
      exact b7_shortestFrom_b59 (K37 := K37) x2 x3 x4 x5 x6 x7 (1 : Int32) V1 V2 C hRec hK37 h hG hl
def w7_shortestFrom_F37 (Rec : Int32 → Int32 → Int32 → Int32 → MS → (Nat → Int32) → (Int32 → (Nat → Int32) → Prop) → Prop) (x2 : Int32) (x3 : Int32) (x4 : Int32) (x5 : Int32) (V1 : MS) (Q : Int32 → (Nat → Int32) → Prop) (K : Int32 × Int32 × (Nat → Int32) → Prop) (a : Int32 × Int32 × (Nat → Int32)) : Prop := w7_shortestFrom_d37 Rec (fun y0 y1 y2 => K (y0, y1, y2)) x2 x3 x4 x5 a.1 a.2.1 V1 a.2.2 Q
def w7_shortestFrom_b37 (Rec : Int32 → Int32 → Int32 → Int32 → MS → (Nat → Int32) → (Int32 → (Nat → Int32) → Prop) → Prop) (x2 : Int32) (x3 : Int32) (x4 : Int32) (x5 : Int32) (x6 : Int32) (x7 : Int32) (V1 : MS) (V2 : (Nat → Int32)) (Q : Int32 → (Nat → Int32) → Prop) : Prop := lp (w7_shortestFrom_F37 Rec x2 x3 x4 x5 V1 Q) (x6, x7, V2)
set_option maxHeartbeats 4000000 in
set_option maxRecDepth 100000 in
theorem b7_shortestFrom_b37 {p : Program} {l : Launch} {e : Env} {s : State} {m : MethodId} {args : Array Value} {below : List Frame} {meth : Method} {c : Code} {D : va_G} {cy : Nat → ClassId} {A : Nat → Prop} {o1 : Nat} {q1 : Nat → Nat} {o2 : Nat} {n : Nat} {Rec : Int32 → Int32 → Int32 → Int32 → MS → (Nat → Int32) → (Int32 → (Nat → Int32) → Prop) → Prop} (x2 : Int32) (x3 : Int32) (x4 : Int32) (x5 : Int32) (x6 : Int32) (x7 : Int32) (V1 : MS) (V2 : (Nat → Int32)) {Q : Int32 → (Nat → Int32) → Prop} (C : Cx p s m args meth c cX7_shortestFrom 9 (some .int) wsX7_shortestFrom RX7 D cy nestWs A) (hRec : ∀ (x2 : Int32) (x3 : Int32) (x4 : Int32) (x5 : Int32) (V1 : MS) (V2 : (Nat → Int32)) (Q : Int32 → (Nat → Int32) → Prop), Rec x2 x3 x4 x5 V1 V2 Q → MetI l yX7_shortestFrom wsX7_shortestFrom ({ frames := 4 + n, cells := 0, slots := 0, locals := 91 + n * 28 } : Room) D cy nestWs (fun z : MS × (Nat → Int32) => (w1 o1 q1 cy z.1 ++ [(o2, .inl (cy 0, 18, .inl z.2))] : va_W)) [.ref o1, .ref o2, .int x2, .int x3, .int x4, .int x5] (V1, V2) (fun r z => z.1 = V1 ∧ Q r z.2)) (h : w7_shortestFrom_b37 Rec x2 x3 x4 x5 x6 x7 V1 V2 Q) {H : Heap} {locs : List Loc} (hG : GW D A s (w1 o1 q1 cy V1 ++ [(o2, .inl (cy 0, 18, .inl V2))]) H locs) {ls : Array Slot} (hl : lv_has ls 9 [(0, .ref o1), (1, .ref o2), (2, .int x2), (3, .int x3), (4, .int x4), (5, .int x5), (6, .int x6), (7, .int x7)]) : W p l e ({ frames := 4 + (n + 1), cells := 0, slots := 0, locals := 91 + (n + 1) * 28 } : Room) s m args below meth c H locs 0 0 (MQ below (va_Qi (fun r z => z.1 = V1 ∧ Q r z.2) (B1 D (fun z : MS × (Nat → Int32) => (w1 o1 q1 cy z.1 ++ [(o2, .inl (cy 0, 18, .inl z.2))] : va_W)) A) A) args s 0 0 A) (F0 m 37 ls []) := by
  obtain ⟨k, hn⟩ := h
  induction k generalizing x6 x7 V2 H locs ls with
  | zero => exact hn.elim
  | succ k ih => exact b7_shortestFrom_d37 (K37 := fun y0 y1 y2 => itr (w7_shortestFrom_F37 Rec x2 x3 x4 x5 V1 Q) k (y0, y1, y2)) x2 x3 x4 x5 x6 x7 V1 V2 C hRec (fun x6 x7 V2 H locs ls hk hG hl => ih x6 x7 V2 hG hl hk) hn hG hl
def w7_shortestFrom_r (Rec : Int32 → Int32 → Int32 → Int32 → MS → (Nat → Int32) → (Int32 → (Nat → Int32) → Prop) → Prop) (x2 : Int32) (x3 : Int32) (x4 : Int32) (x5 : Int32) (V1 : MS) (V2 : (Nat → Int32)) (Q : Int32 → (Nat → Int32) → Prop) : Prop :=
  w1_sideOf x2 V1 (fun r1 => ((¬ x3 = r1 → (((x5 + (1 : Int32)) < (6 : Int32) → w7_shortestFrom_b37 Rec x2 x3 x4 x5 (1073741824 : Int32) (0 : Int32) V1 V2 Q) ∧ (¬ (x5 + (1 : Int32)) < (6 : Int32) → Q (1073741824 : Int32) V2))) ∧ (x3 = r1 → w7_lengthTo x2 x5 V1 V2 (fun r5 => Q r5 V2))))
def w7_shortestFrom : Nat → Int32 → Int32 → Int32 → Int32 → MS → (Nat → Int32) → (Int32 → (Nat → Int32) → Prop) → Prop
  | 0 => fun _ _ _ _ _ _ _ => False
  | n + 1 => w7_shortestFrom_r (w7_shortestFrom n)
set_option maxHeartbeats 4000000 in
set_option maxRecDepth 100000 in
theorem c7_shortestFrom_n (l : Launch) (D : va_G) (cy : Nat → ClassId) (o1 : Nat) (q1 : Nat → Nat) (o2 : Nat) (n : Nat) : ∀ (x2 : Int32) (x3 : Int32) (x4 : Int32) (x5 : Int32) (V1 : MS) (V2 : (Nat → Int32)) (Q : Int32 → (Nat → Int32) → Prop) (h : w7_shortestFrom n x2 x3 x4 x5 V1 V2 Q), MetI l yX7_shortestFrom wsX7_shortestFrom ({ frames := 4 + n, cells := 0, slots := 0, locals := 91 + n * 28 } : Room) D cy nestWs (fun z : MS × (Nat → Int32) => (w1 o1 q1 cy z.1 ++ [(o2, .inl (cy 0, 18, .inl z.2))] : va_W)) [.ref o1, .ref o2, .int x2, .int x3, .int x4, .int x5] (V1, V2) (fun r z => z.1 = V1 ∧ Q r z.2) := by
  induction n with
  | zero => intro x2 x3 x4 x5 V1 V2 Q h; exact h.elim
  | succ n ih =>
    intro x2 x3 x4 x5 V1 V2 Q h
    have hRec := ih
    replace h : w7_shortestFrom_r (w7_shortestFrom n) x2 x3 x4 x5 V1 V2 Q := h
    generalize w7_shortestFrom n = Rec at h hRec
    refine MetI.mk RX7 cX7_shortestFrom 9 .int (by decide) rfl nestWs_ok rfl (Nat.le_of_ble_eq_true rfl) ?_
    intro p e s m below meth c A ls C hG hl
    have hl : lv_has ls 9 [(0, .ref o1), (1, .ref o2), (2, .int x2), (3, .int x3), (4, .int x4), (5, .int x5)] := hl
    have hx := C.1
    have hb := C.2.1
    unfold w7_shortestFrom_r at h
    refine lv_iload_n hx hb dX7_shortestFrom_0 rfl (lv_at hl 3 rfl) ?_
    refine lv_aload_n hx hb dX7_shortestFrom_1 rfl (lv_at hl 0 rfl) ?_
    refine lv_iload_n hx hb dX7_shortestFrom_2 rfl (lv_at hl 2 rfl) ?_
    refine callVI (As := [.int x2]) (rest := [.int x3]) C hG (c1_sideOf l D cy o1 q1 x2 V1 _ h) 1 gX7_shortestFrom_X1_sideOf rfl (by decide +kernel) ⟨⟨by dsimp only; omega, by dsimp only; omega⟩, rfl, rfl⟩ rfl rfl (Foc.pq (rv := fun z : MS => (w1 o1 q1 cy z ++ [(o2, .inl (cy 0, 18, .inl V2))] : va_W)) C.2.2.2.2.2.2.2.2.1 [0, 1, 2, 3, 4, 5, 6] [7] [1, 2, 3, 4, 5, 6, 7, 0] rfl rfl rfl rfl rfl (by decide) rfl (fun _ => rfl) (fun _ => rfl)) rfl hl.1 rfl (Nat.le_of_ble_eq_true rfl) dX7_shortestFrom_3 ⟨Nat.zero_le _, Nat.zero_le _⟩ (fun r1 u2 H locs h hG => ?_)
    obtain ⟨eu2, h⟩ := h
    have eu2 : u2 = V1 := eu2
    subst u2
    have hG : GW D A s (w1 o1 q1 cy V1 ++ [(o2, .inl (cy 0, 18, .inl V2))]) H locs := hG
    refine lv_icmp_ne (tgt := 18) hx hb dX7_shortestFrom_6 (by decide) (fun c3 => ?_) (fun c3 => ?_)
    · replace h := h.1 c3
      refine lv_ldc (v := 1073741824) hx hb C.2.2.2.1 (C.2.2.2.2.1 _ k7_shortestFrom_33) dX7_shortestFrom_18 ?_
      refine lv_istore (lv' := [(6, .int (1073741824 : Int32)), (0, .ref o1), (1, .ref o2), (2, .int x2), (3, .int x3), (4, .int x4), (5, .int x5)]) hx hb dX7_shortestFrom_20 hl (by decide) rfl (fun ls hl => ?_)
      refine lv_iload hx hb dX7_shortestFrom_22 (lv_at hl 6 rfl) ?_
      refine lv_iconst (v := 1) hx hb dX7_shortestFrom_24 (by decide) ?_
      refine lv_iadd hx hb dX7_shortestFrom_25 ?_
      refine lv_bipush (v := 6) hx hb dX7_shortestFrom_26 (by decide) ?_
      refine lv_icmp_lt (tgt := 34) hx hb dX7_shortestFrom_28 (by decide) (fun c4 => ?_) (fun c4 => ?_)
      · replace h := h.1 c4
        refine lv_iconst (v := 0) hx hb dX7_shortestFrom_34 (by decide) ?_
        refine lv_istore (lv' := [(7, .int (0 : Int32)), (6, .int (1073741824 : Int32)), (0, .ref o1), (1, .ref o2), (2, .int x2), (3, .int x3), (4, .int x4), (5, .int x5)]) hx hb dX7_shortestFrom_35 hl (by decide) rfl (fun ls hl => ?_)
        exact b7_shortestFrom_b37 x2 x3 x4 x5 (1073741824 : Int32) (0 : Int32) V1 V2 C hRec h hG (lv_sub hl [2, 3, 4, 5, 6, 7, 1, 0] rfl)
      · replace h := h.2 c4
        refine lv_iload hx hb dX7_shortestFrom_31 (lv_at hl 0 rfl) ?_
        exact retI (w := (fun z : MS × (Nat → Int32) => (w1 o1 q1 cy z.1 ++ [(o2, .inl (cy 0, 18, .inl z.2))] : va_W))) (S := (V1, V2)) (Qp := (fun r z => z.1 = V1 ∧ Q r z.2)) C hG ⟨rfl, h⟩ dX7_shortestFrom_33
    · replace h := h.2 c3
      refine lv_aload_n hx hb dX7_shortestFrom_9 rfl (lv_at hl 0 rfl) ?_
      refine lv_aload_n hx hb dX7_shortestFrom_10 rfl (lv_at hl 1 rfl) ?_
      refine lv_iload_n hx hb dX7_shortestFrom_11 rfl (lv_at hl 2 rfl) ?_
      refine lv_iload hx hb dX7_shortestFrom_12 (lv_at hl 5 rfl) ?_
      refine callSI (As := [.ref o1, .ref o2, .int x2, .int x5]) (rest := []) C hG (c7_lengthTo l D cy o1 q1 o2 x2 x5 V1 V2 _ h) 4 gX7_shortestFrom_X7_lengthTo rfl (by decide +kernel) ⟨⟨by dsimp only; omega, by dsimp only; omega⟩, rfl, rfl⟩ (Foc.all (w' := (fun z : MS × (Nat → Int32) => (w1 o1 q1 cy z.1 ++ [(o2, .inl (cy 0, 18, .inl z.2))] : va_W))) (S' := (V1, V2)) C.2.2.2.2.2.2.2.2.1) rfl hl.1 rfl (Nat.le_of_ble_eq_true rfl) dX7_shortestFrom_14 ⟨Nat.zero_le _, Nat.zero_le _⟩ (fun r5 z H locs h hG => ?_)
      obtain ⟨u6, u7⟩ := z
      obtain ⟨eu6, h⟩ := h
      have eu6 : u6 = V1 := eu6
      obtain ⟨eu7, h⟩ := h
      have eu7 : u7 = V2 := eu7
      replace h := h
      subst u6
      subst u7
      have hG : GW D A s (w1 o1 q1 cy V1 ++ [(o2, .inl (cy 0, 18, .inl V2))]) H locs := hG
      exact retI (w := (fun z : MS × (Nat → Int32) => (w1 o1 q1 cy z.1 ++ [(o2, .inl (cy 0, 18, .inl z.2))] : va_W))) (S := (V1, V2)) (Qp := (fun r z => z.1 = V1 ∧ Q r z.2)) C hG ⟨rfl, h⟩ dX7_shortestFrom_17
theorem c7_shortestFrom (l : Launch) (D : va_G) (cy : Nat → ClassId) (o1 : Nat) (q1 : Nat → Nat) (o2 : Nat) (x2 : Int32) (x3 : Int32) (x4 : Int32) (x5 : Int32) (V1 : MS) (V2 : (Nat → Int32)) (Q : Int32 → (Nat → Int32) → Prop) (h : w7_shortestFrom 7 x2 x3 x4 x5 V1 V2 Q) : MetI l yX7_shortestFrom wsX7_shortestFrom ({ frames := 11, cells := 0, slots := 0, locals := 287 } : Room) D cy nestWs (fun z : MS × (Nat → Int32) => (w1 o1 q1 cy z.1 ++ [(o2, .inl (cy 0, 18, .inl z.2))] : va_W)) [.ref o1, .ref o2, .int x2, .int x3, .int x4, .int x5] (V1, V2) (fun r z => z.1 = V1 ∧ Q r z.2) := c7_shortestFrom_n l D cy o1 q1 o2 7 x2 x3 x4 x5 V1 V2 Q h
-- X7_shortest
theorem i7_shortest_X7 : ∀ w ∈ wsX70, w ∈ wsX7_shortest := fun w h => List.mem_cons_of_mem _ (inG_X7 w h)
theorem k7_shortest_11 : Cond.fieldLink RX7 11 "PaperBodies$Unfolding" "spots" "[I" ∈ wsX7_shortest := (List.mem_cons_of_mem _ mw_292)
def w7_shortest_d17 (K17 : Int32 → MS → Prop) (x2 : Int32) (x3 : Int32) (x4 : Int32) (x5 : Int32) (S : MS) (V1 : MS) (Q : Int32 → MS → Prop) : Prop :=
  (((3 : Int32) ≤ x5 → w7_shortestFrom 7 x2 x4 ((1 : Int32) <<< (x4 &&& 31)) (0 : Int32) V1 (aI S 0) (fun r2 S4 => ∀ S5 : MS, S5 = pA S 0 S4 → Q r2 S5)) ∧ (¬ (3 : Int32) ≤ x5 → w1_middleOf x3 x5 V1 (fun r6 => vp_in x5 18 ∧ ∀ S9 : MS, S9 = sA S 0 x5 r6 → ∀ y10 : Int32, y10 = x5 + 1 → K17 y10 S9)))
set_option maxHeartbeats 4000000 in
set_option maxRecDepth 100000 in
theorem b7_shortest_d17 {p : Program} {l : Launch} {e : Env} {s : State} {m : MethodId} {args : Array Value} {below : List Frame} {meth : Method} {c : Code} {D : va_G} {cy : Nat → ClassId} {A : Nat → Prop} {o : Nat} {q : Nat → Nat} {o1 : Nat} {q1 : Nat → Nat} {K17 : Int32 → MS → Prop} (x2 : Int32) (x3 : Int32) (x4 : Int32) (x5 : Int32) (S : MS) (V1 : MS) {Q : Int32 → MS → Prop} (C : Cx p s m args meth c cX7_shortest 6 (some .int) wsX7_shortest RX7 D cy nestWs A) (hK17 : ∀ (x5 : Int32) (S : MS) (H : Heap) (locs : List Loc) (ls : Array Slot), K17 x5 S → GW D A s (w7 o q cy S ++ w1 o1 q1 cy V1) H locs → lv_has ls 6 [(0, .ref o), (1, .ref o1), (2, .int x2), (3, .int x3), (4, .int x4), (5, .int x5)] → W p l e ({ frames := 12, cells := 0, slots := 0, locals := 315 } : Room) s m args below meth c H locs 0 0 (MQ below (va_Qi (fun r z => z.2 = V1 ∧ Q r z.1) (B1 D (fun z : MS × MS => (w7 o q cy z.1 ++ w1 o1 q1 cy z.2 : va_W)) A) A) args s 0 0 A) (F0 m 17 ls [])) (h : w7_shortest_d17 K17 x2 x3 x4 x5 S V1 Q) {H : Heap} {locs : List Loc} (hG : GW D A s (w7 o q cy S ++ w1 o1 q1 cy V1) H locs) {ls : Array Slot} (hl : lv_has ls 6 [(0, .ref o), (1, .ref o1), (2, .int x2), (3, .int x3), (4, .int x4), (5, .int x5)]) : W p l e ({ frames := 12, cells := 0, slots := 0, locals := 315 } : Room) s m args below meth c H locs 0 0 (MQ below (va_Qi (fun r z => z.2 = V1 ∧ Q r z.1) (B1 D (fun z : MS × MS => (w7 o q cy z.1 ++ w1 o1 q1 cy z.2 : va_W)) A) A) args s 0 0 A) (F0 m 17 ls []) := by
  have hx := C.1
  have hb := C.2.1
  unfold w7_shortest_d17 at h
  refine lv_iload hx hb dX7_shortest_17 (lv_at hl 5 rfl) ?_
  refine lv_iconst (v := 3) hx hb dX7_shortest_19 (by decide) ?_
  refine lv_icmp_ge (tgt := 43) hx hb dX7_shortest_20 (by decide) (fun c1 => ?_) (fun c1 => ?_)
  · replace h := h.1 c1
    refine lv_aload_n hx hb dX7_shortest_43 rfl (lv_at hl 1 rfl) ?_
    refine lv_aload_n hx hb dX7_shortest_44 rfl (lv_at hl 0 rfl) ?_
    refine gx_get C i7_shortest_X7 hG 0 rfl rfl 0 (by decide) k7_shortest_11 rfl dX7_shortest_45 ?_
    refine lv_iload_n hx hb dX7_shortest_48 rfl (lv_at hl 2 rfl) ?_
    refine lv_iload hx hb dX7_shortest_49 (lv_at hl 4 rfl) ?_
    refine lv_iconst (v := 1) hx hb dX7_shortest_51 (by decide) ?_
    refine lv_iload hx hb dX7_shortest_52 (lv_at hl 4 rfl) ?_
    refine lv_ishl hx hb dX7_shortest_54 ?_
    refine lv_iconst (v := 0) hx hb dX7_shortest_55 (by decide) ?_
    refine callSI (As := [.ref o1, .ref (q 0), .int x2, .int x4, .int ((1 : Int32) <<< (x4 &&& 31)), .int (0 : Int32)]) (rest := []) C hG (c7_shortestFrom l D cy o1 q1 (q 0) x2 x4 ((1 : Int32) <<< (x4 &&& 31)) (0 : Int32) V1 (aI S 0) _ h) 6 gX7_shortest_X7_shortestFrom rfl (by decide +kernel) ⟨⟨Nat.le_of_ble_eq_true rfl, Nat.le_of_ble_eq_true rfl⟩, rfl, rfl⟩ (Foc.pq (rv := fun z : MS × (Nat → Int32) => (w7 o q cy (pA S 0 z.2) ++ w1 o1 q1 cy z.1 : va_W)) C.2.2.2.2.2.2.2.2.1 [2, 3, 4, 5, 6, 7, 8, 1] [0] [0, 8, 1, 2, 3, 4, 5, 6, 7] rfl rfl rfl rfl rfl (by decide) rfl (fun _ => rfl) (fun _ => rfl)) rfl hl.1 rfl (Nat.le_of_ble_eq_true rfl) dX7_shortest_56 ⟨Nat.zero_le _, Nat.zero_le _⟩ (fun r2 z H locs h hG => ?_)
    obtain ⟨u3, S4⟩ := z
    obtain ⟨eu3, h⟩ := h
    have eu3 : u3 = V1 := eu3
    replace h := h
    subst u3
    obtain ⟨S5, eS5⟩ : ∃ z : MS, z = pA S 0 S4 := ⟨_, rfl⟩
    have h := h S5 eS5
    have hG : GW D A s (w7 o q cy S5 ++ w1 o1 q1 cy V1) H locs := by rw [eS5]; exact hG
    exact retI (w := (fun z : MS × MS => (w7 o q cy z.1 ++ w1 o1 q1 cy z.2 : va_W))) (S := (S5, V1)) (Qp := (fun r z => z.2 = V1 ∧ Q r z.1)) C hG ⟨rfl, h⟩ dX7_shortest_59
  · replace h := h.2 c1
    refine lv_aload_n hx hb dX7_shortest_23 rfl (lv_at hl 0 rfl) ?_
    refine gx_get C i7_shortest_X7 hG 0 rfl rfl 0 (by decide) k7_shortest_11 rfl dX7_shortest_24 ?_
    refine lv_iload hx hb dX7_shortest_27 (lv_at hl 5 rfl) ?_
    refine lv_aload_n hx hb dX7_shortest_29 rfl (lv_at hl 1 rfl) ?_
    refine lv_iload_n hx hb dX7_shortest_30 rfl (lv_at hl 3 rfl) ?_
    refine lv_iload hx hb dX7_shortest_31 (lv_at hl 5 rfl) ?_
    refine callVI (As := [.int x3, .int x5]) (rest := [.int x5, .ref (q 0)]) C hG (c1_middleOf l D cy o1 q1 x3 x5 V1 _ h) 2 gX7_shortest_X1_middleOf rfl (by decide +kernel) ⟨⟨Nat.le_of_ble_eq_true rfl, Nat.le_of_ble_eq_true rfl⟩, rfl, rfl⟩ rfl rfl (Foc.pq (rv := fun z : MS => (w7 o q cy S ++ w1 o1 q1 cy z : va_W)) C.2.2.2.2.2.2.2.2.1 [2, 3, 4, 5, 6, 7, 8] [0, 1] [0, 1, 2, 3, 4, 5, 6, 7, 8] rfl rfl rfl rfl rfl (by decide) rfl (fun _ => rfl) (fun _ => rfl)) rfl hl.1 rfl (Nat.le_of_ble_eq_true rfl) dX7_shortest_33 ⟨Nat.zero_le _, Nat.zero_le _⟩ (fun r6 u7 H locs h hG => ?_)
    obtain ⟨eu7, h⟩ := h
    have eu7 : u7 = V1 := eu7
    subst u7
    have hG : GW D A s (w7 o q cy S ++ w1 o1 q1 cy V1) H locs := hG
    obtain ⟨hv8, h⟩ := h
    refine gx_ast (ws' := w7 o q cy (sA S 0 x5 r6) ++ w1 o1 q1 cy V1) C hG 1 rfl hv8 dX7_shortest_36 rfl (fun H locs hG => ?_)
    obtain ⟨S9, eS9⟩ : ∃ z : MS, z = sA S 0 x5 r6 := ⟨_, rfl⟩
    rw [← eS9] at hG
    replace h := h S9 eS9
    obtain ⟨y10, ey10⟩ : ∃ y : Int32, y = x5 + 1 := ⟨_, rfl⟩
    replace h := h y10 ey10
    refine lv_iinc (v := y10) (lv' := [(5, .int y10), (0, .ref o), (1, .ref o1), (2, .int x2), (3, .int x3), (4, .int x4)]) hx hb dX7_shortest_37 hl (k := 5) rfl (by rw [ey10]; rfl) (by decide) rfl (fun ls hl => ?_)
    refine lv_goto (tgt := 17) hx hb dX7_shortest_40 (by decide) ?_
    exact hK17 y10 S9 _ _ _ h hG (lv_sub hl [1, 2, 3, 4, 5, 0] rfl)
def w7_shortest_F17 (x2 : Int32) (x3 : Int32) (x4 : Int32) (V1 : MS) (Q : Int32 → MS → Prop) (K : Int32 × MS → Prop) (a : Int32 × MS) : Prop := w7_shortest_d17 (fun y0 y1 => K (y0, y1)) x2 x3 x4 a.1 a.2 V1 Q
def w7_shortest_b17 (x2 : Int32) (x3 : Int32) (x4 : Int32) (x5 : Int32) (S : MS) (V1 : MS) (Q : Int32 → MS → Prop) : Prop := lp (w7_shortest_F17 x2 x3 x4 V1 Q) (x5, S)
set_option maxHeartbeats 4000000 in
set_option maxRecDepth 100000 in
theorem b7_shortest_b17 {p : Program} {l : Launch} {e : Env} {s : State} {m : MethodId} {args : Array Value} {below : List Frame} {meth : Method} {c : Code} {D : va_G} {cy : Nat → ClassId} {A : Nat → Prop} {o : Nat} {q : Nat → Nat} {o1 : Nat} {q1 : Nat → Nat} (x2 : Int32) (x3 : Int32) (x4 : Int32) (x5 : Int32) (S : MS) (V1 : MS) {Q : Int32 → MS → Prop} (C : Cx p s m args meth c cX7_shortest 6 (some .int) wsX7_shortest RX7 D cy nestWs A) (h : w7_shortest_b17 x2 x3 x4 x5 S V1 Q) {H : Heap} {locs : List Loc} (hG : GW D A s (w7 o q cy S ++ w1 o1 q1 cy V1) H locs) {ls : Array Slot} (hl : lv_has ls 6 [(0, .ref o), (1, .ref o1), (2, .int x2), (3, .int x3), (4, .int x4), (5, .int x5)]) : W p l e ({ frames := 12, cells := 0, slots := 0, locals := 315 } : Room) s m args below meth c H locs 0 0 (MQ below (va_Qi (fun r z => z.2 = V1 ∧ Q r z.1) (B1 D (fun z : MS × MS => (w7 o q cy z.1 ++ w1 o1 q1 cy z.2 : va_W)) A) A) args s 0 0 A) (F0 m 17 ls []) := by
  obtain ⟨k, hn⟩ := h
  induction k generalizing x5 S H locs ls with
  | zero => exact hn.elim
  | succ k ih => exact b7_shortest_d17 (K17 := fun y0 y1 => itr (w7_shortest_F17 x2 x3 x4 V1 Q) k (y0, y1)) x2 x3 x4 x5 S V1 C (fun x5 S H locs ls hk hG hl => ih x5 S hG hl hk) hn hG hl
def w7_shortest (x2 : Int32) (x3 : Int32) (S : MS) (V1 : MS) (Q : Int32 → MS → Prop) : Prop :=
  w1_sideOf x3 V1 (fun r1 => ((0 ≤ r1 → w7_shortest_b17 x2 x3 r1 (0 : Int32) S V1 Q) ∧ (¬ 0 ≤ r1 → Q (0 : Int32) S)))
set_option maxHeartbeats 4000000 in
set_option maxRecDepth 100000 in
theorem c7_shortest (l : Launch) (D : va_G) (cy : Nat → ClassId)  (o : Nat) (q : Nat → Nat) (o1 : Nat) (q1 : Nat → Nat) (x2 : Int32) (x3 : Int32) (S : MS) (V1 : MS) (Q : Int32 → MS → Prop) (h : w7_shortest x2 x3 S V1 Q) : MetI l yX7_shortest wsX7_shortest ({ frames := 12, cells := 0, slots := 0, locals := 315 } : Room) D cy nestWs (fun z : MS × MS => (w7 o q cy z.1 ++ w1 o1 q1 cy z.2 : va_W)) [.ref o, .ref o1, .int x2, .int x3] (S, V1) (fun r z => z.2 = V1 ∧ Q r z.1) := by
  refine MetI.mk RX7 cX7_shortest 6 .int (by decide) rfl nestWs_ok rfl (Nat.le_of_ble_eq_true rfl) ?_
  intro p e s m below meth c A ls C hG hl
  have hl : lv_has ls 6 [(0, .ref o), (1, .ref o1), (2, .int x2), (3, .int x3)] := hl
  have hx := C.1
  have hb := C.2.1
  unfold w7_shortest at h
  refine lv_aload_n hx hb dX7_shortest_0 rfl (lv_at hl 1 rfl) ?_
  refine lv_iload_n hx hb dX7_shortest_1 rfl (lv_at hl 3 rfl) ?_
  refine callVI (As := [.int x3]) (rest := []) C hG (c1_sideOf l D cy o1 q1 x3 V1 _ h) 1 gX7_shortest_X1_sideOf rfl (by decide +kernel) ⟨⟨Nat.le_of_ble_eq_true rfl, Nat.le_of_ble_eq_true rfl⟩, rfl, rfl⟩ rfl rfl (Foc.pq (rv := fun z : MS => (w7 o q cy S ++ w1 o1 q1 cy z : va_W)) C.2.2.2.2.2.2.2.2.1 [2, 3, 4, 5, 6, 7, 8] [0, 1] [0, 1, 2, 3, 4, 5, 6, 7, 8] rfl rfl rfl rfl rfl (by decide) rfl (fun _ => rfl) (fun _ => rfl)) rfl hl.1 rfl (Nat.le_of_ble_eq_true rfl) dX7_shortest_2 ⟨Nat.zero_le _, Nat.zero_le _⟩ (fun r1 u2 H locs h hG => ?_)
  obtain ⟨eu2, h⟩ := h
  have eu2 : u2 = V1 := eu2
  subst u2
  have hG : GW D A s (w7 o q cy S ++ w1 o1 q1 cy V1) H locs := hG
  refine lv_istore (lv' := [(4, .int r1), (0, .ref o), (1, .ref o1), (2, .int x2), (3, .int x3)]) hx hb dX7_shortest_5 hl (by decide) rfl (fun ls hl => ?_)
  refine lv_iload hx hb dX7_shortest_7 (lv_at hl 0 rfl) ?_
  refine lv_if_ge (tgt := 14) hx hb dX7_shortest_9 (by decide) (fun c3 => ?_) (fun c3 => ?_)
  · replace h := h.1 c3
    refine lv_iconst (v := 0) hx hb dX7_shortest_14 (by decide) ?_
    refine lv_istore (lv' := [(5, .int (0 : Int32)), (4, .int r1), (0, .ref o), (1, .ref o1), (2, .int x2), (3, .int x3)]) hx hb dX7_shortest_15 hl (by decide) rfl (fun ls hl => ?_)
    exact b7_shortest_b17 x2 x3 r1 (0 : Int32) S V1 C h hG (lv_sub hl [2, 3, 4, 5, 1, 0] rfl)
  · replace h := h.2 c3
    refine lv_iconst (v := 0) hx hb dX7_shortest_12 (by decide) ?_
    exact retI (w := (fun z : MS × MS => (w7 o q cy z.1 ++ w1 o1 q1 cy z.2 : va_W))) (S := (S, V1)) (Qp := (fun r z => z.2 = V1 ∧ Q r z.1)) C hG ⟨rfl, h⟩ dX7_shortest_13
-- X8_isFigure
def w8_isFigure (x0 : Int32) (Q : Int32 → Prop) : Prop :=
  w8_within x0 (0 : Int32) (5 : Int32) (fun r1 => narrow .boolean (.int r1) = .int r1 ∧ Q r1)
set_option maxHeartbeats 4000000 in
set_option maxRecDepth 100000 in
theorem c8_isFigure (l : Launch) (D : va_G) (cy : Nat → ClassId)  (x0 : Int32) (Q : Int32 → Prop) (h : w8_isFigure x0 Q) : MetI l yX8_isFigure wsX8_isFigure ({ frames := 1, cells := 0, slots := 0, locals := 22 } : Room) D cy nestWs (fun _ : Unit => ([] : va_W)) [.int x0] () (fun r _ => Q r) := by
  refine MetI.mk RX8 cX8_isFigure 1 .boolean (by decide) rfl nestWs_ok rfl (Nat.le_of_ble_eq_true rfl) ?_
  intro p e s m below meth c A ls C hG hl
  have hl : lv_has ls 1 [(0, .int x0)] := hl
  have hx := C.1
  have hb := C.2.1
  unfold w8_isFigure at h
  refine lv_iload_n hx hb dX8_isFigure_0 rfl (lv_at hl 0 rfl) ?_
  refine lv_iconst (v := 0) hx hb dX8_isFigure_1 (by decide) ?_
  refine lv_iconst (v := 5) hx hb dX8_isFigure_2 (by decide) ?_
  refine callSI (As := [.int x0, .int (0 : Int32), .int (5 : Int32)]) (rest := []) C hG (c8_within l D cy x0 (0 : Int32) (5 : Int32) _ h) 3 gX8_isFigure_X8_within rfl (by decide +kernel) ⟨⟨Nat.le_of_ble_eq_true rfl, Nat.le_of_ble_eq_true rfl⟩, rfl, rfl⟩ (Foc.none C.2.2.2.2.2.2.2.2.1) rfl hl.1 rfl (Nat.le_of_ble_eq_true rfl) dX8_isFigure_3 ⟨Nat.zero_le _, Nat.zero_le _⟩ (fun r1 z H locs h hG => ?_)
  exact retZ (w := (fun _ : Unit => ([] : va_W))) (S := ()) C hG ⟨h.1, h.2⟩ dX8_isFigure_6
-- X8_isBox
def w8_isBox (x0 : Int32) (Q : Int32 → Prop) : Prop :=
  w8_within x0 (0 : Int32) (3 : Int32) (fun r1 => narrow .boolean (.int r1) = .int r1 ∧ Q r1)
set_option maxHeartbeats 4000000 in
set_option maxRecDepth 100000 in
theorem c8_isBox (l : Launch) (D : va_G) (cy : Nat → ClassId)  (x0 : Int32) (Q : Int32 → Prop) (h : w8_isBox x0 Q) : MetI l yX8_isBox wsX8_isBox ({ frames := 1, cells := 0, slots := 0, locals := 22 } : Room) D cy nestWs (fun _ : Unit => ([] : va_W)) [.int x0] () (fun r _ => Q r) := by
  refine MetI.mk RX8 cX8_isBox 1 .boolean (by decide) rfl nestWs_ok rfl (Nat.le_of_ble_eq_true rfl) ?_
  intro p e s m below meth c A ls C hG hl
  have hl : lv_has ls 1 [(0, .int x0)] := hl
  have hx := C.1
  have hb := C.2.1
  unfold w8_isBox at h
  refine lv_iload_n hx hb dX8_isBox_0 rfl (lv_at hl 0 rfl) ?_
  refine lv_iconst (v := 0) hx hb dX8_isBox_1 (by decide) ?_
  refine lv_iconst (v := 3) hx hb dX8_isBox_2 (by decide) ?_
  refine callSI (As := [.int x0, .int (0 : Int32), .int (3 : Int32)]) (rest := []) C hG (c8_within l D cy x0 (0 : Int32) (3 : Int32) _ h) 3 gX8_isBox_X8_within rfl (by decide +kernel) ⟨⟨Nat.le_of_ble_eq_true rfl, Nat.le_of_ble_eq_true rfl⟩, rfl, rfl⟩ (Foc.none C.2.2.2.2.2.2.2.2.1) rfl hl.1 rfl (Nat.le_of_ble_eq_true rfl) dX8_isBox_3 ⟨Nat.zero_le _, Nat.zero_le _⟩ (fun r1 z H locs h hG => ?_)
  exact retZ (w := (fun _ : Unit => ([] : va_W))) (S := ()) C hG ⟨h.1, h.2⟩ dX8_isBox_6
-- X8_isRow
def w8_isRow (x0 : Int32) (Q : Int32 → Prop) : Prop :=
  w8_within x0 (0 : Int32) (3 : Int32) (fun r1 => narrow .boolean (.int r1) = .int r1 ∧ Q r1)
set_option maxHeartbeats 4000000 in
set_option maxRecDepth 100000 in
theorem c8_isRow (l : Launch) (D : va_G) (cy : Nat → ClassId)  (x0 : Int32) (Q : Int32 → Prop) (h : w8_isRow x0 Q) : MetI l yX8_isRow wsX8_isRow ({ frames := 1, cells := 0, slots := 0, locals := 22 } : Room) D cy nestWs (fun _ : Unit => ([] : va_W)) [.int x0] () (fun r _ => Q r) := by
  refine MetI.mk RX8 cX8_isRow 1 .boolean (by decide) rfl nestWs_ok rfl (Nat.le_of_ble_eq_true rfl) ?_
  intro p e s m below meth c A ls C hG hl
  have hl : lv_has ls 1 [(0, .int x0)] := hl
  have hx := C.1
  have hb := C.2.1
  unfold w8_isRow at h
  refine lv_iload_n hx hb dX8_isRow_0 rfl (lv_at hl 0 rfl) ?_
  refine lv_iconst (v := 0) hx hb dX8_isRow_1 (by decide) ?_
  refine lv_iconst (v := 3) hx hb dX8_isRow_2 (by decide) ?_
  refine callSI (As := [.int x0, .int (0 : Int32), .int (3 : Int32)]) (rest := []) C hG (c8_within l D cy x0 (0 : Int32) (3 : Int32) _ h) 3 gX8_isRow_X8_within rfl (by decide +kernel) ⟨⟨Nat.le_of_ble_eq_true rfl, Nat.le_of_ble_eq_true rfl⟩, rfl, rfl⟩ (Foc.none C.2.2.2.2.2.2.2.2.1) rfl hl.1 rfl (Nat.le_of_ble_eq_true rfl) dX8_isRow_3 ⟨Nat.zero_le _, Nat.zero_le _⟩ (fun r1 z H locs h hG => ?_)
  exact retZ (w := (fun _ : Unit => ([] : va_W))) (S := ()) C hG ⟨h.1, h.2⟩ dX8_isRow_6
-- X8_isLength
def w8_isLength (x0 : Int32) (Q : Int32 → Prop) : Prop :=
  w8_within x0 (1 : Int32) (5 : Int32) (fun r1 => narrow .boolean (.int r1) = .int r1 ∧ Q r1)
set_option maxHeartbeats 4000000 in
set_option maxRecDepth 100000 in
theorem c8_isLength (l : Launch) (D : va_G) (cy : Nat → ClassId)  (x0 : Int32) (Q : Int32 → Prop) (h : w8_isLength x0 Q) : MetI l yX8_isLength wsX8_isLength ({ frames := 1, cells := 0, slots := 0, locals := 22 } : Room) D cy nestWs (fun _ : Unit => ([] : va_W)) [.int x0] () (fun r _ => Q r) := by
  refine MetI.mk RX8 cX8_isLength 1 .boolean (by decide) rfl nestWs_ok rfl (Nat.le_of_ble_eq_true rfl) ?_
  intro p e s m below meth c A ls C hG hl
  have hl : lv_has ls 1 [(0, .int x0)] := hl
  have hx := C.1
  have hb := C.2.1
  unfold w8_isLength at h
  refine lv_iload_n hx hb dX8_isLength_0 rfl (lv_at hl 0 rfl) ?_
  refine lv_iconst (v := 1) hx hb dX8_isLength_1 (by decide) ?_
  refine lv_iconst (v := 5) hx hb dX8_isLength_2 (by decide) ?_
  refine callSI (As := [.int x0, .int (1 : Int32), .int (5 : Int32)]) (rest := []) C hG (c8_within l D cy x0 (1 : Int32) (5 : Int32) _ h) 3 gX8_isLength_X8_within rfl (by decide +kernel) ⟨⟨Nat.le_of_ble_eq_true rfl, Nat.le_of_ble_eq_true rfl⟩, rfl, rfl⟩ (Foc.none C.2.2.2.2.2.2.2.2.1) rfl hl.1 rfl (Nat.le_of_ble_eq_true rfl) dX8_isLength_3 ⟨Nat.zero_le _, Nat.zero_le _⟩ (fun r1 z H locs h hG => ?_)
  exact retZ (w := (fun _ : Unit => ([] : va_W))) (S := ()) C hG ⟨h.1, h.2⟩ dX8_isLength_6
-- X8_isQuarter
def w8_isQuarter (x0 : Int32) (Q : Int32 → Prop) : Prop :=
  w8_within x0 (0 : Int32) (3 : Int32) (fun r1 => narrow .boolean (.int r1) = .int r1 ∧ Q r1)
set_option maxHeartbeats 4000000 in
set_option maxRecDepth 100000 in
theorem c8_isQuarter (l : Launch) (D : va_G) (cy : Nat → ClassId)  (x0 : Int32) (Q : Int32 → Prop) (h : w8_isQuarter x0 Q) : MetI l yX8_isQuarter wsX8_isQuarter ({ frames := 1, cells := 0, slots := 0, locals := 22 } : Room) D cy nestWs (fun _ : Unit => ([] : va_W)) [.int x0] () (fun r _ => Q r) := by
  refine MetI.mk RX8 cX8_isQuarter 1 .boolean (by decide) rfl nestWs_ok rfl (Nat.le_of_ble_eq_true rfl) ?_
  intro p e s m below meth c A ls C hG hl
  have hl : lv_has ls 1 [(0, .int x0)] := hl
  have hx := C.1
  have hb := C.2.1
  unfold w8_isQuarter at h
  refine lv_iload_n hx hb dX8_isQuarter_0 rfl (lv_at hl 0 rfl) ?_
  refine lv_iconst (v := 0) hx hb dX8_isQuarter_1 (by decide) ?_
  refine lv_iconst (v := 3) hx hb dX8_isQuarter_2 (by decide) ?_
  refine callSI (As := [.int x0, .int (0 : Int32), .int (3 : Int32)]) (rest := []) C hG (c8_within l D cy x0 (0 : Int32) (3 : Int32) _ h) 3 gX8_isQuarter_X8_within rfl (by decide +kernel) ⟨⟨Nat.le_of_ble_eq_true rfl, Nat.le_of_ble_eq_true rfl⟩, rfl, rfl⟩ (Foc.none C.2.2.2.2.2.2.2.2.1) rfl hl.1 rfl (Nat.le_of_ble_eq_true rfl) dX8_isQuarter_3 ⟨Nat.zero_le _, Nat.zero_le _⟩ (fun r1 z H locs h hG => ?_)
  exact retZ (w := (fun _ : Unit => ([] : va_W))) (S := ()) C hG ⟨h.1, h.2⟩ dX8_isQuarter_6
