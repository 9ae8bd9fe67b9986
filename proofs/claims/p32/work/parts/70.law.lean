/-! THE CLAIM OUT OF ONE WALK OF THE LAW'S BODY. Your part is whole_start (and what it stands on); all else here is the same for every law, but numbers. -/
def R_law : String := "PaperBodiesLaw"
def lw_P (b : Addr) (xs : List Int32) (args : Array Value) (s : State) : Prop := args = #[.ref b] ∧ s.IntsAt b xs ∧ xs.length ≤ 3072 ∧ (Jvm.Cond.and given_1 narrow_1).before args s = true
def lw_Q (_ : Array Value) (s : State) (o : Outcome) (t : State) : Prop := o = .returned (some (.int 1)) ∧ Framed s o t [] 600000 7302250
def lw_Z (below : List Frame) (a : Array Value) (s : State) : State → Prop := fun t => ∃ o, t.status = .running ∧ Ended t below o ∧ lw_Q a s o t
/-- the law's own end, with 1 on the stack, nothing written that was there before, its room as the claim has it -/
theorem lw_ret {p : Program} {l : Launch} {e : Env} {s : State} {m : MethodId} {below : List Frame} {meth : Method} {c : Code} {b : Nat} (hx : p.tables.exec = Jvm.exec) (hb : c.code = code) (hr : meth.sig.returnType = ret) (hlocks : meth.locks = false) {pc : Nat} {H : Heap} {ls : Array Slot} (hdg : decode code pc = .ok (.ireturn, 1)) : W p l e room_1 s m #[Value.ref b] below meth c H [] 600000 7302250 (lw_Z below #[Value.ref b] s) (F0 m pc ls [.int 1]) := by
  intro T hT X
  obtain ⟨fs, hret, hrun, hended, hW, hframe⟩ := X.leave (v := some (.int 1)) (hlocks := hlocks) (fun h => by rw [hr] at h; cases h)
  have hmeth' : T.vm.method? m = some meth := X.method'
  refine ⟨T.setFrames fs, ?_, .returned (some (.int 1)), hrun, hended, rfl, ⟨_, rfl⟩, hW, hframe⟩
  jvm_step X.here [X.here.top, hx, hb, hdg, hmeth', hr, ret, narrow_b1]
  (try refine ⟨rfl, ?_⟩); (try refine ⟨rfl, ?_⟩)
  first | (intro acts; rw [hret _ acts rfl rfl rfl]) | rw [hret _ _ rfl rfl rfl]
  exact Steps.refl _
/-- what holds at the law's entry: the machine, the code, the tables' words (any of lw_tbl by 'hts w (by decide +kernel)'), the script of L ints xs at the cell b, what the Statement gives of the start (any of its parts by flat_of_before) -/
def lw_At (p : Program) (s : State) (m : MethodId) (meth : Method) (c : Code) (b L : Nat) (xs : Nat → Int32) : Prop :=
  p.tables.exec = Jvm.exec ∧ c.code = code ∧ meth.sig.returnType = ret ∧ c.maxLocals = 4 ∧ s.vm.findClass R_law = some m.cls ∧ (∀ w ∈ lw_tbl, w.before #[Value.ref b] s = true) ∧ va_X b L xs s s.heap ∧ b < s.heap.size ∧ meth.locks = false ∧ (Jvm.Cond.and given_1 narrow_1).before #[Value.ref b] s = true
theorem foLx {D : va_G} {A : Nat → Prop} {s : State} {cy : Nat → ClassId} {o om : Nat} {qp oa qm : Nat → Nat} {qa : Nat → Nat → Nat} {Z : MS} {X : Nat → MS} {S : MS} (hA : ∀ q : Nat, s.heap.size ≤ q → A q) : Foc D A s (wP o qp oa qa cy Z X ++ w9 om qm cy S) (fun z : MS × (Nat → MS) => wP o qp oa qa cy z.1 z.2) (Z, X) (fun z => wP o qp oa qa cy z.1 z.2 ++ w9 om qm cy S) := Foc.perm hA (wr := w9 om qm cy S) (List.Perm.refl _) (fun _ => List.Perm.refl _)
theorem foLm {D : va_G} {A : Nat → Prop} {s : State} {cy : Nat → ClassId} {o om : Nat} {qp oa qm : Nat → Nat} {qa : Nat → Nat → Nat} {Z : MS} {X : Nat → MS} {S : MS} (hA : ∀ q : Nat, s.heap.size ≤ q → A q) : Foc D A s (wP o qp oa qa cy Z X ++ w9 om qm cy S) (w9 om qm cy) S (fun S1 => wP o qp oa qa cy Z X ++ w9 om qm cy S1) := Foc.perm hA (wr := wP o qp oa qa cy Z X) List.perm_append_comm (fun _ => List.perm_append_comm)
theorem kL_13 : Cond.constantLong RL 13 (4294967295) ∈ wsL_law := mw_805
def wL_c0 (xs : Nat → Int32) (K : Int32 → MS → (Nat → MS) → MS → Prop) (x3 : Int32) (Z : MS) (X : Nat → MS) (S : MS) : Prop :=
  w8_figure (xs (x3 + (1 : Int32)).toNatClampNeg) (((xs (x3 + (2 : Int32)).toNatClampNeg).toInt64 <<< ((32 : Int32).toInt64 &&& 63)) ||| ((xs (x3 + (3 : Int32)).toNatClampNeg).toInt64 &&& (4294967295 : Int64))) Z X (fun r1 X3 => w9_figure (xs (x3 + (1 : Int32)).toNatClampNeg) (((xs (x3 + (2 : Int32)).toNatClampNeg).toInt64 <<< ((32 : Int32).toInt64 &&& 63)) ||| ((xs (x3 + (3 : Int32)).toNatClampNeg).toInt64 &&& (4294967295 : Int64))) S (fun r4 S5 => ∀ y6 : Int32, y6 = x3 + 6 → K y6 Z X3 S5))
set_option maxHeartbeats 4000000 in
set_option maxRecDepth 100000 in
theorem bL_c0 {p : Program} {l : Launch} {e : Env} {s : State} {m : MethodId} {below : List Frame} {meth : Method} {c : Code} {D : va_G} {cy : Nat → ClassId} {o om : Nat} {qp oa qm : Nat → Nat} {qa : Nat → Nat → Nat} {b L : Nat} {xs : Nat → Int32} (C : Cx p s m #[Value.ref b] meth c cL_law 4 (some .boolean) wsL_law RL D cy nestWs (fun q : Nat => s.heap.size ≤ q)) (hX : va_X b L xs s s.heap) (hbl : b < s.heap.size) {K : Int32 → MS → (Nat → MS) → MS → Prop} (hK : ∀ (x3 : Int32) (Z : MS) (X : Nat → MS) (S : MS) (H : Heap) (locs : List Loc) (ls : Array Slot), K x3 Z X S → GW D (fun q : Nat => s.heap.size ≤ q) s (wP o qp oa qa cy Z X ++ w9 om qm cy S) H locs → lv_has ls 4 [(0, .ref b), (1, .ref o), (2, .ref om), (3, .int x3)] → W p l e room_1 s m #[Value.ref b] below meth c H locs 104 2976 (lw_Z below #[Value.ref b] s) (F0 m 18 ls [])) (x3 : Int32) (hv : (vp_in (x3 + (1 : Int32)) L ∧ vp_in (x3 + (2 : Int32)) L ∧ vp_in (x3 + (3 : Int32)) L ∧ vp_in (x3 + (4 : Int32)) L ∧ vp_in (x3 + (5 : Int32)) L)) (Z : MS) (X : Nat → MS) (S : MS) (h : wL_c0 xs K x3 Z X S) {H : Heap} {locs : List Loc} (hG : GW D (fun q : Nat => s.heap.size ≤ q) s (wP o qp oa qa cy Z X ++ w9 om qm cy S) H locs) {ls : Array Slot} (hl : lv_has ls 4 [(0, .ref b), (1, .ref o), (2, .ref om), (3, .int x3)]) : W p l e room_1 s m #[Value.ref b] below meth c H locs 104 2976 (lw_Z below #[Value.ref b] s) (F0 m 192 ls []) := by
  have hx := C.1
  have hb := C.2.1
  unfold wL_c0 at h
  refine lv_aload_n hx hb dL_law_192 rfl (lv_at hl 1 rfl) ?_
  refine lv_aload_n hx hb dL_law_193 rfl (lv_at hl 0 rfl) ?_
  refine lv_iload_n hx hb dL_law_194 rfl (lv_at hl 3 rfl) ?_
  refine lv_iconst (v := 1) hx hb dL_law_195 (by decide) ?_
  refine lv_iadd hx hb dL_law_196 ?_
  refine va_sld hx hb hX hbl (Nat.not_le.mpr hbl) hG.2.2 hv.1 dL_law_197 ?_
  refine lv_aload_n hx hb dL_law_198 rfl (lv_at hl 0 rfl) ?_
  refine lv_iload_n hx hb dL_law_199 rfl (lv_at hl 3 rfl) ?_
  refine lv_iconst (v := 2) hx hb dL_law_200 (by decide) ?_
  refine lv_iadd hx hb dL_law_201 ?_
  refine va_sld hx hb hX hbl (Nat.not_le.mpr hbl) hG.2.2 hv.2.1 dL_law_202 ?_
  refine lv_i2l hx hb dL_law_203 rfl ?_
  refine lv_bipush (v := 32) hx hb dL_law_204 (by decide) ?_
  refine lv_lshl hx hb dL_law_206 rfl ?_
  refine lv_aload_n hx hb dL_law_207 rfl (lv_at hl 0 rfl) ?_
  refine lv_iload_n hx hb dL_law_208 rfl (lv_at hl 3 rfl) ?_
  refine lv_iconst (v := 3) hx hb dL_law_209 (by decide) ?_
  refine lv_iadd hx hb dL_law_210 ?_
  refine va_sld hx hb hX hbl (Nat.not_le.mpr hbl) hG.2.2 hv.2.2.1 dL_law_211 ?_
  refine lv_i2l hx hb dL_law_212 rfl ?_
  refine lv_ldc2 (v := 4294967295) hx hb C.2.2.2.1 (C.2.2.2.2.1 _ kL_13) dL_law_213 ?_
  refine lv_land hx hb dL_law_216 ?_
  refine lv_lor hx hb dL_law_217 ?_
  refine callVI (As := [.int (xs (x3 + (1 : Int32)).toNatClampNeg), .long (((xs (x3 + (2 : Int32)).toNatClampNeg).toInt64 <<< ((32 : Int32).toInt64 &&& 63)) ||| ((xs (x3 + (3 : Int32)).toNatClampNeg).toInt64 &&& (4294967295 : Int64)))]) (rest := []) C hG (c8_figure l D cy o qp oa qa (xs (x3 + (1 : Int32)).toNatClampNeg) (((xs (x3 + (2 : Int32)).toNatClampNeg).toInt64 <<< ((32 : Int32).toInt64 &&& 63)) ||| ((xs (x3 + (3 : Int32)).toNatClampNeg).toInt64 &&& (4294967295 : Int64))) Z X _ h) 2 gL_law_X8_figure rfl (by decide +kernel) ⟨⟨Nat.le_of_ble_eq_true rfl, Nat.le_of_ble_eq_true rfl⟩, rfl, rfl⟩ rfl rfl (foLx C.2.2.2.2.2.2.2.2.1) rfl hl.1 rfl (Nat.le_of_ble_eq_true rfl) dL_law_218 ⟨Nat.le_of_ble_eq_true rfl, Nat.le_of_ble_eq_true rfl⟩ (fun r1 z H locs h hG => ?_)
  obtain ⟨Z2, X3⟩ := z
  obtain ⟨eZ2, h⟩ := h
  have eZ2 : Z2 = Z := eZ2
  replace h := h
  subst Z2
  have hG : GW D (fun q : Nat => s.heap.size ≤ q) s (wP o qp oa qa cy Z X3 ++ w9 om qm cy S) H locs := hG
  refine lv_pop hx hb dL_law_221 rfl ?_
  refine lv_aload_n hx hb dL_law_222 rfl (lv_at hl 2 rfl) ?_
  refine lv_aload_n hx hb dL_law_223 rfl (lv_at hl 0 rfl) ?_
  refine lv_iload_n hx hb dL_law_224 rfl (lv_at hl 3 rfl) ?_
  refine lv_iconst (v := 1) hx hb dL_law_225 (by decide) ?_
  refine lv_iadd hx hb dL_law_226 ?_
  refine va_sld hx hb hX hbl (Nat.not_le.mpr hbl) hG.2.2 hv.1 dL_law_227 ?_
  refine lv_aload_n hx hb dL_law_228 rfl (lv_at hl 0 rfl) ?_
  refine lv_iload_n hx hb dL_law_229 rfl (lv_at hl 3 rfl) ?_
  refine lv_iconst (v := 2) hx hb dL_law_230 (by decide) ?_
  refine lv_iadd hx hb dL_law_231 ?_
  refine va_sld hx hb hX hbl (Nat.not_le.mpr hbl) hG.2.2 hv.2.1 dL_law_232 ?_
  refine lv_i2l hx hb dL_law_233 rfl ?_
  refine lv_bipush (v := 32) hx hb dL_law_234 (by decide) ?_
  refine lv_lshl hx hb dL_law_236 rfl ?_
  refine lv_aload_n hx hb dL_law_237 rfl (lv_at hl 0 rfl) ?_
  refine lv_iload_n hx hb dL_law_238 rfl (lv_at hl 3 rfl) ?_
  refine lv_iconst (v := 3) hx hb dL_law_239 (by decide) ?_
  refine lv_iadd hx hb dL_law_240 ?_
  refine va_sld hx hb hX hbl (Nat.not_le.mpr hbl) hG.2.2 hv.2.2.1 dL_law_241 ?_
  refine lv_i2l hx hb dL_law_242 rfl ?_
  refine lv_ldc2 (v := 4294967295) hx hb C.2.2.2.1 (C.2.2.2.2.1 _ kL_13) dL_law_243 ?_
  refine lv_land hx hb dL_law_246 ?_
  refine lv_lor hx hb dL_law_247 ?_
  refine callVI (As := [.int (xs (x3 + (1 : Int32)).toNatClampNeg), .long (((xs (x3 + (2 : Int32)).toNatClampNeg).toInt64 <<< ((32 : Int32).toInt64 &&& 63)) ||| ((xs (x3 + (3 : Int32)).toNatClampNeg).toInt64 &&& (4294967295 : Int64)))]) (rest := []) C hG (c9_figure l D cy om qm (xs (x3 + (1 : Int32)).toNatClampNeg) (((xs (x3 + (2 : Int32)).toNatClampNeg).toInt64 <<< ((32 : Int32).toInt64 &&& 63)) ||| ((xs (x3 + (3 : Int32)).toNatClampNeg).toInt64 &&& (4294967295 : Int64))) S _ h) 2 gL_law_X9_figure rfl (by decide +kernel) ⟨⟨Nat.le_of_ble_eq_true rfl, Nat.le_of_ble_eq_true rfl⟩, rfl, rfl⟩ rfl rfl (foLm C.2.2.2.2.2.2.2.2.1) rfl hl.1 rfl (Nat.le_of_ble_eq_true rfl) dL_law_248 ⟨Nat.le_of_ble_eq_true rfl, Nat.le_of_ble_eq_true rfl⟩ (fun r4 S5 H locs h hG => ?_)
  have hG : GW D (fun q : Nat => s.heap.size ≤ q) s (wP o qp oa qa cy Z X3 ++ w9 om qm cy S5) H locs := hG
  refine lv_pop hx hb dL_law_251 rfl ?_
  refine lv_goto (tgt := 1466) hx hb dL_law_252 (by decide) ?_
  obtain ⟨y6, ey6⟩ : ∃ y : Int32, y = x3 + 6 := ⟨_, rfl⟩
  replace h := h y6 ey6
  refine lv_iinc (v := y6) (lv' := [(3, .int y6), (0, .ref b), (1, .ref o), (2, .ref om)]) hx hb dL_law_1466 hl (k := 3) rfl (by rw [ey6]; rfl) (by decide) rfl (fun ls hl => ?_)
  refine lv_goto (tgt := 18) hx hb dL_law_1469 (by decide) ?_
  exact hK y6 Z X3 S5 _ _ _ h hG (lv_sub hl [1, 2, 3, 0] rfl)
def wL_c1 (xs : Nat → Int32) (K : Int32 → MS → (Nat → MS) → MS → Prop) (x3 : Int32) (Z : MS) (X : Nat → MS) (S : MS) : Prop :=
  w8_drop (xs (x3 + (1 : Int32)).toNatClampNeg) Z X (fun r1 Z2 X3 => w9_drop (xs (x3 + (1 : Int32)).toNatClampNeg) S (fun r4 S5 => ∀ y6 : Int32, y6 = x3 + 6 → K y6 Z2 X3 S5))
set_option maxHeartbeats 4000000 in
set_option maxRecDepth 100000 in
theorem bL_c1 {p : Program} {l : Launch} {e : Env} {s : State} {m : MethodId} {below : List Frame} {meth : Method} {c : Code} {D : va_G} {cy : Nat → ClassId} {o om : Nat} {qp oa qm : Nat → Nat} {qa : Nat → Nat → Nat} {b L : Nat} {xs : Nat → Int32} (C : Cx p s m #[Value.ref b] meth c cL_law 4 (some .boolean) wsL_law RL D cy nestWs (fun q : Nat => s.heap.size ≤ q)) (hX : va_X b L xs s s.heap) (hbl : b < s.heap.size) {K : Int32 → MS → (Nat → MS) → MS → Prop} (hK : ∀ (x3 : Int32) (Z : MS) (X : Nat → MS) (S : MS) (H : Heap) (locs : List Loc) (ls : Array Slot), K x3 Z X S → GW D (fun q : Nat => s.heap.size ≤ q) s (wP o qp oa qa cy Z X ++ w9 om qm cy S) H locs → lv_has ls 4 [(0, .ref b), (1, .ref o), (2, .ref om), (3, .int x3)] → W p l e room_1 s m #[Value.ref b] below meth c H locs 104 2976 (lw_Z below #[Value.ref b] s) (F0 m 18 ls [])) (x3 : Int32) (hv : (vp_in (x3 + (1 : Int32)) L ∧ vp_in (x3 + (2 : Int32)) L ∧ vp_in (x3 + (3 : Int32)) L ∧ vp_in (x3 + (4 : Int32)) L ∧ vp_in (x3 + (5 : Int32)) L)) (Z : MS) (X : Nat → MS) (S : MS) (h : wL_c1 xs K x3 Z X S) {H : Heap} {locs : List Loc} (hG : GW D (fun q : Nat => s.heap.size ≤ q) s (wP o qp oa qa cy Z X ++ w9 om qm cy S) H locs) {ls : Array Slot} (hl : lv_has ls 4 [(0, .ref b), (1, .ref o), (2, .ref om), (3, .int x3)]) : W p l e room_1 s m #[Value.ref b] below meth c H locs 104 2976 (lw_Z below #[Value.ref b] s) (F0 m 255 ls []) := by
  have hx := C.1
  have hb := C.2.1
  unfold wL_c1 at h
  refine lv_aload_n hx hb dL_law_255 rfl (lv_at hl 1 rfl) ?_
  refine lv_aload_n hx hb dL_law_256 rfl (lv_at hl 0 rfl) ?_
  refine lv_iload_n hx hb dL_law_257 rfl (lv_at hl 3 rfl) ?_
  refine lv_iconst (v := 1) hx hb dL_law_258 (by decide) ?_
  refine lv_iadd hx hb dL_law_259 ?_
  refine va_sld hx hb hX hbl (Nat.not_le.mpr hbl) hG.2.2 hv.1 dL_law_260 ?_
  refine callVI (As := [.int (xs (x3 + (1 : Int32)).toNatClampNeg)]) (rest := []) C hG (c8_drop l D cy o qp oa qa (xs (x3 + (1 : Int32)).toNatClampNeg) Z X _ h) 1 gL_law_X8_drop rfl (by decide +kernel) ⟨⟨Nat.le_of_ble_eq_true rfl, Nat.le_of_ble_eq_true rfl⟩, rfl, rfl⟩ rfl rfl (foLx C.2.2.2.2.2.2.2.2.1) rfl hl.1 rfl (Nat.le_of_ble_eq_true rfl) dL_law_261 ⟨Nat.le_of_ble_eq_true rfl, Nat.le_of_ble_eq_true rfl⟩ (fun r1 z H locs h hG => ?_)
  obtain ⟨Z2, X3⟩ := z
  replace h := h
  have hG : GW D (fun q : Nat => s.heap.size ≤ q) s (wP o qp oa qa cy Z2 X3 ++ w9 om qm cy S) H locs := hG
  refine lv_pop hx hb dL_law_264 rfl ?_
  refine lv_aload_n hx hb dL_law_265 rfl (lv_at hl 2 rfl) ?_
  refine lv_aload_n hx hb dL_law_266 rfl (lv_at hl 0 rfl) ?_
  refine lv_iload_n hx hb dL_law_267 rfl (lv_at hl 3 rfl) ?_
  refine lv_iconst (v := 1) hx hb dL_law_268 (by decide) ?_
  refine lv_iadd hx hb dL_law_269 ?_
  refine va_sld hx hb hX hbl (Nat.not_le.mpr hbl) hG.2.2 hv.1 dL_law_270 ?_
  refine callVI (As := [.int (xs (x3 + (1 : Int32)).toNatClampNeg)]) (rest := []) C hG (c9_drop l D cy om qm (xs (x3 + (1 : Int32)).toNatClampNeg) S _ h) 1 gL_law_X9_drop rfl (by decide +kernel) ⟨⟨Nat.le_of_ble_eq_true rfl, Nat.le_of_ble_eq_true rfl⟩, rfl, rfl⟩ rfl rfl (foLm C.2.2.2.2.2.2.2.2.1) rfl hl.1 rfl (Nat.le_of_ble_eq_true rfl) dL_law_271 ⟨Nat.le_of_ble_eq_true rfl, Nat.le_of_ble_eq_true rfl⟩ (fun r4 S5 H locs h hG => ?_)
  have hG : GW D (fun q : Nat => s.heap.size ≤ q) s (wP o qp oa qa cy Z2 X3 ++ w9 om qm cy S5) H locs := hG
  refine lv_pop hx hb dL_law_274 rfl ?_
  refine lv_goto (tgt := 1466) hx hb dL_law_275 (by decide) ?_
  obtain ⟨y6, ey6⟩ : ∃ y : Int32, y = x3 + 6 := ⟨_, rfl⟩
  replace h := h y6 ey6
  refine lv_iinc (v := y6) (lv' := [(3, .int y6), (0, .ref b), (1, .ref o), (2, .ref om)]) hx hb dL_law_1466 hl (k := 3) rfl (by rw [ey6]; rfl) (by decide) rfl (fun ls hl => ?_)
  refine lv_goto (tgt := 18) hx hb dL_law_1469 (by decide) ?_
  exact hK y6 Z2 X3 S5 _ _ _ h hG (lv_sub hl [1, 2, 3, 0] rfl)
def wL_c2 (xs : Nat → Int32) (K : Int32 → MS → (Nat → MS) → MS → Prop) (x3 : Int32) (Z : MS) (X : Nat → MS) (S : MS) : Prop :=
  w8_box (xs (x3 + (1 : Int32)).toNatClampNeg) (xs (x3 + (2 : Int32)).toNatClampNeg) (xs (x3 + (3 : Int32)).toNatClampNeg) (xs (x3 + (4 : Int32)).toNatClampNeg) Z X (fun r1 X3 => w9_box (xs (x3 + (1 : Int32)).toNatClampNeg) (xs (x3 + (2 : Int32)).toNatClampNeg) (xs (x3 + (3 : Int32)).toNatClampNeg) (xs (x3 + (4 : Int32)).toNatClampNeg) S (fun r4 S5 => ∀ y6 : Int32, y6 = x3 + 6 → K y6 Z X3 S5))
set_option maxHeartbeats 4000000 in
set_option maxRecDepth 100000 in
theorem bL_c2 {p : Program} {l : Launch} {e : Env} {s : State} {m : MethodId} {below : List Frame} {meth : Method} {c : Code} {D : va_G} {cy : Nat → ClassId} {o om : Nat} {qp oa qm : Nat → Nat} {qa : Nat → Nat → Nat} {b L : Nat} {xs : Nat → Int32} (C : Cx p s m #[Value.ref b] meth c cL_law 4 (some .boolean) wsL_law RL D cy nestWs (fun q : Nat => s.heap.size ≤ q)) (hX : va_X b L xs s s.heap) (hbl : b < s.heap.size) {K : Int32 → MS → (Nat → MS) → MS → Prop} (hK : ∀ (x3 : Int32) (Z : MS) (X : Nat → MS) (S : MS) (H : Heap) (locs : List Loc) (ls : Array Slot), K x3 Z X S → GW D (fun q : Nat => s.heap.size ≤ q) s (wP o qp oa qa cy Z X ++ w9 om qm cy S) H locs → lv_has ls 4 [(0, .ref b), (1, .ref o), (2, .ref om), (3, .int x3)] → W p l e room_1 s m #[Value.ref b] below meth c H locs 104 2976 (lw_Z below #[Value.ref b] s) (F0 m 18 ls [])) (x3 : Int32) (hv : (vp_in (x3 + (1 : Int32)) L ∧ vp_in (x3 + (2 : Int32)) L ∧ vp_in (x3 + (3 : Int32)) L ∧ vp_in (x3 + (4 : Int32)) L ∧ vp_in (x3 + (5 : Int32)) L)) (Z : MS) (X : Nat → MS) (S : MS) (h : wL_c2 xs K x3 Z X S) {H : Heap} {locs : List Loc} (hG : GW D (fun q : Nat => s.heap.size ≤ q) s (wP o qp oa qa cy Z X ++ w9 om qm cy S) H locs) {ls : Array Slot} (hl : lv_has ls 4 [(0, .ref b), (1, .ref o), (2, .ref om), (3, .int x3)]) : W p l e room_1 s m #[Value.ref b] below meth c H locs 104 2976 (lw_Z below #[Value.ref b] s) (F0 m 278 ls []) := by
  have hx := C.1
  have hb := C.2.1
  unfold wL_c2 at h
  refine lv_aload_n hx hb dL_law_278 rfl (lv_at hl 1 rfl) ?_
  refine lv_aload_n hx hb dL_law_279 rfl (lv_at hl 0 rfl) ?_
  refine lv_iload_n hx hb dL_law_280 rfl (lv_at hl 3 rfl) ?_
  refine lv_iconst (v := 1) hx hb dL_law_281 (by decide) ?_
  refine lv_iadd hx hb dL_law_282 ?_
  refine va_sld hx hb hX hbl (Nat.not_le.mpr hbl) hG.2.2 hv.1 dL_law_283 ?_
  refine lv_aload_n hx hb dL_law_284 rfl (lv_at hl 0 rfl) ?_
  refine lv_iload_n hx hb dL_law_285 rfl (lv_at hl 3 rfl) ?_
  refine lv_iconst (v := 2) hx hb dL_law_286 (by decide) ?_
  refine lv_iadd hx hb dL_law_287 ?_
  refine va_sld hx hb hX hbl (Nat.not_le.mpr hbl) hG.2.2 hv.2.1 dL_law_288 ?_
  refine lv_aload_n hx hb dL_law_289 rfl (lv_at hl 0 rfl) ?_
  refine lv_iload_n hx hb dL_law_290 rfl (lv_at hl 3 rfl) ?_
  refine lv_iconst (v := 3) hx hb dL_law_291 (by decide) ?_
  refine lv_iadd hx hb dL_law_292 ?_
  refine va_sld hx hb hX hbl (Nat.not_le.mpr hbl) hG.2.2 hv.2.2.1 dL_law_293 ?_
  refine lv_aload_n hx hb dL_law_294 rfl (lv_at hl 0 rfl) ?_
  refine lv_iload_n hx hb dL_law_295 rfl (lv_at hl 3 rfl) ?_
  refine lv_iconst (v := 4) hx hb dL_law_296 (by decide) ?_
  refine lv_iadd hx hb dL_law_297 ?_
  refine va_sld hx hb hX hbl (Nat.not_le.mpr hbl) hG.2.2 hv.2.2.2.1 dL_law_298 ?_
  refine callVI (As := [.int (xs (x3 + (1 : Int32)).toNatClampNeg), .int (xs (x3 + (2 : Int32)).toNatClampNeg), .int (xs (x3 + (3 : Int32)).toNatClampNeg), .int (xs (x3 + (4 : Int32)).toNatClampNeg)]) (rest := []) C hG (c8_box l D cy o qp oa qa (xs (x3 + (1 : Int32)).toNatClampNeg) (xs (x3 + (2 : Int32)).toNatClampNeg) (xs (x3 + (3 : Int32)).toNatClampNeg) (xs (x3 + (4 : Int32)).toNatClampNeg) Z X _ h) 4 gL_law_X8_box rfl (by decide +kernel) ⟨⟨Nat.le_of_ble_eq_true rfl, Nat.le_of_ble_eq_true rfl⟩, rfl, rfl⟩ rfl rfl (foLx C.2.2.2.2.2.2.2.2.1) rfl hl.1 rfl (Nat.le_of_ble_eq_true rfl) dL_law_299 ⟨Nat.le_of_ble_eq_true rfl, Nat.le_of_ble_eq_true rfl⟩ (fun r1 z H locs h hG => ?_)
  obtain ⟨Z2, X3⟩ := z
  obtain ⟨eZ2, h⟩ := h
  have eZ2 : Z2 = Z := eZ2
  replace h := h
  subst Z2
  have hG : GW D (fun q : Nat => s.heap.size ≤ q) s (wP o qp oa qa cy Z X3 ++ w9 om qm cy S) H locs := hG
  refine lv_pop hx hb dL_law_302 rfl ?_
  refine lv_aload_n hx hb dL_law_303 rfl (lv_at hl 2 rfl) ?_
  refine lv_aload_n hx hb dL_law_304 rfl (lv_at hl 0 rfl) ?_
  refine lv_iload_n hx hb dL_law_305 rfl (lv_at hl 3 rfl) ?_
  refine lv_iconst (v := 1) hx hb dL_law_306 (by decide) ?_
  refine lv_iadd hx hb dL_law_307 ?_
  refine va_sld hx hb hX hbl (Nat.not_le.mpr hbl) hG.2.2 hv.1 dL_law_308 ?_
  refine lv_aload_n hx hb dL_law_309 rfl (lv_at hl 0 rfl) ?_
  refine lv_iload_n hx hb dL_law_310 rfl (lv_at hl 3 rfl) ?_
  refine lv_iconst (v := 2) hx hb dL_law_311 (by decide) ?_
  refine lv_iadd hx hb dL_law_312 ?_
  refine va_sld hx hb hX hbl (Nat.not_le.mpr hbl) hG.2.2 hv.2.1 dL_law_313 ?_
  refine lv_aload_n hx hb dL_law_314 rfl (lv_at hl 0 rfl) ?_
  refine lv_iload_n hx hb dL_law_315 rfl (lv_at hl 3 rfl) ?_
  refine lv_iconst (v := 3) hx hb dL_law_316 (by decide) ?_
  refine lv_iadd hx hb dL_law_317 ?_
  refine va_sld hx hb hX hbl (Nat.not_le.mpr hbl) hG.2.2 hv.2.2.1 dL_law_318 ?_
  refine lv_aload_n hx hb dL_law_319 rfl (lv_at hl 0 rfl) ?_
  refine lv_iload_n hx hb dL_law_320 rfl (lv_at hl 3 rfl) ?_
  refine lv_iconst (v := 4) hx hb dL_law_321 (by decide) ?_
  refine lv_iadd hx hb dL_law_322 ?_
  refine va_sld hx hb hX hbl (Nat.not_le.mpr hbl) hG.2.2 hv.2.2.2.1 dL_law_323 ?_
  refine callVI (As := [.int (xs (x3 + (1 : Int32)).toNatClampNeg), .int (xs (x3 + (2 : Int32)).toNatClampNeg), .int (xs (x3 + (3 : Int32)).toNatClampNeg), .int (xs (x3 + (4 : Int32)).toNatClampNeg)]) (rest := []) C hG (c9_box l D cy om qm (xs (x3 + (1 : Int32)).toNatClampNeg) (xs (x3 + (2 : Int32)).toNatClampNeg) (xs (x3 + (3 : Int32)).toNatClampNeg) (xs (x3 + (4 : Int32)).toNatClampNeg) S _ h) 4 gL_law_X9_box rfl (by decide +kernel) ⟨⟨Nat.le_of_ble_eq_true rfl, Nat.le_of_ble_eq_true rfl⟩, rfl, rfl⟩ rfl rfl (foLm C.2.2.2.2.2.2.2.2.1) rfl hl.1 rfl (Nat.le_of_ble_eq_true rfl) dL_law_324 ⟨Nat.le_of_ble_eq_true rfl, Nat.le_of_ble_eq_true rfl⟩ (fun r4 S5 H locs h hG => ?_)
  have hG : GW D (fun q : Nat => s.heap.size ≤ q) s (wP o qp oa qa cy Z X3 ++ w9 om qm cy S5) H locs := hG
  refine lv_pop hx hb dL_law_327 rfl ?_
  refine lv_goto (tgt := 1466) hx hb dL_law_328 (by decide) ?_
  obtain ⟨y6, ey6⟩ : ∃ y : Int32, y = x3 + 6 := ⟨_, rfl⟩
  replace h := h y6 ey6
  refine lv_iinc (v := y6) (lv' := [(3, .int y6), (0, .ref b), (1, .ref o), (2, .ref om)]) hx hb dL_law_1466 hl (k := 3) rfl (by rw [ey6]; rfl) (by decide) rfl (fun ls hl => ?_)
  refine lv_goto (tgt := 18) hx hb dL_law_1469 (by decide) ?_
  exact hK y6 Z X3 S5 _ _ _ h hG (lv_sub hl [1, 2, 3, 0] rfl)
def wL_c3 (xs : Nat → Int32) (K : Int32 → MS → (Nat → MS) → MS → Prop) (x3 : Int32) (Z : MS) (X : Nat → MS) (S : MS) : Prop :=
  w8_told (xs (x3 + (1 : Int32)).toNatClampNeg) (xs (x3 + (2 : Int32)).toNatClampNeg) Z X (fun r1 Z2 => w9_told (xs (x3 + (1 : Int32)).toNatClampNeg) (xs (x3 + (2 : Int32)).toNatClampNeg) S (fun r4 S5 => ∀ y6 : Int32, y6 = x3 + 6 → K y6 Z2 X S5))
set_option maxHeartbeats 4000000 in
set_option maxRecDepth 100000 in
theorem bL_c3 {p : Program} {l : Launch} {e : Env} {s : State} {m : MethodId} {below : List Frame} {meth : Method} {c : Code} {D : va_G} {cy : Nat → ClassId} {o om : Nat} {qp oa qm : Nat → Nat} {qa : Nat → Nat → Nat} {b L : Nat} {xs : Nat → Int32} (C : Cx p s m #[Value.ref b] meth c cL_law 4 (some .boolean) wsL_law RL D cy nestWs (fun q : Nat => s.heap.size ≤ q)) (hX : va_X b L xs s s.heap) (hbl : b < s.heap.size) {K : Int32 → MS → (Nat → MS) → MS → Prop} (hK : ∀ (x3 : Int32) (Z : MS) (X : Nat → MS) (S : MS) (H : Heap) (locs : List Loc) (ls : Array Slot), K x3 Z X S → GW D (fun q : Nat => s.heap.size ≤ q) s (wP o qp oa qa cy Z X ++ w9 om qm cy S) H locs → lv_has ls 4 [(0, .ref b), (1, .ref o), (2, .ref om), (3, .int x3)] → W p l e room_1 s m #[Value.ref b] below meth c H locs 104 2976 (lw_Z below #[Value.ref b] s) (F0 m 18 ls [])) (x3 : Int32) (hv : (vp_in (x3 + (1 : Int32)) L ∧ vp_in (x3 + (2 : Int32)) L ∧ vp_in (x3 + (3 : Int32)) L ∧ vp_in (x3 + (4 : Int32)) L ∧ vp_in (x3 + (5 : Int32)) L)) (Z : MS) (X : Nat → MS) (S : MS) (h : wL_c3 xs K x3 Z X S) {H : Heap} {locs : List Loc} (hG : GW D (fun q : Nat => s.heap.size ≤ q) s (wP o qp oa qa cy Z X ++ w9 om qm cy S) H locs) {ls : Array Slot} (hl : lv_has ls 4 [(0, .ref b), (1, .ref o), (2, .ref om), (3, .int x3)]) : W p l e room_1 s m #[Value.ref b] below meth c H locs 104 2976 (lw_Z below #[Value.ref b] s) (F0 m 331 ls []) := by
  have hx := C.1
  have hb := C.2.1
  unfold wL_c3 at h
  refine lv_aload_n hx hb dL_law_331 rfl (lv_at hl 1 rfl) ?_
  refine lv_aload_n hx hb dL_law_332 rfl (lv_at hl 0 rfl) ?_
  refine lv_iload_n hx hb dL_law_333 rfl (lv_at hl 3 rfl) ?_
  refine lv_iconst (v := 1) hx hb dL_law_334 (by decide) ?_
  refine lv_iadd hx hb dL_law_335 ?_
  refine va_sld hx hb hX hbl (Nat.not_le.mpr hbl) hG.2.2 hv.1 dL_law_336 ?_
  refine lv_aload_n hx hb dL_law_337 rfl (lv_at hl 0 rfl) ?_
  refine lv_iload_n hx hb dL_law_338 rfl (lv_at hl 3 rfl) ?_
  refine lv_iconst (v := 2) hx hb dL_law_339 (by decide) ?_
  refine lv_iadd hx hb dL_law_340 ?_
  refine va_sld hx hb hX hbl (Nat.not_le.mpr hbl) hG.2.2 hv.2.1 dL_law_341 ?_
  refine callVI (As := [.int (xs (x3 + (1 : Int32)).toNatClampNeg), .int (xs (x3 + (2 : Int32)).toNatClampNeg)]) (rest := []) C hG (c8_told l D cy o qp oa qa (xs (x3 + (1 : Int32)).toNatClampNeg) (xs (x3 + (2 : Int32)).toNatClampNeg) Z X _ h) 2 gL_law_X8_told rfl (by decide +kernel) ⟨⟨Nat.le_of_ble_eq_true rfl, Nat.le_of_ble_eq_true rfl⟩, rfl, rfl⟩ rfl rfl (foLx C.2.2.2.2.2.2.2.2.1) rfl hl.1 rfl (Nat.le_of_ble_eq_true rfl) dL_law_342 ⟨Nat.le_of_ble_eq_true rfl, Nat.le_of_ble_eq_true rfl⟩ (fun r1 z H locs h hG => ?_)
  obtain ⟨Z2, X3⟩ := z
  obtain ⟨eX3, h⟩ := h
  have eX3 : X3 = X := eX3
  replace h := h
  subst X3
  have hG : GW D (fun q : Nat => s.heap.size ≤ q) s (wP o qp oa qa cy Z2 X ++ w9 om qm cy S) H locs := hG
  refine lv_pop hx hb dL_law_345 rfl ?_
  refine lv_aload_n hx hb dL_law_346 rfl (lv_at hl 2 rfl) ?_
  refine lv_aload_n hx hb dL_law_347 rfl (lv_at hl 0 rfl) ?_
  refine lv_iload_n hx hb dL_law_348 rfl (lv_at hl 3 rfl) ?_
  refine lv_iconst (v := 1) hx hb dL_law_349 (by decide) ?_
  refine lv_iadd hx hb dL_law_350 ?_
  refine va_sld hx hb hX hbl (Nat.not_le.mpr hbl) hG.2.2 hv.1 dL_law_351 ?_
  refine lv_aload_n hx hb dL_law_352 rfl (lv_at hl 0 rfl) ?_
  refine lv_iload_n hx hb dL_law_353 rfl (lv_at hl 3 rfl) ?_
  refine lv_iconst (v := 2) hx hb dL_law_354 (by decide) ?_
  refine lv_iadd hx hb dL_law_355 ?_
  refine va_sld hx hb hX hbl (Nat.not_le.mpr hbl) hG.2.2 hv.2.1 dL_law_356 ?_
  refine callVI (As := [.int (xs (x3 + (1 : Int32)).toNatClampNeg), .int (xs (x3 + (2 : Int32)).toNatClampNeg)]) (rest := []) C hG (c9_told l D cy om qm (xs (x3 + (1 : Int32)).toNatClampNeg) (xs (x3 + (2 : Int32)).toNatClampNeg) S _ h) 2 gL_law_X9_told rfl (by decide +kernel) ⟨⟨Nat.le_of_ble_eq_true rfl, Nat.le_of_ble_eq_true rfl⟩, rfl, rfl⟩ rfl rfl (foLm C.2.2.2.2.2.2.2.2.1) rfl hl.1 rfl (Nat.le_of_ble_eq_true rfl) dL_law_357 ⟨Nat.le_of_ble_eq_true rfl, Nat.le_of_ble_eq_true rfl⟩ (fun r4 S5 H locs h hG => ?_)
  have hG : GW D (fun q : Nat => s.heap.size ≤ q) s (wP o qp oa qa cy Z2 X ++ w9 om qm cy S5) H locs := hG
  refine lv_pop hx hb dL_law_360 rfl ?_
  refine lv_goto (tgt := 1466) hx hb dL_law_361 (by decide) ?_
  obtain ⟨y6, ey6⟩ : ∃ y : Int32, y = x3 + 6 := ⟨_, rfl⟩
  replace h := h y6 ey6
  refine lv_iinc (v := y6) (lv' := [(3, .int y6), (0, .ref b), (1, .ref o), (2, .ref om)]) hx hb dL_law_1466 hl (k := 3) rfl (by rw [ey6]; rfl) (by decide) rfl (fun ls hl => ?_)
  refine lv_goto (tgt := 18) hx hb dL_law_1469 (by decide) ?_
  exact hK y6 Z2 X S5 _ _ _ h hG (lv_sub hl [1, 2, 3, 0] rfl)
def wL_c4 (xs : Nat → Int32) (K : Int32 → MS → (Nat → MS) → MS → Prop) (x3 : Int32) (Z : MS) (X : Nat → MS) (S : MS) : Prop :=
  w8_mark (xs (x3 + (1 : Int32)).toNatClampNeg) (xs (x3 + (2 : Int32)).toNatClampNeg) Z X (fun r1 Z2 => w9_mark (xs (x3 + (1 : Int32)).toNatClampNeg) (xs (x3 + (2 : Int32)).toNatClampNeg) S (fun r4 S5 => ∀ y6 : Int32, y6 = x3 + 6 → K y6 Z2 X S5))
set_option maxHeartbeats 4000000 in
set_option maxRecDepth 100000 in
theorem bL_c4 {p : Program} {l : Launch} {e : Env} {s : State} {m : MethodId} {below : List Frame} {meth : Method} {c : Code} {D : va_G} {cy : Nat → ClassId} {o om : Nat} {qp oa qm : Nat → Nat} {qa : Nat → Nat → Nat} {b L : Nat} {xs : Nat → Int32} (C : Cx p s m #[Value.ref b] meth c cL_law 4 (some .boolean) wsL_law RL D cy nestWs (fun q : Nat => s.heap.size ≤ q)) (hX : va_X b L xs s s.heap) (hbl : b < s.heap.size) {K : Int32 → MS → (Nat → MS) → MS → Prop} (hK : ∀ (x3 : Int32) (Z : MS) (X : Nat → MS) (S : MS) (H : Heap) (locs : List Loc) (ls : Array Slot), K x3 Z X S → GW D (fun q : Nat => s.heap.size ≤ q) s (wP o qp oa qa cy Z X ++ w9 om qm cy S) H locs → lv_has ls 4 [(0, .ref b), (1, .ref o), (2, .ref om), (3, .int x3)] → W p l e room_1 s m #[Value.ref b] below meth c H locs 104 2976 (lw_Z below #[Value.ref b] s) (F0 m 18 ls [])) (x3 : Int32) (hv : (vp_in (x3 + (1 : Int32)) L ∧ vp_in (x3 + (2 : Int32)) L ∧ vp_in (x3 + (3 : Int32)) L ∧ vp_in (x3 + (4 : Int32)) L ∧ vp_in (x3 + (5 : Int32)) L)) (Z : MS) (X : Nat → MS) (S : MS) (h : wL_c4 xs K x3 Z X S) {H : Heap} {locs : List Loc} (hG : GW D (fun q : Nat => s.heap.size ≤ q) s (wP o qp oa qa cy Z X ++ w9 om qm cy S) H locs) {ls : Array Slot} (hl : lv_has ls 4 [(0, .ref b), (1, .ref o), (2, .ref om), (3, .int x3)]) : W p l e room_1 s m #[Value.ref b] below meth c H locs 104 2976 (lw_Z below #[Value.ref b] s) (F0 m 364 ls []) := by
  have hx := C.1
  have hb := C.2.1
  unfold wL_c4 at h
  refine lv_aload_n hx hb dL_law_364 rfl (lv_at hl 1 rfl) ?_
  refine lv_aload_n hx hb dL_law_365 rfl (lv_at hl 0 rfl) ?_
  refine lv_iload_n hx hb dL_law_366 rfl (lv_at hl 3 rfl) ?_
  refine lv_iconst (v := 1) hx hb dL_law_367 (by decide) ?_
  refine lv_iadd hx hb dL_law_368 ?_
  refine va_sld hx hb hX hbl (Nat.not_le.mpr hbl) hG.2.2 hv.1 dL_law_369 ?_
  refine lv_aload_n hx hb dL_law_370 rfl (lv_at hl 0 rfl) ?_
  refine lv_iload_n hx hb dL_law_371 rfl (lv_at hl 3 rfl) ?_
  refine lv_iconst (v := 2) hx hb dL_law_372 (by decide) ?_
  refine lv_iadd hx hb dL_law_373 ?_
  refine va_sld hx hb hX hbl (Nat.not_le.mpr hbl) hG.2.2 hv.2.1 dL_law_374 ?_
  refine callVI (As := [.int (xs (x3 + (1 : Int32)).toNatClampNeg), .int (xs (x3 + (2 : Int32)).toNatClampNeg)]) (rest := []) C hG (c8_mark l D cy o qp oa qa (xs (x3 + (1 : Int32)).toNatClampNeg) (xs (x3 + (2 : Int32)).toNatClampNeg) Z X _ h) 2 gL_law_X8_mark rfl (by decide +kernel) ⟨⟨Nat.le_of_ble_eq_true rfl, Nat.le_of_ble_eq_true rfl⟩, rfl, rfl⟩ rfl rfl (foLx C.2.2.2.2.2.2.2.2.1) rfl hl.1 rfl (Nat.le_of_ble_eq_true rfl) dL_law_375 ⟨Nat.le_of_ble_eq_true rfl, Nat.le_of_ble_eq_true rfl⟩ (fun r1 z H locs h hG => ?_)
  obtain ⟨Z2, X3⟩ := z
  obtain ⟨eX3, h⟩ := h
  have eX3 : X3 = X := eX3
  replace h := h
  subst X3
  have hG : GW D (fun q : Nat => s.heap.size ≤ q) s (wP o qp oa qa cy Z2 X ++ w9 om qm cy S) H locs := hG
  refine lv_pop hx hb dL_law_378 rfl ?_
  refine lv_aload_n hx hb dL_law_379 rfl (lv_at hl 2 rfl) ?_
  refine lv_aload_n hx hb dL_law_380 rfl (lv_at hl 0 rfl) ?_
  refine lv_iload_n hx hb dL_law_381 rfl (lv_at hl 3 rfl) ?_
  refine lv_iconst (v := 1) hx hb dL_law_382 (by decide) ?_
  refine lv_iadd hx hb dL_law_383 ?_
  refine va_sld hx hb hX hbl (Nat.not_le.mpr hbl) hG.2.2 hv.1 dL_law_384 ?_
  refine lv_aload_n hx hb dL_law_385 rfl (lv_at hl 0 rfl) ?_
  refine lv_iload_n hx hb dL_law_386 rfl (lv_at hl 3 rfl) ?_
  refine lv_iconst (v := 2) hx hb dL_law_387 (by decide) ?_
  refine lv_iadd hx hb dL_law_388 ?_
  refine va_sld hx hb hX hbl (Nat.not_le.mpr hbl) hG.2.2 hv.2.1 dL_law_389 ?_
  refine callVI (As := [.int (xs (x3 + (1 : Int32)).toNatClampNeg), .int (xs (x3 + (2 : Int32)).toNatClampNeg)]) (rest := []) C hG (c9_mark l D cy om qm (xs (x3 + (1 : Int32)).toNatClampNeg) (xs (x3 + (2 : Int32)).toNatClampNeg) S _ h) 2 gL_law_X9_mark rfl (by decide +kernel) ⟨⟨Nat.le_of_ble_eq_true rfl, Nat.le_of_ble_eq_true rfl⟩, rfl, rfl⟩ rfl rfl (foLm C.2.2.2.2.2.2.2.2.1) rfl hl.1 rfl (Nat.le_of_ble_eq_true rfl) dL_law_390 ⟨Nat.le_of_ble_eq_true rfl, Nat.le_of_ble_eq_true rfl⟩ (fun r4 S5 H locs h hG => ?_)
  have hG : GW D (fun q : Nat => s.heap.size ≤ q) s (wP o qp oa qa cy Z2 X ++ w9 om qm cy S5) H locs := hG
  refine lv_pop hx hb dL_law_393 rfl ?_
  refine lv_goto (tgt := 1466) hx hb dL_law_394 (by decide) ?_
  obtain ⟨y6, ey6⟩ : ∃ y : Int32, y = x3 + 6 := ⟨_, rfl⟩
  replace h := h y6 ey6
  refine lv_iinc (v := y6) (lv' := [(3, .int y6), (0, .ref b), (1, .ref o), (2, .ref om)]) hx hb dL_law_1466 hl (k := 3) rfl (by rw [ey6]; rfl) (by decide) rfl (fun ls hl => ?_)
  refine lv_goto (tgt := 18) hx hb dL_law_1469 (by decide) ?_
  exact hK y6 Z2 X S5 _ _ _ h hG (lv_sub hl [1, 2, 3, 0] rfl)
def wL_c5 (xs : Nat → Int32) (K : Int32 → MS → (Nat → MS) → MS → Prop) (x3 : Int32) (Z : MS) (X : Nat → MS) (S : MS) : Prop :=
  w8_squares (xs (x3 + (1 : Int32)).toNatClampNeg) Z X (fun r1 Z2 => w9_squares (xs (x3 + (1 : Int32)).toNatClampNeg) S (fun r4 S5 => ∀ y6 : Int32, y6 = x3 + 6 → K y6 Z2 X S5))
set_option maxHeartbeats 4000000 in
set_option maxRecDepth 100000 in
theorem bL_c5 {p : Program} {l : Launch} {e : Env} {s : State} {m : MethodId} {below : List Frame} {meth : Method} {c : Code} {D : va_G} {cy : Nat → ClassId} {o om : Nat} {qp oa qm : Nat → Nat} {qa : Nat → Nat → Nat} {b L : Nat} {xs : Nat → Int32} (C : Cx p s m #[Value.ref b] meth c cL_law 4 (some .boolean) wsL_law RL D cy nestWs (fun q : Nat => s.heap.size ≤ q)) (hX : va_X b L xs s s.heap) (hbl : b < s.heap.size) {K : Int32 → MS → (Nat → MS) → MS → Prop} (hK : ∀ (x3 : Int32) (Z : MS) (X : Nat → MS) (S : MS) (H : Heap) (locs : List Loc) (ls : Array Slot), K x3 Z X S → GW D (fun q : Nat => s.heap.size ≤ q) s (wP o qp oa qa cy Z X ++ w9 om qm cy S) H locs → lv_has ls 4 [(0, .ref b), (1, .ref o), (2, .ref om), (3, .int x3)] → W p l e room_1 s m #[Value.ref b] below meth c H locs 104 2976 (lw_Z below #[Value.ref b] s) (F0 m 18 ls [])) (x3 : Int32) (hv : (vp_in (x3 + (1 : Int32)) L ∧ vp_in (x3 + (2 : Int32)) L ∧ vp_in (x3 + (3 : Int32)) L ∧ vp_in (x3 + (4 : Int32)) L ∧ vp_in (x3 + (5 : Int32)) L)) (Z : MS) (X : Nat → MS) (S : MS) (h : wL_c5 xs K x3 Z X S) {H : Heap} {locs : List Loc} (hG : GW D (fun q : Nat => s.heap.size ≤ q) s (wP o qp oa qa cy Z X ++ w9 om qm cy S) H locs) {ls : Array Slot} (hl : lv_has ls 4 [(0, .ref b), (1, .ref o), (2, .ref om), (3, .int x3)]) : W p l e room_1 s m #[Value.ref b] below meth c H locs 104 2976 (lw_Z below #[Value.ref b] s) (F0 m 397 ls []) := by
  have hx := C.1
  have hb := C.2.1
  unfold wL_c5 at h
  refine lv_aload_n hx hb dL_law_397 rfl (lv_at hl 1 rfl) ?_
  refine lv_aload_n hx hb dL_law_398 rfl (lv_at hl 0 rfl) ?_
  refine lv_iload_n hx hb dL_law_399 rfl (lv_at hl 3 rfl) ?_
  refine lv_iconst (v := 1) hx hb dL_law_400 (by decide) ?_
  refine lv_iadd hx hb dL_law_401 ?_
  refine va_sld hx hb hX hbl (Nat.not_le.mpr hbl) hG.2.2 hv.1 dL_law_402 ?_
  refine callVI (As := [.int (xs (x3 + (1 : Int32)).toNatClampNeg)]) (rest := []) C hG (c8_squares l D cy o qp oa qa (xs (x3 + (1 : Int32)).toNatClampNeg) Z X _ h) 1 gL_law_X8_squares rfl (by decide +kernel) ⟨⟨Nat.le_of_ble_eq_true rfl, Nat.le_of_ble_eq_true rfl⟩, rfl, rfl⟩ rfl rfl (foLx C.2.2.2.2.2.2.2.2.1) rfl hl.1 rfl (Nat.le_of_ble_eq_true rfl) dL_law_403 ⟨Nat.le_of_ble_eq_true rfl, Nat.le_of_ble_eq_true rfl⟩ (fun r1 z H locs h hG => ?_)
  obtain ⟨Z2, X3⟩ := z
  obtain ⟨eX3, h⟩ := h
  have eX3 : X3 = X := eX3
  replace h := h
  subst X3
  have hG : GW D (fun q : Nat => s.heap.size ≤ q) s (wP o qp oa qa cy Z2 X ++ w9 om qm cy S) H locs := hG
  refine lv_pop hx hb dL_law_406 rfl ?_
  refine lv_aload_n hx hb dL_law_407 rfl (lv_at hl 2 rfl) ?_
  refine lv_aload_n hx hb dL_law_408 rfl (lv_at hl 0 rfl) ?_
  refine lv_iload_n hx hb dL_law_409 rfl (lv_at hl 3 rfl) ?_
  refine lv_iconst (v := 1) hx hb dL_law_410 (by decide) ?_
  refine lv_iadd hx hb dL_law_411 ?_
  refine va_sld hx hb hX hbl (Nat.not_le.mpr hbl) hG.2.2 hv.1 dL_law_412 ?_
  refine callVI (As := [.int (xs (x3 + (1 : Int32)).toNatClampNeg)]) (rest := []) C hG (c9_squares l D cy om qm (xs (x3 + (1 : Int32)).toNatClampNeg) S _ h) 1 gL_law_X9_squares rfl (by decide +kernel) ⟨⟨Nat.le_of_ble_eq_true rfl, Nat.le_of_ble_eq_true rfl⟩, rfl, rfl⟩ rfl rfl (foLm C.2.2.2.2.2.2.2.2.1) rfl hl.1 rfl (Nat.le_of_ble_eq_true rfl) dL_law_413 ⟨Nat.le_of_ble_eq_true rfl, Nat.le_of_ble_eq_true rfl⟩ (fun r4 S5 H locs h hG => ?_)
  have hG : GW D (fun q : Nat => s.heap.size ≤ q) s (wP o qp oa qa cy Z2 X ++ w9 om qm cy S5) H locs := hG
  refine lv_pop hx hb dL_law_416 rfl ?_
  refine lv_goto (tgt := 1466) hx hb dL_law_417 (by decide) ?_
  obtain ⟨y6, ey6⟩ : ∃ y : Int32, y = x3 + 6 := ⟨_, rfl⟩
  replace h := h y6 ey6
  refine lv_iinc (v := y6) (lv' := [(3, .int y6), (0, .ref b), (1, .ref o), (2, .ref om)]) hx hb dL_law_1466 hl (k := 3) rfl (by rw [ey6]; rfl) (by decide) rfl (fun ls hl => ?_)
  refine lv_goto (tgt := 18) hx hb dL_law_1469 (by decide) ?_
  exact hK y6 Z2 X S5 _ _ _ h hG (lv_sub hl [1, 2, 3, 0] rfl)
def wL_c6 (xs : Nat → Int32) (K : Int32 → MS → (Nat → MS) → MS → Prop) (x3 : Int32) (Z : MS) (X : Nat → MS) (S : MS) : Prop :=
  (((xs (x3 + (2 : Int32)).toNatClampNeg) = 0 → w8_turn (xs (x3 + (1 : Int32)).toNatClampNeg) (0 : Int32) (xs (x3 + (3 : Int32)).toNatClampNeg) Z X (fun r2 Z3 X4 => (((xs (x3 + (2 : Int32)).toNatClampNeg) = 0 → w9_turn (xs (x3 + (1 : Int32)).toNatClampNeg) (0 : Int32) (xs (x3 + (3 : Int32)).toNatClampNeg) S (fun r6 S7 => ∀ y8 : Int32, y8 = x3 + 6 → K y8 Z3 X4 S7)) ∧ (¬ (xs (x3 + (2 : Int32)).toNatClampNeg) = 0 → w9_turn (xs (x3 + (1 : Int32)).toNatClampNeg) (1 : Int32) (xs (x3 + (3 : Int32)).toNatClampNeg) S (fun r9 S10 => ∀ y11 : Int32, y11 = x3 + 6 → K y11 Z3 X4 S10))))) ∧ (¬ (xs (x3 + (2 : Int32)).toNatClampNeg) = 0 → w8_turn (xs (x3 + (1 : Int32)).toNatClampNeg) (1 : Int32) (xs (x3 + (3 : Int32)).toNatClampNeg) Z X (fun r12 Z13 X14 => (((xs (x3 + (2 : Int32)).toNatClampNeg) = 0 → w9_turn (xs (x3 + (1 : Int32)).toNatClampNeg) (0 : Int32) (xs (x3 + (3 : Int32)).toNatClampNeg) S (fun r16 S17 => ∀ y18 : Int32, y18 = x3 + 6 → K y18 Z13 X14 S17)) ∧ (¬ (xs (x3 + (2 : Int32)).toNatClampNeg) = 0 → w9_turn (xs (x3 + (1 : Int32)).toNatClampNeg) (1 : Int32) (xs (x3 + (3 : Int32)).toNatClampNeg) S (fun r19 S20 => ∀ y21 : Int32, y21 = x3 + 6 → K y21 Z13 X14 S20))))))
set_option maxHeartbeats 4000000 in
set_option maxRecDepth 100000 in
theorem bL_c6 {p : Program} {l : Launch} {e : Env} {s : State} {m : MethodId} {below : List Frame} {meth : Method} {c : Code} {D : va_G} {cy : Nat → ClassId} {o om : Nat} {qp oa qm : Nat → Nat} {qa : Nat → Nat → Nat} {b L : Nat} {xs : Nat → Int32} (C : Cx p s m #[Value.ref b] meth c cL_law 4 (some .boolean) wsL_law RL D cy nestWs (fun q : Nat => s.heap.size ≤ q)) (hX : va_X b L xs s s.heap) (hbl : b < s.heap.size) {K : Int32 → MS → (Nat → MS) → MS → Prop} (hK : ∀ (x3 : Int32) (Z : MS) (X : Nat → MS) (S : MS) (H : Heap) (locs : List Loc) (ls : Array Slot), K x3 Z X S → GW D (fun q : Nat => s.heap.size ≤ q) s (wP o qp oa qa cy Z X ++ w9 om qm cy S) H locs → lv_has ls 4 [(0, .ref b), (1, .ref o), (2, .ref om), (3, .int x3)] → W p l e room_1 s m #[Value.ref b] below meth c H locs 104 2976 (lw_Z below #[Value.ref b] s) (F0 m 18 ls [])) (x3 : Int32) (hv : (vp_in (x3 + (1 : Int32)) L ∧ vp_in (x3 + (2 : Int32)) L ∧ vp_in (x3 + (3 : Int32)) L ∧ vp_in (x3 + (4 : Int32)) L ∧ vp_in (x3 + (5 : Int32)) L)) (Z : MS) (X : Nat → MS) (S : MS) (h : wL_c6 xs K x3 Z X S) {H : Heap} {locs : List Loc} (hG : GW D (fun q : Nat => s.heap.size ≤ q) s (wP o qp oa qa cy Z X ++ w9 om qm cy S) H locs) {ls : Array Slot} (hl : lv_has ls 4 [(0, .ref b), (1, .ref o), (2, .ref om), (3, .int x3)]) : W p l e room_1 s m #[Value.ref b] below meth c H locs 104 2976 (lw_Z below #[Value.ref b] s) (F0 m 420 ls []) := by
  have hx := C.1
  have hb := C.2.1
  unfold wL_c6 at h
  refine lv_aload_n hx hb dL_law_420 rfl (lv_at hl 1 rfl) ?_
  refine lv_aload_n hx hb dL_law_421 rfl (lv_at hl 0 rfl) ?_
  refine lv_iload_n hx hb dL_law_422 rfl (lv_at hl 3 rfl) ?_
  refine lv_iconst (v := 1) hx hb dL_law_423 (by decide) ?_
  refine lv_iadd hx hb dL_law_424 ?_
  refine va_sld hx hb hX hbl (Nat.not_le.mpr hbl) hG.2.2 hv.1 dL_law_425 ?_
  refine lv_aload_n hx hb dL_law_426 rfl (lv_at hl 0 rfl) ?_
  refine lv_iload_n hx hb dL_law_427 rfl (lv_at hl 3 rfl) ?_
  refine lv_iconst (v := 2) hx hb dL_law_428 (by decide) ?_
  refine lv_iadd hx hb dL_law_429 ?_
  refine va_sld hx hb hX hbl (Nat.not_le.mpr hbl) hG.2.2 hv.2.1 dL_law_430 ?_
  refine lv_if_eq (tgt := 438) hx hb dL_law_431 (by decide) (fun c1 => ?_) (fun c1 => ?_)
  · replace h := h.1 c1
    refine lv_iconst (v := 0) hx hb dL_law_438 (by decide) ?_
    refine lv_aload_n hx hb dL_law_439 rfl (lv_at hl 0 rfl) ?_
    refine lv_iload_n hx hb dL_law_440 rfl (lv_at hl 3 rfl) ?_
    refine lv_iconst (v := 3) hx hb dL_law_441 (by decide) ?_
    refine lv_iadd hx hb dL_law_442 ?_
    refine va_sld hx hb hX hbl (Nat.not_le.mpr hbl) hG.2.2 hv.2.2.1 dL_law_443 ?_
    refine callVI (As := [.int (xs (x3 + (1 : Int32)).toNatClampNeg), .int (0 : Int32), .int (xs (x3 + (3 : Int32)).toNatClampNeg)]) (rest := []) C hG (c8_turn l D cy o qp oa qa (xs (x3 + (1 : Int32)).toNatClampNeg) (0 : Int32) (xs (x3 + (3 : Int32)).toNatClampNeg) Z X _ h) 3 gL_law_X8_turn rfl (by decide +kernel) ⟨⟨Nat.le_of_ble_eq_true rfl, Nat.le_of_ble_eq_true rfl⟩, rfl, rfl⟩ rfl rfl (foLx C.2.2.2.2.2.2.2.2.1) rfl hl.1 rfl (Nat.le_of_ble_eq_true rfl) dL_law_444 ⟨Nat.le_of_ble_eq_true rfl, Nat.le_of_ble_eq_true rfl⟩ (fun r2 z H locs h hG => ?_)
    obtain ⟨Z3, X4⟩ := z
    replace h := h
    have hG : GW D (fun q : Nat => s.heap.size ≤ q) s (wP o qp oa qa cy Z3 X4 ++ w9 om qm cy S) H locs := hG
    refine lv_pop hx hb dL_law_447 rfl ?_
    refine lv_aload_n hx hb dL_law_448 rfl (lv_at hl 2 rfl) ?_
    refine lv_aload_n hx hb dL_law_449 rfl (lv_at hl 0 rfl) ?_
    refine lv_iload_n hx hb dL_law_450 rfl (lv_at hl 3 rfl) ?_
    refine lv_iconst (v := 1) hx hb dL_law_451 (by decide) ?_
    refine lv_iadd hx hb dL_law_452 ?_
    refine va_sld hx hb hX hbl (Nat.not_le.mpr hbl) hG.2.2 hv.1 dL_law_453 ?_
    refine lv_aload_n hx hb dL_law_454 rfl (lv_at hl 0 rfl) ?_
    refine lv_iload_n hx hb dL_law_455 rfl (lv_at hl 3 rfl) ?_
    refine lv_iconst (v := 2) hx hb dL_law_456 (by decide) ?_
    refine lv_iadd hx hb dL_law_457 ?_
    refine va_sld hx hb hX hbl (Nat.not_le.mpr hbl) hG.2.2 hv.2.1 dL_law_458 ?_
    refine lv_if_eq (tgt := 466) hx hb dL_law_459 (by decide) (fun c5 => ?_) (fun c5 => ?_)
    · replace h := h.1 c5
      refine lv_iconst (v := 0) hx hb dL_law_466 (by decide) ?_
      refine lv_aload_n hx hb dL_law_467 rfl (lv_at hl 0 rfl) ?_
      refine lv_iload_n hx hb dL_law_468 rfl (lv_at hl 3 rfl) ?_
      refine lv_iconst (v := 3) hx hb dL_law_469 (by decide) ?_
      refine lv_iadd hx hb dL_law_470 ?_
      refine va_sld hx hb hX hbl (Nat.not_le.mpr hbl) hG.2.2 hv.2.2.1 dL_law_471 ?_
      refine callVI (As := [.int (xs (x3 + (1 : Int32)).toNatClampNeg), .int (0 : Int32), .int (xs (x3 + (3 : Int32)).toNatClampNeg)]) (rest := []) C hG (c9_turn l D cy om qm (xs (x3 + (1 : Int32)).toNatClampNeg) (0 : Int32) (xs (x3 + (3 : Int32)).toNatClampNeg) S _ h) 3 gL_law_X9_turn rfl (by decide +kernel) ⟨⟨Nat.le_of_ble_eq_true rfl, Nat.le_of_ble_eq_true rfl⟩, rfl, rfl⟩ rfl rfl (foLm C.2.2.2.2.2.2.2.2.1) rfl hl.1 rfl (Nat.le_of_ble_eq_true rfl) dL_law_472 ⟨Nat.le_of_ble_eq_true rfl, Nat.le_of_ble_eq_true rfl⟩ (fun r6 S7 H locs h hG => ?_)
      have hG : GW D (fun q : Nat => s.heap.size ≤ q) s (wP o qp oa qa cy Z3 X4 ++ w9 om qm cy S7) H locs := hG
      refine lv_pop hx hb dL_law_475 rfl ?_
      refine lv_goto (tgt := 1466) hx hb dL_law_476 (by decide) ?_
      obtain ⟨y8, ey8⟩ : ∃ y : Int32, y = x3 + 6 := ⟨_, rfl⟩
      replace h := h y8 ey8
      refine lv_iinc (v := y8) (lv' := [(3, .int y8), (0, .ref b), (1, .ref o), (2, .ref om)]) hx hb dL_law_1466 hl (k := 3) rfl (by rw [ey8]; rfl) (by decide) rfl (fun ls hl => ?_)
      refine lv_goto (tgt := 18) hx hb dL_law_1469 (by decide) ?_
      exact hK y8 Z3 X4 S7 _ _ _ h hG (lv_sub hl [1, 2, 3, 0] rfl)
    · replace h := h.2 c5
      refine lv_iconst (v := 1) hx hb dL_law_462 (by decide) ?_
      refine lv_goto (tgt := 467) hx hb dL_law_463 (by decide) ?_
      refine lv_aload_n hx hb dL_law_467 rfl (lv_at hl 0 rfl) ?_
      refine lv_iload_n hx hb dL_law_468 rfl (lv_at hl 3 rfl) ?_
      refine lv_iconst (v := 3) hx hb dL_law_469 (by decide) ?_
      refine lv_iadd hx hb dL_law_470 ?_
      refine va_sld hx hb hX hbl (Nat.not_le.mpr hbl) hG.2.2 hv.2.2.1 dL_law_471 ?_
      refine callVI (As := [.int (xs (x3 + (1 : Int32)).toNatClampNeg), .int (1 : Int32), .int (xs (x3 + (3 : Int32)).toNatClampNeg)]) (rest := []) C hG (c9_turn l D cy om qm (xs (x3 + (1 : Int32)).toNatClampNeg) (1 : Int32) (xs (x3 + (3 : Int32)).toNatClampNeg) S _ h) 3 gL_law_X9_turn rfl (by decide +kernel) ⟨⟨Nat.le_of_ble_eq_true rfl, Nat.le_of_ble_eq_true rfl⟩, rfl, rfl⟩ rfl rfl (foLm C.2.2.2.2.2.2.2.2.1) rfl hl.1 rfl (Nat.le_of_ble_eq_true rfl) dL_law_472 ⟨Nat.le_of_ble_eq_true rfl, Nat.le_of_ble_eq_true rfl⟩ (fun r9 S10 H locs h hG => ?_)
      have hG : GW D (fun q : Nat => s.heap.size ≤ q) s (wP o qp oa qa cy Z3 X4 ++ w9 om qm cy S10) H locs := hG
      refine lv_pop hx hb dL_law_475 rfl ?_
      refine lv_goto (tgt := 1466) hx hb dL_law_476 (by decide) ?_
      obtain ⟨y11, ey11⟩ : ∃ y : Int32, y = x3 + 6 := ⟨_, rfl⟩
      replace h := h y11 ey11
      refine lv_iinc (v := y11) (lv' := [(3, .int y11), (0, .ref b), (1, .ref o), (2, .ref om)]) hx hb dL_law_1466 hl (k := 3) rfl (by rw [ey11]; rfl) (by decide) rfl (fun ls hl => ?_)
      refine lv_goto (tgt := 18) hx hb dL_law_1469 (by decide) ?_
      exact hK y11 Z3 X4 S10 _ _ _ h hG (lv_sub hl [1, 2, 3, 0] rfl)
  · replace h := h.2 c1
    refine lv_iconst (v := 1) hx hb dL_law_434 (by decide) ?_
    refine lv_goto (tgt := 439) hx hb dL_law_435 (by decide) ?_
    refine lv_aload_n hx hb dL_law_439 rfl (lv_at hl 0 rfl) ?_
    refine lv_iload_n hx hb dL_law_440 rfl (lv_at hl 3 rfl) ?_
    refine lv_iconst (v := 3) hx hb dL_law_441 (by decide) ?_
    refine lv_iadd hx hb dL_law_442 ?_
    refine va_sld hx hb hX hbl (Nat.not_le.mpr hbl) hG.2.2 hv.2.2.1 dL_law_443 ?_
    refine callVI (As := [.int (xs (x3 + (1 : Int32)).toNatClampNeg), .int (1 : Int32), .int (xs (x3 + (3 : Int32)).toNatClampNeg)]) (rest := []) C hG (c8_turn l D cy o qp oa qa (xs (x3 + (1 : Int32)).toNatClampNeg) (1 : Int32) (xs (x3 + (3 : Int32)).toNatClampNeg) Z X _ h) 3 gL_law_X8_turn rfl (by decide +kernel) ⟨⟨Nat.le_of_ble_eq_true rfl, Nat.le_of_ble_eq_true rfl⟩, rfl, rfl⟩ rfl rfl (foLx C.2.2.2.2.2.2.2.2.1) rfl hl.1 rfl (Nat.le_of_ble_eq_true rfl) dL_law_444 ⟨Nat.le_of_ble_eq_true rfl, Nat.le_of_ble_eq_true rfl⟩ (fun r12 z H locs h hG => ?_)
    obtain ⟨Z13, X14⟩ := z
    replace h := h
    have hG : GW D (fun q : Nat => s.heap.size ≤ q) s (wP o qp oa qa cy Z13 X14 ++ w9 om qm cy S) H locs := hG
    refine lv_pop hx hb dL_law_447 rfl ?_
    refine lv_aload_n hx hb dL_law_448 rfl (lv_at hl 2 rfl) ?_
    refine lv_aload_n hx hb dL_law_449 rfl (lv_at hl 0 rfl) ?_
    refine lv_iload_n hx hb dL_law_450 rfl (lv_at hl 3 rfl) ?_
    refine lv_iconst (v := 1) hx hb dL_law_451 (by decide) ?_
    refine lv_iadd hx hb dL_law_452 ?_
    refine va_sld hx hb hX hbl (Nat.not_le.mpr hbl) hG.2.2 hv.1 dL_law_453 ?_
    refine lv_aload_n hx hb dL_law_454 rfl (lv_at hl 0 rfl) ?_
    refine lv_iload_n hx hb dL_law_455 rfl (lv_at hl 3 rfl) ?_
    refine lv_iconst (v := 2) hx hb dL_law_456 (by decide) ?_
    refine lv_iadd hx hb dL_law_457 ?_
    refine va_sld hx hb hX hbl (Nat.not_le.mpr hbl) hG.2.2 hv.2.1 dL_law_458 ?_
    refine lv_if_eq (tgt := 466) hx hb dL_law_459 (by decide) (fun c15 => ?_) (fun c15 => ?_)
    · replace h := h.1 c15
      refine lv_iconst (v := 0) hx hb dL_law_466 (by decide) ?_
      refine lv_aload_n hx hb dL_law_467 rfl (lv_at hl 0 rfl) ?_
      refine lv_iload_n hx hb dL_law_468 rfl (lv_at hl 3 rfl) ?_
      refine lv_iconst (v := 3) hx hb dL_law_469 (by decide) ?_
      refine lv_iadd hx hb dL_law_470 ?_
      refine va_sld hx hb hX hbl (Nat.not_le.mpr hbl) hG.2.2 hv.2.2.1 dL_law_471 ?_
      refine callVI (As := [.int (xs (x3 + (1 : Int32)).toNatClampNeg), .int (0 : Int32), .int (xs (x3 + (3 : Int32)).toNatClampNeg)]) (rest := []) C hG (c9_turn l D cy om qm (xs (x3 + (1 : Int32)).toNatClampNeg) (0 : Int32) (xs (x3 + (3 : Int32)).toNatClampNeg) S _ h) 3 gL_law_X9_turn rfl (by decide +kernel) ⟨⟨Nat.le_of_ble_eq_true rfl, Nat.le_of_ble_eq_true rfl⟩, rfl, rfl⟩ rfl rfl (foLm C.2.2.2.2.2.2.2.2.1) rfl hl.1 rfl (Nat.le_of_ble_eq_true rfl) dL_law_472 ⟨Nat.le_of_ble_eq_true rfl, Nat.le_of_ble_eq_true rfl⟩ (fun r16 S17 H locs h hG => ?_)
      have hG : GW D (fun q : Nat => s.heap.size ≤ q) s (wP o qp oa qa cy Z13 X14 ++ w9 om qm cy S17) H locs := hG
      refine lv_pop hx hb dL_law_475 rfl ?_
      refine lv_goto (tgt := 1466) hx hb dL_law_476 (by decide) ?_
      obtain ⟨y18, ey18⟩ : ∃ y : Int32, y = x3 + 6 := ⟨_, rfl⟩
      replace h := h y18 ey18
      refine lv_iinc (v := y18) (lv' := [(3, .int y18), (0, .ref b), (1, .ref o), (2, .ref om)]) hx hb dL_law_1466 hl (k := 3) rfl (by rw [ey18]; rfl) (by decide) rfl (fun ls hl => ?_)
      refine lv_goto (tgt := 18) hx hb dL_law_1469 (by decide) ?_
      exact hK y18 Z13 X14 S17 _ _ _ h hG (lv_sub hl [1, 2, 3, 0] rfl)
    · replace h := h.2 c15
      refine lv_iconst (v := 1) hx hb dL_law_462 (by decide) ?_
      refine lv_goto (tgt := 467) hx hb dL_law_463 (by decide) ?_
      refine lv_aload_n hx hb dL_law_467 rfl (lv_at hl 0 rfl) ?_
      refine lv_iload_n hx hb dL_law_468 rfl (lv_at hl 3 rfl) ?_
      refine lv_iconst (v := 3) hx hb dL_law_469 (by decide) ?_
      refine lv_iadd hx hb dL_law_470 ?_
      refine va_sld hx hb hX hbl (Nat.not_le.mpr hbl) hG.2.2 hv.2.2.1 dL_law_471 ?_
      refine callVI (As := [.int (xs (x3 + (1 : Int32)).toNatClampNeg), .int (1 : Int32), .int (xs (x3 + (3 : Int32)).toNatClampNeg)]) (rest := []) C hG (c9_turn l D cy om qm (xs (x3 + (1 : Int32)).toNatClampNeg) (1 : Int32) (xs (x3 + (3 : Int32)).toNatClampNeg) S _ h) 3 gL_law_X9_turn rfl (by decide +kernel) ⟨⟨Nat.le_of_ble_eq_true rfl, Nat.le_of_ble_eq_true rfl⟩, rfl, rfl⟩ rfl rfl (foLm C.2.2.2.2.2.2.2.2.1) rfl hl.1 rfl (Nat.le_of_ble_eq_true rfl) dL_law_472 ⟨Nat.le_of_ble_eq_true rfl, Nat.le_of_ble_eq_true rfl⟩ (fun r19 S20 H locs h hG => ?_)
      have hG : GW D (fun q : Nat => s.heap.size ≤ q) s (wP o qp oa qa cy Z13 X14 ++ w9 om qm cy S20) H locs := hG
      refine lv_pop hx hb dL_law_475 rfl ?_
      refine lv_goto (tgt := 1466) hx hb dL_law_476 (by decide) ?_
      obtain ⟨y21, ey21⟩ : ∃ y : Int32, y = x3 + 6 := ⟨_, rfl⟩
      replace h := h y21 ey21
      refine lv_iinc (v := y21) (lv' := [(3, .int y21), (0, .ref b), (1, .ref o), (2, .ref om)]) hx hb dL_law_1466 hl (k := 3) rfl (by rw [ey21]; rfl) (by decide) rfl (fun ls hl => ?_)
      refine lv_goto (tgt := 18) hx hb dL_law_1469 (by decide) ?_
      exact hK y21 Z13 X14 S20 _ _ _ h hG (lv_sub hl [1, 2, 3, 0] rfl)
def wL_c7 (xs : Nat → Int32) (K : Int32 → MS → (Nat → MS) → MS → Prop) (x3 : Int32) (Z : MS) (X : Nat → MS) (S : MS) : Prop :=
  w8_alike (xs (x3 + (1 : Int32)).toNatClampNeg) (xs (x3 + (2 : Int32)).toNatClampNeg) Z X (fun r1 Z2 => w9_alike (xs (x3 + (1 : Int32)).toNatClampNeg) (xs (x3 + (2 : Int32)).toNatClampNeg) S (fun r4 S5 => ∀ y6 : Int32, y6 = x3 + 6 → K y6 Z2 X S5))
set_option maxHeartbeats 4000000 in
set_option maxRecDepth 100000 in
theorem bL_c7 {p : Program} {l : Launch} {e : Env} {s : State} {m : MethodId} {below : List Frame} {meth : Method} {c : Code} {D : va_G} {cy : Nat → ClassId} {o om : Nat} {qp oa qm : Nat → Nat} {qa : Nat → Nat → Nat} {b L : Nat} {xs : Nat → Int32} (C : Cx p s m #[Value.ref b] meth c cL_law 4 (some .boolean) wsL_law RL D cy nestWs (fun q : Nat => s.heap.size ≤ q)) (hX : va_X b L xs s s.heap) (hbl : b < s.heap.size) {K : Int32 → MS → (Nat → MS) → MS → Prop} (hK : ∀ (x3 : Int32) (Z : MS) (X : Nat → MS) (S : MS) (H : Heap) (locs : List Loc) (ls : Array Slot), K x3 Z X S → GW D (fun q : Nat => s.heap.size ≤ q) s (wP o qp oa qa cy Z X ++ w9 om qm cy S) H locs → lv_has ls 4 [(0, .ref b), (1, .ref o), (2, .ref om), (3, .int x3)] → W p l e room_1 s m #[Value.ref b] below meth c H locs 104 2976 (lw_Z below #[Value.ref b] s) (F0 m 18 ls [])) (x3 : Int32) (hv : (vp_in (x3 + (1 : Int32)) L ∧ vp_in (x3 + (2 : Int32)) L ∧ vp_in (x3 + (3 : Int32)) L ∧ vp_in (x3 + (4 : Int32)) L ∧ vp_in (x3 + (5 : Int32)) L)) (Z : MS) (X : Nat → MS) (S : MS) (h : wL_c7 xs K x3 Z X S) {H : Heap} {locs : List Loc} (hG : GW D (fun q : Nat => s.heap.size ≤ q) s (wP o qp oa qa cy Z X ++ w9 om qm cy S) H locs) {ls : Array Slot} (hl : lv_has ls 4 [(0, .ref b), (1, .ref o), (2, .ref om), (3, .int x3)]) : W p l e room_1 s m #[Value.ref b] below meth c H locs 104 2976 (lw_Z below #[Value.ref b] s) (F0 m 479 ls []) := by
  have hx := C.1
  have hb := C.2.1
  unfold wL_c7 at h
  refine lv_aload_n hx hb dL_law_479 rfl (lv_at hl 1 rfl) ?_
  refine lv_aload_n hx hb dL_law_480 rfl (lv_at hl 0 rfl) ?_
  refine lv_iload_n hx hb dL_law_481 rfl (lv_at hl 3 rfl) ?_
  refine lv_iconst (v := 1) hx hb dL_law_482 (by decide) ?_
  refine lv_iadd hx hb dL_law_483 ?_
  refine va_sld hx hb hX hbl (Nat.not_le.mpr hbl) hG.2.2 hv.1 dL_law_484 ?_
  refine lv_aload_n hx hb dL_law_485 rfl (lv_at hl 0 rfl) ?_
  refine lv_iload_n hx hb dL_law_486 rfl (lv_at hl 3 rfl) ?_
  refine lv_iconst (v := 2) hx hb dL_law_487 (by decide) ?_
  refine lv_iadd hx hb dL_law_488 ?_
  refine va_sld hx hb hX hbl (Nat.not_le.mpr hbl) hG.2.2 hv.2.1 dL_law_489 ?_
  refine callVI (As := [.int (xs (x3 + (1 : Int32)).toNatClampNeg), .int (xs (x3 + (2 : Int32)).toNatClampNeg)]) (rest := []) C hG (c8_alike l D cy o qp oa qa (xs (x3 + (1 : Int32)).toNatClampNeg) (xs (x3 + (2 : Int32)).toNatClampNeg) Z X _ h) 2 gL_law_X8_alike rfl (by decide +kernel) ⟨⟨Nat.le_of_ble_eq_true rfl, Nat.le_of_ble_eq_true rfl⟩, rfl, rfl⟩ rfl rfl (foLx C.2.2.2.2.2.2.2.2.1) rfl hl.1 rfl (Nat.le_of_ble_eq_true rfl) dL_law_490 ⟨Nat.le_of_ble_eq_true rfl, Nat.le_of_ble_eq_true rfl⟩ (fun r1 z H locs h hG => ?_)
  obtain ⟨Z2, X3⟩ := z
  obtain ⟨eX3, h⟩ := h
  have eX3 : X3 = X := eX3
  replace h := h
  subst X3
  have hG : GW D (fun q : Nat => s.heap.size ≤ q) s (wP o qp oa qa cy Z2 X ++ w9 om qm cy S) H locs := hG
  refine lv_pop hx hb dL_law_493 rfl ?_
  refine lv_aload_n hx hb dL_law_494 rfl (lv_at hl 2 rfl) ?_
  refine lv_aload_n hx hb dL_law_495 rfl (lv_at hl 0 rfl) ?_
  refine lv_iload_n hx hb dL_law_496 rfl (lv_at hl 3 rfl) ?_
  refine lv_iconst (v := 1) hx hb dL_law_497 (by decide) ?_
  refine lv_iadd hx hb dL_law_498 ?_
  refine va_sld hx hb hX hbl (Nat.not_le.mpr hbl) hG.2.2 hv.1 dL_law_499 ?_
  refine lv_aload_n hx hb dL_law_500 rfl (lv_at hl 0 rfl) ?_
  refine lv_iload_n hx hb dL_law_501 rfl (lv_at hl 3 rfl) ?_
  refine lv_iconst (v := 2) hx hb dL_law_502 (by decide) ?_
  refine lv_iadd hx hb dL_law_503 ?_
  refine va_sld hx hb hX hbl (Nat.not_le.mpr hbl) hG.2.2 hv.2.1 dL_law_504 ?_
  refine callVI (As := [.int (xs (x3 + (1 : Int32)).toNatClampNeg), .int (xs (x3 + (2 : Int32)).toNatClampNeg)]) (rest := []) C hG (c9_alike l D cy om qm (xs (x3 + (1 : Int32)).toNatClampNeg) (xs (x3 + (2 : Int32)).toNatClampNeg) S _ h) 2 gL_law_X9_alike rfl (by decide +kernel) ⟨⟨Nat.le_of_ble_eq_true rfl, Nat.le_of_ble_eq_true rfl⟩, rfl, rfl⟩ rfl rfl (foLm C.2.2.2.2.2.2.2.2.1) rfl hl.1 rfl (Nat.le_of_ble_eq_true rfl) dL_law_505 ⟨Nat.le_of_ble_eq_true rfl, Nat.le_of_ble_eq_true rfl⟩ (fun r4 S5 H locs h hG => ?_)
  have hG : GW D (fun q : Nat => s.heap.size ≤ q) s (wP o qp oa qa cy Z2 X ++ w9 om qm cy S5) H locs := hG
  refine lv_pop hx hb dL_law_508 rfl ?_
  refine lv_goto (tgt := 1466) hx hb dL_law_509 (by decide) ?_
  obtain ⟨y6, ey6⟩ : ∃ y : Int32, y = x3 + 6 := ⟨_, rfl⟩
  replace h := h y6 ey6
  refine lv_iinc (v := y6) (lv' := [(3, .int y6), (0, .ref b), (1, .ref o), (2, .ref om)]) hx hb dL_law_1466 hl (k := 3) rfl (by rw [ey6]; rfl) (by decide) rfl (fun ls hl => ?_)
  refine lv_goto (tgt := 18) hx hb dL_law_1469 (by decide) ?_
  exact hK y6 Z2 X S5 _ _ _ h hG (lv_sub hl [1, 2, 3, 0] rfl)
def wL_c8 (xs : Nat → Int32) (K : Int32 → MS → (Nat → MS) → MS → Prop) (x3 : Int32) (Z : MS) (X : Nat → MS) (S : MS) : Prop :=
  w8_cell (xs (x3 + (1 : Int32)).toNatClampNeg) (xs (x3 + (2 : Int32)).toNatClampNeg) (xs (x3 + (3 : Int32)).toNatClampNeg) Z X (fun r1 Z2 => w9_cell (xs (x3 + (1 : Int32)).toNatClampNeg) (xs (x3 + (2 : Int32)).toNatClampNeg) (xs (x3 + (3 : Int32)).toNatClampNeg) S (fun r4 S5 => ∀ y6 : Int32, y6 = x3 + 6 → K y6 Z2 X S5))
set_option maxHeartbeats 4000000 in
set_option maxRecDepth 100000 in
theorem bL_c8 {p : Program} {l : Launch} {e : Env} {s : State} {m : MethodId} {below : List Frame} {meth : Method} {c : Code} {D : va_G} {cy : Nat → ClassId} {o om : Nat} {qp oa qm : Nat → Nat} {qa : Nat → Nat → Nat} {b L : Nat} {xs : Nat → Int32} (C : Cx p s m #[Value.ref b] meth c cL_law 4 (some .boolean) wsL_law RL D cy nestWs (fun q : Nat => s.heap.size ≤ q)) (hX : va_X b L xs s s.heap) (hbl : b < s.heap.size) {K : Int32 → MS → (Nat → MS) → MS → Prop} (hK : ∀ (x3 : Int32) (Z : MS) (X : Nat → MS) (S : MS) (H : Heap) (locs : List Loc) (ls : Array Slot), K x3 Z X S → GW D (fun q : Nat => s.heap.size ≤ q) s (wP o qp oa qa cy Z X ++ w9 om qm cy S) H locs → lv_has ls 4 [(0, .ref b), (1, .ref o), (2, .ref om), (3, .int x3)] → W p l e room_1 s m #[Value.ref b] below meth c H locs 104 2976 (lw_Z below #[Value.ref b] s) (F0 m 18 ls [])) (x3 : Int32) (hv : (vp_in (x3 + (1 : Int32)) L ∧ vp_in (x3 + (2 : Int32)) L ∧ vp_in (x3 + (3 : Int32)) L ∧ vp_in (x3 + (4 : Int32)) L ∧ vp_in (x3 + (5 : Int32)) L)) (Z : MS) (X : Nat → MS) (S : MS) (h : wL_c8 xs K x3 Z X S) {H : Heap} {locs : List Loc} (hG : GW D (fun q : Nat => s.heap.size ≤ q) s (wP o qp oa qa cy Z X ++ w9 om qm cy S) H locs) {ls : Array Slot} (hl : lv_has ls 4 [(0, .ref b), (1, .ref o), (2, .ref om), (3, .int x3)]) : W p l e room_1 s m #[Value.ref b] below meth c H locs 104 2976 (lw_Z below #[Value.ref b] s) (F0 m 512 ls []) := by
  have hx := C.1
  have hb := C.2.1
  unfold wL_c8 at h
  refine lv_aload_n hx hb dL_law_512 rfl (lv_at hl 1 rfl) ?_
  refine lv_aload_n hx hb dL_law_513 rfl (lv_at hl 0 rfl) ?_
  refine lv_iload_n hx hb dL_law_514 rfl (lv_at hl 3 rfl) ?_
  refine lv_iconst (v := 1) hx hb dL_law_515 (by decide) ?_
  refine lv_iadd hx hb dL_law_516 ?_
  refine va_sld hx hb hX hbl (Nat.not_le.mpr hbl) hG.2.2 hv.1 dL_law_517 ?_
  refine lv_aload_n hx hb dL_law_518 rfl (lv_at hl 0 rfl) ?_
  refine lv_iload_n hx hb dL_law_519 rfl (lv_at hl 3 rfl) ?_
  refine lv_iconst (v := 2) hx hb dL_law_520 (by decide) ?_
  refine lv_iadd hx hb dL_law_521 ?_
  refine va_sld hx hb hX hbl (Nat.not_le.mpr hbl) hG.2.2 hv.2.1 dL_law_522 ?_
  refine lv_aload_n hx hb dL_law_523 rfl (lv_at hl 0 rfl) ?_
  refine lv_iload_n hx hb dL_law_524 rfl (lv_at hl 3 rfl) ?_
  refine lv_iconst (v := 3) hx hb dL_law_525 (by decide) ?_
  refine lv_iadd hx hb dL_law_526 ?_
  refine va_sld hx hb hX hbl (Nat.not_le.mpr hbl) hG.2.2 hv.2.2.1 dL_law_527 ?_
  refine callVI (As := [.int (xs (x3 + (1 : Int32)).toNatClampNeg), .int (xs (x3 + (2 : Int32)).toNatClampNeg), .int (xs (x3 + (3 : Int32)).toNatClampNeg)]) (rest := []) C hG (c8_cell l D cy o qp oa qa (xs (x3 + (1 : Int32)).toNatClampNeg) (xs (x3 + (2 : Int32)).toNatClampNeg) (xs (x3 + (3 : Int32)).toNatClampNeg) Z X _ h) 3 gL_law_X8_cell rfl (by decide +kernel) ⟨⟨Nat.le_of_ble_eq_true rfl, Nat.le_of_ble_eq_true rfl⟩, rfl, rfl⟩ rfl rfl (foLx C.2.2.2.2.2.2.2.2.1) rfl hl.1 rfl (Nat.le_of_ble_eq_true rfl) dL_law_528 ⟨Nat.le_of_ble_eq_true rfl, Nat.le_of_ble_eq_true rfl⟩ (fun r1 z H locs h hG => ?_)
  obtain ⟨Z2, X3⟩ := z
  obtain ⟨eX3, h⟩ := h
  have eX3 : X3 = X := eX3
  replace h := h
  subst X3
  have hG : GW D (fun q : Nat => s.heap.size ≤ q) s (wP o qp oa qa cy Z2 X ++ w9 om qm cy S) H locs := hG
  refine lv_pop hx hb dL_law_531 rfl ?_
  refine lv_aload_n hx hb dL_law_532 rfl (lv_at hl 2 rfl) ?_
  refine lv_aload_n hx hb dL_law_533 rfl (lv_at hl 0 rfl) ?_
  refine lv_iload_n hx hb dL_law_534 rfl (lv_at hl 3 rfl) ?_
  refine lv_iconst (v := 1) hx hb dL_law_535 (by decide) ?_
  refine lv_iadd hx hb dL_law_536 ?_
  refine va_sld hx hb hX hbl (Nat.not_le.mpr hbl) hG.2.2 hv.1 dL_law_537 ?_
  refine lv_aload_n hx hb dL_law_538 rfl (lv_at hl 0 rfl) ?_
  refine lv_iload_n hx hb dL_law_539 rfl (lv_at hl 3 rfl) ?_
  refine lv_iconst (v := 2) hx hb dL_law_540 (by decide) ?_
  refine lv_iadd hx hb dL_law_541 ?_
  refine va_sld hx hb hX hbl (Nat.not_le.mpr hbl) hG.2.2 hv.2.1 dL_law_542 ?_
  refine lv_aload_n hx hb dL_law_543 rfl (lv_at hl 0 rfl) ?_
  refine lv_iload_n hx hb dL_law_544 rfl (lv_at hl 3 rfl) ?_
  refine lv_iconst (v := 3) hx hb dL_law_545 (by decide) ?_
  refine lv_iadd hx hb dL_law_546 ?_
  refine va_sld hx hb hX hbl (Nat.not_le.mpr hbl) hG.2.2 hv.2.2.1 dL_law_547 ?_
  refine callVI (As := [.int (xs (x3 + (1 : Int32)).toNatClampNeg), .int (xs (x3 + (2 : Int32)).toNatClampNeg), .int (xs (x3 + (3 : Int32)).toNatClampNeg)]) (rest := []) C hG (c9_cell l D cy om qm (xs (x3 + (1 : Int32)).toNatClampNeg) (xs (x3 + (2 : Int32)).toNatClampNeg) (xs (x3 + (3 : Int32)).toNatClampNeg) S _ h) 3 gL_law_X9_cell rfl (by decide +kernel) ⟨⟨Nat.le_of_ble_eq_true rfl, Nat.le_of_ble_eq_true rfl⟩, rfl, rfl⟩ rfl rfl (foLm C.2.2.2.2.2.2.2.2.1) rfl hl.1 rfl (Nat.le_of_ble_eq_true rfl) dL_law_548 ⟨Nat.le_of_ble_eq_true rfl, Nat.le_of_ble_eq_true rfl⟩ (fun r4 S5 H locs h hG => ?_)
  have hG : GW D (fun q : Nat => s.heap.size ≤ q) s (wP o qp oa qa cy Z2 X ++ w9 om qm cy S5) H locs := hG
  refine lv_pop hx hb dL_law_551 rfl ?_
  refine lv_goto (tgt := 1466) hx hb dL_law_552 (by decide) ?_
  obtain ⟨y6, ey6⟩ : ∃ y : Int32, y = x3 + 6 := ⟨_, rfl⟩
  replace h := h y6 ey6
  refine lv_iinc (v := y6) (lv' := [(3, .int y6), (0, .ref b), (1, .ref o), (2, .ref om)]) hx hb dL_law_1466 hl (k := 3) rfl (by rw [ey6]; rfl) (by decide) rfl (fun ls hl => ?_)
  refine lv_goto (tgt := 18) hx hb dL_law_1469 (by decide) ?_
  exact hK y6 Z2 X S5 _ _ _ h hG (lv_sub hl [1, 2, 3, 0] rfl)
def wL_c9 (xs : Nat → Int32) (K : Int32 → MS → (Nat → MS) → MS → Prop) (x3 : Int32) (Z : MS) (X : Nat → MS) (S : MS) : Prop :=
  w8_next (xs (x3 + (1 : Int32)).toNatClampNeg) (xs (x3 + (2 : Int32)).toNatClampNeg) (xs (x3 + (3 : Int32)).toNatClampNeg) (xs (x3 + (4 : Int32)).toNatClampNeg) Z X (fun r1 Z2 => w9_next (xs (x3 + (1 : Int32)).toNatClampNeg) (xs (x3 + (2 : Int32)).toNatClampNeg) (xs (x3 + (3 : Int32)).toNatClampNeg) (xs (x3 + (4 : Int32)).toNatClampNeg) S (fun r4 S5 => ∀ y6 : Int32, y6 = x3 + 6 → K y6 Z2 X S5))
set_option maxHeartbeats 4000000 in
set_option maxRecDepth 100000 in
theorem bL_c9 {p : Program} {l : Launch} {e : Env} {s : State} {m : MethodId} {below : List Frame} {meth : Method} {c : Code} {D : va_G} {cy : Nat → ClassId} {o om : Nat} {qp oa qm : Nat → Nat} {qa : Nat → Nat → Nat} {b L : Nat} {xs : Nat → Int32} (C : Cx p s m #[Value.ref b] meth c cL_law 4 (some .boolean) wsL_law RL D cy nestWs (fun q : Nat => s.heap.size ≤ q)) (hX : va_X b L xs s s.heap) (hbl : b < s.heap.size) {K : Int32 → MS → (Nat → MS) → MS → Prop} (hK : ∀ (x3 : Int32) (Z : MS) (X : Nat → MS) (S : MS) (H : Heap) (locs : List Loc) (ls : Array Slot), K x3 Z X S → GW D (fun q : Nat => s.heap.size ≤ q) s (wP o qp oa qa cy Z X ++ w9 om qm cy S) H locs → lv_has ls 4 [(0, .ref b), (1, .ref o), (2, .ref om), (3, .int x3)] → W p l e room_1 s m #[Value.ref b] below meth c H locs 104 2976 (lw_Z below #[Value.ref b] s) (F0 m 18 ls [])) (x3 : Int32) (hv : (vp_in (x3 + (1 : Int32)) L ∧ vp_in (x3 + (2 : Int32)) L ∧ vp_in (x3 + (3 : Int32)) L ∧ vp_in (x3 + (4 : Int32)) L ∧ vp_in (x3 + (5 : Int32)) L)) (Z : MS) (X : Nat → MS) (S : MS) (h : wL_c9 xs K x3 Z X S) {H : Heap} {locs : List Loc} (hG : GW D (fun q : Nat => s.heap.size ≤ q) s (wP o qp oa qa cy Z X ++ w9 om qm cy S) H locs) {ls : Array Slot} (hl : lv_has ls 4 [(0, .ref b), (1, .ref o), (2, .ref om), (3, .int x3)]) : W p l e room_1 s m #[Value.ref b] below meth c H locs 104 2976 (lw_Z below #[Value.ref b] s) (F0 m 555 ls []) := by
  have hx := C.1
  have hb := C.2.1
  unfold wL_c9 at h
  refine lv_aload_n hx hb dL_law_555 rfl (lv_at hl 1 rfl) ?_
  refine lv_aload_n hx hb dL_law_556 rfl (lv_at hl 0 rfl) ?_
  refine lv_iload_n hx hb dL_law_557 rfl (lv_at hl 3 rfl) ?_
  refine lv_iconst (v := 1) hx hb dL_law_558 (by decide) ?_
  refine lv_iadd hx hb dL_law_559 ?_
  refine va_sld hx hb hX hbl (Nat.not_le.mpr hbl) hG.2.2 hv.1 dL_law_560 ?_
  refine lv_aload_n hx hb dL_law_561 rfl (lv_at hl 0 rfl) ?_
  refine lv_iload_n hx hb dL_law_562 rfl (lv_at hl 3 rfl) ?_
  refine lv_iconst (v := 2) hx hb dL_law_563 (by decide) ?_
  refine lv_iadd hx hb dL_law_564 ?_
  refine va_sld hx hb hX hbl (Nat.not_le.mpr hbl) hG.2.2 hv.2.1 dL_law_565 ?_
  refine lv_aload_n hx hb dL_law_566 rfl (lv_at hl 0 rfl) ?_
  refine lv_iload_n hx hb dL_law_567 rfl (lv_at hl 3 rfl) ?_
  refine lv_iconst (v := 3) hx hb dL_law_568 (by decide) ?_
  refine lv_iadd hx hb dL_law_569 ?_
  refine va_sld hx hb hX hbl (Nat.not_le.mpr hbl) hG.2.2 hv.2.2.1 dL_law_570 ?_
  refine lv_aload_n hx hb dL_law_571 rfl (lv_at hl 0 rfl) ?_
  refine lv_iload_n hx hb dL_law_572 rfl (lv_at hl 3 rfl) ?_
  refine lv_iconst (v := 4) hx hb dL_law_573 (by decide) ?_
  refine lv_iadd hx hb dL_law_574 ?_
  refine va_sld hx hb hX hbl (Nat.not_le.mpr hbl) hG.2.2 hv.2.2.2.1 dL_law_575 ?_
  refine callVI (As := [.int (xs (x3 + (1 : Int32)).toNatClampNeg), .int (xs (x3 + (2 : Int32)).toNatClampNeg), .int (xs (x3 + (3 : Int32)).toNatClampNeg), .int (xs (x3 + (4 : Int32)).toNatClampNeg)]) (rest := []) C hG (c8_next l D cy o qp oa qa (xs (x3 + (1 : Int32)).toNatClampNeg) (xs (x3 + (2 : Int32)).toNatClampNeg) (xs (x3 + (3 : Int32)).toNatClampNeg) (xs (x3 + (4 : Int32)).toNatClampNeg) Z X _ h) 4 gL_law_X8_next rfl (by decide +kernel) ⟨⟨Nat.le_of_ble_eq_true rfl, Nat.le_of_ble_eq_true rfl⟩, rfl, rfl⟩ rfl rfl (foLx C.2.2.2.2.2.2.2.2.1) rfl hl.1 rfl (Nat.le_of_ble_eq_true rfl) dL_law_576 ⟨Nat.le_of_ble_eq_true rfl, Nat.le_of_ble_eq_true rfl⟩ (fun r1 z H locs h hG => ?_)
  obtain ⟨Z2, X3⟩ := z
  obtain ⟨eX3, h⟩ := h
  have eX3 : X3 = X := eX3
  replace h := h
  subst X3
  have hG : GW D (fun q : Nat => s.heap.size ≤ q) s (wP o qp oa qa cy Z2 X ++ w9 om qm cy S) H locs := hG
  refine lv_pop hx hb dL_law_579 rfl ?_
  refine lv_aload_n hx hb dL_law_580 rfl (lv_at hl 2 rfl) ?_
  refine lv_aload_n hx hb dL_law_581 rfl (lv_at hl 0 rfl) ?_
  refine lv_iload_n hx hb dL_law_582 rfl (lv_at hl 3 rfl) ?_
  refine lv_iconst (v := 1) hx hb dL_law_583 (by decide) ?_
  refine lv_iadd hx hb dL_law_584 ?_
  refine va_sld hx hb hX hbl (Nat.not_le.mpr hbl) hG.2.2 hv.1 dL_law_585 ?_
  refine lv_aload_n hx hb dL_law_586 rfl (lv_at hl 0 rfl) ?_
  refine lv_iload_n hx hb dL_law_587 rfl (lv_at hl 3 rfl) ?_
  refine lv_iconst (v := 2) hx hb dL_law_588 (by decide) ?_
  refine lv_iadd hx hb dL_law_589 ?_
  refine va_sld hx hb hX hbl (Nat.not_le.mpr hbl) hG.2.2 hv.2.1 dL_law_590 ?_
  refine lv_aload_n hx hb dL_law_591 rfl (lv_at hl 0 rfl) ?_
  refine lv_iload_n hx hb dL_law_592 rfl (lv_at hl 3 rfl) ?_
  refine lv_iconst (v := 3) hx hb dL_law_593 (by decide) ?_
  refine lv_iadd hx hb dL_law_594 ?_
  refine va_sld hx hb hX hbl (Nat.not_le.mpr hbl) hG.2.2 hv.2.2.1 dL_law_595 ?_
  refine lv_aload_n hx hb dL_law_596 rfl (lv_at hl 0 rfl) ?_
  refine lv_iload_n hx hb dL_law_597 rfl (lv_at hl 3 rfl) ?_
  refine lv_iconst (v := 4) hx hb dL_law_598 (by decide) ?_
  refine lv_iadd hx hb dL_law_599 ?_
  refine va_sld hx hb hX hbl (Nat.not_le.mpr hbl) hG.2.2 hv.2.2.2.1 dL_law_600 ?_
  refine callVI (As := [.int (xs (x3 + (1 : Int32)).toNatClampNeg), .int (xs (x3 + (2 : Int32)).toNatClampNeg), .int (xs (x3 + (3 : Int32)).toNatClampNeg), .int (xs (x3 + (4 : Int32)).toNatClampNeg)]) (rest := []) C hG (c9_next l D cy om qm (xs (x3 + (1 : Int32)).toNatClampNeg) (xs (x3 + (2 : Int32)).toNatClampNeg) (xs (x3 + (3 : Int32)).toNatClampNeg) (xs (x3 + (4 : Int32)).toNatClampNeg) S _ h) 4 gL_law_X9_next rfl (by decide +kernel) ⟨⟨Nat.le_of_ble_eq_true rfl, Nat.le_of_ble_eq_true rfl⟩, rfl, rfl⟩ rfl rfl (foLm C.2.2.2.2.2.2.2.2.1) rfl hl.1 rfl (Nat.le_of_ble_eq_true rfl) dL_law_601 ⟨Nat.le_of_ble_eq_true rfl, Nat.le_of_ble_eq_true rfl⟩ (fun r4 S5 H locs h hG => ?_)
  have hG : GW D (fun q : Nat => s.heap.size ≤ q) s (wP o qp oa qa cy Z2 X ++ w9 om qm cy S5) H locs := hG
  refine lv_pop hx hb dL_law_604 rfl ?_
  refine lv_goto (tgt := 1466) hx hb dL_law_605 (by decide) ?_
  obtain ⟨y6, ey6⟩ : ∃ y : Int32, y = x3 + 6 := ⟨_, rfl⟩
  replace h := h y6 ey6
  refine lv_iinc (v := y6) (lv' := [(3, .int y6), (0, .ref b), (1, .ref o), (2, .ref om)]) hx hb dL_law_1466 hl (k := 3) rfl (by rw [ey6]; rfl) (by decide) rfl (fun ls hl => ?_)
  refine lv_goto (tgt := 18) hx hb dL_law_1469 (by decide) ?_
  exact hK y6 Z2 X S5 _ _ _ h hG (lv_sub hl [1, 2, 3, 0] rfl)
def wL_c10 (xs : Nat → Int32) (K : Int32 → MS → (Nat → MS) → MS → Prop) (x3 : Int32) (Z : MS) (X : Nat → MS) (S : MS) : Prop :=
  w8_folds (xs (x3 + (1 : Int32)).toNatClampNeg) (xs (x3 + (2 : Int32)).toNatClampNeg) (xs (x3 + (3 : Int32)).toNatClampNeg) (xs (x3 + (4 : Int32)).toNatClampNeg) Z X (fun r1 Z2 X3 => w9_folds (xs (x3 + (1 : Int32)).toNatClampNeg) (xs (x3 + (2 : Int32)).toNatClampNeg) (xs (x3 + (3 : Int32)).toNatClampNeg) (xs (x3 + (4 : Int32)).toNatClampNeg) S (fun r4 S5 => ∀ y6 : Int32, y6 = x3 + 6 → K y6 Z2 X3 S5))
set_option maxHeartbeats 4000000 in
set_option maxRecDepth 100000 in
theorem bL_c10 {p : Program} {l : Launch} {e : Env} {s : State} {m : MethodId} {below : List Frame} {meth : Method} {c : Code} {D : va_G} {cy : Nat → ClassId} {o om : Nat} {qp oa qm : Nat → Nat} {qa : Nat → Nat → Nat} {b L : Nat} {xs : Nat → Int32} (C : Cx p s m #[Value.ref b] meth c cL_law 4 (some .boolean) wsL_law RL D cy nestWs (fun q : Nat => s.heap.size ≤ q)) (hX : va_X b L xs s s.heap) (hbl : b < s.heap.size) {K : Int32 → MS → (Nat → MS) → MS → Prop} (hK : ∀ (x3 : Int32) (Z : MS) (X : Nat → MS) (S : MS) (H : Heap) (locs : List Loc) (ls : Array Slot), K x3 Z X S → GW D (fun q : Nat => s.heap.size ≤ q) s (wP o qp oa qa cy Z X ++ w9 om qm cy S) H locs → lv_has ls 4 [(0, .ref b), (1, .ref o), (2, .ref om), (3, .int x3)] → W p l e room_1 s m #[Value.ref b] below meth c H locs 104 2976 (lw_Z below #[Value.ref b] s) (F0 m 18 ls [])) (x3 : Int32) (hv : (vp_in (x3 + (1 : Int32)) L ∧ vp_in (x3 + (2 : Int32)) L ∧ vp_in (x3 + (3 : Int32)) L ∧ vp_in (x3 + (4 : Int32)) L ∧ vp_in (x3 + (5 : Int32)) L)) (Z : MS) (X : Nat → MS) (S : MS) (h : wL_c10 xs K x3 Z X S) {H : Heap} {locs : List Loc} (hG : GW D (fun q : Nat => s.heap.size ≤ q) s (wP o qp oa qa cy Z X ++ w9 om qm cy S) H locs) {ls : Array Slot} (hl : lv_has ls 4 [(0, .ref b), (1, .ref o), (2, .ref om), (3, .int x3)]) : W p l e room_1 s m #[Value.ref b] below meth c H locs 104 2976 (lw_Z below #[Value.ref b] s) (F0 m 608 ls []) := by
  have hx := C.1
  have hb := C.2.1
  unfold wL_c10 at h
  refine lv_aload_n hx hb dL_law_608 rfl (lv_at hl 1 rfl) ?_
  refine lv_aload_n hx hb dL_law_609 rfl (lv_at hl 0 rfl) ?_
  refine lv_iload_n hx hb dL_law_610 rfl (lv_at hl 3 rfl) ?_
  refine lv_iconst (v := 1) hx hb dL_law_611 (by decide) ?_
  refine lv_iadd hx hb dL_law_612 ?_
  refine va_sld hx hb hX hbl (Nat.not_le.mpr hbl) hG.2.2 hv.1 dL_law_613 ?_
  refine lv_aload_n hx hb dL_law_614 rfl (lv_at hl 0 rfl) ?_
  refine lv_iload_n hx hb dL_law_615 rfl (lv_at hl 3 rfl) ?_
  refine lv_iconst (v := 2) hx hb dL_law_616 (by decide) ?_
  refine lv_iadd hx hb dL_law_617 ?_
  refine va_sld hx hb hX hbl (Nat.not_le.mpr hbl) hG.2.2 hv.2.1 dL_law_618 ?_
  refine lv_aload_n hx hb dL_law_619 rfl (lv_at hl 0 rfl) ?_
  refine lv_iload_n hx hb dL_law_620 rfl (lv_at hl 3 rfl) ?_
  refine lv_iconst (v := 3) hx hb dL_law_621 (by decide) ?_
  refine lv_iadd hx hb dL_law_622 ?_
  refine va_sld hx hb hX hbl (Nat.not_le.mpr hbl) hG.2.2 hv.2.2.1 dL_law_623 ?_
  refine lv_aload_n hx hb dL_law_624 rfl (lv_at hl 0 rfl) ?_
  refine lv_iload_n hx hb dL_law_625 rfl (lv_at hl 3 rfl) ?_
  refine lv_iconst (v := 4) hx hb dL_law_626 (by decide) ?_
  refine lv_iadd hx hb dL_law_627 ?_
  refine va_sld hx hb hX hbl (Nat.not_le.mpr hbl) hG.2.2 hv.2.2.2.1 dL_law_628 ?_
  refine callVI (As := [.int (xs (x3 + (1 : Int32)).toNatClampNeg), .int (xs (x3 + (2 : Int32)).toNatClampNeg), .int (xs (x3 + (3 : Int32)).toNatClampNeg), .int (xs (x3 + (4 : Int32)).toNatClampNeg)]) (rest := []) C hG (c8_folds l D cy o qp oa qa (xs (x3 + (1 : Int32)).toNatClampNeg) (xs (x3 + (2 : Int32)).toNatClampNeg) (xs (x3 + (3 : Int32)).toNatClampNeg) (xs (x3 + (4 : Int32)).toNatClampNeg) Z X _ h) 4 gL_law_X8_folds rfl (by decide +kernel) ⟨⟨Nat.le_of_ble_eq_true rfl, Nat.le_of_ble_eq_true rfl⟩, rfl, rfl⟩ rfl rfl (foLx C.2.2.2.2.2.2.2.2.1) rfl hl.1 rfl (Nat.le_of_ble_eq_true rfl) dL_law_629 ⟨Nat.le_of_ble_eq_true rfl, Nat.le_of_ble_eq_true rfl⟩ (fun r1 z H locs h hG => ?_)
  obtain ⟨Z2, X3⟩ := z
  replace h := h
  have hG : GW D (fun q : Nat => s.heap.size ≤ q) s (wP o qp oa qa cy Z2 X3 ++ w9 om qm cy S) H locs := hG
  refine lv_pop hx hb dL_law_632 rfl ?_
  refine lv_aload_n hx hb dL_law_633 rfl (lv_at hl 2 rfl) ?_
  refine lv_aload_n hx hb dL_law_634 rfl (lv_at hl 0 rfl) ?_
  refine lv_iload_n hx hb dL_law_635 rfl (lv_at hl 3 rfl) ?_
  refine lv_iconst (v := 1) hx hb dL_law_636 (by decide) ?_
  refine lv_iadd hx hb dL_law_637 ?_
  refine va_sld hx hb hX hbl (Nat.not_le.mpr hbl) hG.2.2 hv.1 dL_law_638 ?_
  refine lv_aload_n hx hb dL_law_639 rfl (lv_at hl 0 rfl) ?_
  refine lv_iload_n hx hb dL_law_640 rfl (lv_at hl 3 rfl) ?_
  refine lv_iconst (v := 2) hx hb dL_law_641 (by decide) ?_
  refine lv_iadd hx hb dL_law_642 ?_
  refine va_sld hx hb hX hbl (Nat.not_le.mpr hbl) hG.2.2 hv.2.1 dL_law_643 ?_
  refine lv_aload_n hx hb dL_law_644 rfl (lv_at hl 0 rfl) ?_
  refine lv_iload_n hx hb dL_law_645 rfl (lv_at hl 3 rfl) ?_
  refine lv_iconst (v := 3) hx hb dL_law_646 (by decide) ?_
  refine lv_iadd hx hb dL_law_647 ?_
  refine va_sld hx hb hX hbl (Nat.not_le.mpr hbl) hG.2.2 hv.2.2.1 dL_law_648 ?_
  refine lv_aload_n hx hb dL_law_649 rfl (lv_at hl 0 rfl) ?_
  refine lv_iload_n hx hb dL_law_650 rfl (lv_at hl 3 rfl) ?_
  refine lv_iconst (v := 4) hx hb dL_law_651 (by decide) ?_
  refine lv_iadd hx hb dL_law_652 ?_
  refine va_sld hx hb hX hbl (Nat.not_le.mpr hbl) hG.2.2 hv.2.2.2.1 dL_law_653 ?_
  refine callVI (As := [.int (xs (x3 + (1 : Int32)).toNatClampNeg), .int (xs (x3 + (2 : Int32)).toNatClampNeg), .int (xs (x3 + (3 : Int32)).toNatClampNeg), .int (xs (x3 + (4 : Int32)).toNatClampNeg)]) (rest := []) C hG (c9_folds l D cy om qm (xs (x3 + (1 : Int32)).toNatClampNeg) (xs (x3 + (2 : Int32)).toNatClampNeg) (xs (x3 + (3 : Int32)).toNatClampNeg) (xs (x3 + (4 : Int32)).toNatClampNeg) S _ h) 4 gL_law_X9_folds rfl (by decide +kernel) ⟨⟨Nat.le_of_ble_eq_true rfl, Nat.le_of_ble_eq_true rfl⟩, rfl, rfl⟩ rfl rfl (foLm C.2.2.2.2.2.2.2.2.1) rfl hl.1 rfl (Nat.le_of_ble_eq_true rfl) dL_law_654 ⟨Nat.le_of_ble_eq_true rfl, Nat.le_of_ble_eq_true rfl⟩ (fun r4 S5 H locs h hG => ?_)
  have hG : GW D (fun q : Nat => s.heap.size ≤ q) s (wP o qp oa qa cy Z2 X3 ++ w9 om qm cy S5) H locs := hG
  refine lv_pop hx hb dL_law_657 rfl ?_
  refine lv_goto (tgt := 1466) hx hb dL_law_658 (by decide) ?_
  obtain ⟨y6, ey6⟩ : ∃ y : Int32, y = x3 + 6 := ⟨_, rfl⟩
  replace h := h y6 ey6
  refine lv_iinc (v := y6) (lv' := [(3, .int y6), (0, .ref b), (1, .ref o), (2, .ref om)]) hx hb dL_law_1466 hl (k := 3) rfl (by rw [ey6]; rfl) (by decide) rfl (fun ls hl => ?_)
  refine lv_goto (tgt := 18) hx hb dL_law_1469 (by decide) ?_
  exact hK y6 Z2 X3 S5 _ _ _ h hG (lv_sub hl [1, 2, 3, 0] rfl)
def wL_c11 (xs : Nat → Int32) (K : Int32 → MS → (Nat → MS) → MS → Prop) (x3 : Int32) (Z : MS) (X : Nat → MS) (S : MS) : Prop :=
  w8_lies (xs (x3 + (1 : Int32)).toNatClampNeg) (xs (x3 + (2 : Int32)).toNatClampNeg) (xs (x3 + (3 : Int32)).toNatClampNeg) (xs (x3 + (4 : Int32)).toNatClampNeg) (xs (x3 + (5 : Int32)).toNatClampNeg) Z X (fun r1 Z2 X3 => w9_lies (xs (x3 + (1 : Int32)).toNatClampNeg) (xs (x3 + (2 : Int32)).toNatClampNeg) (xs (x3 + (3 : Int32)).toNatClampNeg) (xs (x3 + (4 : Int32)).toNatClampNeg) (xs (x3 + (5 : Int32)).toNatClampNeg) S (fun r4 S5 => ∀ y6 : Int32, y6 = x3 + 6 → K y6 Z2 X3 S5))
set_option maxHeartbeats 4000000 in
set_option maxRecDepth 100000 in
theorem bL_c11 {p : Program} {l : Launch} {e : Env} {s : State} {m : MethodId} {below : List Frame} {meth : Method} {c : Code} {D : va_G} {cy : Nat → ClassId} {o om : Nat} {qp oa qm : Nat → Nat} {qa : Nat → Nat → Nat} {b L : Nat} {xs : Nat → Int32} (C : Cx p s m #[Value.ref b] meth c cL_law 4 (some .boolean) wsL_law RL D cy nestWs (fun q : Nat => s.heap.size ≤ q)) (hX : va_X b L xs s s.heap) (hbl : b < s.heap.size) {K : Int32 → MS → (Nat → MS) → MS → Prop} (hK : ∀ (x3 : Int32) (Z : MS) (X : Nat → MS) (S : MS) (H : Heap) (locs : List Loc) (ls : Array Slot), K x3 Z X S → GW D (fun q : Nat => s.heap.size ≤ q) s (wP o qp oa qa cy Z X ++ w9 om qm cy S) H locs → lv_has ls 4 [(0, .ref b), (1, .ref o), (2, .ref om), (3, .int x3)] → W p l e room_1 s m #[Value.ref b] below meth c H locs 104 2976 (lw_Z below #[Value.ref b] s) (F0 m 18 ls [])) (x3 : Int32) (hv : (vp_in (x3 + (1 : Int32)) L ∧ vp_in (x3 + (2 : Int32)) L ∧ vp_in (x3 + (3 : Int32)) L ∧ vp_in (x3 + (4 : Int32)) L ∧ vp_in (x3 + (5 : Int32)) L)) (Z : MS) (X : Nat → MS) (S : MS) (h : wL_c11 xs K x3 Z X S) {H : Heap} {locs : List Loc} (hG : GW D (fun q : Nat => s.heap.size ≤ q) s (wP o qp oa qa cy Z X ++ w9 om qm cy S) H locs) {ls : Array Slot} (hl : lv_has ls 4 [(0, .ref b), (1, .ref o), (2, .ref om), (3, .int x3)]) : W p l e room_1 s m #[Value.ref b] below meth c H locs 104 2976 (lw_Z below #[Value.ref b] s) (F0 m 661 ls []) := by
  have hx := C.1
  have hb := C.2.1
  unfold wL_c11 at h
  refine lv_aload_n hx hb dL_law_661 rfl (lv_at hl 1 rfl) ?_
  refine lv_aload_n hx hb dL_law_662 rfl (lv_at hl 0 rfl) ?_
  refine lv_iload_n hx hb dL_law_663 rfl (lv_at hl 3 rfl) ?_
  refine lv_iconst (v := 1) hx hb dL_law_664 (by decide) ?_
  refine lv_iadd hx hb dL_law_665 ?_
  refine va_sld hx hb hX hbl (Nat.not_le.mpr hbl) hG.2.2 hv.1 dL_law_666 ?_
  refine lv_aload_n hx hb dL_law_667 rfl (lv_at hl 0 rfl) ?_
  refine lv_iload_n hx hb dL_law_668 rfl (lv_at hl 3 rfl) ?_
  refine lv_iconst (v := 2) hx hb dL_law_669 (by decide) ?_
  refine lv_iadd hx hb dL_law_670 ?_
  refine va_sld hx hb hX hbl (Nat.not_le.mpr hbl) hG.2.2 hv.2.1 dL_law_671 ?_
  refine lv_aload_n hx hb dL_law_672 rfl (lv_at hl 0 rfl) ?_
  refine lv_iload_n hx hb dL_law_673 rfl (lv_at hl 3 rfl) ?_
  refine lv_iconst (v := 3) hx hb dL_law_674 (by decide) ?_
  refine lv_iadd hx hb dL_law_675 ?_
  refine va_sld hx hb hX hbl (Nat.not_le.mpr hbl) hG.2.2 hv.2.2.1 dL_law_676 ?_
  refine lv_aload_n hx hb dL_law_677 rfl (lv_at hl 0 rfl) ?_
  refine lv_iload_n hx hb dL_law_678 rfl (lv_at hl 3 rfl) ?_
  refine lv_iconst (v := 4) hx hb dL_law_679 (by decide) ?_
  refine lv_iadd hx hb dL_law_680 ?_
  refine va_sld hx hb hX hbl (Nat.not_le.mpr hbl) hG.2.2 hv.2.2.2.1 dL_law_681 ?_
  refine lv_aload_n hx hb dL_law_682 rfl (lv_at hl 0 rfl) ?_
  refine lv_iload_n hx hb dL_law_683 rfl (lv_at hl 3 rfl) ?_
  refine lv_iconst (v := 5) hx hb dL_law_684 (by decide) ?_
  refine lv_iadd hx hb dL_law_685 ?_
  refine va_sld hx hb hX hbl (Nat.not_le.mpr hbl) hG.2.2 hv.2.2.2.2 dL_law_686 ?_
  refine callVI (As := [.int (xs (x3 + (1 : Int32)).toNatClampNeg), .int (xs (x3 + (2 : Int32)).toNatClampNeg), .int (xs (x3 + (3 : Int32)).toNatClampNeg), .int (xs (x3 + (4 : Int32)).toNatClampNeg), .int (xs (x3 + (5 : Int32)).toNatClampNeg)]) (rest := []) C hG (c8_lies l D cy o qp oa qa (xs (x3 + (1 : Int32)).toNatClampNeg) (xs (x3 + (2 : Int32)).toNatClampNeg) (xs (x3 + (3 : Int32)).toNatClampNeg) (xs (x3 + (4 : Int32)).toNatClampNeg) (xs (x3 + (5 : Int32)).toNatClampNeg) Z X _ h) 5 gL_law_X8_lies rfl (by decide +kernel) ⟨⟨Nat.le_of_ble_eq_true rfl, Nat.le_of_ble_eq_true rfl⟩, rfl, rfl⟩ rfl rfl (foLx C.2.2.2.2.2.2.2.2.1) rfl hl.1 rfl (Nat.le_of_ble_eq_true rfl) dL_law_687 ⟨Nat.le_of_ble_eq_true rfl, Nat.le_of_ble_eq_true rfl⟩ (fun r1 z H locs h hG => ?_)
  obtain ⟨Z2, X3⟩ := z
  replace h := h
  have hG : GW D (fun q : Nat => s.heap.size ≤ q) s (wP o qp oa qa cy Z2 X3 ++ w9 om qm cy S) H locs := hG
  refine lv_pop hx hb dL_law_690 rfl ?_
  refine lv_aload_n hx hb dL_law_691 rfl (lv_at hl 2 rfl) ?_
  refine lv_aload_n hx hb dL_law_692 rfl (lv_at hl 0 rfl) ?_
  refine lv_iload_n hx hb dL_law_693 rfl (lv_at hl 3 rfl) ?_
  refine lv_iconst (v := 1) hx hb dL_law_694 (by decide) ?_
  refine lv_iadd hx hb dL_law_695 ?_
  refine va_sld hx hb hX hbl (Nat.not_le.mpr hbl) hG.2.2 hv.1 dL_law_696 ?_
  refine lv_aload_n hx hb dL_law_697 rfl (lv_at hl 0 rfl) ?_
  refine lv_iload_n hx hb dL_law_698 rfl (lv_at hl 3 rfl) ?_
  refine lv_iconst (v := 2) hx hb dL_law_699 (by decide) ?_
  refine lv_iadd hx hb dL_law_700 ?_
  refine va_sld hx hb hX hbl (Nat.not_le.mpr hbl) hG.2.2 hv.2.1 dL_law_701 ?_
  refine lv_aload_n hx hb dL_law_702 rfl (lv_at hl 0 rfl) ?_
  refine lv_iload_n hx hb dL_law_703 rfl (lv_at hl 3 rfl) ?_
  refine lv_iconst (v := 3) hx hb dL_law_704 (by decide) ?_
  refine lv_iadd hx hb dL_law_705 ?_
  refine va_sld hx hb hX hbl (Nat.not_le.mpr hbl) hG.2.2 hv.2.2.1 dL_law_706 ?_
  refine lv_aload_n hx hb dL_law_707 rfl (lv_at hl 0 rfl) ?_
  refine lv_iload_n hx hb dL_law_708 rfl (lv_at hl 3 rfl) ?_
  refine lv_iconst (v := 4) hx hb dL_law_709 (by decide) ?_
  refine lv_iadd hx hb dL_law_710 ?_
  refine va_sld hx hb hX hbl (Nat.not_le.mpr hbl) hG.2.2 hv.2.2.2.1 dL_law_711 ?_
  refine lv_aload_n hx hb dL_law_712 rfl (lv_at hl 0 rfl) ?_
  refine lv_iload_n hx hb dL_law_713 rfl (lv_at hl 3 rfl) ?_
  refine lv_iconst (v := 5) hx hb dL_law_714 (by decide) ?_
  refine lv_iadd hx hb dL_law_715 ?_
  refine va_sld hx hb hX hbl (Nat.not_le.mpr hbl) hG.2.2 hv.2.2.2.2 dL_law_716 ?_
  refine callVI (As := [.int (xs (x3 + (1 : Int32)).toNatClampNeg), .int (xs (x3 + (2 : Int32)).toNatClampNeg), .int (xs (x3 + (3 : Int32)).toNatClampNeg), .int (xs (x3 + (4 : Int32)).toNatClampNeg), .int (xs (x3 + (5 : Int32)).toNatClampNeg)]) (rest := []) C hG (c9_lies l D cy om qm (xs (x3 + (1 : Int32)).toNatClampNeg) (xs (x3 + (2 : Int32)).toNatClampNeg) (xs (x3 + (3 : Int32)).toNatClampNeg) (xs (x3 + (4 : Int32)).toNatClampNeg) (xs (x3 + (5 : Int32)).toNatClampNeg) S _ h) 5 gL_law_X9_lies rfl (by decide +kernel) ⟨⟨Nat.le_of_ble_eq_true rfl, Nat.le_of_ble_eq_true rfl⟩, rfl, rfl⟩ rfl rfl (foLm C.2.2.2.2.2.2.2.2.1) rfl hl.1 rfl (Nat.le_of_ble_eq_true rfl) dL_law_717 ⟨Nat.le_of_ble_eq_true rfl, Nat.le_of_ble_eq_true rfl⟩ (fun r4 S5 H locs h hG => ?_)
  have hG : GW D (fun q : Nat => s.heap.size ≤ q) s (wP o qp oa qa cy Z2 X3 ++ w9 om qm cy S5) H locs := hG
  refine lv_pop hx hb dL_law_720 rfl ?_
  refine lv_goto (tgt := 1466) hx hb dL_law_721 (by decide) ?_
  obtain ⟨y6, ey6⟩ : ∃ y : Int32, y = x3 + 6 := ⟨_, rfl⟩
  replace h := h y6 ey6
  refine lv_iinc (v := y6) (lv' := [(3, .int y6), (0, .ref b), (1, .ref o), (2, .ref om)]) hx hb dL_law_1466 hl (k := 3) rfl (by rw [ey6]; rfl) (by decide) rfl (fun ls hl => ?_)
  refine lv_goto (tgt := 18) hx hb dL_law_1469 (by decide) ?_
  exact hK y6 Z2 X3 S5 _ _ _ h hG (lv_sub hl [1, 2, 3, 0] rfl)
def wL_c12 (xs : Nat → Int32) (K : Int32 → MS → (Nat → MS) → MS → Prop) (x3 : Int32) (Z : MS) (X : Nat → MS) (S : MS) : Prop :=
  w8_wholes (xs (x3 + (1 : Int32)).toNatClampNeg) (xs (x3 + (2 : Int32)).toNatClampNeg) Z X (fun r1 Z2 X3 => w9_wholes (xs (x3 + (1 : Int32)).toNatClampNeg) (xs (x3 + (2 : Int32)).toNatClampNeg) S (fun r4 S5 => ∀ y6 : Int32, y6 = x3 + 6 → K y6 Z2 X3 S5))
set_option maxHeartbeats 4000000 in
set_option maxRecDepth 100000 in
theorem bL_c12 {p : Program} {l : Launch} {e : Env} {s : State} {m : MethodId} {below : List Frame} {meth : Method} {c : Code} {D : va_G} {cy : Nat → ClassId} {o om : Nat} {qp oa qm : Nat → Nat} {qa : Nat → Nat → Nat} {b L : Nat} {xs : Nat → Int32} (C : Cx p s m #[Value.ref b] meth c cL_law 4 (some .boolean) wsL_law RL D cy nestWs (fun q : Nat => s.heap.size ≤ q)) (hX : va_X b L xs s s.heap) (hbl : b < s.heap.size) {K : Int32 → MS → (Nat → MS) → MS → Prop} (hK : ∀ (x3 : Int32) (Z : MS) (X : Nat → MS) (S : MS) (H : Heap) (locs : List Loc) (ls : Array Slot), K x3 Z X S → GW D (fun q : Nat => s.heap.size ≤ q) s (wP o qp oa qa cy Z X ++ w9 om qm cy S) H locs → lv_has ls 4 [(0, .ref b), (1, .ref o), (2, .ref om), (3, .int x3)] → W p l e room_1 s m #[Value.ref b] below meth c H locs 104 2976 (lw_Z below #[Value.ref b] s) (F0 m 18 ls [])) (x3 : Int32) (hv : (vp_in (x3 + (1 : Int32)) L ∧ vp_in (x3 + (2 : Int32)) L ∧ vp_in (x3 + (3 : Int32)) L ∧ vp_in (x3 + (4 : Int32)) L ∧ vp_in (x3 + (5 : Int32)) L)) (Z : MS) (X : Nat → MS) (S : MS) (h : wL_c12 xs K x3 Z X S) {H : Heap} {locs : List Loc} (hG : GW D (fun q : Nat => s.heap.size ≤ q) s (wP o qp oa qa cy Z X ++ w9 om qm cy S) H locs) {ls : Array Slot} (hl : lv_has ls 4 [(0, .ref b), (1, .ref o), (2, .ref om), (3, .int x3)]) : W p l e room_1 s m #[Value.ref b] below meth c H locs 104 2976 (lw_Z below #[Value.ref b] s) (F0 m 724 ls []) := by
  have hx := C.1
  have hb := C.2.1
  unfold wL_c12 at h
  refine lv_aload_n hx hb dL_law_724 rfl (lv_at hl 1 rfl) ?_
  refine lv_aload_n hx hb dL_law_725 rfl (lv_at hl 0 rfl) ?_
  refine lv_iload_n hx hb dL_law_726 rfl (lv_at hl 3 rfl) ?_
  refine lv_iconst (v := 1) hx hb dL_law_727 (by decide) ?_
  refine lv_iadd hx hb dL_law_728 ?_
  refine va_sld hx hb hX hbl (Nat.not_le.mpr hbl) hG.2.2 hv.1 dL_law_729 ?_
  refine lv_aload_n hx hb dL_law_730 rfl (lv_at hl 0 rfl) ?_
  refine lv_iload_n hx hb dL_law_731 rfl (lv_at hl 3 rfl) ?_
  refine lv_iconst (v := 2) hx hb dL_law_732 (by decide) ?_
  refine lv_iadd hx hb dL_law_733 ?_
  refine va_sld hx hb hX hbl (Nat.not_le.mpr hbl) hG.2.2 hv.2.1 dL_law_734 ?_
  refine callVI (As := [.int (xs (x3 + (1 : Int32)).toNatClampNeg), .int (xs (x3 + (2 : Int32)).toNatClampNeg)]) (rest := []) C hG (c8_wholes l D cy o qp oa qa (xs (x3 + (1 : Int32)).toNatClampNeg) (xs (x3 + (2 : Int32)).toNatClampNeg) Z X _ h) 2 gL_law_X8_wholes rfl (by decide +kernel) ⟨⟨Nat.le_of_ble_eq_true rfl, Nat.le_of_ble_eq_true rfl⟩, rfl, rfl⟩ rfl rfl (foLx C.2.2.2.2.2.2.2.2.1) rfl hl.1 rfl (Nat.le_of_ble_eq_true rfl) dL_law_735 ⟨Nat.le_of_ble_eq_true rfl, Nat.le_of_ble_eq_true rfl⟩ (fun r1 z H locs h hG => ?_)
  obtain ⟨Z2, X3⟩ := z
  replace h := h
  have hG : GW D (fun q : Nat => s.heap.size ≤ q) s (wP o qp oa qa cy Z2 X3 ++ w9 om qm cy S) H locs := hG
  refine lv_pop hx hb dL_law_738 rfl ?_
  refine lv_aload_n hx hb dL_law_739 rfl (lv_at hl 2 rfl) ?_
  refine lv_aload_n hx hb dL_law_740 rfl (lv_at hl 0 rfl) ?_
  refine lv_iload_n hx hb dL_law_741 rfl (lv_at hl 3 rfl) ?_
  refine lv_iconst (v := 1) hx hb dL_law_742 (by decide) ?_
  refine lv_iadd hx hb dL_law_743 ?_
  refine va_sld hx hb hX hbl (Nat.not_le.mpr hbl) hG.2.2 hv.1 dL_law_744 ?_
  refine lv_aload_n hx hb dL_law_745 rfl (lv_at hl 0 rfl) ?_
  refine lv_iload_n hx hb dL_law_746 rfl (lv_at hl 3 rfl) ?_
  refine lv_iconst (v := 2) hx hb dL_law_747 (by decide) ?_
  refine lv_iadd hx hb dL_law_748 ?_
  refine va_sld hx hb hX hbl (Nat.not_le.mpr hbl) hG.2.2 hv.2.1 dL_law_749 ?_
  refine callVI (As := [.int (xs (x3 + (1 : Int32)).toNatClampNeg), .int (xs (x3 + (2 : Int32)).toNatClampNeg)]) (rest := []) C hG (c9_wholes l D cy om qm (xs (x3 + (1 : Int32)).toNatClampNeg) (xs (x3 + (2 : Int32)).toNatClampNeg) S _ h) 2 gL_law_X9_wholes rfl (by decide +kernel) ⟨⟨Nat.le_of_ble_eq_true rfl, Nat.le_of_ble_eq_true rfl⟩, rfl, rfl⟩ rfl rfl (foLm C.2.2.2.2.2.2.2.2.1) rfl hl.1 rfl (Nat.le_of_ble_eq_true rfl) dL_law_750 ⟨Nat.le_of_ble_eq_true rfl, Nat.le_of_ble_eq_true rfl⟩ (fun r4 S5 H locs h hG => ?_)
  have hG : GW D (fun q : Nat => s.heap.size ≤ q) s (wP o qp oa qa cy Z2 X3 ++ w9 om qm cy S5) H locs := hG
  refine lv_pop hx hb dL_law_753 rfl ?_
  refine lv_goto (tgt := 1466) hx hb dL_law_754 (by decide) ?_
  obtain ⟨y6, ey6⟩ : ∃ y : Int32, y = x3 + 6 := ⟨_, rfl⟩
  replace h := h y6 ey6
  refine lv_iinc (v := y6) (lv' := [(3, .int y6), (0, .ref b), (1, .ref o), (2, .ref om)]) hx hb dL_law_1466 hl (k := 3) rfl (by rw [ey6]; rfl) (by decide) rfl (fun ls hl => ?_)
  refine lv_goto (tgt := 18) hx hb dL_law_1469 (by decide) ?_
  exact hK y6 Z2 X3 S5 _ _ _ h hG (lv_sub hl [1, 2, 3, 0] rfl)
def wL_c13 (xs : Nat → Int32) (K : Int32 → MS → (Nat → MS) → MS → Prop) (x3 : Int32) (Z : MS) (X : Nat → MS) (S : MS) : Prop :=
  w8_layOut (xs (x3 + (1 : Int32)).toNatClampNeg) (xs (x3 + (2 : Int32)).toNatClampNeg) (xs (x3 + (3 : Int32)).toNatClampNeg) (xs (x3 + (4 : Int32)).toNatClampNeg) Z X (fun r1 Z2 X3 => w9_layOut (xs (x3 + (1 : Int32)).toNatClampNeg) (xs (x3 + (2 : Int32)).toNatClampNeg) (xs (x3 + (3 : Int32)).toNatClampNeg) (xs (x3 + (4 : Int32)).toNatClampNeg) S (fun r4 S5 => ∀ y6 : Int32, y6 = x3 + 6 → K y6 Z2 X3 S5))
set_option maxHeartbeats 4000000 in
set_option maxRecDepth 100000 in
theorem bL_c13 {p : Program} {l : Launch} {e : Env} {s : State} {m : MethodId} {below : List Frame} {meth : Method} {c : Code} {D : va_G} {cy : Nat → ClassId} {o om : Nat} {qp oa qm : Nat → Nat} {qa : Nat → Nat → Nat} {b L : Nat} {xs : Nat → Int32} (C : Cx p s m #[Value.ref b] meth c cL_law 4 (some .boolean) wsL_law RL D cy nestWs (fun q : Nat => s.heap.size ≤ q)) (hX : va_X b L xs s s.heap) (hbl : b < s.heap.size) {K : Int32 → MS → (Nat → MS) → MS → Prop} (hK : ∀ (x3 : Int32) (Z : MS) (X : Nat → MS) (S : MS) (H : Heap) (locs : List Loc) (ls : Array Slot), K x3 Z X S → GW D (fun q : Nat => s.heap.size ≤ q) s (wP o qp oa qa cy Z X ++ w9 om qm cy S) H locs → lv_has ls 4 [(0, .ref b), (1, .ref o), (2, .ref om), (3, .int x3)] → W p l e room_1 s m #[Value.ref b] below meth c H locs 104 2976 (lw_Z below #[Value.ref b] s) (F0 m 18 ls [])) (x3 : Int32) (hv : (vp_in (x3 + (1 : Int32)) L ∧ vp_in (x3 + (2 : Int32)) L ∧ vp_in (x3 + (3 : Int32)) L ∧ vp_in (x3 + (4 : Int32)) L ∧ vp_in (x3 + (5 : Int32)) L)) (Z : MS) (X : Nat → MS) (S : MS) (h : wL_c13 xs K x3 Z X S) {H : Heap} {locs : List Loc} (hG : GW D (fun q : Nat => s.heap.size ≤ q) s (wP o qp oa qa cy Z X ++ w9 om qm cy S) H locs) {ls : Array Slot} (hl : lv_has ls 4 [(0, .ref b), (1, .ref o), (2, .ref om), (3, .int x3)]) : W p l e room_1 s m #[Value.ref b] below meth c H locs 104 2976 (lw_Z below #[Value.ref b] s) (F0 m 757 ls []) := by
  have hx := C.1
  have hb := C.2.1
  unfold wL_c13 at h
  refine lv_aload_n hx hb dL_law_757 rfl (lv_at hl 1 rfl) ?_
  refine lv_aload_n hx hb dL_law_758 rfl (lv_at hl 0 rfl) ?_
  refine lv_iload_n hx hb dL_law_759 rfl (lv_at hl 3 rfl) ?_
  refine lv_iconst (v := 1) hx hb dL_law_760 (by decide) ?_
  refine lv_iadd hx hb dL_law_761 ?_
  refine va_sld hx hb hX hbl (Nat.not_le.mpr hbl) hG.2.2 hv.1 dL_law_762 ?_
  refine lv_aload_n hx hb dL_law_763 rfl (lv_at hl 0 rfl) ?_
  refine lv_iload_n hx hb dL_law_764 rfl (lv_at hl 3 rfl) ?_
  refine lv_iconst (v := 2) hx hb dL_law_765 (by decide) ?_
  refine lv_iadd hx hb dL_law_766 ?_
  refine va_sld hx hb hX hbl (Nat.not_le.mpr hbl) hG.2.2 hv.2.1 dL_law_767 ?_
  refine lv_aload_n hx hb dL_law_768 rfl (lv_at hl 0 rfl) ?_
  refine lv_iload_n hx hb dL_law_769 rfl (lv_at hl 3 rfl) ?_
  refine lv_iconst (v := 3) hx hb dL_law_770 (by decide) ?_
  refine lv_iadd hx hb dL_law_771 ?_
  refine va_sld hx hb hX hbl (Nat.not_le.mpr hbl) hG.2.2 hv.2.2.1 dL_law_772 ?_
  refine lv_aload_n hx hb dL_law_773 rfl (lv_at hl 0 rfl) ?_
  refine lv_iload_n hx hb dL_law_774 rfl (lv_at hl 3 rfl) ?_
  refine lv_iconst (v := 4) hx hb dL_law_775 (by decide) ?_
  refine lv_iadd hx hb dL_law_776 ?_
  refine va_sld hx hb hX hbl (Nat.not_le.mpr hbl) hG.2.2 hv.2.2.2.1 dL_law_777 ?_
  refine callVI (As := [.int (xs (x3 + (1 : Int32)).toNatClampNeg), .int (xs (x3 + (2 : Int32)).toNatClampNeg), .int (xs (x3 + (3 : Int32)).toNatClampNeg), .int (xs (x3 + (4 : Int32)).toNatClampNeg)]) (rest := []) C hG (c8_layOut l D cy o qp oa qa (xs (x3 + (1 : Int32)).toNatClampNeg) (xs (x3 + (2 : Int32)).toNatClampNeg) (xs (x3 + (3 : Int32)).toNatClampNeg) (xs (x3 + (4 : Int32)).toNatClampNeg) Z X _ h) 4 gL_law_X8_layOut rfl (by decide +kernel) ⟨⟨Nat.le_of_ble_eq_true rfl, Nat.le_of_ble_eq_true rfl⟩, rfl, rfl⟩ rfl rfl (foLx C.2.2.2.2.2.2.2.2.1) rfl hl.1 rfl (Nat.le_of_ble_eq_true rfl) dL_law_778 ⟨Nat.le_of_ble_eq_true rfl, Nat.le_of_ble_eq_true rfl⟩ (fun r1 z H locs h hG => ?_)
  obtain ⟨Z2, X3⟩ := z
  replace h := h
  have hG : GW D (fun q : Nat => s.heap.size ≤ q) s (wP o qp oa qa cy Z2 X3 ++ w9 om qm cy S) H locs := hG
  refine lv_pop hx hb dL_law_781 rfl ?_
  refine lv_aload_n hx hb dL_law_782 rfl (lv_at hl 2 rfl) ?_
  refine lv_aload_n hx hb dL_law_783 rfl (lv_at hl 0 rfl) ?_
  refine lv_iload_n hx hb dL_law_784 rfl (lv_at hl 3 rfl) ?_
  refine lv_iconst (v := 1) hx hb dL_law_785 (by decide) ?_
  refine lv_iadd hx hb dL_law_786 ?_
  refine va_sld hx hb hX hbl (Nat.not_le.mpr hbl) hG.2.2 hv.1 dL_law_787 ?_
  refine lv_aload_n hx hb dL_law_788 rfl (lv_at hl 0 rfl) ?_
  refine lv_iload_n hx hb dL_law_789 rfl (lv_at hl 3 rfl) ?_
  refine lv_iconst (v := 2) hx hb dL_law_790 (by decide) ?_
  refine lv_iadd hx hb dL_law_791 ?_
  refine va_sld hx hb hX hbl (Nat.not_le.mpr hbl) hG.2.2 hv.2.1 dL_law_792 ?_
  refine lv_aload_n hx hb dL_law_793 rfl (lv_at hl 0 rfl) ?_
  refine lv_iload_n hx hb dL_law_794 rfl (lv_at hl 3 rfl) ?_
  refine lv_iconst (v := 3) hx hb dL_law_795 (by decide) ?_
  refine lv_iadd hx hb dL_law_796 ?_
  refine va_sld hx hb hX hbl (Nat.not_le.mpr hbl) hG.2.2 hv.2.2.1 dL_law_797 ?_
  refine lv_aload_n hx hb dL_law_798 rfl (lv_at hl 0 rfl) ?_
  refine lv_iload_n hx hb dL_law_799 rfl (lv_at hl 3 rfl) ?_
  refine lv_iconst (v := 4) hx hb dL_law_800 (by decide) ?_
  refine lv_iadd hx hb dL_law_801 ?_
  refine va_sld hx hb hX hbl (Nat.not_le.mpr hbl) hG.2.2 hv.2.2.2.1 dL_law_802 ?_
  refine callVI (As := [.int (xs (x3 + (1 : Int32)).toNatClampNeg), .int (xs (x3 + (2 : Int32)).toNatClampNeg), .int (xs (x3 + (3 : Int32)).toNatClampNeg), .int (xs (x3 + (4 : Int32)).toNatClampNeg)]) (rest := []) C hG (c9_layOut l D cy om qm (xs (x3 + (1 : Int32)).toNatClampNeg) (xs (x3 + (2 : Int32)).toNatClampNeg) (xs (x3 + (3 : Int32)).toNatClampNeg) (xs (x3 + (4 : Int32)).toNatClampNeg) S _ h) 4 gL_law_X9_layOut rfl (by decide +kernel) ⟨⟨Nat.le_of_ble_eq_true rfl, Nat.le_of_ble_eq_true rfl⟩, rfl, rfl⟩ rfl rfl (foLm C.2.2.2.2.2.2.2.2.1) rfl hl.1 rfl (Nat.le_of_ble_eq_true rfl) dL_law_803 ⟨Nat.le_of_ble_eq_true rfl, Nat.le_of_ble_eq_true rfl⟩ (fun r4 S5 H locs h hG => ?_)
  have hG : GW D (fun q : Nat => s.heap.size ≤ q) s (wP o qp oa qa cy Z2 X3 ++ w9 om qm cy S5) H locs := hG
  refine lv_pop hx hb dL_law_806 rfl ?_
  refine lv_goto (tgt := 1466) hx hb dL_law_807 (by decide) ?_
  obtain ⟨y6, ey6⟩ : ∃ y : Int32, y = x3 + 6 := ⟨_, rfl⟩
  replace h := h y6 ey6
  refine lv_iinc (v := y6) (lv' := [(3, .int y6), (0, .ref b), (1, .ref o), (2, .ref om)]) hx hb dL_law_1466 hl (k := 3) rfl (by rw [ey6]; rfl) (by decide) rfl (fun ls hl => ?_)
  refine lv_goto (tgt := 18) hx hb dL_law_1469 (by decide) ?_
  exact hK y6 Z2 X3 S5 _ _ _ h hG (lv_sub hl [1, 2, 3, 0] rfl)
def wL_c14 (xs : Nat → Int32) (K : Int32 → MS → (Nat → MS) → MS → Prop) (x3 : Int32) (Z : MS) (X : Nat → MS) (S : MS) : Prop :=
  w8_layOutBy (xs (x3 + (1 : Int32)).toNatClampNeg) (xs (x3 + (2 : Int32)).toNatClampNeg) (xs (x3 + (3 : Int32)).toNatClampNeg) (xs (x3 + (4 : Int32)).toNatClampNeg) (xs (x3 + (5 : Int32)).toNatClampNeg) Z X (fun r1 Z2 X3 => w9_layOutBy (xs (x3 + (1 : Int32)).toNatClampNeg) (xs (x3 + (2 : Int32)).toNatClampNeg) (xs (x3 + (3 : Int32)).toNatClampNeg) (xs (x3 + (4 : Int32)).toNatClampNeg) (xs (x3 + (5 : Int32)).toNatClampNeg) S (fun r4 S5 => ∀ y6 : Int32, y6 = x3 + 6 → K y6 Z2 X3 S5))
set_option maxHeartbeats 4000000 in
set_option maxRecDepth 100000 in
theorem bL_c14 {p : Program} {l : Launch} {e : Env} {s : State} {m : MethodId} {below : List Frame} {meth : Method} {c : Code} {D : va_G} {cy : Nat → ClassId} {o om : Nat} {qp oa qm : Nat → Nat} {qa : Nat → Nat → Nat} {b L : Nat} {xs : Nat → Int32} (C : Cx p s m #[Value.ref b] meth c cL_law 4 (some .boolean) wsL_law RL D cy nestWs (fun q : Nat => s.heap.size ≤ q)) (hX : va_X b L xs s s.heap) (hbl : b < s.heap.size) {K : Int32 → MS → (Nat → MS) → MS → Prop} (hK : ∀ (x3 : Int32) (Z : MS) (X : Nat → MS) (S : MS) (H : Heap) (locs : List Loc) (ls : Array Slot), K x3 Z X S → GW D (fun q : Nat => s.heap.size ≤ q) s (wP o qp oa qa cy Z X ++ w9 om qm cy S) H locs → lv_has ls 4 [(0, .ref b), (1, .ref o), (2, .ref om), (3, .int x3)] → W p l e room_1 s m #[Value.ref b] below meth c H locs 104 2976 (lw_Z below #[Value.ref b] s) (F0 m 18 ls [])) (x3 : Int32) (hv : (vp_in (x3 + (1 : Int32)) L ∧ vp_in (x3 + (2 : Int32)) L ∧ vp_in (x3 + (3 : Int32)) L ∧ vp_in (x3 + (4 : Int32)) L ∧ vp_in (x3 + (5 : Int32)) L)) (Z : MS) (X : Nat → MS) (S : MS) (h : wL_c14 xs K x3 Z X S) {H : Heap} {locs : List Loc} (hG : GW D (fun q : Nat => s.heap.size ≤ q) s (wP o qp oa qa cy Z X ++ w9 om qm cy S) H locs) {ls : Array Slot} (hl : lv_has ls 4 [(0, .ref b), (1, .ref o), (2, .ref om), (3, .int x3)]) : W p l e room_1 s m #[Value.ref b] below meth c H locs 104 2976 (lw_Z below #[Value.ref b] s) (F0 m 810 ls []) := by
  have hx := C.1
  have hb := C.2.1
  unfold wL_c14 at h
  refine lv_aload_n hx hb dL_law_810 rfl (lv_at hl 1 rfl) ?_
  refine lv_aload_n hx hb dL_law_811 rfl (lv_at hl 0 rfl) ?_
  refine lv_iload_n hx hb dL_law_812 rfl (lv_at hl 3 rfl) ?_
  refine lv_iconst (v := 1) hx hb dL_law_813 (by decide) ?_
  refine lv_iadd hx hb dL_law_814 ?_
  refine va_sld hx hb hX hbl (Nat.not_le.mpr hbl) hG.2.2 hv.1 dL_law_815 ?_
  refine lv_aload_n hx hb dL_law_816 rfl (lv_at hl 0 rfl) ?_
  refine lv_iload_n hx hb dL_law_817 rfl (lv_at hl 3 rfl) ?_
  refine lv_iconst (v := 2) hx hb dL_law_818 (by decide) ?_
  refine lv_iadd hx hb dL_law_819 ?_
  refine va_sld hx hb hX hbl (Nat.not_le.mpr hbl) hG.2.2 hv.2.1 dL_law_820 ?_
  refine lv_aload_n hx hb dL_law_821 rfl (lv_at hl 0 rfl) ?_
  refine lv_iload_n hx hb dL_law_822 rfl (lv_at hl 3 rfl) ?_
  refine lv_iconst (v := 3) hx hb dL_law_823 (by decide) ?_
  refine lv_iadd hx hb dL_law_824 ?_
  refine va_sld hx hb hX hbl (Nat.not_le.mpr hbl) hG.2.2 hv.2.2.1 dL_law_825 ?_
  refine lv_aload_n hx hb dL_law_826 rfl (lv_at hl 0 rfl) ?_
  refine lv_iload_n hx hb dL_law_827 rfl (lv_at hl 3 rfl) ?_
  refine lv_iconst (v := 4) hx hb dL_law_828 (by decide) ?_
  refine lv_iadd hx hb dL_law_829 ?_
  refine va_sld hx hb hX hbl (Nat.not_le.mpr hbl) hG.2.2 hv.2.2.2.1 dL_law_830 ?_
  refine lv_aload_n hx hb dL_law_831 rfl (lv_at hl 0 rfl) ?_
  refine lv_iload_n hx hb dL_law_832 rfl (lv_at hl 3 rfl) ?_
  refine lv_iconst (v := 5) hx hb dL_law_833 (by decide) ?_
  refine lv_iadd hx hb dL_law_834 ?_
  refine va_sld hx hb hX hbl (Nat.not_le.mpr hbl) hG.2.2 hv.2.2.2.2 dL_law_835 ?_
  refine callVI (As := [.int (xs (x3 + (1 : Int32)).toNatClampNeg), .int (xs (x3 + (2 : Int32)).toNatClampNeg), .int (xs (x3 + (3 : Int32)).toNatClampNeg), .int (xs (x3 + (4 : Int32)).toNatClampNeg), .int (xs (x3 + (5 : Int32)).toNatClampNeg)]) (rest := []) C hG (c8_layOutBy l D cy o qp oa qa (xs (x3 + (1 : Int32)).toNatClampNeg) (xs (x3 + (2 : Int32)).toNatClampNeg) (xs (x3 + (3 : Int32)).toNatClampNeg) (xs (x3 + (4 : Int32)).toNatClampNeg) (xs (x3 + (5 : Int32)).toNatClampNeg) Z X _ h) 5 gL_law_X8_layOutBy rfl (by decide +kernel) ⟨⟨Nat.le_of_ble_eq_true rfl, Nat.le_of_ble_eq_true rfl⟩, rfl, rfl⟩ rfl rfl (foLx C.2.2.2.2.2.2.2.2.1) rfl hl.1 rfl (Nat.le_of_ble_eq_true rfl) dL_law_836 ⟨Nat.le_of_ble_eq_true rfl, Nat.le_of_ble_eq_true rfl⟩ (fun r1 z H locs h hG => ?_)
  obtain ⟨Z2, X3⟩ := z
  replace h := h
  have hG : GW D (fun q : Nat => s.heap.size ≤ q) s (wP o qp oa qa cy Z2 X3 ++ w9 om qm cy S) H locs := hG
  refine lv_pop hx hb dL_law_839 rfl ?_
  refine lv_aload_n hx hb dL_law_840 rfl (lv_at hl 2 rfl) ?_
  refine lv_aload_n hx hb dL_law_841 rfl (lv_at hl 0 rfl) ?_
  refine lv_iload_n hx hb dL_law_842 rfl (lv_at hl 3 rfl) ?_
  refine lv_iconst (v := 1) hx hb dL_law_843 (by decide) ?_
  refine lv_iadd hx hb dL_law_844 ?_
  refine va_sld hx hb hX hbl (Nat.not_le.mpr hbl) hG.2.2 hv.1 dL_law_845 ?_
  refine lv_aload_n hx hb dL_law_846 rfl (lv_at hl 0 rfl) ?_
  refine lv_iload_n hx hb dL_law_847 rfl (lv_at hl 3 rfl) ?_
  refine lv_iconst (v := 2) hx hb dL_law_848 (by decide) ?_
  refine lv_iadd hx hb dL_law_849 ?_
  refine va_sld hx hb hX hbl (Nat.not_le.mpr hbl) hG.2.2 hv.2.1 dL_law_850 ?_
  refine lv_aload_n hx hb dL_law_851 rfl (lv_at hl 0 rfl) ?_
  refine lv_iload_n hx hb dL_law_852 rfl (lv_at hl 3 rfl) ?_
  refine lv_iconst (v := 3) hx hb dL_law_853 (by decide) ?_
  refine lv_iadd hx hb dL_law_854 ?_
  refine va_sld hx hb hX hbl (Nat.not_le.mpr hbl) hG.2.2 hv.2.2.1 dL_law_855 ?_
  refine lv_aload_n hx hb dL_law_856 rfl (lv_at hl 0 rfl) ?_
  refine lv_iload_n hx hb dL_law_857 rfl (lv_at hl 3 rfl) ?_
  refine lv_iconst (v := 4) hx hb dL_law_858 (by decide) ?_
  refine lv_iadd hx hb dL_law_859 ?_
  refine va_sld hx hb hX hbl (Nat.not_le.mpr hbl) hG.2.2 hv.2.2.2.1 dL_law_860 ?_
  refine lv_aload_n hx hb dL_law_861 rfl (lv_at hl 0 rfl) ?_
  refine lv_iload_n hx hb dL_law_862 rfl (lv_at hl 3 rfl) ?_
  refine lv_iconst (v := 5) hx hb dL_law_863 (by decide) ?_
  refine lv_iadd hx hb dL_law_864 ?_
  refine va_sld hx hb hX hbl (Nat.not_le.mpr hbl) hG.2.2 hv.2.2.2.2 dL_law_865 ?_
  refine callVI (As := [.int (xs (x3 + (1 : Int32)).toNatClampNeg), .int (xs (x3 + (2 : Int32)).toNatClampNeg), .int (xs (x3 + (3 : Int32)).toNatClampNeg), .int (xs (x3 + (4 : Int32)).toNatClampNeg), .int (xs (x3 + (5 : Int32)).toNatClampNeg)]) (rest := []) C hG (c9_layOutBy l D cy om qm (xs (x3 + (1 : Int32)).toNatClampNeg) (xs (x3 + (2 : Int32)).toNatClampNeg) (xs (x3 + (3 : Int32)).toNatClampNeg) (xs (x3 + (4 : Int32)).toNatClampNeg) (xs (x3 + (5 : Int32)).toNatClampNeg) S _ h) 5 gL_law_X9_layOutBy rfl (by decide +kernel) ⟨⟨Nat.le_of_ble_eq_true rfl, Nat.le_of_ble_eq_true rfl⟩, rfl, rfl⟩ rfl rfl (foLm C.2.2.2.2.2.2.2.2.1) rfl hl.1 rfl (Nat.le_of_ble_eq_true rfl) dL_law_866 ⟨Nat.le_of_ble_eq_true rfl, Nat.le_of_ble_eq_true rfl⟩ (fun r4 S5 H locs h hG => ?_)
  have hG : GW D (fun q : Nat => s.heap.size ≤ q) s (wP o qp oa qa cy Z2 X3 ++ w9 om qm cy S5) H locs := hG
  refine lv_pop hx hb dL_law_869 rfl ?_
  refine lv_goto (tgt := 1466) hx hb dL_law_870 (by decide) ?_
  obtain ⟨y6, ey6⟩ : ∃ y : Int32, y = x3 + 6 := ⟨_, rfl⟩
  replace h := h y6 ey6
  refine lv_iinc (v := y6) (lv' := [(3, .int y6), (0, .ref b), (1, .ref o), (2, .ref om)]) hx hb dL_law_1466 hl (k := 3) rfl (by rw [ey6]; rfl) (by decide) rfl (fun ls hl => ?_)
  refine lv_goto (tgt := 18) hx hb dL_law_1469 (by decide) ?_
  exact hK y6 Z2 X3 S5 _ _ _ h hG (lv_sub hl [1, 2, 3, 0] rfl)
def wL_c15 (xs : Nat → Int32) (K : Int32 → MS → (Nat → MS) → MS → Prop) (x3 : Int32) (Z : MS) (X : Nat → MS) (S : MS) : Prop :=
  w8_way (xs (x3 + (1 : Int32)).toNatClampNeg) (xs (x3 + (2 : Int32)).toNatClampNeg) (xs (x3 + (3 : Int32)).toNatClampNeg) Z X (fun r1 Z2 X3 => w9_way (xs (x3 + (1 : Int32)).toNatClampNeg) (xs (x3 + (2 : Int32)).toNatClampNeg) (xs (x3 + (3 : Int32)).toNatClampNeg) S (fun r4 S5 => ∀ y6 : Int32, y6 = x3 + 6 → K y6 Z2 X3 S5))
set_option maxHeartbeats 4000000 in
set_option maxRecDepth 100000 in
theorem bL_c15 {p : Program} {l : Launch} {e : Env} {s : State} {m : MethodId} {below : List Frame} {meth : Method} {c : Code} {D : va_G} {cy : Nat → ClassId} {o om : Nat} {qp oa qm : Nat → Nat} {qa : Nat → Nat → Nat} {b L : Nat} {xs : Nat → Int32} (C : Cx p s m #[Value.ref b] meth c cL_law 4 (some .boolean) wsL_law RL D cy nestWs (fun q : Nat => s.heap.size ≤ q)) (hX : va_X b L xs s s.heap) (hbl : b < s.heap.size) {K : Int32 → MS → (Nat → MS) → MS → Prop} (hK : ∀ (x3 : Int32) (Z : MS) (X : Nat → MS) (S : MS) (H : Heap) (locs : List Loc) (ls : Array Slot), K x3 Z X S → GW D (fun q : Nat => s.heap.size ≤ q) s (wP o qp oa qa cy Z X ++ w9 om qm cy S) H locs → lv_has ls 4 [(0, .ref b), (1, .ref o), (2, .ref om), (3, .int x3)] → W p l e room_1 s m #[Value.ref b] below meth c H locs 104 2976 (lw_Z below #[Value.ref b] s) (F0 m 18 ls [])) (x3 : Int32) (hv : (vp_in (x3 + (1 : Int32)) L ∧ vp_in (x3 + (2 : Int32)) L ∧ vp_in (x3 + (3 : Int32)) L ∧ vp_in (x3 + (4 : Int32)) L ∧ vp_in (x3 + (5 : Int32)) L)) (Z : MS) (X : Nat → MS) (S : MS) (h : wL_c15 xs K x3 Z X S) {H : Heap} {locs : List Loc} (hG : GW D (fun q : Nat => s.heap.size ≤ q) s (wP o qp oa qa cy Z X ++ w9 om qm cy S) H locs) {ls : Array Slot} (hl : lv_has ls 4 [(0, .ref b), (1, .ref o), (2, .ref om), (3, .int x3)]) : W p l e room_1 s m #[Value.ref b] below meth c H locs 104 2976 (lw_Z below #[Value.ref b] s) (F0 m 873 ls []) := by
  have hx := C.1
  have hb := C.2.1
  unfold wL_c15 at h
  refine lv_aload_n hx hb dL_law_873 rfl (lv_at hl 1 rfl) ?_
  refine lv_aload_n hx hb dL_law_874 rfl (lv_at hl 0 rfl) ?_
  refine lv_iload_n hx hb dL_law_875 rfl (lv_at hl 3 rfl) ?_
  refine lv_iconst (v := 1) hx hb dL_law_876 (by decide) ?_
  refine lv_iadd hx hb dL_law_877 ?_
  refine va_sld hx hb hX hbl (Nat.not_le.mpr hbl) hG.2.2 hv.1 dL_law_878 ?_
  refine lv_aload_n hx hb dL_law_879 rfl (lv_at hl 0 rfl) ?_
  refine lv_iload_n hx hb dL_law_880 rfl (lv_at hl 3 rfl) ?_
  refine lv_iconst (v := 2) hx hb dL_law_881 (by decide) ?_
  refine lv_iadd hx hb dL_law_882 ?_
  refine va_sld hx hb hX hbl (Nat.not_le.mpr hbl) hG.2.2 hv.2.1 dL_law_883 ?_
  refine lv_aload_n hx hb dL_law_884 rfl (lv_at hl 0 rfl) ?_
  refine lv_iload_n hx hb dL_law_885 rfl (lv_at hl 3 rfl) ?_
  refine lv_iconst (v := 3) hx hb dL_law_886 (by decide) ?_
  refine lv_iadd hx hb dL_law_887 ?_
  refine va_sld hx hb hX hbl (Nat.not_le.mpr hbl) hG.2.2 hv.2.2.1 dL_law_888 ?_
  refine callVI (As := [.int (xs (x3 + (1 : Int32)).toNatClampNeg), .int (xs (x3 + (2 : Int32)).toNatClampNeg), .int (xs (x3 + (3 : Int32)).toNatClampNeg)]) (rest := []) C hG (c8_way l D cy o qp oa qa (xs (x3 + (1 : Int32)).toNatClampNeg) (xs (x3 + (2 : Int32)).toNatClampNeg) (xs (x3 + (3 : Int32)).toNatClampNeg) Z X _ h) 3 gL_law_X8_way rfl (by decide +kernel) ⟨⟨Nat.le_of_ble_eq_true rfl, Nat.le_of_ble_eq_true rfl⟩, rfl, rfl⟩ rfl rfl (foLx C.2.2.2.2.2.2.2.2.1) rfl hl.1 rfl (Nat.le_of_ble_eq_true rfl) dL_law_889 ⟨Nat.le_of_ble_eq_true rfl, Nat.le_of_ble_eq_true rfl⟩ (fun r1 z H locs h hG => ?_)
  obtain ⟨Z2, X3⟩ := z
  replace h := h
  have hG : GW D (fun q : Nat => s.heap.size ≤ q) s (wP o qp oa qa cy Z2 X3 ++ w9 om qm cy S) H locs := hG
  refine lv_pop hx hb dL_law_892 rfl ?_
  refine lv_aload_n hx hb dL_law_893 rfl (lv_at hl 2 rfl) ?_
  refine lv_aload_n hx hb dL_law_894 rfl (lv_at hl 0 rfl) ?_
  refine lv_iload_n hx hb dL_law_895 rfl (lv_at hl 3 rfl) ?_
  refine lv_iconst (v := 1) hx hb dL_law_896 (by decide) ?_
  refine lv_iadd hx hb dL_law_897 ?_
  refine va_sld hx hb hX hbl (Nat.not_le.mpr hbl) hG.2.2 hv.1 dL_law_898 ?_
  refine lv_aload_n hx hb dL_law_899 rfl (lv_at hl 0 rfl) ?_
  refine lv_iload_n hx hb dL_law_900 rfl (lv_at hl 3 rfl) ?_
  refine lv_iconst (v := 2) hx hb dL_law_901 (by decide) ?_
  refine lv_iadd hx hb dL_law_902 ?_
  refine va_sld hx hb hX hbl (Nat.not_le.mpr hbl) hG.2.2 hv.2.1 dL_law_903 ?_
  refine lv_aload_n hx hb dL_law_904 rfl (lv_at hl 0 rfl) ?_
  refine lv_iload_n hx hb dL_law_905 rfl (lv_at hl 3 rfl) ?_
  refine lv_iconst (v := 3) hx hb dL_law_906 (by decide) ?_
  refine lv_iadd hx hb dL_law_907 ?_
  refine va_sld hx hb hX hbl (Nat.not_le.mpr hbl) hG.2.2 hv.2.2.1 dL_law_908 ?_
  refine callVI (As := [.int (xs (x3 + (1 : Int32)).toNatClampNeg), .int (xs (x3 + (2 : Int32)).toNatClampNeg), .int (xs (x3 + (3 : Int32)).toNatClampNeg)]) (rest := []) C hG (c9_way l D cy om qm (xs (x3 + (1 : Int32)).toNatClampNeg) (xs (x3 + (2 : Int32)).toNatClampNeg) (xs (x3 + (3 : Int32)).toNatClampNeg) S _ h) 3 gL_law_X9_way rfl (by decide +kernel) ⟨⟨Nat.le_of_ble_eq_true rfl, Nat.le_of_ble_eq_true rfl⟩, rfl, rfl⟩ rfl rfl (foLm C.2.2.2.2.2.2.2.2.1) rfl hl.1 rfl (Nat.le_of_ble_eq_true rfl) dL_law_909 ⟨Nat.le_of_ble_eq_true rfl, Nat.le_of_ble_eq_true rfl⟩ (fun r4 S5 H locs h hG => ?_)
  have hG : GW D (fun q : Nat => s.heap.size ≤ q) s (wP o qp oa qa cy Z2 X3 ++ w9 om qm cy S5) H locs := hG
  refine lv_pop hx hb dL_law_912 rfl ?_
  refine lv_goto (tgt := 1466) hx hb dL_law_913 (by decide) ?_
  obtain ⟨y6, ey6⟩ : ∃ y : Int32, y = x3 + 6 := ⟨_, rfl⟩
  replace h := h y6 ey6
  refine lv_iinc (v := y6) (lv' := [(3, .int y6), (0, .ref b), (1, .ref o), (2, .ref om)]) hx hb dL_law_1466 hl (k := 3) rfl (by rw [ey6]; rfl) (by decide) rfl (fun ls hl => ?_)
  refine lv_goto (tgt := 18) hx hb dL_law_1469 (by decide) ?_
  exact hK y6 Z2 X3 S5 _ _ _ h hG (lv_sub hl [1, 2, 3, 0] rfl)
def wL_c16 (xs : Nat → Int32) (K : Int32 → MS → (Nat → MS) → MS → Prop) (x3 : Int32) (Z : MS) (X : Nat → MS) (S : MS) : Prop :=
  w8_farthest (xs (x3 + (1 : Int32)).toNatClampNeg) (xs (x3 + (2 : Int32)).toNatClampNeg) Z X (fun r1 Z2 X3 => w9_farthest (xs (x3 + (1 : Int32)).toNatClampNeg) (xs (x3 + (2 : Int32)).toNatClampNeg) S (fun r4 S5 => ∀ y6 : Int32, y6 = x3 + 6 → K y6 Z2 X3 S5))
set_option maxHeartbeats 4000000 in
set_option maxRecDepth 100000 in
theorem bL_c16 {p : Program} {l : Launch} {e : Env} {s : State} {m : MethodId} {below : List Frame} {meth : Method} {c : Code} {D : va_G} {cy : Nat → ClassId} {o om : Nat} {qp oa qm : Nat → Nat} {qa : Nat → Nat → Nat} {b L : Nat} {xs : Nat → Int32} (C : Cx p s m #[Value.ref b] meth c cL_law 4 (some .boolean) wsL_law RL D cy nestWs (fun q : Nat => s.heap.size ≤ q)) (hX : va_X b L xs s s.heap) (hbl : b < s.heap.size) {K : Int32 → MS → (Nat → MS) → MS → Prop} (hK : ∀ (x3 : Int32) (Z : MS) (X : Nat → MS) (S : MS) (H : Heap) (locs : List Loc) (ls : Array Slot), K x3 Z X S → GW D (fun q : Nat => s.heap.size ≤ q) s (wP o qp oa qa cy Z X ++ w9 om qm cy S) H locs → lv_has ls 4 [(0, .ref b), (1, .ref o), (2, .ref om), (3, .int x3)] → W p l e room_1 s m #[Value.ref b] below meth c H locs 104 2976 (lw_Z below #[Value.ref b] s) (F0 m 18 ls [])) (x3 : Int32) (hv : (vp_in (x3 + (1 : Int32)) L ∧ vp_in (x3 + (2 : Int32)) L ∧ vp_in (x3 + (3 : Int32)) L ∧ vp_in (x3 + (4 : Int32)) L ∧ vp_in (x3 + (5 : Int32)) L)) (Z : MS) (X : Nat → MS) (S : MS) (h : wL_c16 xs K x3 Z X S) {H : Heap} {locs : List Loc} (hG : GW D (fun q : Nat => s.heap.size ≤ q) s (wP o qp oa qa cy Z X ++ w9 om qm cy S) H locs) {ls : Array Slot} (hl : lv_has ls 4 [(0, .ref b), (1, .ref o), (2, .ref om), (3, .int x3)]) : W p l e room_1 s m #[Value.ref b] below meth c H locs 104 2976 (lw_Z below #[Value.ref b] s) (F0 m 916 ls []) := by
  have hx := C.1
  have hb := C.2.1
  unfold wL_c16 at h
  refine lv_aload_n hx hb dL_law_916 rfl (lv_at hl 1 rfl) ?_
  refine lv_aload_n hx hb dL_law_917 rfl (lv_at hl 0 rfl) ?_
  refine lv_iload_n hx hb dL_law_918 rfl (lv_at hl 3 rfl) ?_
  refine lv_iconst (v := 1) hx hb dL_law_919 (by decide) ?_
  refine lv_iadd hx hb dL_law_920 ?_
  refine va_sld hx hb hX hbl (Nat.not_le.mpr hbl) hG.2.2 hv.1 dL_law_921 ?_
  refine lv_aload_n hx hb dL_law_922 rfl (lv_at hl 0 rfl) ?_
  refine lv_iload_n hx hb dL_law_923 rfl (lv_at hl 3 rfl) ?_
  refine lv_iconst (v := 2) hx hb dL_law_924 (by decide) ?_
  refine lv_iadd hx hb dL_law_925 ?_
  refine va_sld hx hb hX hbl (Nat.not_le.mpr hbl) hG.2.2 hv.2.1 dL_law_926 ?_
  refine callVI (As := [.int (xs (x3 + (1 : Int32)).toNatClampNeg), .int (xs (x3 + (2 : Int32)).toNatClampNeg)]) (rest := []) C hG (c8_farthest l D cy o qp oa qa (xs (x3 + (1 : Int32)).toNatClampNeg) (xs (x3 + (2 : Int32)).toNatClampNeg) Z X _ h) 2 gL_law_X8_farthest rfl (by decide +kernel) ⟨⟨Nat.le_of_ble_eq_true rfl, Nat.le_of_ble_eq_true rfl⟩, rfl, rfl⟩ rfl rfl (foLx C.2.2.2.2.2.2.2.2.1) rfl hl.1 rfl (Nat.le_of_ble_eq_true rfl) dL_law_927 ⟨Nat.le_of_ble_eq_true rfl, Nat.le_of_ble_eq_true rfl⟩ (fun r1 z H locs h hG => ?_)
  obtain ⟨Z2, X3⟩ := z
  replace h := h
  have hG : GW D (fun q : Nat => s.heap.size ≤ q) s (wP o qp oa qa cy Z2 X3 ++ w9 om qm cy S) H locs := hG
  refine lv_pop hx hb dL_law_930 rfl ?_
  refine lv_aload_n hx hb dL_law_931 rfl (lv_at hl 2 rfl) ?_
  refine lv_aload_n hx hb dL_law_932 rfl (lv_at hl 0 rfl) ?_
  refine lv_iload_n hx hb dL_law_933 rfl (lv_at hl 3 rfl) ?_
  refine lv_iconst (v := 1) hx hb dL_law_934 (by decide) ?_
  refine lv_iadd hx hb dL_law_935 ?_
  refine va_sld hx hb hX hbl (Nat.not_le.mpr hbl) hG.2.2 hv.1 dL_law_936 ?_
  refine lv_aload_n hx hb dL_law_937 rfl (lv_at hl 0 rfl) ?_
  refine lv_iload_n hx hb dL_law_938 rfl (lv_at hl 3 rfl) ?_
  refine lv_iconst (v := 2) hx hb dL_law_939 (by decide) ?_
  refine lv_iadd hx hb dL_law_940 ?_
  refine va_sld hx hb hX hbl (Nat.not_le.mpr hbl) hG.2.2 hv.2.1 dL_law_941 ?_
  refine callVI (As := [.int (xs (x3 + (1 : Int32)).toNatClampNeg), .int (xs (x3 + (2 : Int32)).toNatClampNeg)]) (rest := []) C hG (c9_farthest l D cy om qm (xs (x3 + (1 : Int32)).toNatClampNeg) (xs (x3 + (2 : Int32)).toNatClampNeg) S _ h) 2 gL_law_X9_farthest rfl (by decide +kernel) ⟨⟨Nat.le_of_ble_eq_true rfl, Nat.le_of_ble_eq_true rfl⟩, rfl, rfl⟩ rfl rfl (foLm C.2.2.2.2.2.2.2.2.1) rfl hl.1 rfl (Nat.le_of_ble_eq_true rfl) dL_law_942 ⟨Nat.le_of_ble_eq_true rfl, Nat.le_of_ble_eq_true rfl⟩ (fun r4 S5 H locs h hG => ?_)
  have hG : GW D (fun q : Nat => s.heap.size ≤ q) s (wP o qp oa qa cy Z2 X3 ++ w9 om qm cy S5) H locs := hG
  refine lv_pop hx hb dL_law_945 rfl ?_
  refine lv_goto (tgt := 1466) hx hb dL_law_946 (by decide) ?_
  obtain ⟨y6, ey6⟩ : ∃ y : Int32, y = x3 + 6 := ⟨_, rfl⟩
  replace h := h y6 ey6
  refine lv_iinc (v := y6) (lv' := [(3, .int y6), (0, .ref b), (1, .ref o), (2, .ref om)]) hx hb dL_law_1466 hl (k := 3) rfl (by rw [ey6]; rfl) (by decide) rfl (fun ls hl => ?_)
  refine lv_goto (tgt := 18) hx hb dL_law_1469 (by decide) ?_
  exact hK y6 Z2 X3 S5 _ _ _ h hG (lv_sub hl [1, 2, 3, 0] rfl)
def wL_c17 (xs : Nat → Int32) (K : Int32 → MS → (Nat → MS) → MS → Prop) (x3 : Int32) (Z : MS) (X : Nat → MS) (S : MS) : Prop :=
  w8_mean (xs (x3 + (1 : Int32)).toNatClampNeg) (xs (x3 + (2 : Int32)).toNatClampNeg) Z X (fun r1 Z2 X3 => w9_mean (xs (x3 + (1 : Int32)).toNatClampNeg) (xs (x3 + (2 : Int32)).toNatClampNeg) S (fun r4 S5 => ∀ y6 : Int32, y6 = x3 + 6 → K y6 Z2 X3 S5))
set_option maxHeartbeats 4000000 in
set_option maxRecDepth 100000 in
theorem bL_c17 {p : Program} {l : Launch} {e : Env} {s : State} {m : MethodId} {below : List Frame} {meth : Method} {c : Code} {D : va_G} {cy : Nat → ClassId} {o om : Nat} {qp oa qm : Nat → Nat} {qa : Nat → Nat → Nat} {b L : Nat} {xs : Nat → Int32} (C : Cx p s m #[Value.ref b] meth c cL_law 4 (some .boolean) wsL_law RL D cy nestWs (fun q : Nat => s.heap.size ≤ q)) (hX : va_X b L xs s s.heap) (hbl : b < s.heap.size) {K : Int32 → MS → (Nat → MS) → MS → Prop} (hK : ∀ (x3 : Int32) (Z : MS) (X : Nat → MS) (S : MS) (H : Heap) (locs : List Loc) (ls : Array Slot), K x3 Z X S → GW D (fun q : Nat => s.heap.size ≤ q) s (wP o qp oa qa cy Z X ++ w9 om qm cy S) H locs → lv_has ls 4 [(0, .ref b), (1, .ref o), (2, .ref om), (3, .int x3)] → W p l e room_1 s m #[Value.ref b] below meth c H locs 104 2976 (lw_Z below #[Value.ref b] s) (F0 m 18 ls [])) (x3 : Int32) (hv : (vp_in (x3 + (1 : Int32)) L ∧ vp_in (x3 + (2 : Int32)) L ∧ vp_in (x3 + (3 : Int32)) L ∧ vp_in (x3 + (4 : Int32)) L ∧ vp_in (x3 + (5 : Int32)) L)) (Z : MS) (X : Nat → MS) (S : MS) (h : wL_c17 xs K x3 Z X S) {H : Heap} {locs : List Loc} (hG : GW D (fun q : Nat => s.heap.size ≤ q) s (wP o qp oa qa cy Z X ++ w9 om qm cy S) H locs) {ls : Array Slot} (hl : lv_has ls 4 [(0, .ref b), (1, .ref o), (2, .ref om), (3, .int x3)]) : W p l e room_1 s m #[Value.ref b] below meth c H locs 104 2976 (lw_Z below #[Value.ref b] s) (F0 m 949 ls []) := by
  have hx := C.1
  have hb := C.2.1
  unfold wL_c17 at h
  refine lv_aload_n hx hb dL_law_949 rfl (lv_at hl 1 rfl) ?_
  refine lv_aload_n hx hb dL_law_950 rfl (lv_at hl 0 rfl) ?_
  refine lv_iload_n hx hb dL_law_951 rfl (lv_at hl 3 rfl) ?_
  refine lv_iconst (v := 1) hx hb dL_law_952 (by decide) ?_
  refine lv_iadd hx hb dL_law_953 ?_
  refine va_sld hx hb hX hbl (Nat.not_le.mpr hbl) hG.2.2 hv.1 dL_law_954 ?_
  refine lv_aload_n hx hb dL_law_955 rfl (lv_at hl 0 rfl) ?_
  refine lv_iload_n hx hb dL_law_956 rfl (lv_at hl 3 rfl) ?_
  refine lv_iconst (v := 2) hx hb dL_law_957 (by decide) ?_
  refine lv_iadd hx hb dL_law_958 ?_
  refine va_sld hx hb hX hbl (Nat.not_le.mpr hbl) hG.2.2 hv.2.1 dL_law_959 ?_
  refine callVI (As := [.int (xs (x3 + (1 : Int32)).toNatClampNeg), .int (xs (x3 + (2 : Int32)).toNatClampNeg)]) (rest := []) C hG (c8_mean l D cy o qp oa qa (xs (x3 + (1 : Int32)).toNatClampNeg) (xs (x3 + (2 : Int32)).toNatClampNeg) Z X _ h) 2 gL_law_X8_mean rfl (by decide +kernel) ⟨⟨Nat.le_of_ble_eq_true rfl, Nat.le_of_ble_eq_true rfl⟩, rfl, rfl⟩ rfl rfl (foLx C.2.2.2.2.2.2.2.2.1) rfl hl.1 rfl (Nat.le_of_ble_eq_true rfl) dL_law_960 ⟨Nat.le_of_ble_eq_true rfl, Nat.le_of_ble_eq_true rfl⟩ (fun r1 z H locs h hG => ?_)
  obtain ⟨Z2, X3⟩ := z
  replace h := h
  have hG : GW D (fun q : Nat => s.heap.size ≤ q) s (wP o qp oa qa cy Z2 X3 ++ w9 om qm cy S) H locs := hG
  refine lv_pop hx hb dL_law_963 rfl ?_
  refine lv_aload_n hx hb dL_law_964 rfl (lv_at hl 2 rfl) ?_
  refine lv_aload_n hx hb dL_law_965 rfl (lv_at hl 0 rfl) ?_
  refine lv_iload_n hx hb dL_law_966 rfl (lv_at hl 3 rfl) ?_
  refine lv_iconst (v := 1) hx hb dL_law_967 (by decide) ?_
  refine lv_iadd hx hb dL_law_968 ?_
  refine va_sld hx hb hX hbl (Nat.not_le.mpr hbl) hG.2.2 hv.1 dL_law_969 ?_
  refine lv_aload_n hx hb dL_law_970 rfl (lv_at hl 0 rfl) ?_
  refine lv_iload_n hx hb dL_law_971 rfl (lv_at hl 3 rfl) ?_
  refine lv_iconst (v := 2) hx hb dL_law_972 (by decide) ?_
  refine lv_iadd hx hb dL_law_973 ?_
  refine va_sld hx hb hX hbl (Nat.not_le.mpr hbl) hG.2.2 hv.2.1 dL_law_974 ?_
  refine callVI (As := [.int (xs (x3 + (1 : Int32)).toNatClampNeg), .int (xs (x3 + (2 : Int32)).toNatClampNeg)]) (rest := []) C hG (c9_mean l D cy om qm (xs (x3 + (1 : Int32)).toNatClampNeg) (xs (x3 + (2 : Int32)).toNatClampNeg) S _ h) 2 gL_law_X9_mean rfl (by decide +kernel) ⟨⟨Nat.le_of_ble_eq_true rfl, Nat.le_of_ble_eq_true rfl⟩, rfl, rfl⟩ rfl rfl (foLm C.2.2.2.2.2.2.2.2.1) rfl hl.1 rfl (Nat.le_of_ble_eq_true rfl) dL_law_975 ⟨Nat.le_of_ble_eq_true rfl, Nat.le_of_ble_eq_true rfl⟩ (fun r4 S5 H locs h hG => ?_)
  have hG : GW D (fun q : Nat => s.heap.size ≤ q) s (wP o qp oa qa cy Z2 X3 ++ w9 om qm cy S5) H locs := hG
  refine lv_pop hx hb dL_law_978 rfl ?_
  refine lv_goto (tgt := 1466) hx hb dL_law_979 (by decide) ?_
  obtain ⟨y6, ey6⟩ : ∃ y : Int32, y = x3 + 6 := ⟨_, rfl⟩
  replace h := h y6 ey6
  refine lv_iinc (v := y6) (lv' := [(3, .int y6), (0, .ref b), (1, .ref o), (2, .ref om)]) hx hb dL_law_1466 hl (k := 3) rfl (by rw [ey6]; rfl) (by decide) rfl (fun ls hl => ?_)
  refine lv_goto (tgt := 18) hx hb dL_law_1469 (by decide) ?_
  exact hK y6 Z2 X3 S5 _ _ _ h hG (lv_sub hl [1, 2, 3, 0] rfl)
def wL_c18 (xs : Nat → Int32) (K : Int32 → MS → (Nat → MS) → MS → Prop) (x3 : Int32) (Z : MS) (X : Nat → MS) (S : MS) : Prop :=
  w8_rim (xs (x3 + (1 : Int32)).toNatClampNeg) Z X (fun r1 Z2 X3 => w9_rim (xs (x3 + (1 : Int32)).toNatClampNeg) S (fun r4 S5 => ∀ y6 : Int32, y6 = x3 + 6 → K y6 Z2 X3 S5))
set_option maxHeartbeats 4000000 in
set_option maxRecDepth 100000 in
theorem bL_c18 {p : Program} {l : Launch} {e : Env} {s : State} {m : MethodId} {below : List Frame} {meth : Method} {c : Code} {D : va_G} {cy : Nat → ClassId} {o om : Nat} {qp oa qm : Nat → Nat} {qa : Nat → Nat → Nat} {b L : Nat} {xs : Nat → Int32} (C : Cx p s m #[Value.ref b] meth c cL_law 4 (some .boolean) wsL_law RL D cy nestWs (fun q : Nat => s.heap.size ≤ q)) (hX : va_X b L xs s s.heap) (hbl : b < s.heap.size) {K : Int32 → MS → (Nat → MS) → MS → Prop} (hK : ∀ (x3 : Int32) (Z : MS) (X : Nat → MS) (S : MS) (H : Heap) (locs : List Loc) (ls : Array Slot), K x3 Z X S → GW D (fun q : Nat => s.heap.size ≤ q) s (wP o qp oa qa cy Z X ++ w9 om qm cy S) H locs → lv_has ls 4 [(0, .ref b), (1, .ref o), (2, .ref om), (3, .int x3)] → W p l e room_1 s m #[Value.ref b] below meth c H locs 104 2976 (lw_Z below #[Value.ref b] s) (F0 m 18 ls [])) (x3 : Int32) (hv : (vp_in (x3 + (1 : Int32)) L ∧ vp_in (x3 + (2 : Int32)) L ∧ vp_in (x3 + (3 : Int32)) L ∧ vp_in (x3 + (4 : Int32)) L ∧ vp_in (x3 + (5 : Int32)) L)) (Z : MS) (X : Nat → MS) (S : MS) (h : wL_c18 xs K x3 Z X S) {H : Heap} {locs : List Loc} (hG : GW D (fun q : Nat => s.heap.size ≤ q) s (wP o qp oa qa cy Z X ++ w9 om qm cy S) H locs) {ls : Array Slot} (hl : lv_has ls 4 [(0, .ref b), (1, .ref o), (2, .ref om), (3, .int x3)]) : W p l e room_1 s m #[Value.ref b] below meth c H locs 104 2976 (lw_Z below #[Value.ref b] s) (F0 m 982 ls []) := by
  have hx := C.1
  have hb := C.2.1
  unfold wL_c18 at h
  refine lv_aload_n hx hb dL_law_982 rfl (lv_at hl 1 rfl) ?_
  refine lv_aload_n hx hb dL_law_983 rfl (lv_at hl 0 rfl) ?_
  refine lv_iload_n hx hb dL_law_984 rfl (lv_at hl 3 rfl) ?_
  refine lv_iconst (v := 1) hx hb dL_law_985 (by decide) ?_
  refine lv_iadd hx hb dL_law_986 ?_
  refine va_sld hx hb hX hbl (Nat.not_le.mpr hbl) hG.2.2 hv.1 dL_law_987 ?_
  refine callVI (As := [.int (xs (x3 + (1 : Int32)).toNatClampNeg)]) (rest := []) C hG (c8_rim l D cy o qp oa qa (xs (x3 + (1 : Int32)).toNatClampNeg) Z X _ h) 1 gL_law_X8_rim rfl (by decide +kernel) ⟨⟨Nat.le_of_ble_eq_true rfl, Nat.le_of_ble_eq_true rfl⟩, rfl, rfl⟩ rfl rfl (foLx C.2.2.2.2.2.2.2.2.1) rfl hl.1 rfl (Nat.le_of_ble_eq_true rfl) dL_law_988 ⟨Nat.le_of_ble_eq_true rfl, Nat.le_of_ble_eq_true rfl⟩ (fun r1 z H locs h hG => ?_)
  obtain ⟨Z2, X3⟩ := z
  replace h := h
  have hG : GW D (fun q : Nat => s.heap.size ≤ q) s (wP o qp oa qa cy Z2 X3 ++ w9 om qm cy S) H locs := hG
  refine lv_pop hx hb dL_law_991 rfl ?_
  refine lv_aload_n hx hb dL_law_992 rfl (lv_at hl 2 rfl) ?_
  refine lv_aload_n hx hb dL_law_993 rfl (lv_at hl 0 rfl) ?_
  refine lv_iload_n hx hb dL_law_994 rfl (lv_at hl 3 rfl) ?_
  refine lv_iconst (v := 1) hx hb dL_law_995 (by decide) ?_
  refine lv_iadd hx hb dL_law_996 ?_
  refine va_sld hx hb hX hbl (Nat.not_le.mpr hbl) hG.2.2 hv.1 dL_law_997 ?_
  refine callVI (As := [.int (xs (x3 + (1 : Int32)).toNatClampNeg)]) (rest := []) C hG (c9_rim l D cy om qm (xs (x3 + (1 : Int32)).toNatClampNeg) S _ h) 1 gL_law_X9_rim rfl (by decide +kernel) ⟨⟨Nat.le_of_ble_eq_true rfl, Nat.le_of_ble_eq_true rfl⟩, rfl, rfl⟩ rfl rfl (foLm C.2.2.2.2.2.2.2.2.1) rfl hl.1 rfl (Nat.le_of_ble_eq_true rfl) dL_law_998 ⟨Nat.le_of_ble_eq_true rfl, Nat.le_of_ble_eq_true rfl⟩ (fun r4 S5 H locs h hG => ?_)
  have hG : GW D (fun q : Nat => s.heap.size ≤ q) s (wP o qp oa qa cy Z2 X3 ++ w9 om qm cy S5) H locs := hG
  refine lv_pop hx hb dL_law_1001 rfl ?_
  refine lv_goto (tgt := 1466) hx hb dL_law_1002 (by decide) ?_
  obtain ⟨y6, ey6⟩ : ∃ y : Int32, y = x3 + 6 := ⟨_, rfl⟩
  replace h := h y6 ey6
  refine lv_iinc (v := y6) (lv' := [(3, .int y6), (0, .ref b), (1, .ref o), (2, .ref om)]) hx hb dL_law_1466 hl (k := 3) rfl (by rw [ey6]; rfl) (by decide) rfl (fun ls hl => ?_)
  refine lv_goto (tgt := 18) hx hb dL_law_1469 (by decide) ?_
  exact hK y6 Z2 X3 S5 _ _ _ h hG (lv_sub hl [1, 2, 3, 0] rfl)
def wL_c19 (xs : Nat → Int32) (K : Int32 → MS → (Nat → MS) → MS → Prop) (x3 : Int32) (Z : MS) (X : Nat → MS) (S : MS) : Prop :=
  w8_edge (xs (x3 + (1 : Int32)).toNatClampNeg) (xs (x3 + (2 : Int32)).toNatClampNeg) (xs (x3 + (3 : Int32)).toNatClampNeg) Z X (fun r1 Z2 X3 => w9_edge (xs (x3 + (1 : Int32)).toNatClampNeg) (xs (x3 + (2 : Int32)).toNatClampNeg) (xs (x3 + (3 : Int32)).toNatClampNeg) S (fun r4 S5 => ∀ y6 : Int32, y6 = x3 + 6 → K y6 Z2 X3 S5))
set_option maxHeartbeats 4000000 in
set_option maxRecDepth 100000 in
theorem bL_c19 {p : Program} {l : Launch} {e : Env} {s : State} {m : MethodId} {below : List Frame} {meth : Method} {c : Code} {D : va_G} {cy : Nat → ClassId} {o om : Nat} {qp oa qm : Nat → Nat} {qa : Nat → Nat → Nat} {b L : Nat} {xs : Nat → Int32} (C : Cx p s m #[Value.ref b] meth c cL_law 4 (some .boolean) wsL_law RL D cy nestWs (fun q : Nat => s.heap.size ≤ q)) (hX : va_X b L xs s s.heap) (hbl : b < s.heap.size) {K : Int32 → MS → (Nat → MS) → MS → Prop} (hK : ∀ (x3 : Int32) (Z : MS) (X : Nat → MS) (S : MS) (H : Heap) (locs : List Loc) (ls : Array Slot), K x3 Z X S → GW D (fun q : Nat => s.heap.size ≤ q) s (wP o qp oa qa cy Z X ++ w9 om qm cy S) H locs → lv_has ls 4 [(0, .ref b), (1, .ref o), (2, .ref om), (3, .int x3)] → W p l e room_1 s m #[Value.ref b] below meth c H locs 104 2976 (lw_Z below #[Value.ref b] s) (F0 m 18 ls [])) (x3 : Int32) (hv : (vp_in (x3 + (1 : Int32)) L ∧ vp_in (x3 + (2 : Int32)) L ∧ vp_in (x3 + (3 : Int32)) L ∧ vp_in (x3 + (4 : Int32)) L ∧ vp_in (x3 + (5 : Int32)) L)) (Z : MS) (X : Nat → MS) (S : MS) (h : wL_c19 xs K x3 Z X S) {H : Heap} {locs : List Loc} (hG : GW D (fun q : Nat => s.heap.size ≤ q) s (wP o qp oa qa cy Z X ++ w9 om qm cy S) H locs) {ls : Array Slot} (hl : lv_has ls 4 [(0, .ref b), (1, .ref o), (2, .ref om), (3, .int x3)]) : W p l e room_1 s m #[Value.ref b] below meth c H locs 104 2976 (lw_Z below #[Value.ref b] s) (F0 m 1005 ls []) := by
  have hx := C.1
  have hb := C.2.1
  unfold wL_c19 at h
  refine lv_aload_n hx hb dL_law_1005 rfl (lv_at hl 1 rfl) ?_
  refine lv_aload_n hx hb dL_law_1006 rfl (lv_at hl 0 rfl) ?_
  refine lv_iload_n hx hb dL_law_1007 rfl (lv_at hl 3 rfl) ?_
  refine lv_iconst (v := 1) hx hb dL_law_1008 (by decide) ?_
  refine lv_iadd hx hb dL_law_1009 ?_
  refine va_sld hx hb hX hbl (Nat.not_le.mpr hbl) hG.2.2 hv.1 dL_law_1010 ?_
  refine lv_aload_n hx hb dL_law_1011 rfl (lv_at hl 0 rfl) ?_
  refine lv_iload_n hx hb dL_law_1012 rfl (lv_at hl 3 rfl) ?_
  refine lv_iconst (v := 2) hx hb dL_law_1013 (by decide) ?_
  refine lv_iadd hx hb dL_law_1014 ?_
  refine va_sld hx hb hX hbl (Nat.not_le.mpr hbl) hG.2.2 hv.2.1 dL_law_1015 ?_
  refine lv_aload_n hx hb dL_law_1016 rfl (lv_at hl 0 rfl) ?_
  refine lv_iload_n hx hb dL_law_1017 rfl (lv_at hl 3 rfl) ?_
  refine lv_iconst (v := 3) hx hb dL_law_1018 (by decide) ?_
  refine lv_iadd hx hb dL_law_1019 ?_
  refine va_sld hx hb hX hbl (Nat.not_le.mpr hbl) hG.2.2 hv.2.2.1 dL_law_1020 ?_
  refine callVI (As := [.int (xs (x3 + (1 : Int32)).toNatClampNeg), .int (xs (x3 + (2 : Int32)).toNatClampNeg), .int (xs (x3 + (3 : Int32)).toNatClampNeg)]) (rest := []) C hG (c8_edge l D cy o qp oa qa (xs (x3 + (1 : Int32)).toNatClampNeg) (xs (x3 + (2 : Int32)).toNatClampNeg) (xs (x3 + (3 : Int32)).toNatClampNeg) Z X _ h) 3 gL_law_X8_edge rfl (by decide +kernel) ⟨⟨Nat.le_of_ble_eq_true rfl, Nat.le_of_ble_eq_true rfl⟩, rfl, rfl⟩ rfl rfl (foLx C.2.2.2.2.2.2.2.2.1) rfl hl.1 rfl (Nat.le_of_ble_eq_true rfl) dL_law_1021 ⟨Nat.le_of_ble_eq_true rfl, Nat.le_of_ble_eq_true rfl⟩ (fun r1 z H locs h hG => ?_)
  obtain ⟨Z2, X3⟩ := z
  replace h := h
  have hG : GW D (fun q : Nat => s.heap.size ≤ q) s (wP o qp oa qa cy Z2 X3 ++ w9 om qm cy S) H locs := hG
  refine lv_pop hx hb dL_law_1024 rfl ?_
  refine lv_aload_n hx hb dL_law_1025 rfl (lv_at hl 2 rfl) ?_
  refine lv_aload_n hx hb dL_law_1026 rfl (lv_at hl 0 rfl) ?_
  refine lv_iload_n hx hb dL_law_1027 rfl (lv_at hl 3 rfl) ?_
  refine lv_iconst (v := 1) hx hb dL_law_1028 (by decide) ?_
  refine lv_iadd hx hb dL_law_1029 ?_
  refine va_sld hx hb hX hbl (Nat.not_le.mpr hbl) hG.2.2 hv.1 dL_law_1030 ?_
  refine lv_aload_n hx hb dL_law_1031 rfl (lv_at hl 0 rfl) ?_
  refine lv_iload_n hx hb dL_law_1032 rfl (lv_at hl 3 rfl) ?_
  refine lv_iconst (v := 2) hx hb dL_law_1033 (by decide) ?_
  refine lv_iadd hx hb dL_law_1034 ?_
  refine va_sld hx hb hX hbl (Nat.not_le.mpr hbl) hG.2.2 hv.2.1 dL_law_1035 ?_
  refine lv_aload_n hx hb dL_law_1036 rfl (lv_at hl 0 rfl) ?_
  refine lv_iload_n hx hb dL_law_1037 rfl (lv_at hl 3 rfl) ?_
  refine lv_iconst (v := 3) hx hb dL_law_1038 (by decide) ?_
  refine lv_iadd hx hb dL_law_1039 ?_
  refine va_sld hx hb hX hbl (Nat.not_le.mpr hbl) hG.2.2 hv.2.2.1 dL_law_1040 ?_
  refine callVI (As := [.int (xs (x3 + (1 : Int32)).toNatClampNeg), .int (xs (x3 + (2 : Int32)).toNatClampNeg), .int (xs (x3 + (3 : Int32)).toNatClampNeg)]) (rest := []) C hG (c9_edge l D cy om qm (xs (x3 + (1 : Int32)).toNatClampNeg) (xs (x3 + (2 : Int32)).toNatClampNeg) (xs (x3 + (3 : Int32)).toNatClampNeg) S _ h) 3 gL_law_X9_edge rfl (by decide +kernel) ⟨⟨Nat.le_of_ble_eq_true rfl, Nat.le_of_ble_eq_true rfl⟩, rfl, rfl⟩ rfl rfl (foLm C.2.2.2.2.2.2.2.2.1) rfl hl.1 rfl (Nat.le_of_ble_eq_true rfl) dL_law_1041 ⟨Nat.le_of_ble_eq_true rfl, Nat.le_of_ble_eq_true rfl⟩ (fun r4 S5 H locs h hG => ?_)
  have hG : GW D (fun q : Nat => s.heap.size ≤ q) s (wP o qp oa qa cy Z2 X3 ++ w9 om qm cy S5) H locs := hG
  refine lv_pop hx hb dL_law_1044 rfl ?_
  refine lv_goto (tgt := 1466) hx hb dL_law_1045 (by decide) ?_
  obtain ⟨y6, ey6⟩ : ∃ y : Int32, y = x3 + 6 := ⟨_, rfl⟩
  replace h := h y6 ey6
  refine lv_iinc (v := y6) (lv' := [(3, .int y6), (0, .ref b), (1, .ref o), (2, .ref om)]) hx hb dL_law_1466 hl (k := 3) rfl (by rw [ey6]; rfl) (by decide) rfl (fun ls hl => ?_)
  refine lv_goto (tgt := 18) hx hb dL_law_1469 (by decide) ?_
  exact hK y6 Z2 X3 S5 _ _ _ h hG (lv_sub hl [1, 2, 3, 0] rfl)
def wL_c20 (xs : Nat → Int32) (K : Int32 → MS → (Nat → MS) → MS → Prop) (x3 : Int32) (Z : MS) (X : Nat → MS) (S : MS) : Prop :=
  w8_gluings (xs (x3 + (1 : Int32)).toNatClampNeg) (xs (x3 + (2 : Int32)).toNatClampNeg) Z X (fun r1 Z2 X3 => w9_gluings (xs (x3 + (1 : Int32)).toNatClampNeg) (xs (x3 + (2 : Int32)).toNatClampNeg) S (fun r4 S5 => ∀ y6 : Int32, y6 = x3 + 6 → K y6 Z2 X3 S5))
set_option maxHeartbeats 4000000 in
set_option maxRecDepth 100000 in
theorem bL_c20 {p : Program} {l : Launch} {e : Env} {s : State} {m : MethodId} {below : List Frame} {meth : Method} {c : Code} {D : va_G} {cy : Nat → ClassId} {o om : Nat} {qp oa qm : Nat → Nat} {qa : Nat → Nat → Nat} {b L : Nat} {xs : Nat → Int32} (C : Cx p s m #[Value.ref b] meth c cL_law 4 (some .boolean) wsL_law RL D cy nestWs (fun q : Nat => s.heap.size ≤ q)) (hX : va_X b L xs s s.heap) (hbl : b < s.heap.size) {K : Int32 → MS → (Nat → MS) → MS → Prop} (hK : ∀ (x3 : Int32) (Z : MS) (X : Nat → MS) (S : MS) (H : Heap) (locs : List Loc) (ls : Array Slot), K x3 Z X S → GW D (fun q : Nat => s.heap.size ≤ q) s (wP o qp oa qa cy Z X ++ w9 om qm cy S) H locs → lv_has ls 4 [(0, .ref b), (1, .ref o), (2, .ref om), (3, .int x3)] → W p l e room_1 s m #[Value.ref b] below meth c H locs 104 2976 (lw_Z below #[Value.ref b] s) (F0 m 18 ls [])) (x3 : Int32) (hv : (vp_in (x3 + (1 : Int32)) L ∧ vp_in (x3 + (2 : Int32)) L ∧ vp_in (x3 + (3 : Int32)) L ∧ vp_in (x3 + (4 : Int32)) L ∧ vp_in (x3 + (5 : Int32)) L)) (Z : MS) (X : Nat → MS) (S : MS) (h : wL_c20 xs K x3 Z X S) {H : Heap} {locs : List Loc} (hG : GW D (fun q : Nat => s.heap.size ≤ q) s (wP o qp oa qa cy Z X ++ w9 om qm cy S) H locs) {ls : Array Slot} (hl : lv_has ls 4 [(0, .ref b), (1, .ref o), (2, .ref om), (3, .int x3)]) : W p l e room_1 s m #[Value.ref b] below meth c H locs 104 2976 (lw_Z below #[Value.ref b] s) (F0 m 1048 ls []) := by
  have hx := C.1
  have hb := C.2.1
  unfold wL_c20 at h
  refine lv_aload_n hx hb dL_law_1048 rfl (lv_at hl 1 rfl) ?_
  refine lv_aload_n hx hb dL_law_1049 rfl (lv_at hl 0 rfl) ?_
  refine lv_iload_n hx hb dL_law_1050 rfl (lv_at hl 3 rfl) ?_
  refine lv_iconst (v := 1) hx hb dL_law_1051 (by decide) ?_
  refine lv_iadd hx hb dL_law_1052 ?_
  refine va_sld hx hb hX hbl (Nat.not_le.mpr hbl) hG.2.2 hv.1 dL_law_1053 ?_
  refine lv_aload_n hx hb dL_law_1054 rfl (lv_at hl 0 rfl) ?_
  refine lv_iload_n hx hb dL_law_1055 rfl (lv_at hl 3 rfl) ?_
  refine lv_iconst (v := 2) hx hb dL_law_1056 (by decide) ?_
  refine lv_iadd hx hb dL_law_1057 ?_
  refine va_sld hx hb hX hbl (Nat.not_le.mpr hbl) hG.2.2 hv.2.1 dL_law_1058 ?_
  refine callVI (As := [.int (xs (x3 + (1 : Int32)).toNatClampNeg), .int (xs (x3 + (2 : Int32)).toNatClampNeg)]) (rest := []) C hG (c8_gluings l D cy o qp oa qa (xs (x3 + (1 : Int32)).toNatClampNeg) (xs (x3 + (2 : Int32)).toNatClampNeg) Z X _ h) 2 gL_law_X8_gluings rfl (by decide +kernel) ⟨⟨Nat.le_of_ble_eq_true rfl, Nat.le_of_ble_eq_true rfl⟩, rfl, rfl⟩ rfl rfl (foLx C.2.2.2.2.2.2.2.2.1) rfl hl.1 rfl (Nat.le_of_ble_eq_true rfl) dL_law_1059 ⟨Nat.le_of_ble_eq_true rfl, Nat.le_of_ble_eq_true rfl⟩ (fun r1 z H locs h hG => ?_)
  obtain ⟨Z2, X3⟩ := z
  replace h := h
  have hG : GW D (fun q : Nat => s.heap.size ≤ q) s (wP o qp oa qa cy Z2 X3 ++ w9 om qm cy S) H locs := hG
  refine lv_pop hx hb dL_law_1062 rfl ?_
  refine lv_aload_n hx hb dL_law_1063 rfl (lv_at hl 2 rfl) ?_
  refine lv_aload_n hx hb dL_law_1064 rfl (lv_at hl 0 rfl) ?_
  refine lv_iload_n hx hb dL_law_1065 rfl (lv_at hl 3 rfl) ?_
  refine lv_iconst (v := 1) hx hb dL_law_1066 (by decide) ?_
  refine lv_iadd hx hb dL_law_1067 ?_
  refine va_sld hx hb hX hbl (Nat.not_le.mpr hbl) hG.2.2 hv.1 dL_law_1068 ?_
  refine lv_aload_n hx hb dL_law_1069 rfl (lv_at hl 0 rfl) ?_
  refine lv_iload_n hx hb dL_law_1070 rfl (lv_at hl 3 rfl) ?_
  refine lv_iconst (v := 2) hx hb dL_law_1071 (by decide) ?_
  refine lv_iadd hx hb dL_law_1072 ?_
  refine va_sld hx hb hX hbl (Nat.not_le.mpr hbl) hG.2.2 hv.2.1 dL_law_1073 ?_
  refine callVI (As := [.int (xs (x3 + (1 : Int32)).toNatClampNeg), .int (xs (x3 + (2 : Int32)).toNatClampNeg)]) (rest := []) C hG (c9_gluings l D cy om qm (xs (x3 + (1 : Int32)).toNatClampNeg) (xs (x3 + (2 : Int32)).toNatClampNeg) S _ h) 2 gL_law_X9_gluings rfl (by decide +kernel) ⟨⟨Nat.le_of_ble_eq_true rfl, Nat.le_of_ble_eq_true rfl⟩, rfl, rfl⟩ rfl rfl (foLm C.2.2.2.2.2.2.2.2.1) rfl hl.1 rfl (Nat.le_of_ble_eq_true rfl) dL_law_1074 ⟨Nat.le_of_ble_eq_true rfl, Nat.le_of_ble_eq_true rfl⟩ (fun r4 S5 H locs h hG => ?_)
  have hG : GW D (fun q : Nat => s.heap.size ≤ q) s (wP o qp oa qa cy Z2 X3 ++ w9 om qm cy S5) H locs := hG
  refine lv_pop hx hb dL_law_1077 rfl ?_
  refine lv_goto (tgt := 1466) hx hb dL_law_1078 (by decide) ?_
  obtain ⟨y6, ey6⟩ : ∃ y : Int32, y = x3 + 6 := ⟨_, rfl⟩
  replace h := h y6 ey6
  refine lv_iinc (v := y6) (lv' := [(3, .int y6), (0, .ref b), (1, .ref o), (2, .ref om)]) hx hb dL_law_1466 hl (k := 3) rfl (by rw [ey6]; rfl) (by decide) rfl (fun ls hl => ?_)
  refine lv_goto (tgt := 18) hx hb dL_law_1469 (by decide) ?_
  exact hK y6 Z2 X3 S5 _ _ _ h hG (lv_sub hl [1, 2, 3, 0] rfl)
def wL_c21 (xs : Nat → Int32) (K : Int32 → MS → (Nat → MS) → MS → Prop) (x3 : Int32) (Z : MS) (X : Nat → MS) (S : MS) : Prop :=
  w8_glued (xs (x3 + (1 : Int32)).toNatClampNeg) Z X (fun r1 => w9_glued (xs (x3 + (1 : Int32)).toNatClampNeg) S (fun r4 => ∀ y6 : Int32, y6 = x3 + 6 → K y6 Z X S))
set_option maxHeartbeats 4000000 in
set_option maxRecDepth 100000 in
theorem bL_c21 {p : Program} {l : Launch} {e : Env} {s : State} {m : MethodId} {below : List Frame} {meth : Method} {c : Code} {D : va_G} {cy : Nat → ClassId} {o om : Nat} {qp oa qm : Nat → Nat} {qa : Nat → Nat → Nat} {b L : Nat} {xs : Nat → Int32} (C : Cx p s m #[Value.ref b] meth c cL_law 4 (some .boolean) wsL_law RL D cy nestWs (fun q : Nat => s.heap.size ≤ q)) (hX : va_X b L xs s s.heap) (hbl : b < s.heap.size) {K : Int32 → MS → (Nat → MS) → MS → Prop} (hK : ∀ (x3 : Int32) (Z : MS) (X : Nat → MS) (S : MS) (H : Heap) (locs : List Loc) (ls : Array Slot), K x3 Z X S → GW D (fun q : Nat => s.heap.size ≤ q) s (wP o qp oa qa cy Z X ++ w9 om qm cy S) H locs → lv_has ls 4 [(0, .ref b), (1, .ref o), (2, .ref om), (3, .int x3)] → W p l e room_1 s m #[Value.ref b] below meth c H locs 104 2976 (lw_Z below #[Value.ref b] s) (F0 m 18 ls [])) (x3 : Int32) (hv : (vp_in (x3 + (1 : Int32)) L ∧ vp_in (x3 + (2 : Int32)) L ∧ vp_in (x3 + (3 : Int32)) L ∧ vp_in (x3 + (4 : Int32)) L ∧ vp_in (x3 + (5 : Int32)) L)) (Z : MS) (X : Nat → MS) (S : MS) (h : wL_c21 xs K x3 Z X S) {H : Heap} {locs : List Loc} (hG : GW D (fun q : Nat => s.heap.size ≤ q) s (wP o qp oa qa cy Z X ++ w9 om qm cy S) H locs) {ls : Array Slot} (hl : lv_has ls 4 [(0, .ref b), (1, .ref o), (2, .ref om), (3, .int x3)]) : W p l e room_1 s m #[Value.ref b] below meth c H locs 104 2976 (lw_Z below #[Value.ref b] s) (F0 m 1081 ls []) := by
  have hx := C.1
  have hb := C.2.1
  unfold wL_c21 at h
  refine lv_aload_n hx hb dL_law_1081 rfl (lv_at hl 1 rfl) ?_
  refine lv_aload_n hx hb dL_law_1082 rfl (lv_at hl 0 rfl) ?_
  refine lv_iload_n hx hb dL_law_1083 rfl (lv_at hl 3 rfl) ?_
  refine lv_iconst (v := 1) hx hb dL_law_1084 (by decide) ?_
  refine lv_iadd hx hb dL_law_1085 ?_
  refine va_sld hx hb hX hbl (Nat.not_le.mpr hbl) hG.2.2 hv.1 dL_law_1086 ?_
  refine callVI (As := [.int (xs (x3 + (1 : Int32)).toNatClampNeg)]) (rest := []) C hG (c8_glued l D cy o qp oa qa (xs (x3 + (1 : Int32)).toNatClampNeg) Z X _ h) 1 gL_law_X8_glued rfl (by decide +kernel) ⟨⟨Nat.le_of_ble_eq_true rfl, Nat.le_of_ble_eq_true rfl⟩, rfl, rfl⟩ rfl rfl (foLx C.2.2.2.2.2.2.2.2.1) rfl hl.1 rfl (Nat.le_of_ble_eq_true rfl) dL_law_1087 ⟨Nat.le_of_ble_eq_true rfl, Nat.le_of_ble_eq_true rfl⟩ (fun r1 z H locs h hG => ?_)
  obtain ⟨Z2, X3⟩ := z
  obtain ⟨eZ2, h⟩ := h
  have eZ2 : Z2 = Z := eZ2
  obtain ⟨eX3, h⟩ := h
  have eX3 : X3 = X := eX3
  replace h := h
  subst Z2
  subst X3
  have hG : GW D (fun q : Nat => s.heap.size ≤ q) s (wP o qp oa qa cy Z X ++ w9 om qm cy S) H locs := hG
  refine lv_pop hx hb dL_law_1090 rfl ?_
  refine lv_aload_n hx hb dL_law_1091 rfl (lv_at hl 2 rfl) ?_
  refine lv_aload_n hx hb dL_law_1092 rfl (lv_at hl 0 rfl) ?_
  refine lv_iload_n hx hb dL_law_1093 rfl (lv_at hl 3 rfl) ?_
  refine lv_iconst (v := 1) hx hb dL_law_1094 (by decide) ?_
  refine lv_iadd hx hb dL_law_1095 ?_
  refine va_sld hx hb hX hbl (Nat.not_le.mpr hbl) hG.2.2 hv.1 dL_law_1096 ?_
  refine callVI (As := [.int (xs (x3 + (1 : Int32)).toNatClampNeg)]) (rest := []) C hG (c9_glued l D cy om qm (xs (x3 + (1 : Int32)).toNatClampNeg) S _ h) 1 gL_law_X9_glued rfl (by decide +kernel) ⟨⟨Nat.le_of_ble_eq_true rfl, Nat.le_of_ble_eq_true rfl⟩, rfl, rfl⟩ rfl rfl (foLm C.2.2.2.2.2.2.2.2.1) rfl hl.1 rfl (Nat.le_of_ble_eq_true rfl) dL_law_1097 ⟨Nat.le_of_ble_eq_true rfl, Nat.le_of_ble_eq_true rfl⟩ (fun r4 S5 H locs h hG => ?_)
  obtain ⟨eS5, h⟩ := h
  subst S5
  have hG : GW D (fun q : Nat => s.heap.size ≤ q) s (wP o qp oa qa cy Z X ++ w9 om qm cy S) H locs := hG
  refine lv_pop hx hb dL_law_1100 rfl ?_
  refine lv_goto (tgt := 1466) hx hb dL_law_1101 (by decide) ?_
  obtain ⟨y6, ey6⟩ : ∃ y : Int32, y = x3 + 6 := ⟨_, rfl⟩
  replace h := h y6 ey6
  refine lv_iinc (v := y6) (lv' := [(3, .int y6), (0, .ref b), (1, .ref o), (2, .ref om)]) hx hb dL_law_1466 hl (k := 3) rfl (by rw [ey6]; rfl) (by decide) rfl (fun ls hl => ?_)
  refine lv_goto (tgt := 18) hx hb dL_law_1469 (by decide) ?_
  exact hK y6 Z X S _ _ _ h hG (lv_sub hl [1, 2, 3, 0] rfl)
def wL_c22 (xs : Nat → Int32) (K : Int32 → MS → (Nat → MS) → MS → Prop) (x3 : Int32) (Z : MS) (X : Nat → MS) (S : MS) : Prop :=
  w8_corners (xs (x3 + (1 : Int32)).toNatClampNeg) Z X (fun r1 => w9_corners (xs (x3 + (1 : Int32)).toNatClampNeg) S (fun r4 => ∀ y6 : Int32, y6 = x3 + 6 → K y6 Z X S))
set_option maxHeartbeats 4000000 in
set_option maxRecDepth 100000 in
theorem bL_c22 {p : Program} {l : Launch} {e : Env} {s : State} {m : MethodId} {below : List Frame} {meth : Method} {c : Code} {D : va_G} {cy : Nat → ClassId} {o om : Nat} {qp oa qm : Nat → Nat} {qa : Nat → Nat → Nat} {b L : Nat} {xs : Nat → Int32} (C : Cx p s m #[Value.ref b] meth c cL_law 4 (some .boolean) wsL_law RL D cy nestWs (fun q : Nat => s.heap.size ≤ q)) (hX : va_X b L xs s s.heap) (hbl : b < s.heap.size) {K : Int32 → MS → (Nat → MS) → MS → Prop} (hK : ∀ (x3 : Int32) (Z : MS) (X : Nat → MS) (S : MS) (H : Heap) (locs : List Loc) (ls : Array Slot), K x3 Z X S → GW D (fun q : Nat => s.heap.size ≤ q) s (wP o qp oa qa cy Z X ++ w9 om qm cy S) H locs → lv_has ls 4 [(0, .ref b), (1, .ref o), (2, .ref om), (3, .int x3)] → W p l e room_1 s m #[Value.ref b] below meth c H locs 104 2976 (lw_Z below #[Value.ref b] s) (F0 m 18 ls [])) (x3 : Int32) (hv : (vp_in (x3 + (1 : Int32)) L ∧ vp_in (x3 + (2 : Int32)) L ∧ vp_in (x3 + (3 : Int32)) L ∧ vp_in (x3 + (4 : Int32)) L ∧ vp_in (x3 + (5 : Int32)) L)) (Z : MS) (X : Nat → MS) (S : MS) (h : wL_c22 xs K x3 Z X S) {H : Heap} {locs : List Loc} (hG : GW D (fun q : Nat => s.heap.size ≤ q) s (wP o qp oa qa cy Z X ++ w9 om qm cy S) H locs) {ls : Array Slot} (hl : lv_has ls 4 [(0, .ref b), (1, .ref o), (2, .ref om), (3, .int x3)]) : W p l e room_1 s m #[Value.ref b] below meth c H locs 104 2976 (lw_Z below #[Value.ref b] s) (F0 m 1104 ls []) := by
  have hx := C.1
  have hb := C.2.1
  unfold wL_c22 at h
  refine lv_aload_n hx hb dL_law_1104 rfl (lv_at hl 1 rfl) ?_
  refine lv_aload_n hx hb dL_law_1105 rfl (lv_at hl 0 rfl) ?_
  refine lv_iload_n hx hb dL_law_1106 rfl (lv_at hl 3 rfl) ?_
  refine lv_iconst (v := 1) hx hb dL_law_1107 (by decide) ?_
  refine lv_iadd hx hb dL_law_1108 ?_
  refine va_sld hx hb hX hbl (Nat.not_le.mpr hbl) hG.2.2 hv.1 dL_law_1109 ?_
  refine callVI (As := [.int (xs (x3 + (1 : Int32)).toNatClampNeg)]) (rest := []) C hG (c8_corners l D cy o qp oa qa (xs (x3 + (1 : Int32)).toNatClampNeg) Z X _ h) 1 gL_law_X8_corners rfl (by decide +kernel) ⟨⟨Nat.le_of_ble_eq_true rfl, Nat.le_of_ble_eq_true rfl⟩, rfl, rfl⟩ rfl rfl (foLx C.2.2.2.2.2.2.2.2.1) rfl hl.1 rfl (Nat.le_of_ble_eq_true rfl) dL_law_1110 ⟨Nat.le_of_ble_eq_true rfl, Nat.le_of_ble_eq_true rfl⟩ (fun r1 z H locs h hG => ?_)
  obtain ⟨Z2, X3⟩ := z
  obtain ⟨eZ2, h⟩ := h
  have eZ2 : Z2 = Z := eZ2
  obtain ⟨eX3, h⟩ := h
  have eX3 : X3 = X := eX3
  replace h := h
  subst Z2
  subst X3
  have hG : GW D (fun q : Nat => s.heap.size ≤ q) s (wP o qp oa qa cy Z X ++ w9 om qm cy S) H locs := hG
  refine lv_pop hx hb dL_law_1113 rfl ?_
  refine lv_aload_n hx hb dL_law_1114 rfl (lv_at hl 2 rfl) ?_
  refine lv_aload_n hx hb dL_law_1115 rfl (lv_at hl 0 rfl) ?_
  refine lv_iload_n hx hb dL_law_1116 rfl (lv_at hl 3 rfl) ?_
  refine lv_iconst (v := 1) hx hb dL_law_1117 (by decide) ?_
  refine lv_iadd hx hb dL_law_1118 ?_
  refine va_sld hx hb hX hbl (Nat.not_le.mpr hbl) hG.2.2 hv.1 dL_law_1119 ?_
  refine callVI (As := [.int (xs (x3 + (1 : Int32)).toNatClampNeg)]) (rest := []) C hG (c9_corners l D cy om qm (xs (x3 + (1 : Int32)).toNatClampNeg) S _ h) 1 gL_law_X9_corners rfl (by decide +kernel) ⟨⟨Nat.le_of_ble_eq_true rfl, Nat.le_of_ble_eq_true rfl⟩, rfl, rfl⟩ rfl rfl (foLm C.2.2.2.2.2.2.2.2.1) rfl hl.1 rfl (Nat.le_of_ble_eq_true rfl) dL_law_1120 ⟨Nat.le_of_ble_eq_true rfl, Nat.le_of_ble_eq_true rfl⟩ (fun r4 S5 H locs h hG => ?_)
  obtain ⟨eS5, h⟩ := h
  subst S5
  have hG : GW D (fun q : Nat => s.heap.size ≤ q) s (wP o qp oa qa cy Z X ++ w9 om qm cy S) H locs := hG
  refine lv_pop hx hb dL_law_1123 rfl ?_
  refine lv_goto (tgt := 1466) hx hb dL_law_1124 (by decide) ?_
  obtain ⟨y6, ey6⟩ : ∃ y : Int32, y = x3 + 6 := ⟨_, rfl⟩
  replace h := h y6 ey6
  refine lv_iinc (v := y6) (lv' := [(3, .int y6), (0, .ref b), (1, .ref o), (2, .ref om)]) hx hb dL_law_1466 hl (k := 3) rfl (by rw [ey6]; rfl) (by decide) rfl (fun ls hl => ?_)
  refine lv_goto (tgt := 18) hx hb dL_law_1469 (by decide) ?_
  exact hK y6 Z X S _ _ _ h hG (lv_sub hl [1, 2, 3, 0] rfl)
def wL_c23 (xs : Nat → Int32) (K : Int32 → MS → (Nat → MS) → MS → Prop) (x3 : Int32) (Z : MS) (X : Nat → MS) (S : MS) : Prop :=
  w8_glue (xs (x3 + (1 : Int32)).toNatClampNeg) (xs (x3 + (2 : Int32)).toNatClampNeg) Z X (fun r1 Z2 X3 => w9_glue (xs (x3 + (1 : Int32)).toNatClampNeg) (xs (x3 + (2 : Int32)).toNatClampNeg) S (fun r4 S5 => ∀ y6 : Int32, y6 = x3 + 6 → K y6 Z2 X3 S5))
set_option maxHeartbeats 4000000 in
set_option maxRecDepth 100000 in
theorem bL_c23 {p : Program} {l : Launch} {e : Env} {s : State} {m : MethodId} {below : List Frame} {meth : Method} {c : Code} {D : va_G} {cy : Nat → ClassId} {o om : Nat} {qp oa qm : Nat → Nat} {qa : Nat → Nat → Nat} {b L : Nat} {xs : Nat → Int32} (C : Cx p s m #[Value.ref b] meth c cL_law 4 (some .boolean) wsL_law RL D cy nestWs (fun q : Nat => s.heap.size ≤ q)) (hX : va_X b L xs s s.heap) (hbl : b < s.heap.size) {K : Int32 → MS → (Nat → MS) → MS → Prop} (hK : ∀ (x3 : Int32) (Z : MS) (X : Nat → MS) (S : MS) (H : Heap) (locs : List Loc) (ls : Array Slot), K x3 Z X S → GW D (fun q : Nat => s.heap.size ≤ q) s (wP o qp oa qa cy Z X ++ w9 om qm cy S) H locs → lv_has ls 4 [(0, .ref b), (1, .ref o), (2, .ref om), (3, .int x3)] → W p l e room_1 s m #[Value.ref b] below meth c H locs 104 2976 (lw_Z below #[Value.ref b] s) (F0 m 18 ls [])) (x3 : Int32) (hv : (vp_in (x3 + (1 : Int32)) L ∧ vp_in (x3 + (2 : Int32)) L ∧ vp_in (x3 + (3 : Int32)) L ∧ vp_in (x3 + (4 : Int32)) L ∧ vp_in (x3 + (5 : Int32)) L)) (Z : MS) (X : Nat → MS) (S : MS) (h : wL_c23 xs K x3 Z X S) {H : Heap} {locs : List Loc} (hG : GW D (fun q : Nat => s.heap.size ≤ q) s (wP o qp oa qa cy Z X ++ w9 om qm cy S) H locs) {ls : Array Slot} (hl : lv_has ls 4 [(0, .ref b), (1, .ref o), (2, .ref om), (3, .int x3)]) : W p l e room_1 s m #[Value.ref b] below meth c H locs 104 2976 (lw_Z below #[Value.ref b] s) (F0 m 1127 ls []) := by
  have hx := C.1
  have hb := C.2.1
  unfold wL_c23 at h
  refine lv_aload_n hx hb dL_law_1127 rfl (lv_at hl 1 rfl) ?_
  refine lv_aload_n hx hb dL_law_1128 rfl (lv_at hl 0 rfl) ?_
  refine lv_iload_n hx hb dL_law_1129 rfl (lv_at hl 3 rfl) ?_
  refine lv_iconst (v := 1) hx hb dL_law_1130 (by decide) ?_
  refine lv_iadd hx hb dL_law_1131 ?_
  refine va_sld hx hb hX hbl (Nat.not_le.mpr hbl) hG.2.2 hv.1 dL_law_1132 ?_
  refine lv_aload_n hx hb dL_law_1133 rfl (lv_at hl 0 rfl) ?_
  refine lv_iload_n hx hb dL_law_1134 rfl (lv_at hl 3 rfl) ?_
  refine lv_iconst (v := 2) hx hb dL_law_1135 (by decide) ?_
  refine lv_iadd hx hb dL_law_1136 ?_
  refine va_sld hx hb hX hbl (Nat.not_le.mpr hbl) hG.2.2 hv.2.1 dL_law_1137 ?_
  refine callVI (As := [.int (xs (x3 + (1 : Int32)).toNatClampNeg), .int (xs (x3 + (2 : Int32)).toNatClampNeg)]) (rest := []) C hG (c8_glue l D cy o qp oa qa (xs (x3 + (1 : Int32)).toNatClampNeg) (xs (x3 + (2 : Int32)).toNatClampNeg) Z X _ h) 2 gL_law_X8_glue rfl (by decide +kernel) ⟨⟨Nat.le_of_ble_eq_true rfl, Nat.le_of_ble_eq_true rfl⟩, rfl, rfl⟩ rfl rfl (foLx C.2.2.2.2.2.2.2.2.1) rfl hl.1 rfl (Nat.le_of_ble_eq_true rfl) dL_law_1138 ⟨Nat.le_of_ble_eq_true rfl, Nat.le_of_ble_eq_true rfl⟩ (fun r1 z H locs h hG => ?_)
  obtain ⟨Z2, X3⟩ := z
  replace h := h
  have hG : GW D (fun q : Nat => s.heap.size ≤ q) s (wP o qp oa qa cy Z2 X3 ++ w9 om qm cy S) H locs := hG
  refine lv_pop hx hb dL_law_1141 rfl ?_
  refine lv_aload_n hx hb dL_law_1142 rfl (lv_at hl 2 rfl) ?_
  refine lv_aload_n hx hb dL_law_1143 rfl (lv_at hl 0 rfl) ?_
  refine lv_iload_n hx hb dL_law_1144 rfl (lv_at hl 3 rfl) ?_
  refine lv_iconst (v := 1) hx hb dL_law_1145 (by decide) ?_
  refine lv_iadd hx hb dL_law_1146 ?_
  refine va_sld hx hb hX hbl (Nat.not_le.mpr hbl) hG.2.2 hv.1 dL_law_1147 ?_
  refine lv_aload_n hx hb dL_law_1148 rfl (lv_at hl 0 rfl) ?_
  refine lv_iload_n hx hb dL_law_1149 rfl (lv_at hl 3 rfl) ?_
  refine lv_iconst (v := 2) hx hb dL_law_1150 (by decide) ?_
  refine lv_iadd hx hb dL_law_1151 ?_
  refine va_sld hx hb hX hbl (Nat.not_le.mpr hbl) hG.2.2 hv.2.1 dL_law_1152 ?_
  refine callVI (As := [.int (xs (x3 + (1 : Int32)).toNatClampNeg), .int (xs (x3 + (2 : Int32)).toNatClampNeg)]) (rest := []) C hG (c9_glue l D cy om qm (xs (x3 + (1 : Int32)).toNatClampNeg) (xs (x3 + (2 : Int32)).toNatClampNeg) S _ h) 2 gL_law_X9_glue rfl (by decide +kernel) ⟨⟨Nat.le_of_ble_eq_true rfl, Nat.le_of_ble_eq_true rfl⟩, rfl, rfl⟩ rfl rfl (foLm C.2.2.2.2.2.2.2.2.1) rfl hl.1 rfl (Nat.le_of_ble_eq_true rfl) dL_law_1153 ⟨Nat.le_of_ble_eq_true rfl, Nat.le_of_ble_eq_true rfl⟩ (fun r4 S5 H locs h hG => ?_)
  have hG : GW D (fun q : Nat => s.heap.size ≤ q) s (wP o qp oa qa cy Z2 X3 ++ w9 om qm cy S5) H locs := hG
  refine lv_pop hx hb dL_law_1156 rfl ?_
  refine lv_goto (tgt := 1466) hx hb dL_law_1157 (by decide) ?_
  obtain ⟨y6, ey6⟩ : ∃ y : Int32, y = x3 + 6 := ⟨_, rfl⟩
  replace h := h y6 ey6
  refine lv_iinc (v := y6) (lv' := [(3, .int y6), (0, .ref b), (1, .ref o), (2, .ref om)]) hx hb dL_law_1466 hl (k := 3) rfl (by rw [ey6]; rfl) (by decide) rfl (fun ls hl => ?_)
  refine lv_goto (tgt := 18) hx hb dL_law_1469 (by decide) ?_
  exact hK y6 Z2 X3 S5 _ _ _ h hG (lv_sub hl [1, 2, 3, 0] rfl)
def wL_c24 (xs : Nat → Int32) (K : Int32 → MS → (Nat → MS) → MS → Prop) (x3 : Int32) (Z : MS) (X : Nat → MS) (S : MS) : Prop :=
  w8_tries Z X (fun r1 => w9_tries S (fun r4 => ∀ y6 : Int32, y6 = x3 + 6 → K y6 Z X S))
set_option maxHeartbeats 4000000 in
set_option maxRecDepth 100000 in
theorem bL_c24 {p : Program} {l : Launch} {e : Env} {s : State} {m : MethodId} {below : List Frame} {meth : Method} {c : Code} {D : va_G} {cy : Nat → ClassId} {o om : Nat} {qp oa qm : Nat → Nat} {qa : Nat → Nat → Nat} {b L : Nat} {xs : Nat → Int32} (C : Cx p s m #[Value.ref b] meth c cL_law 4 (some .boolean) wsL_law RL D cy nestWs (fun q : Nat => s.heap.size ≤ q)) (hX : va_X b L xs s s.heap) (hbl : b < s.heap.size) {K : Int32 → MS → (Nat → MS) → MS → Prop} (hK : ∀ (x3 : Int32) (Z : MS) (X : Nat → MS) (S : MS) (H : Heap) (locs : List Loc) (ls : Array Slot), K x3 Z X S → GW D (fun q : Nat => s.heap.size ≤ q) s (wP o qp oa qa cy Z X ++ w9 om qm cy S) H locs → lv_has ls 4 [(0, .ref b), (1, .ref o), (2, .ref om), (3, .int x3)] → W p l e room_1 s m #[Value.ref b] below meth c H locs 104 2976 (lw_Z below #[Value.ref b] s) (F0 m 18 ls [])) (x3 : Int32) (hv : (vp_in (x3 + (1 : Int32)) L ∧ vp_in (x3 + (2 : Int32)) L ∧ vp_in (x3 + (3 : Int32)) L ∧ vp_in (x3 + (4 : Int32)) L ∧ vp_in (x3 + (5 : Int32)) L)) (Z : MS) (X : Nat → MS) (S : MS) (h : wL_c24 xs K x3 Z X S) {H : Heap} {locs : List Loc} (hG : GW D (fun q : Nat => s.heap.size ≤ q) s (wP o qp oa qa cy Z X ++ w9 om qm cy S) H locs) {ls : Array Slot} (hl : lv_has ls 4 [(0, .ref b), (1, .ref o), (2, .ref om), (3, .int x3)]) : W p l e room_1 s m #[Value.ref b] below meth c H locs 104 2976 (lw_Z below #[Value.ref b] s) (F0 m 1160 ls []) := by
  have hx := C.1
  have hb := C.2.1
  unfold wL_c24 at h
  refine lv_aload_n hx hb dL_law_1160 rfl (lv_at hl 1 rfl) ?_
  refine callVI (As := []) (rest := []) C hG (c8_tries l D cy o qp oa qa Z X _ h) 0 gL_law_X8_tries rfl (by decide +kernel) ⟨⟨Nat.le_of_ble_eq_true rfl, Nat.le_of_ble_eq_true rfl⟩, rfl, rfl⟩ rfl rfl (foLx C.2.2.2.2.2.2.2.2.1) rfl hl.1 rfl (Nat.le_of_ble_eq_true rfl) dL_law_1161 ⟨Nat.le_of_ble_eq_true rfl, Nat.le_of_ble_eq_true rfl⟩ (fun r1 z H locs h hG => ?_)
  obtain ⟨Z2, X3⟩ := z
  obtain ⟨eZ2, h⟩ := h
  have eZ2 : Z2 = Z := eZ2
  obtain ⟨eX3, h⟩ := h
  have eX3 : X3 = X := eX3
  replace h := h
  subst Z2
  subst X3
  have hG : GW D (fun q : Nat => s.heap.size ≤ q) s (wP o qp oa qa cy Z X ++ w9 om qm cy S) H locs := hG
  refine lv_pop hx hb dL_law_1164 rfl ?_
  refine lv_aload_n hx hb dL_law_1165 rfl (lv_at hl 2 rfl) ?_
  refine callVI (As := []) (rest := []) C hG (c9_tries l D cy om qm S _ h) 0 gL_law_X9_tries rfl (by decide +kernel) ⟨⟨Nat.le_of_ble_eq_true rfl, Nat.le_of_ble_eq_true rfl⟩, rfl, rfl⟩ rfl rfl (foLm C.2.2.2.2.2.2.2.2.1) rfl hl.1 rfl (Nat.le_of_ble_eq_true rfl) dL_law_1166 ⟨Nat.le_of_ble_eq_true rfl, Nat.le_of_ble_eq_true rfl⟩ (fun r4 S5 H locs h hG => ?_)
  obtain ⟨eS5, h⟩ := h
  subst S5
  have hG : GW D (fun q : Nat => s.heap.size ≤ q) s (wP o qp oa qa cy Z X ++ w9 om qm cy S) H locs := hG
  refine lv_pop hx hb dL_law_1169 rfl ?_
  refine lv_goto (tgt := 1466) hx hb dL_law_1170 (by decide) ?_
  obtain ⟨y6, ey6⟩ : ∃ y : Int32, y = x3 + 6 := ⟨_, rfl⟩
  replace h := h y6 ey6
  refine lv_iinc (v := y6) (lv' := [(3, .int y6), (0, .ref b), (1, .ref o), (2, .ref om)]) hx hb dL_law_1466 hl (k := 3) rfl (by rw [ey6]; rfl) (by decide) rfl (fun ls hl => ?_)
  refine lv_goto (tgt := 18) hx hb dL_law_1469 (by decide) ?_
  exact hK y6 Z X S _ _ _ h hG (lv_sub hl [1, 2, 3, 0] rfl)
def wL_c25 (xs : Nat → Int32) (K : Int32 → MS → (Nat → MS) → MS → Prop) (x3 : Int32) (Z : MS) (X : Nat → MS) (S : MS) : Prop :=
  w8_meanAngle (xs (x3 + (1 : Int32)).toNatClampNeg) Z X (fun r1 Z2 X3 => w9_meanAngle (xs (x3 + (1 : Int32)).toNatClampNeg) S (fun r4 S5 => ∀ y6 : Int32, y6 = x3 + 6 → K y6 Z2 X3 S5))
set_option maxHeartbeats 4000000 in
set_option maxRecDepth 100000 in
theorem bL_c25 {p : Program} {l : Launch} {e : Env} {s : State} {m : MethodId} {below : List Frame} {meth : Method} {c : Code} {D : va_G} {cy : Nat → ClassId} {o om : Nat} {qp oa qm : Nat → Nat} {qa : Nat → Nat → Nat} {b L : Nat} {xs : Nat → Int32} (C : Cx p s m #[Value.ref b] meth c cL_law 4 (some .boolean) wsL_law RL D cy nestWs (fun q : Nat => s.heap.size ≤ q)) (hX : va_X b L xs s s.heap) (hbl : b < s.heap.size) {K : Int32 → MS → (Nat → MS) → MS → Prop} (hK : ∀ (x3 : Int32) (Z : MS) (X : Nat → MS) (S : MS) (H : Heap) (locs : List Loc) (ls : Array Slot), K x3 Z X S → GW D (fun q : Nat => s.heap.size ≤ q) s (wP o qp oa qa cy Z X ++ w9 om qm cy S) H locs → lv_has ls 4 [(0, .ref b), (1, .ref o), (2, .ref om), (3, .int x3)] → W p l e room_1 s m #[Value.ref b] below meth c H locs 104 2976 (lw_Z below #[Value.ref b] s) (F0 m 18 ls [])) (x3 : Int32) (hv : (vp_in (x3 + (1 : Int32)) L ∧ vp_in (x3 + (2 : Int32)) L ∧ vp_in (x3 + (3 : Int32)) L ∧ vp_in (x3 + (4 : Int32)) L ∧ vp_in (x3 + (5 : Int32)) L)) (Z : MS) (X : Nat → MS) (S : MS) (h : wL_c25 xs K x3 Z X S) {H : Heap} {locs : List Loc} (hG : GW D (fun q : Nat => s.heap.size ≤ q) s (wP o qp oa qa cy Z X ++ w9 om qm cy S) H locs) {ls : Array Slot} (hl : lv_has ls 4 [(0, .ref b), (1, .ref o), (2, .ref om), (3, .int x3)]) : W p l e room_1 s m #[Value.ref b] below meth c H locs 104 2976 (lw_Z below #[Value.ref b] s) (F0 m 1173 ls []) := by
  have hx := C.1
  have hb := C.2.1
  unfold wL_c25 at h
  refine lv_aload_n hx hb dL_law_1173 rfl (lv_at hl 1 rfl) ?_
  refine lv_aload_n hx hb dL_law_1174 rfl (lv_at hl 0 rfl) ?_
  refine lv_iload_n hx hb dL_law_1175 rfl (lv_at hl 3 rfl) ?_
  refine lv_iconst (v := 1) hx hb dL_law_1176 (by decide) ?_
  refine lv_iadd hx hb dL_law_1177 ?_
  refine va_sld hx hb hX hbl (Nat.not_le.mpr hbl) hG.2.2 hv.1 dL_law_1178 ?_
  refine callVI (As := [.int (xs (x3 + (1 : Int32)).toNatClampNeg)]) (rest := []) C hG (c8_meanAngle l D cy o qp oa qa (xs (x3 + (1 : Int32)).toNatClampNeg) Z X _ h) 1 gL_law_X8_meanAngle rfl (by decide +kernel) ⟨⟨Nat.le_of_ble_eq_true rfl, Nat.le_of_ble_eq_true rfl⟩, rfl, rfl⟩ rfl rfl (foLx C.2.2.2.2.2.2.2.2.1) rfl hl.1 rfl (Nat.le_of_ble_eq_true rfl) dL_law_1179 ⟨Nat.le_of_ble_eq_true rfl, Nat.le_of_ble_eq_true rfl⟩ (fun r1 z H locs h hG => ?_)
  obtain ⟨Z2, X3⟩ := z
  replace h := h
  have hG : GW D (fun q : Nat => s.heap.size ≤ q) s (wP o qp oa qa cy Z2 X3 ++ w9 om qm cy S) H locs := hG
  refine lv_pop hx hb dL_law_1182 rfl ?_
  refine lv_aload_n hx hb dL_law_1183 rfl (lv_at hl 2 rfl) ?_
  refine lv_aload_n hx hb dL_law_1184 rfl (lv_at hl 0 rfl) ?_
  refine lv_iload_n hx hb dL_law_1185 rfl (lv_at hl 3 rfl) ?_
  refine lv_iconst (v := 1) hx hb dL_law_1186 (by decide) ?_
  refine lv_iadd hx hb dL_law_1187 ?_
  refine va_sld hx hb hX hbl (Nat.not_le.mpr hbl) hG.2.2 hv.1 dL_law_1188 ?_
  refine callVI (As := [.int (xs (x3 + (1 : Int32)).toNatClampNeg)]) (rest := []) C hG (c9_meanAngle l D cy om qm (xs (x3 + (1 : Int32)).toNatClampNeg) S _ h) 1 gL_law_X9_meanAngle rfl (by decide +kernel) ⟨⟨Nat.le_of_ble_eq_true rfl, Nat.le_of_ble_eq_true rfl⟩, rfl, rfl⟩ rfl rfl (foLm C.2.2.2.2.2.2.2.2.1) rfl hl.1 rfl (Nat.le_of_ble_eq_true rfl) dL_law_1189 ⟨Nat.le_of_ble_eq_true rfl, Nat.le_of_ble_eq_true rfl⟩ (fun r4 S5 H locs h hG => ?_)
  have hG : GW D (fun q : Nat => s.heap.size ≤ q) s (wP o qp oa qa cy Z2 X3 ++ w9 om qm cy S5) H locs := hG
  refine lv_pop hx hb dL_law_1192 rfl ?_
  refine lv_goto (tgt := 1466) hx hb dL_law_1193 (by decide) ?_
  obtain ⟨y6, ey6⟩ : ∃ y : Int32, y = x3 + 6 := ⟨_, rfl⟩
  replace h := h y6 ey6
  refine lv_iinc (v := y6) (lv' := [(3, .int y6), (0, .ref b), (1, .ref o), (2, .ref om)]) hx hb dL_law_1466 hl (k := 3) rfl (by rw [ey6]; rfl) (by decide) rfl (fun ls hl => ?_)
  refine lv_goto (tgt := 18) hx hb dL_law_1469 (by decide) ?_
  exact hK y6 Z2 X3 S5 _ _ _ h hG (lv_sub hl [1, 2, 3, 0] rfl)
def wL_c26 (xs : Nat → Int32) (K : Int32 → MS → (Nat → MS) → MS → Prop) (x3 : Int32) (Z : MS) (X : Nat → MS) (S : MS) : Prop :=
  w8_row (xs (x3 + (1 : Int32)).toNatClampNeg) (xs (x3 + (2 : Int32)).toNatClampNeg) Z X (fun r1 Z2 X3 => w9_row (xs (x3 + (1 : Int32)).toNatClampNeg) (xs (x3 + (2 : Int32)).toNatClampNeg) S (fun r4 S5 => ∀ y6 : Int32, y6 = x3 + 6 → K y6 Z2 X3 S5))
set_option maxHeartbeats 4000000 in
set_option maxRecDepth 100000 in
theorem bL_c26 {p : Program} {l : Launch} {e : Env} {s : State} {m : MethodId} {below : List Frame} {meth : Method} {c : Code} {D : va_G} {cy : Nat → ClassId} {o om : Nat} {qp oa qm : Nat → Nat} {qa : Nat → Nat → Nat} {b L : Nat} {xs : Nat → Int32} (C : Cx p s m #[Value.ref b] meth c cL_law 4 (some .boolean) wsL_law RL D cy nestWs (fun q : Nat => s.heap.size ≤ q)) (hX : va_X b L xs s s.heap) (hbl : b < s.heap.size) {K : Int32 → MS → (Nat → MS) → MS → Prop} (hK : ∀ (x3 : Int32) (Z : MS) (X : Nat → MS) (S : MS) (H : Heap) (locs : List Loc) (ls : Array Slot), K x3 Z X S → GW D (fun q : Nat => s.heap.size ≤ q) s (wP o qp oa qa cy Z X ++ w9 om qm cy S) H locs → lv_has ls 4 [(0, .ref b), (1, .ref o), (2, .ref om), (3, .int x3)] → W p l e room_1 s m #[Value.ref b] below meth c H locs 104 2976 (lw_Z below #[Value.ref b] s) (F0 m 18 ls [])) (x3 : Int32) (hv : (vp_in (x3 + (1 : Int32)) L ∧ vp_in (x3 + (2 : Int32)) L ∧ vp_in (x3 + (3 : Int32)) L ∧ vp_in (x3 + (4 : Int32)) L ∧ vp_in (x3 + (5 : Int32)) L)) (Z : MS) (X : Nat → MS) (S : MS) (h : wL_c26 xs K x3 Z X S) {H : Heap} {locs : List Loc} (hG : GW D (fun q : Nat => s.heap.size ≤ q) s (wP o qp oa qa cy Z X ++ w9 om qm cy S) H locs) {ls : Array Slot} (hl : lv_has ls 4 [(0, .ref b), (1, .ref o), (2, .ref om), (3, .int x3)]) : W p l e room_1 s m #[Value.ref b] below meth c H locs 104 2976 (lw_Z below #[Value.ref b] s) (F0 m 1196 ls []) := by
  have hx := C.1
  have hb := C.2.1
  unfold wL_c26 at h
  refine lv_aload_n hx hb dL_law_1196 rfl (lv_at hl 1 rfl) ?_
  refine lv_aload_n hx hb dL_law_1197 rfl (lv_at hl 0 rfl) ?_
  refine lv_iload_n hx hb dL_law_1198 rfl (lv_at hl 3 rfl) ?_
  refine lv_iconst (v := 1) hx hb dL_law_1199 (by decide) ?_
  refine lv_iadd hx hb dL_law_1200 ?_
  refine va_sld hx hb hX hbl (Nat.not_le.mpr hbl) hG.2.2 hv.1 dL_law_1201 ?_
  refine lv_aload_n hx hb dL_law_1202 rfl (lv_at hl 0 rfl) ?_
  refine lv_iload_n hx hb dL_law_1203 rfl (lv_at hl 3 rfl) ?_
  refine lv_iconst (v := 2) hx hb dL_law_1204 (by decide) ?_
  refine lv_iadd hx hb dL_law_1205 ?_
  refine va_sld hx hb hX hbl (Nat.not_le.mpr hbl) hG.2.2 hv.2.1 dL_law_1206 ?_
  refine callVI (As := [.int (xs (x3 + (1 : Int32)).toNatClampNeg), .int (xs (x3 + (2 : Int32)).toNatClampNeg)]) (rest := []) C hG (c8_row l D cy o qp oa qa (xs (x3 + (1 : Int32)).toNatClampNeg) (xs (x3 + (2 : Int32)).toNatClampNeg) Z X _ h) 2 gL_law_X8_row rfl (by decide +kernel) ⟨⟨Nat.le_of_ble_eq_true rfl, Nat.le_of_ble_eq_true rfl⟩, rfl, rfl⟩ rfl rfl (foLx C.2.2.2.2.2.2.2.2.1) rfl hl.1 rfl (Nat.le_of_ble_eq_true rfl) dL_law_1207 ⟨Nat.le_of_ble_eq_true rfl, Nat.le_of_ble_eq_true rfl⟩ (fun r1 z H locs h hG => ?_)
  obtain ⟨Z2, X3⟩ := z
  replace h := h
  have hG : GW D (fun q : Nat => s.heap.size ≤ q) s (wP o qp oa qa cy Z2 X3 ++ w9 om qm cy S) H locs := hG
  refine lv_pop hx hb dL_law_1210 rfl ?_
  refine lv_aload_n hx hb dL_law_1211 rfl (lv_at hl 2 rfl) ?_
  refine lv_aload_n hx hb dL_law_1212 rfl (lv_at hl 0 rfl) ?_
  refine lv_iload_n hx hb dL_law_1213 rfl (lv_at hl 3 rfl) ?_
  refine lv_iconst (v := 1) hx hb dL_law_1214 (by decide) ?_
  refine lv_iadd hx hb dL_law_1215 ?_
  refine va_sld hx hb hX hbl (Nat.not_le.mpr hbl) hG.2.2 hv.1 dL_law_1216 ?_
  refine lv_aload_n hx hb dL_law_1217 rfl (lv_at hl 0 rfl) ?_
  refine lv_iload_n hx hb dL_law_1218 rfl (lv_at hl 3 rfl) ?_
  refine lv_iconst (v := 2) hx hb dL_law_1219 (by decide) ?_
  refine lv_iadd hx hb dL_law_1220 ?_
  refine va_sld hx hb hX hbl (Nat.not_le.mpr hbl) hG.2.2 hv.2.1 dL_law_1221 ?_
  refine callVI (As := [.int (xs (x3 + (1 : Int32)).toNatClampNeg), .int (xs (x3 + (2 : Int32)).toNatClampNeg)]) (rest := []) C hG (c9_row l D cy om qm (xs (x3 + (1 : Int32)).toNatClampNeg) (xs (x3 + (2 : Int32)).toNatClampNeg) S _ h) 2 gL_law_X9_row rfl (by decide +kernel) ⟨⟨Nat.le_of_ble_eq_true rfl, Nat.le_of_ble_eq_true rfl⟩, rfl, rfl⟩ rfl rfl (foLm C.2.2.2.2.2.2.2.2.1) rfl hl.1 rfl (Nat.le_of_ble_eq_true rfl) dL_law_1222 ⟨Nat.le_of_ble_eq_true rfl, Nat.le_of_ble_eq_true rfl⟩ (fun r4 S5 H locs h hG => ?_)
  have hG : GW D (fun q : Nat => s.heap.size ≤ q) s (wP o qp oa qa cy Z2 X3 ++ w9 om qm cy S5) H locs := hG
  refine lv_pop hx hb dL_law_1225 rfl ?_
  refine lv_goto (tgt := 1466) hx hb dL_law_1226 (by decide) ?_
  obtain ⟨y6, ey6⟩ : ∃ y : Int32, y = x3 + 6 := ⟨_, rfl⟩
  replace h := h y6 ey6
  refine lv_iinc (v := y6) (lv' := [(3, .int y6), (0, .ref b), (1, .ref o), (2, .ref om)]) hx hb dL_law_1466 hl (k := 3) rfl (by rw [ey6]; rfl) (by decide) rfl (fun ls hl => ?_)
  refine lv_goto (tgt := 18) hx hb dL_law_1469 (by decide) ?_
  exact hK y6 Z2 X3 S5 _ _ _ h hG (lv_sub hl [1, 2, 3, 0] rfl)
def wL_c27 (xs : Nat → Int32) (K : Int32 → MS → (Nat → MS) → MS → Prop) (x3 : Int32) (Z : MS) (X : Nat → MS) (S : MS) : Prop :=
  w8_lay (xs (x3 + (1 : Int32)).toNatClampNeg) (xs (x3 + (2 : Int32)).toNatClampNeg) (xs (x3 + (3 : Int32)).toNatClampNeg) Z X (fun r1 Z2 X3 => w9_lay (xs (x3 + (1 : Int32)).toNatClampNeg) (xs (x3 + (2 : Int32)).toNatClampNeg) (xs (x3 + (3 : Int32)).toNatClampNeg) S (fun r4 S5 => ∀ y6 : Int32, y6 = x3 + 6 → K y6 Z2 X3 S5))
set_option maxHeartbeats 4000000 in
set_option maxRecDepth 100000 in
theorem bL_c27 {p : Program} {l : Launch} {e : Env} {s : State} {m : MethodId} {below : List Frame} {meth : Method} {c : Code} {D : va_G} {cy : Nat → ClassId} {o om : Nat} {qp oa qm : Nat → Nat} {qa : Nat → Nat → Nat} {b L : Nat} {xs : Nat → Int32} (C : Cx p s m #[Value.ref b] meth c cL_law 4 (some .boolean) wsL_law RL D cy nestWs (fun q : Nat => s.heap.size ≤ q)) (hX : va_X b L xs s s.heap) (hbl : b < s.heap.size) {K : Int32 → MS → (Nat → MS) → MS → Prop} (hK : ∀ (x3 : Int32) (Z : MS) (X : Nat → MS) (S : MS) (H : Heap) (locs : List Loc) (ls : Array Slot), K x3 Z X S → GW D (fun q : Nat => s.heap.size ≤ q) s (wP o qp oa qa cy Z X ++ w9 om qm cy S) H locs → lv_has ls 4 [(0, .ref b), (1, .ref o), (2, .ref om), (3, .int x3)] → W p l e room_1 s m #[Value.ref b] below meth c H locs 104 2976 (lw_Z below #[Value.ref b] s) (F0 m 18 ls [])) (x3 : Int32) (hv : (vp_in (x3 + (1 : Int32)) L ∧ vp_in (x3 + (2 : Int32)) L ∧ vp_in (x3 + (3 : Int32)) L ∧ vp_in (x3 + (4 : Int32)) L ∧ vp_in (x3 + (5 : Int32)) L)) (Z : MS) (X : Nat → MS) (S : MS) (h : wL_c27 xs K x3 Z X S) {H : Heap} {locs : List Loc} (hG : GW D (fun q : Nat => s.heap.size ≤ q) s (wP o qp oa qa cy Z X ++ w9 om qm cy S) H locs) {ls : Array Slot} (hl : lv_has ls 4 [(0, .ref b), (1, .ref o), (2, .ref om), (3, .int x3)]) : W p l e room_1 s m #[Value.ref b] below meth c H locs 104 2976 (lw_Z below #[Value.ref b] s) (F0 m 1229 ls []) := by
  have hx := C.1
  have hb := C.2.1
  unfold wL_c27 at h
  refine lv_aload_n hx hb dL_law_1229 rfl (lv_at hl 1 rfl) ?_
  refine lv_aload_n hx hb dL_law_1230 rfl (lv_at hl 0 rfl) ?_
  refine lv_iload_n hx hb dL_law_1231 rfl (lv_at hl 3 rfl) ?_
  refine lv_iconst (v := 1) hx hb dL_law_1232 (by decide) ?_
  refine lv_iadd hx hb dL_law_1233 ?_
  refine va_sld hx hb hX hbl (Nat.not_le.mpr hbl) hG.2.2 hv.1 dL_law_1234 ?_
  refine lv_aload_n hx hb dL_law_1235 rfl (lv_at hl 0 rfl) ?_
  refine lv_iload_n hx hb dL_law_1236 rfl (lv_at hl 3 rfl) ?_
  refine lv_iconst (v := 2) hx hb dL_law_1237 (by decide) ?_
  refine lv_iadd hx hb dL_law_1238 ?_
  refine va_sld hx hb hX hbl (Nat.not_le.mpr hbl) hG.2.2 hv.2.1 dL_law_1239 ?_
  refine lv_aload_n hx hb dL_law_1240 rfl (lv_at hl 0 rfl) ?_
  refine lv_iload_n hx hb dL_law_1241 rfl (lv_at hl 3 rfl) ?_
  refine lv_iconst (v := 3) hx hb dL_law_1242 (by decide) ?_
  refine lv_iadd hx hb dL_law_1243 ?_
  refine va_sld hx hb hX hbl (Nat.not_le.mpr hbl) hG.2.2 hv.2.2.1 dL_law_1244 ?_
  refine callVI (As := [.int (xs (x3 + (1 : Int32)).toNatClampNeg), .int (xs (x3 + (2 : Int32)).toNatClampNeg), .int (xs (x3 + (3 : Int32)).toNatClampNeg)]) (rest := []) C hG (c8_lay l D cy o qp oa qa (xs (x3 + (1 : Int32)).toNatClampNeg) (xs (x3 + (2 : Int32)).toNatClampNeg) (xs (x3 + (3 : Int32)).toNatClampNeg) Z X _ h) 3 gL_law_X8_lay rfl (by decide +kernel) ⟨⟨Nat.le_of_ble_eq_true rfl, Nat.le_of_ble_eq_true rfl⟩, rfl, rfl⟩ rfl rfl (foLx C.2.2.2.2.2.2.2.2.1) rfl hl.1 rfl (Nat.le_of_ble_eq_true rfl) dL_law_1245 ⟨Nat.le_of_ble_eq_true rfl, Nat.le_of_ble_eq_true rfl⟩ (fun r1 z H locs h hG => ?_)
  obtain ⟨Z2, X3⟩ := z
  replace h := h
  have hG : GW D (fun q : Nat => s.heap.size ≤ q) s (wP o qp oa qa cy Z2 X3 ++ w9 om qm cy S) H locs := hG
  refine lv_pop hx hb dL_law_1248 rfl ?_
  refine lv_aload_n hx hb dL_law_1249 rfl (lv_at hl 2 rfl) ?_
  refine lv_aload_n hx hb dL_law_1250 rfl (lv_at hl 0 rfl) ?_
  refine lv_iload_n hx hb dL_law_1251 rfl (lv_at hl 3 rfl) ?_
  refine lv_iconst (v := 1) hx hb dL_law_1252 (by decide) ?_
  refine lv_iadd hx hb dL_law_1253 ?_
  refine va_sld hx hb hX hbl (Nat.not_le.mpr hbl) hG.2.2 hv.1 dL_law_1254 ?_
  refine lv_aload_n hx hb dL_law_1255 rfl (lv_at hl 0 rfl) ?_
  refine lv_iload_n hx hb dL_law_1256 rfl (lv_at hl 3 rfl) ?_
  refine lv_iconst (v := 2) hx hb dL_law_1257 (by decide) ?_
  refine lv_iadd hx hb dL_law_1258 ?_
  refine va_sld hx hb hX hbl (Nat.not_le.mpr hbl) hG.2.2 hv.2.1 dL_law_1259 ?_
  refine lv_aload_n hx hb dL_law_1260 rfl (lv_at hl 0 rfl) ?_
  refine lv_iload_n hx hb dL_law_1261 rfl (lv_at hl 3 rfl) ?_
  refine lv_iconst (v := 3) hx hb dL_law_1262 (by decide) ?_
  refine lv_iadd hx hb dL_law_1263 ?_
  refine va_sld hx hb hX hbl (Nat.not_le.mpr hbl) hG.2.2 hv.2.2.1 dL_law_1264 ?_
  refine callVI (As := [.int (xs (x3 + (1 : Int32)).toNatClampNeg), .int (xs (x3 + (2 : Int32)).toNatClampNeg), .int (xs (x3 + (3 : Int32)).toNatClampNeg)]) (rest := []) C hG (c9_lay l D cy om qm (xs (x3 + (1 : Int32)).toNatClampNeg) (xs (x3 + (2 : Int32)).toNatClampNeg) (xs (x3 + (3 : Int32)).toNatClampNeg) S _ h) 3 gL_law_X9_lay rfl (by decide +kernel) ⟨⟨Nat.le_of_ble_eq_true rfl, Nat.le_of_ble_eq_true rfl⟩, rfl, rfl⟩ rfl rfl (foLm C.2.2.2.2.2.2.2.2.1) rfl hl.1 rfl (Nat.le_of_ble_eq_true rfl) dL_law_1265 ⟨Nat.le_of_ble_eq_true rfl, Nat.le_of_ble_eq_true rfl⟩ (fun r4 S5 H locs h hG => ?_)
  have hG : GW D (fun q : Nat => s.heap.size ≤ q) s (wP o qp oa qa cy Z2 X3 ++ w9 om qm cy S5) H locs := hG
  refine lv_pop hx hb dL_law_1268 rfl ?_
  refine lv_goto (tgt := 1466) hx hb dL_law_1269 (by decide) ?_
  obtain ⟨y6, ey6⟩ : ∃ y : Int32, y = x3 + 6 := ⟨_, rfl⟩
  replace h := h y6 ey6
  refine lv_iinc (v := y6) (lv' := [(3, .int y6), (0, .ref b), (1, .ref o), (2, .ref om)]) hx hb dL_law_1466 hl (k := 3) rfl (by rw [ey6]; rfl) (by decide) rfl (fun ls hl => ?_)
  refine lv_goto (tgt := 18) hx hb dL_law_1469 (by decide) ?_
  exact hK y6 Z2 X3 S5 _ _ _ h hG (lv_sub hl [1, 2, 3, 0] rfl)
def wL_c28 (xs : Nat → Int32) (K : Int32 → MS → (Nat → MS) → MS → Prop) (x3 : Int32) (Z : MS) (X : Nat → MS) (S : MS) : Prop :=
  w8_tear (xs (x3 + (1 : Int32)).toNatClampNeg) Z X (fun r1 Z2 X3 => w9_tear (xs (x3 + (1 : Int32)).toNatClampNeg) S (fun r4 S5 => ∀ y6 : Int32, y6 = x3 + 6 → K y6 Z2 X3 S5))
set_option maxHeartbeats 4000000 in
set_option maxRecDepth 100000 in
theorem bL_c28 {p : Program} {l : Launch} {e : Env} {s : State} {m : MethodId} {below : List Frame} {meth : Method} {c : Code} {D : va_G} {cy : Nat → ClassId} {o om : Nat} {qp oa qm : Nat → Nat} {qa : Nat → Nat → Nat} {b L : Nat} {xs : Nat → Int32} (C : Cx p s m #[Value.ref b] meth c cL_law 4 (some .boolean) wsL_law RL D cy nestWs (fun q : Nat => s.heap.size ≤ q)) (hX : va_X b L xs s s.heap) (hbl : b < s.heap.size) {K : Int32 → MS → (Nat → MS) → MS → Prop} (hK : ∀ (x3 : Int32) (Z : MS) (X : Nat → MS) (S : MS) (H : Heap) (locs : List Loc) (ls : Array Slot), K x3 Z X S → GW D (fun q : Nat => s.heap.size ≤ q) s (wP o qp oa qa cy Z X ++ w9 om qm cy S) H locs → lv_has ls 4 [(0, .ref b), (1, .ref o), (2, .ref om), (3, .int x3)] → W p l e room_1 s m #[Value.ref b] below meth c H locs 104 2976 (lw_Z below #[Value.ref b] s) (F0 m 18 ls [])) (x3 : Int32) (hv : (vp_in (x3 + (1 : Int32)) L ∧ vp_in (x3 + (2 : Int32)) L ∧ vp_in (x3 + (3 : Int32)) L ∧ vp_in (x3 + (4 : Int32)) L ∧ vp_in (x3 + (5 : Int32)) L)) (Z : MS) (X : Nat → MS) (S : MS) (h : wL_c28 xs K x3 Z X S) {H : Heap} {locs : List Loc} (hG : GW D (fun q : Nat => s.heap.size ≤ q) s (wP o qp oa qa cy Z X ++ w9 om qm cy S) H locs) {ls : Array Slot} (hl : lv_has ls 4 [(0, .ref b), (1, .ref o), (2, .ref om), (3, .int x3)]) : W p l e room_1 s m #[Value.ref b] below meth c H locs 104 2976 (lw_Z below #[Value.ref b] s) (F0 m 1272 ls []) := by
  have hx := C.1
  have hb := C.2.1
  unfold wL_c28 at h
  refine lv_aload_n hx hb dL_law_1272 rfl (lv_at hl 1 rfl) ?_
  refine lv_aload_n hx hb dL_law_1273 rfl (lv_at hl 0 rfl) ?_
  refine lv_iload_n hx hb dL_law_1274 rfl (lv_at hl 3 rfl) ?_
  refine lv_iconst (v := 1) hx hb dL_law_1275 (by decide) ?_
  refine lv_iadd hx hb dL_law_1276 ?_
  refine va_sld hx hb hX hbl (Nat.not_le.mpr hbl) hG.2.2 hv.1 dL_law_1277 ?_
  refine callVI (As := [.int (xs (x3 + (1 : Int32)).toNatClampNeg)]) (rest := []) C hG (c8_tear l D cy o qp oa qa (xs (x3 + (1 : Int32)).toNatClampNeg) Z X _ h) 1 gL_law_X8_tear rfl (by decide +kernel) ⟨⟨Nat.le_of_ble_eq_true rfl, Nat.le_of_ble_eq_true rfl⟩, rfl, rfl⟩ rfl rfl (foLx C.2.2.2.2.2.2.2.2.1) rfl hl.1 rfl (Nat.le_of_ble_eq_true rfl) dL_law_1278 ⟨Nat.le_of_ble_eq_true rfl, Nat.le_of_ble_eq_true rfl⟩ (fun r1 z H locs h hG => ?_)
  obtain ⟨Z2, X3⟩ := z
  replace h := h
  have hG : GW D (fun q : Nat => s.heap.size ≤ q) s (wP o qp oa qa cy Z2 X3 ++ w9 om qm cy S) H locs := hG
  refine lv_pop hx hb dL_law_1281 rfl ?_
  refine lv_aload_n hx hb dL_law_1282 rfl (lv_at hl 2 rfl) ?_
  refine lv_aload_n hx hb dL_law_1283 rfl (lv_at hl 0 rfl) ?_
  refine lv_iload_n hx hb dL_law_1284 rfl (lv_at hl 3 rfl) ?_
  refine lv_iconst (v := 1) hx hb dL_law_1285 (by decide) ?_
  refine lv_iadd hx hb dL_law_1286 ?_
  refine va_sld hx hb hX hbl (Nat.not_le.mpr hbl) hG.2.2 hv.1 dL_law_1287 ?_
  refine callVI (As := [.int (xs (x3 + (1 : Int32)).toNatClampNeg)]) (rest := []) C hG (c9_tear l D cy om qm (xs (x3 + (1 : Int32)).toNatClampNeg) S _ h) 1 gL_law_X9_tear rfl (by decide +kernel) ⟨⟨Nat.le_of_ble_eq_true rfl, Nat.le_of_ble_eq_true rfl⟩, rfl, rfl⟩ rfl rfl (foLm C.2.2.2.2.2.2.2.2.1) rfl hl.1 rfl (Nat.le_of_ble_eq_true rfl) dL_law_1288 ⟨Nat.le_of_ble_eq_true rfl, Nat.le_of_ble_eq_true rfl⟩ (fun r4 S5 H locs h hG => ?_)
  have hG : GW D (fun q : Nat => s.heap.size ≤ q) s (wP o qp oa qa cy Z2 X3 ++ w9 om qm cy S5) H locs := hG
  refine lv_pop hx hb dL_law_1291 rfl ?_
  refine lv_goto (tgt := 1466) hx hb dL_law_1292 (by decide) ?_
  obtain ⟨y6, ey6⟩ : ∃ y : Int32, y = x3 + 6 := ⟨_, rfl⟩
  replace h := h y6 ey6
  refine lv_iinc (v := y6) (lv' := [(3, .int y6), (0, .ref b), (1, .ref o), (2, .ref om)]) hx hb dL_law_1466 hl (k := 3) rfl (by rw [ey6]; rfl) (by decide) rfl (fun ls hl => ?_)
  refine lv_goto (tgt := 18) hx hb dL_law_1469 (by decide) ?_
  exact hK y6 Z2 X3 S5 _ _ _ h hG (lv_sub hl [1, 2, 3, 0] rfl)
def wL_c29 (xs : Nat → Int32) (K : Int32 → MS → (Nat → MS) → MS → Prop) (x3 : Int32) (Z : MS) (X : Nat → MS) (S : MS) : Prop :=
  w8_copy (xs (x3 + (1 : Int32)).toNatClampNeg) (xs (x3 + (2 : Int32)).toNatClampNeg) (xs (x3 + (3 : Int32)).toNatClampNeg) (xs (x3 + (4 : Int32)).toNatClampNeg) (xs (x3 + (5 : Int32)).toNatClampNeg) Z X (fun r1 Z2 X3 => w9_copy (xs (x3 + (1 : Int32)).toNatClampNeg) (xs (x3 + (2 : Int32)).toNatClampNeg) (xs (x3 + (3 : Int32)).toNatClampNeg) (xs (x3 + (4 : Int32)).toNatClampNeg) (xs (x3 + (5 : Int32)).toNatClampNeg) S (fun r4 S5 => ∀ y6 : Int32, y6 = x3 + 6 → K y6 Z2 X3 S5))
set_option maxHeartbeats 4000000 in
set_option maxRecDepth 100000 in
theorem bL_c29 {p : Program} {l : Launch} {e : Env} {s : State} {m : MethodId} {below : List Frame} {meth : Method} {c : Code} {D : va_G} {cy : Nat → ClassId} {o om : Nat} {qp oa qm : Nat → Nat} {qa : Nat → Nat → Nat} {b L : Nat} {xs : Nat → Int32} (C : Cx p s m #[Value.ref b] meth c cL_law 4 (some .boolean) wsL_law RL D cy nestWs (fun q : Nat => s.heap.size ≤ q)) (hX : va_X b L xs s s.heap) (hbl : b < s.heap.size) {K : Int32 → MS → (Nat → MS) → MS → Prop} (hK : ∀ (x3 : Int32) (Z : MS) (X : Nat → MS) (S : MS) (H : Heap) (locs : List Loc) (ls : Array Slot), K x3 Z X S → GW D (fun q : Nat => s.heap.size ≤ q) s (wP o qp oa qa cy Z X ++ w9 om qm cy S) H locs → lv_has ls 4 [(0, .ref b), (1, .ref o), (2, .ref om), (3, .int x3)] → W p l e room_1 s m #[Value.ref b] below meth c H locs 104 2976 (lw_Z below #[Value.ref b] s) (F0 m 18 ls [])) (x3 : Int32) (hv : (vp_in (x3 + (1 : Int32)) L ∧ vp_in (x3 + (2 : Int32)) L ∧ vp_in (x3 + (3 : Int32)) L ∧ vp_in (x3 + (4 : Int32)) L ∧ vp_in (x3 + (5 : Int32)) L)) (Z : MS) (X : Nat → MS) (S : MS) (h : wL_c29 xs K x3 Z X S) {H : Heap} {locs : List Loc} (hG : GW D (fun q : Nat => s.heap.size ≤ q) s (wP o qp oa qa cy Z X ++ w9 om qm cy S) H locs) {ls : Array Slot} (hl : lv_has ls 4 [(0, .ref b), (1, .ref o), (2, .ref om), (3, .int x3)]) : W p l e room_1 s m #[Value.ref b] below meth c H locs 104 2976 (lw_Z below #[Value.ref b] s) (F0 m 1295 ls []) := by
  have hx := C.1
  have hb := C.2.1
  unfold wL_c29 at h
  refine lv_aload_n hx hb dL_law_1295 rfl (lv_at hl 1 rfl) ?_
  refine lv_aload_n hx hb dL_law_1296 rfl (lv_at hl 0 rfl) ?_
  refine lv_iload_n hx hb dL_law_1297 rfl (lv_at hl 3 rfl) ?_
  refine lv_iconst (v := 1) hx hb dL_law_1298 (by decide) ?_
  refine lv_iadd hx hb dL_law_1299 ?_
  refine va_sld hx hb hX hbl (Nat.not_le.mpr hbl) hG.2.2 hv.1 dL_law_1300 ?_
  refine lv_aload_n hx hb dL_law_1301 rfl (lv_at hl 0 rfl) ?_
  refine lv_iload_n hx hb dL_law_1302 rfl (lv_at hl 3 rfl) ?_
  refine lv_iconst (v := 2) hx hb dL_law_1303 (by decide) ?_
  refine lv_iadd hx hb dL_law_1304 ?_
  refine va_sld hx hb hX hbl (Nat.not_le.mpr hbl) hG.2.2 hv.2.1 dL_law_1305 ?_
  refine lv_aload_n hx hb dL_law_1306 rfl (lv_at hl 0 rfl) ?_
  refine lv_iload_n hx hb dL_law_1307 rfl (lv_at hl 3 rfl) ?_
  refine lv_iconst (v := 3) hx hb dL_law_1308 (by decide) ?_
  refine lv_iadd hx hb dL_law_1309 ?_
  refine va_sld hx hb hX hbl (Nat.not_le.mpr hbl) hG.2.2 hv.2.2.1 dL_law_1310 ?_
  refine lv_aload_n hx hb dL_law_1311 rfl (lv_at hl 0 rfl) ?_
  refine lv_iload_n hx hb dL_law_1312 rfl (lv_at hl 3 rfl) ?_
  refine lv_iconst (v := 4) hx hb dL_law_1313 (by decide) ?_
  refine lv_iadd hx hb dL_law_1314 ?_
  refine va_sld hx hb hX hbl (Nat.not_le.mpr hbl) hG.2.2 hv.2.2.2.1 dL_law_1315 ?_
  refine lv_aload_n hx hb dL_law_1316 rfl (lv_at hl 0 rfl) ?_
  refine lv_iload_n hx hb dL_law_1317 rfl (lv_at hl 3 rfl) ?_
  refine lv_iconst (v := 5) hx hb dL_law_1318 (by decide) ?_
  refine lv_iadd hx hb dL_law_1319 ?_
  refine va_sld hx hb hX hbl (Nat.not_le.mpr hbl) hG.2.2 hv.2.2.2.2 dL_law_1320 ?_
  refine callVI (As := [.int (xs (x3 + (1 : Int32)).toNatClampNeg), .int (xs (x3 + (2 : Int32)).toNatClampNeg), .int (xs (x3 + (3 : Int32)).toNatClampNeg), .int (xs (x3 + (4 : Int32)).toNatClampNeg), .int (xs (x3 + (5 : Int32)).toNatClampNeg)]) (rest := []) C hG (c8_copy l D cy o qp oa qa (xs (x3 + (1 : Int32)).toNatClampNeg) (xs (x3 + (2 : Int32)).toNatClampNeg) (xs (x3 + (3 : Int32)).toNatClampNeg) (xs (x3 + (4 : Int32)).toNatClampNeg) (xs (x3 + (5 : Int32)).toNatClampNeg) Z X _ h) 5 gL_law_X8_copy rfl (by decide +kernel) ⟨⟨Nat.le_of_ble_eq_true rfl, Nat.le_of_ble_eq_true rfl⟩, rfl, rfl⟩ rfl rfl (foLx C.2.2.2.2.2.2.2.2.1) rfl hl.1 rfl (Nat.le_of_ble_eq_true rfl) dL_law_1321 ⟨Nat.le_of_ble_eq_true rfl, Nat.le_of_ble_eq_true rfl⟩ (fun r1 z H locs h hG => ?_)
  obtain ⟨Z2, X3⟩ := z
  replace h := h
  have hG : GW D (fun q : Nat => s.heap.size ≤ q) s (wP o qp oa qa cy Z2 X3 ++ w9 om qm cy S) H locs := hG
  refine lv_pop hx hb dL_law_1324 rfl ?_
  refine lv_aload_n hx hb dL_law_1325 rfl (lv_at hl 2 rfl) ?_
  refine lv_aload_n hx hb dL_law_1326 rfl (lv_at hl 0 rfl) ?_
  refine lv_iload_n hx hb dL_law_1327 rfl (lv_at hl 3 rfl) ?_
  refine lv_iconst (v := 1) hx hb dL_law_1328 (by decide) ?_
  refine lv_iadd hx hb dL_law_1329 ?_
  refine va_sld hx hb hX hbl (Nat.not_le.mpr hbl) hG.2.2 hv.1 dL_law_1330 ?_
  refine lv_aload_n hx hb dL_law_1331 rfl (lv_at hl 0 rfl) ?_
  refine lv_iload_n hx hb dL_law_1332 rfl (lv_at hl 3 rfl) ?_
  refine lv_iconst (v := 2) hx hb dL_law_1333 (by decide) ?_
  refine lv_iadd hx hb dL_law_1334 ?_
  refine va_sld hx hb hX hbl (Nat.not_le.mpr hbl) hG.2.2 hv.2.1 dL_law_1335 ?_
  refine lv_aload_n hx hb dL_law_1336 rfl (lv_at hl 0 rfl) ?_
  refine lv_iload_n hx hb dL_law_1337 rfl (lv_at hl 3 rfl) ?_
  refine lv_iconst (v := 3) hx hb dL_law_1338 (by decide) ?_
  refine lv_iadd hx hb dL_law_1339 ?_
  refine va_sld hx hb hX hbl (Nat.not_le.mpr hbl) hG.2.2 hv.2.2.1 dL_law_1340 ?_
  refine lv_aload_n hx hb dL_law_1341 rfl (lv_at hl 0 rfl) ?_
  refine lv_iload_n hx hb dL_law_1342 rfl (lv_at hl 3 rfl) ?_
  refine lv_iconst (v := 4) hx hb dL_law_1343 (by decide) ?_
  refine lv_iadd hx hb dL_law_1344 ?_
  refine va_sld hx hb hX hbl (Nat.not_le.mpr hbl) hG.2.2 hv.2.2.2.1 dL_law_1345 ?_
  refine lv_aload_n hx hb dL_law_1346 rfl (lv_at hl 0 rfl) ?_
  refine lv_iload_n hx hb dL_law_1347 rfl (lv_at hl 3 rfl) ?_
  refine lv_iconst (v := 5) hx hb dL_law_1348 (by decide) ?_
  refine lv_iadd hx hb dL_law_1349 ?_
  refine va_sld hx hb hX hbl (Nat.not_le.mpr hbl) hG.2.2 hv.2.2.2.2 dL_law_1350 ?_
  refine callVI (As := [.int (xs (x3 + (1 : Int32)).toNatClampNeg), .int (xs (x3 + (2 : Int32)).toNatClampNeg), .int (xs (x3 + (3 : Int32)).toNatClampNeg), .int (xs (x3 + (4 : Int32)).toNatClampNeg), .int (xs (x3 + (5 : Int32)).toNatClampNeg)]) (rest := []) C hG (c9_copy l D cy om qm (xs (x3 + (1 : Int32)).toNatClampNeg) (xs (x3 + (2 : Int32)).toNatClampNeg) (xs (x3 + (3 : Int32)).toNatClampNeg) (xs (x3 + (4 : Int32)).toNatClampNeg) (xs (x3 + (5 : Int32)).toNatClampNeg) S _ h) 5 gL_law_X9_copy rfl (by decide +kernel) ⟨⟨Nat.le_of_ble_eq_true rfl, Nat.le_of_ble_eq_true rfl⟩, rfl, rfl⟩ rfl rfl (foLm C.2.2.2.2.2.2.2.2.1) rfl hl.1 rfl (Nat.le_of_ble_eq_true rfl) dL_law_1351 ⟨Nat.le_of_ble_eq_true rfl, Nat.le_of_ble_eq_true rfl⟩ (fun r4 S5 H locs h hG => ?_)
  have hG : GW D (fun q : Nat => s.heap.size ≤ q) s (wP o qp oa qa cy Z2 X3 ++ w9 om qm cy S5) H locs := hG
  refine lv_pop hx hb dL_law_1354 rfl ?_
  refine lv_goto (tgt := 1466) hx hb dL_law_1355 (by decide) ?_
  obtain ⟨y6, ey6⟩ : ∃ y : Int32, y = x3 + 6 := ⟨_, rfl⟩
  replace h := h y6 ey6
  refine lv_iinc (v := y6) (lv' := [(3, .int y6), (0, .ref b), (1, .ref o), (2, .ref om)]) hx hb dL_law_1466 hl (k := 3) rfl (by rw [ey6]; rfl) (by decide) rfl (fun ls hl => ?_)
  refine lv_goto (tgt := 18) hx hb dL_law_1469 (by decide) ?_
  exact hK y6 Z2 X3 S5 _ _ _ h hG (lv_sub hl [1, 2, 3, 0] rfl)
def wL_c30 (xs : Nat → Int32) (K : Int32 → MS → (Nat → MS) → MS → Prop) (x3 : Int32) (Z : MS) (X : Nat → MS) (S : MS) : Prop :=
  w8_meanRow (xs (x3 + (1 : Int32)).toNatClampNeg) Z X (fun r1 Z2 => w9_meanRow (xs (x3 + (1 : Int32)).toNatClampNeg) S (fun r4 S5 => ((r1 = r4 → ∀ y7 : Int32, y7 = x3 + 6 → K y7 Z2 X S5) ∧ (¬ r1 = r4 → False))))
set_option maxHeartbeats 4000000 in
set_option maxRecDepth 100000 in
theorem bL_c30 {p : Program} {l : Launch} {e : Env} {s : State} {m : MethodId} {below : List Frame} {meth : Method} {c : Code} {D : va_G} {cy : Nat → ClassId} {o om : Nat} {qp oa qm : Nat → Nat} {qa : Nat → Nat → Nat} {b L : Nat} {xs : Nat → Int32} (C : Cx p s m #[Value.ref b] meth c cL_law 4 (some .boolean) wsL_law RL D cy nestWs (fun q : Nat => s.heap.size ≤ q)) (hX : va_X b L xs s s.heap) (hbl : b < s.heap.size) {K : Int32 → MS → (Nat → MS) → MS → Prop} (hK : ∀ (x3 : Int32) (Z : MS) (X : Nat → MS) (S : MS) (H : Heap) (locs : List Loc) (ls : Array Slot), K x3 Z X S → GW D (fun q : Nat => s.heap.size ≤ q) s (wP o qp oa qa cy Z X ++ w9 om qm cy S) H locs → lv_has ls 4 [(0, .ref b), (1, .ref o), (2, .ref om), (3, .int x3)] → W p l e room_1 s m #[Value.ref b] below meth c H locs 104 2976 (lw_Z below #[Value.ref b] s) (F0 m 18 ls [])) (x3 : Int32) (hv : (vp_in (x3 + (1 : Int32)) L ∧ vp_in (x3 + (2 : Int32)) L ∧ vp_in (x3 + (3 : Int32)) L ∧ vp_in (x3 + (4 : Int32)) L ∧ vp_in (x3 + (5 : Int32)) L)) (Z : MS) (X : Nat → MS) (S : MS) (h : wL_c30 xs K x3 Z X S) {H : Heap} {locs : List Loc} (hG : GW D (fun q : Nat => s.heap.size ≤ q) s (wP o qp oa qa cy Z X ++ w9 om qm cy S) H locs) {ls : Array Slot} (hl : lv_has ls 4 [(0, .ref b), (1, .ref o), (2, .ref om), (3, .int x3)]) : W p l e room_1 s m #[Value.ref b] below meth c H locs 104 2976 (lw_Z below #[Value.ref b] s) (F0 m 1358 ls []) := by
  have hx := C.1
  have hb := C.2.1
  unfold wL_c30 at h
  refine lv_aload_n hx hb dL_law_1358 rfl (lv_at hl 1 rfl) ?_
  refine lv_aload_n hx hb dL_law_1359 rfl (lv_at hl 0 rfl) ?_
  refine lv_iload_n hx hb dL_law_1360 rfl (lv_at hl 3 rfl) ?_
  refine lv_iconst (v := 1) hx hb dL_law_1361 (by decide) ?_
  refine lv_iadd hx hb dL_law_1362 ?_
  refine va_sld hx hb hX hbl (Nat.not_le.mpr hbl) hG.2.2 hv.1 dL_law_1363 ?_
  refine callVI (As := [.int (xs (x3 + (1 : Int32)).toNatClampNeg)]) (rest := []) C hG (c8_meanRow l D cy o qp oa qa (xs (x3 + (1 : Int32)).toNatClampNeg) Z X _ h) 1 gL_law_X8_meanRow rfl (by decide +kernel) ⟨⟨Nat.le_of_ble_eq_true rfl, Nat.le_of_ble_eq_true rfl⟩, rfl, rfl⟩ rfl rfl (foLx C.2.2.2.2.2.2.2.2.1) rfl hl.1 rfl (Nat.le_of_ble_eq_true rfl) dL_law_1364 ⟨Nat.le_of_ble_eq_true rfl, Nat.le_of_ble_eq_true rfl⟩ (fun r1 z H locs h hG => ?_)
  obtain ⟨Z2, X3⟩ := z
  obtain ⟨eX3, h⟩ := h
  have eX3 : X3 = X := eX3
  replace h := h
  subst X3
  have hG : GW D (fun q : Nat => s.heap.size ≤ q) s (wP o qp oa qa cy Z2 X ++ w9 om qm cy S) H locs := hG
  refine lv_aload_n hx hb dL_law_1367 rfl (lv_at hl 2 rfl) ?_
  refine lv_aload_n hx hb dL_law_1368 rfl (lv_at hl 0 rfl) ?_
  refine lv_iload_n hx hb dL_law_1369 rfl (lv_at hl 3 rfl) ?_
  refine lv_iconst (v := 1) hx hb dL_law_1370 (by decide) ?_
  refine lv_iadd hx hb dL_law_1371 ?_
  refine va_sld hx hb hX hbl (Nat.not_le.mpr hbl) hG.2.2 hv.1 dL_law_1372 ?_
  refine callVI (As := [.int (xs (x3 + (1 : Int32)).toNatClampNeg)]) (rest := [.int r1]) C hG (c9_meanRow l D cy om qm (xs (x3 + (1 : Int32)).toNatClampNeg) S _ h) 1 gL_law_X9_meanRow rfl (by decide +kernel) ⟨⟨Nat.le_of_ble_eq_true rfl, Nat.le_of_ble_eq_true rfl⟩, rfl, rfl⟩ rfl rfl (foLm C.2.2.2.2.2.2.2.2.1) rfl hl.1 rfl (Nat.le_of_ble_eq_true rfl) dL_law_1373 ⟨Nat.le_of_ble_eq_true rfl, Nat.le_of_ble_eq_true rfl⟩ (fun r4 S5 H locs h hG => ?_)
  have hG : GW D (fun q : Nat => s.heap.size ≤ q) s (wP o qp oa qa cy Z2 X ++ w9 om qm cy S5) H locs := hG
  refine lv_icmp_eq (tgt := 1466) hx hb dL_law_1376 (by decide) (fun c6 => ?_) (fun c6 => ?_)
  · replace h := h.1 c6
    obtain ⟨y7, ey7⟩ : ∃ y : Int32, y = x3 + 6 := ⟨_, rfl⟩
    replace h := h y7 ey7
    refine lv_iinc (v := y7) (lv' := [(3, .int y7), (0, .ref b), (1, .ref o), (2, .ref om)]) hx hb dL_law_1466 hl (k := 3) rfl (by rw [ey7]; rfl) (by decide) rfl (fun ls hl => ?_)
    refine lv_goto (tgt := 18) hx hb dL_law_1469 (by decide) ?_
    exact hK y7 Z2 X S5 _ _ _ h hG (lv_sub hl [1, 2, 3, 0] rfl)
  · exact (h.2 c6).elim
def wL_c31 (xs : Nat → Int32) (K : Int32 → MS → (Nat → MS) → MS → Prop) (x3 : Int32) (Z : MS) (X : Nat → MS) (S : MS) : Prop :=
  w8_asked Z X (fun r1 => w9_asked S (fun r4 => ∀ y6 : Int32, y6 = x3 + 6 → K y6 Z X S))
set_option maxHeartbeats 4000000 in
set_option maxRecDepth 100000 in
theorem bL_c31 {p : Program} {l : Launch} {e : Env} {s : State} {m : MethodId} {below : List Frame} {meth : Method} {c : Code} {D : va_G} {cy : Nat → ClassId} {o om : Nat} {qp oa qm : Nat → Nat} {qa : Nat → Nat → Nat} {b L : Nat} {xs : Nat → Int32} (C : Cx p s m #[Value.ref b] meth c cL_law 4 (some .boolean) wsL_law RL D cy nestWs (fun q : Nat => s.heap.size ≤ q)) (hX : va_X b L xs s s.heap) (hbl : b < s.heap.size) {K : Int32 → MS → (Nat → MS) → MS → Prop} (hK : ∀ (x3 : Int32) (Z : MS) (X : Nat → MS) (S : MS) (H : Heap) (locs : List Loc) (ls : Array Slot), K x3 Z X S → GW D (fun q : Nat => s.heap.size ≤ q) s (wP o qp oa qa cy Z X ++ w9 om qm cy S) H locs → lv_has ls 4 [(0, .ref b), (1, .ref o), (2, .ref om), (3, .int x3)] → W p l e room_1 s m #[Value.ref b] below meth c H locs 104 2976 (lw_Z below #[Value.ref b] s) (F0 m 18 ls [])) (x3 : Int32) (hv : (vp_in (x3 + (1 : Int32)) L ∧ vp_in (x3 + (2 : Int32)) L ∧ vp_in (x3 + (3 : Int32)) L ∧ vp_in (x3 + (4 : Int32)) L ∧ vp_in (x3 + (5 : Int32)) L)) (Z : MS) (X : Nat → MS) (S : MS) (h : wL_c31 xs K x3 Z X S) {H : Heap} {locs : List Loc} (hG : GW D (fun q : Nat => s.heap.size ≤ q) s (wP o qp oa qa cy Z X ++ w9 om qm cy S) H locs) {ls : Array Slot} (hl : lv_has ls 4 [(0, .ref b), (1, .ref o), (2, .ref om), (3, .int x3)]) : W p l e room_1 s m #[Value.ref b] below meth c H locs 104 2976 (lw_Z below #[Value.ref b] s) (F0 m 1381 ls []) := by
  have hx := C.1
  have hb := C.2.1
  unfold wL_c31 at h
  refine lv_aload_n hx hb dL_law_1381 rfl (lv_at hl 1 rfl) ?_
  refine callVL (As := []) (rest := []) C hG (c8_asked l D cy o qp oa qa Z X _ h) 0 gL_law_X8_asked rfl (by decide +kernel) ⟨⟨Nat.le_of_ble_eq_true rfl, Nat.le_of_ble_eq_true rfl⟩, rfl, rfl⟩ rfl rfl (foLx C.2.2.2.2.2.2.2.2.1) rfl hl.1 rfl (Nat.le_of_ble_eq_true rfl) dL_law_1382 ⟨Nat.le_of_ble_eq_true rfl, Nat.le_of_ble_eq_true rfl⟩ (fun r1 z H locs h hG => ?_)
  obtain ⟨Z2, X3⟩ := z
  obtain ⟨eZ2, h⟩ := h
  have eZ2 : Z2 = Z := eZ2
  obtain ⟨eX3, h⟩ := h
  have eX3 : X3 = X := eX3
  replace h := h
  subst Z2
  subst X3
  have hG : GW D (fun q : Nat => s.heap.size ≤ q) s (wP o qp oa qa cy Z X ++ w9 om qm cy S) H locs := hG
  refine lv_pop2_2 hx hb dL_law_1385 rfl ?_
  refine lv_aload_n hx hb dL_law_1386 rfl (lv_at hl 2 rfl) ?_
  refine callVL (As := []) (rest := []) C hG (c9_asked l D cy om qm S _ h) 0 gL_law_X9_asked rfl (by decide +kernel) ⟨⟨Nat.le_of_ble_eq_true rfl, Nat.le_of_ble_eq_true rfl⟩, rfl, rfl⟩ rfl rfl (foLm C.2.2.2.2.2.2.2.2.1) rfl hl.1 rfl (Nat.le_of_ble_eq_true rfl) dL_law_1387 ⟨Nat.le_of_ble_eq_true rfl, Nat.le_of_ble_eq_true rfl⟩ (fun r4 S5 H locs h hG => ?_)
  obtain ⟨eS5, h⟩ := h
  subst S5
  have hG : GW D (fun q : Nat => s.heap.size ≤ q) s (wP o qp oa qa cy Z X ++ w9 om qm cy S) H locs := hG
  refine lv_pop2_2 hx hb dL_law_1390 rfl ?_
  refine lv_goto (tgt := 1466) hx hb dL_law_1391 (by decide) ?_
  obtain ⟨y6, ey6⟩ : ∃ y : Int32, y = x3 + 6 := ⟨_, rfl⟩
  replace h := h y6 ey6
  refine lv_iinc (v := y6) (lv' := [(3, .int y6), (0, .ref b), (1, .ref o), (2, .ref om)]) hx hb dL_law_1466 hl (k := 3) rfl (by rw [ey6]; rfl) (by decide) rfl (fun ls hl => ?_)
  refine lv_goto (tgt := 18) hx hb dL_law_1469 (by decide) ?_
  exact hK y6 Z X S _ _ _ h hG (lv_sub hl [1, 2, 3, 0] rfl)
def wL_c32 (xs : Nat → Int32) (K : Int32 → MS → (Nat → MS) → MS → Prop) (x3 : Int32) (Z : MS) (X : Nat → MS) (S : MS) : Prop :=
  w8_count (xs (x3 + (1 : Int32)).toNatClampNeg) Z X (fun r1 => w9_count (xs (x3 + (1 : Int32)).toNatClampNeg) S (fun r4 => ∀ y6 : Int32, y6 = x3 + 6 → K y6 Z X S))
set_option maxHeartbeats 4000000 in
set_option maxRecDepth 100000 in
theorem bL_c32 {p : Program} {l : Launch} {e : Env} {s : State} {m : MethodId} {below : List Frame} {meth : Method} {c : Code} {D : va_G} {cy : Nat → ClassId} {o om : Nat} {qp oa qm : Nat → Nat} {qa : Nat → Nat → Nat} {b L : Nat} {xs : Nat → Int32} (C : Cx p s m #[Value.ref b] meth c cL_law 4 (some .boolean) wsL_law RL D cy nestWs (fun q : Nat => s.heap.size ≤ q)) (hX : va_X b L xs s s.heap) (hbl : b < s.heap.size) {K : Int32 → MS → (Nat → MS) → MS → Prop} (hK : ∀ (x3 : Int32) (Z : MS) (X : Nat → MS) (S : MS) (H : Heap) (locs : List Loc) (ls : Array Slot), K x3 Z X S → GW D (fun q : Nat => s.heap.size ≤ q) s (wP o qp oa qa cy Z X ++ w9 om qm cy S) H locs → lv_has ls 4 [(0, .ref b), (1, .ref o), (2, .ref om), (3, .int x3)] → W p l e room_1 s m #[Value.ref b] below meth c H locs 104 2976 (lw_Z below #[Value.ref b] s) (F0 m 18 ls [])) (x3 : Int32) (hv : (vp_in (x3 + (1 : Int32)) L ∧ vp_in (x3 + (2 : Int32)) L ∧ vp_in (x3 + (3 : Int32)) L ∧ vp_in (x3 + (4 : Int32)) L ∧ vp_in (x3 + (5 : Int32)) L)) (Z : MS) (X : Nat → MS) (S : MS) (h : wL_c32 xs K x3 Z X S) {H : Heap} {locs : List Loc} (hG : GW D (fun q : Nat => s.heap.size ≤ q) s (wP o qp oa qa cy Z X ++ w9 om qm cy S) H locs) {ls : Array Slot} (hl : lv_has ls 4 [(0, .ref b), (1, .ref o), (2, .ref om), (3, .int x3)]) : W p l e room_1 s m #[Value.ref b] below meth c H locs 104 2976 (lw_Z below #[Value.ref b] s) (F0 m 1394 ls []) := by
  have hx := C.1
  have hb := C.2.1
  unfold wL_c32 at h
  refine lv_aload_n hx hb dL_law_1394 rfl (lv_at hl 1 rfl) ?_
  refine lv_aload_n hx hb dL_law_1395 rfl (lv_at hl 0 rfl) ?_
  refine lv_iload_n hx hb dL_law_1396 rfl (lv_at hl 3 rfl) ?_
  refine lv_iconst (v := 1) hx hb dL_law_1397 (by decide) ?_
  refine lv_iadd hx hb dL_law_1398 ?_
  refine va_sld hx hb hX hbl (Nat.not_le.mpr hbl) hG.2.2 hv.1 dL_law_1399 ?_
  refine callVI (As := [.int (xs (x3 + (1 : Int32)).toNatClampNeg)]) (rest := []) C hG (c8_count l D cy o qp oa qa (xs (x3 + (1 : Int32)).toNatClampNeg) Z X _ h) 1 gL_law_X8_count rfl (by decide +kernel) ⟨⟨Nat.le_of_ble_eq_true rfl, Nat.le_of_ble_eq_true rfl⟩, rfl, rfl⟩ rfl rfl (foLx C.2.2.2.2.2.2.2.2.1) rfl hl.1 rfl (Nat.le_of_ble_eq_true rfl) dL_law_1400 ⟨Nat.le_of_ble_eq_true rfl, Nat.le_of_ble_eq_true rfl⟩ (fun r1 z H locs h hG => ?_)
  obtain ⟨Z2, X3⟩ := z
  obtain ⟨eZ2, h⟩ := h
  have eZ2 : Z2 = Z := eZ2
  obtain ⟨eX3, h⟩ := h
  have eX3 : X3 = X := eX3
  replace h := h
  subst Z2
  subst X3
  have hG : GW D (fun q : Nat => s.heap.size ≤ q) s (wP o qp oa qa cy Z X ++ w9 om qm cy S) H locs := hG
  refine lv_pop hx hb dL_law_1403 rfl ?_
  refine lv_aload_n hx hb dL_law_1404 rfl (lv_at hl 2 rfl) ?_
  refine lv_aload_n hx hb dL_law_1405 rfl (lv_at hl 0 rfl) ?_
  refine lv_iload_n hx hb dL_law_1406 rfl (lv_at hl 3 rfl) ?_
  refine lv_iconst (v := 1) hx hb dL_law_1407 (by decide) ?_
  refine lv_iadd hx hb dL_law_1408 ?_
  refine va_sld hx hb hX hbl (Nat.not_le.mpr hbl) hG.2.2 hv.1 dL_law_1409 ?_
  refine callVI (As := [.int (xs (x3 + (1 : Int32)).toNatClampNeg)]) (rest := []) C hG (c9_count l D cy om qm (xs (x3 + (1 : Int32)).toNatClampNeg) S _ h) 1 gL_law_X9_count rfl (by decide +kernel) ⟨⟨Nat.le_of_ble_eq_true rfl, Nat.le_of_ble_eq_true rfl⟩, rfl, rfl⟩ rfl rfl (foLm C.2.2.2.2.2.2.2.2.1) rfl hl.1 rfl (Nat.le_of_ble_eq_true rfl) dL_law_1410 ⟨Nat.le_of_ble_eq_true rfl, Nat.le_of_ble_eq_true rfl⟩ (fun r4 S5 H locs h hG => ?_)
  obtain ⟨eS5, h⟩ := h
  subst S5
  have hG : GW D (fun q : Nat => s.heap.size ≤ q) s (wP o qp oa qa cy Z X ++ w9 om qm cy S) H locs := hG
  refine lv_pop hx hb dL_law_1413 rfl ?_
  refine lv_goto (tgt := 1466) hx hb dL_law_1414 (by decide) ?_
  obtain ⟨y6, ey6⟩ : ∃ y : Int32, y = x3 + 6 := ⟨_, rfl⟩
  replace h := h y6 ey6
  refine lv_iinc (v := y6) (lv' := [(3, .int y6), (0, .ref b), (1, .ref o), (2, .ref om)]) hx hb dL_law_1466 hl (k := 3) rfl (by rw [ey6]; rfl) (by decide) rfl (fun ls hl => ?_)
  refine lv_goto (tgt := 18) hx hb dL_law_1469 (by decide) ?_
  exact hK y6 Z X S _ _ _ h hG (lv_sub hl [1, 2, 3, 0] rfl)
def wL_c33 (xs : Nat → Int32) (K : Int32 → MS → (Nat → MS) → MS → Prop) (x3 : Int32) (Z : MS) (X : Nat → MS) (S : MS) : Prop :=
  w8_finding Z X (fun r1 => w9_finding S (fun r4 => ∀ y6 : Int32, y6 = x3 + 6 → K y6 Z X S))
set_option maxHeartbeats 4000000 in
set_option maxRecDepth 100000 in
theorem bL_c33 {p : Program} {l : Launch} {e : Env} {s : State} {m : MethodId} {below : List Frame} {meth : Method} {c : Code} {D : va_G} {cy : Nat → ClassId} {o om : Nat} {qp oa qm : Nat → Nat} {qa : Nat → Nat → Nat} {b L : Nat} {xs : Nat → Int32} (C : Cx p s m #[Value.ref b] meth c cL_law 4 (some .boolean) wsL_law RL D cy nestWs (fun q : Nat => s.heap.size ≤ q)) (hX : va_X b L xs s s.heap) (hbl : b < s.heap.size) {K : Int32 → MS → (Nat → MS) → MS → Prop} (hK : ∀ (x3 : Int32) (Z : MS) (X : Nat → MS) (S : MS) (H : Heap) (locs : List Loc) (ls : Array Slot), K x3 Z X S → GW D (fun q : Nat => s.heap.size ≤ q) s (wP o qp oa qa cy Z X ++ w9 om qm cy S) H locs → lv_has ls 4 [(0, .ref b), (1, .ref o), (2, .ref om), (3, .int x3)] → W p l e room_1 s m #[Value.ref b] below meth c H locs 104 2976 (lw_Z below #[Value.ref b] s) (F0 m 18 ls [])) (x3 : Int32) (hv : (vp_in (x3 + (1 : Int32)) L ∧ vp_in (x3 + (2 : Int32)) L ∧ vp_in (x3 + (3 : Int32)) L ∧ vp_in (x3 + (4 : Int32)) L ∧ vp_in (x3 + (5 : Int32)) L)) (Z : MS) (X : Nat → MS) (S : MS) (h : wL_c33 xs K x3 Z X S) {H : Heap} {locs : List Loc} (hG : GW D (fun q : Nat => s.heap.size ≤ q) s (wP o qp oa qa cy Z X ++ w9 om qm cy S) H locs) {ls : Array Slot} (hl : lv_has ls 4 [(0, .ref b), (1, .ref o), (2, .ref om), (3, .int x3)]) : W p l e room_1 s m #[Value.ref b] below meth c H locs 104 2976 (lw_Z below #[Value.ref b] s) (F0 m 1417 ls []) := by
  have hx := C.1
  have hb := C.2.1
  unfold wL_c33 at h
  refine lv_aload_n hx hb dL_law_1417 rfl (lv_at hl 1 rfl) ?_
  refine callVI (As := []) (rest := []) C hG (c8_finding l D cy o qp oa qa Z X _ h) 0 gL_law_X8_finding rfl (by decide +kernel) ⟨⟨Nat.le_of_ble_eq_true rfl, Nat.le_of_ble_eq_true rfl⟩, rfl, rfl⟩ rfl rfl (foLx C.2.2.2.2.2.2.2.2.1) rfl hl.1 rfl (Nat.le_of_ble_eq_true rfl) dL_law_1418 ⟨Nat.le_of_ble_eq_true rfl, Nat.le_of_ble_eq_true rfl⟩ (fun r1 z H locs h hG => ?_)
  obtain ⟨Z2, X3⟩ := z
  obtain ⟨eZ2, h⟩ := h
  have eZ2 : Z2 = Z := eZ2
  obtain ⟨eX3, h⟩ := h
  have eX3 : X3 = X := eX3
  replace h := h
  subst Z2
  subst X3
  have hG : GW D (fun q : Nat => s.heap.size ≤ q) s (wP o qp oa qa cy Z X ++ w9 om qm cy S) H locs := hG
  refine lv_pop hx hb dL_law_1421 rfl ?_
  refine lv_aload_n hx hb dL_law_1422 rfl (lv_at hl 2 rfl) ?_
  refine callVI (As := []) (rest := []) C hG (c9_finding l D cy om qm S _ h) 0 gL_law_X9_finding rfl (by decide +kernel) ⟨⟨Nat.le_of_ble_eq_true rfl, Nat.le_of_ble_eq_true rfl⟩, rfl, rfl⟩ rfl rfl (foLm C.2.2.2.2.2.2.2.2.1) rfl hl.1 rfl (Nat.le_of_ble_eq_true rfl) dL_law_1423 ⟨Nat.le_of_ble_eq_true rfl, Nat.le_of_ble_eq_true rfl⟩ (fun r4 S5 H locs h hG => ?_)
  obtain ⟨eS5, h⟩ := h
  subst S5
  have hG : GW D (fun q : Nat => s.heap.size ≤ q) s (wP o qp oa qa cy Z X ++ w9 om qm cy S) H locs := hG
  refine lv_pop hx hb dL_law_1426 rfl ?_
  refine lv_goto (tgt := 1466) hx hb dL_law_1427 (by decide) ?_
  obtain ⟨y6, ey6⟩ : ∃ y : Int32, y = x3 + 6 := ⟨_, rfl⟩
  replace h := h y6 ey6
  refine lv_iinc (v := y6) (lv' := [(3, .int y6), (0, .ref b), (1, .ref o), (2, .ref om)]) hx hb dL_law_1466 hl (k := 3) rfl (by rw [ey6]; rfl) (by decide) rfl (fun ls hl => ?_)
  refine lv_goto (tgt := 18) hx hb dL_law_1469 (by decide) ?_
  exact hK y6 Z X S _ _ _ h hG (lv_sub hl [1, 2, 3, 0] rfl)
def wL_c34 (xs : Nat → Int32) (K : Int32 → MS → (Nat → MS) → MS → Prop) (x3 : Int32) (Z : MS) (X : Nat → MS) (S : MS) : Prop :=
  w8_findings (xs (x3 + (1 : Int32)).toNatClampNeg) Z X (fun r1 => w9_findings (xs (x3 + (1 : Int32)).toNatClampNeg) S (fun r4 => ∀ y6 : Int32, y6 = x3 + 6 → K y6 Z X S))
set_option maxHeartbeats 4000000 in
set_option maxRecDepth 100000 in
theorem bL_c34 {p : Program} {l : Launch} {e : Env} {s : State} {m : MethodId} {below : List Frame} {meth : Method} {c : Code} {D : va_G} {cy : Nat → ClassId} {o om : Nat} {qp oa qm : Nat → Nat} {qa : Nat → Nat → Nat} {b L : Nat} {xs : Nat → Int32} (C : Cx p s m #[Value.ref b] meth c cL_law 4 (some .boolean) wsL_law RL D cy nestWs (fun q : Nat => s.heap.size ≤ q)) (hX : va_X b L xs s s.heap) (hbl : b < s.heap.size) {K : Int32 → MS → (Nat → MS) → MS → Prop} (hK : ∀ (x3 : Int32) (Z : MS) (X : Nat → MS) (S : MS) (H : Heap) (locs : List Loc) (ls : Array Slot), K x3 Z X S → GW D (fun q : Nat => s.heap.size ≤ q) s (wP o qp oa qa cy Z X ++ w9 om qm cy S) H locs → lv_has ls 4 [(0, .ref b), (1, .ref o), (2, .ref om), (3, .int x3)] → W p l e room_1 s m #[Value.ref b] below meth c H locs 104 2976 (lw_Z below #[Value.ref b] s) (F0 m 18 ls [])) (x3 : Int32) (hv : (vp_in (x3 + (1 : Int32)) L ∧ vp_in (x3 + (2 : Int32)) L ∧ vp_in (x3 + (3 : Int32)) L ∧ vp_in (x3 + (4 : Int32)) L ∧ vp_in (x3 + (5 : Int32)) L)) (Z : MS) (X : Nat → MS) (S : MS) (h : wL_c34 xs K x3 Z X S) {H : Heap} {locs : List Loc} (hG : GW D (fun q : Nat => s.heap.size ≤ q) s (wP o qp oa qa cy Z X ++ w9 om qm cy S) H locs) {ls : Array Slot} (hl : lv_has ls 4 [(0, .ref b), (1, .ref o), (2, .ref om), (3, .int x3)]) : W p l e room_1 s m #[Value.ref b] below meth c H locs 104 2976 (lw_Z below #[Value.ref b] s) (F0 m 1430 ls []) := by
  have hx := C.1
  have hb := C.2.1
  unfold wL_c34 at h
  refine lv_aload_n hx hb dL_law_1430 rfl (lv_at hl 1 rfl) ?_
  refine lv_aload_n hx hb dL_law_1431 rfl (lv_at hl 0 rfl) ?_
  refine lv_iload_n hx hb dL_law_1432 rfl (lv_at hl 3 rfl) ?_
  refine lv_iconst (v := 1) hx hb dL_law_1433 (by decide) ?_
  refine lv_iadd hx hb dL_law_1434 ?_
  refine va_sld hx hb hX hbl (Nat.not_le.mpr hbl) hG.2.2 hv.1 dL_law_1435 ?_
  refine callVI (As := [.int (xs (x3 + (1 : Int32)).toNatClampNeg)]) (rest := []) C hG (c8_findings l D cy o qp oa qa (xs (x3 + (1 : Int32)).toNatClampNeg) Z X _ h) 1 gL_law_X8_findings rfl (by decide +kernel) ⟨⟨Nat.le_of_ble_eq_true rfl, Nat.le_of_ble_eq_true rfl⟩, rfl, rfl⟩ rfl rfl (foLx C.2.2.2.2.2.2.2.2.1) rfl hl.1 rfl (Nat.le_of_ble_eq_true rfl) dL_law_1436 ⟨Nat.le_of_ble_eq_true rfl, Nat.le_of_ble_eq_true rfl⟩ (fun r1 z H locs h hG => ?_)
  obtain ⟨Z2, X3⟩ := z
  obtain ⟨eZ2, h⟩ := h
  have eZ2 : Z2 = Z := eZ2
  obtain ⟨eX3, h⟩ := h
  have eX3 : X3 = X := eX3
  replace h := h
  subst Z2
  subst X3
  have hG : GW D (fun q : Nat => s.heap.size ≤ q) s (wP o qp oa qa cy Z X ++ w9 om qm cy S) H locs := hG
  refine lv_pop hx hb dL_law_1439 rfl ?_
  refine lv_aload_n hx hb dL_law_1440 rfl (lv_at hl 2 rfl) ?_
  refine lv_aload_n hx hb dL_law_1441 rfl (lv_at hl 0 rfl) ?_
  refine lv_iload_n hx hb dL_law_1442 rfl (lv_at hl 3 rfl) ?_
  refine lv_iconst (v := 1) hx hb dL_law_1443 (by decide) ?_
  refine lv_iadd hx hb dL_law_1444 ?_
  refine va_sld hx hb hX hbl (Nat.not_le.mpr hbl) hG.2.2 hv.1 dL_law_1445 ?_
  refine callVI (As := [.int (xs (x3 + (1 : Int32)).toNatClampNeg)]) (rest := []) C hG (c9_findings l D cy om qm (xs (x3 + (1 : Int32)).toNatClampNeg) S _ h) 1 gL_law_X9_findings rfl (by decide +kernel) ⟨⟨Nat.le_of_ble_eq_true rfl, Nat.le_of_ble_eq_true rfl⟩, rfl, rfl⟩ rfl rfl (foLm C.2.2.2.2.2.2.2.2.1) rfl hl.1 rfl (Nat.le_of_ble_eq_true rfl) dL_law_1446 ⟨Nat.le_of_ble_eq_true rfl, Nat.le_of_ble_eq_true rfl⟩ (fun r4 S5 H locs h hG => ?_)
  obtain ⟨eS5, h⟩ := h
  subst S5
  have hG : GW D (fun q : Nat => s.heap.size ≤ q) s (wP o qp oa qa cy Z X ++ w9 om qm cy S) H locs := hG
  refine lv_pop hx hb dL_law_1449 rfl ?_
  refine lv_goto (tgt := 1466) hx hb dL_law_1450 (by decide) ?_
  obtain ⟨y6, ey6⟩ : ∃ y : Int32, y = x3 + 6 := ⟨_, rfl⟩
  replace h := h y6 ey6
  refine lv_iinc (v := y6) (lv' := [(3, .int y6), (0, .ref b), (1, .ref o), (2, .ref om)]) hx hb dL_law_1466 hl (k := 3) rfl (by rw [ey6]; rfl) (by decide) rfl (fun ls hl => ?_)
  refine lv_goto (tgt := 18) hx hb dL_law_1469 (by decide) ?_
  exact hK y6 Z X S _ _ _ h hG (lv_sub hl [1, 2, 3, 0] rfl)
def wL_c35 (xs : Nat → Int32) (K : Int32 → MS → (Nat → MS) → MS → Prop) (x3 : Int32) (Z : MS) (X : Nat → MS) (S : MS) : Prop :=
  w8_digest Z X (fun r1 => w9_digest S (fun r4 => ∀ y6 : Int32, y6 = x3 + 6 → K y6 Z X S))
set_option maxHeartbeats 4000000 in
set_option maxRecDepth 100000 in
theorem bL_c35 {p : Program} {l : Launch} {e : Env} {s : State} {m : MethodId} {below : List Frame} {meth : Method} {c : Code} {D : va_G} {cy : Nat → ClassId} {o om : Nat} {qp oa qm : Nat → Nat} {qa : Nat → Nat → Nat} {b L : Nat} {xs : Nat → Int32} (C : Cx p s m #[Value.ref b] meth c cL_law 4 (some .boolean) wsL_law RL D cy nestWs (fun q : Nat => s.heap.size ≤ q)) (hX : va_X b L xs s s.heap) (hbl : b < s.heap.size) {K : Int32 → MS → (Nat → MS) → MS → Prop} (hK : ∀ (x3 : Int32) (Z : MS) (X : Nat → MS) (S : MS) (H : Heap) (locs : List Loc) (ls : Array Slot), K x3 Z X S → GW D (fun q : Nat => s.heap.size ≤ q) s (wP o qp oa qa cy Z X ++ w9 om qm cy S) H locs → lv_has ls 4 [(0, .ref b), (1, .ref o), (2, .ref om), (3, .int x3)] → W p l e room_1 s m #[Value.ref b] below meth c H locs 104 2976 (lw_Z below #[Value.ref b] s) (F0 m 18 ls [])) (x3 : Int32) (hv : (vp_in (x3 + (1 : Int32)) L ∧ vp_in (x3 + (2 : Int32)) L ∧ vp_in (x3 + (3 : Int32)) L ∧ vp_in (x3 + (4 : Int32)) L ∧ vp_in (x3 + (5 : Int32)) L)) (Z : MS) (X : Nat → MS) (S : MS) (h : wL_c35 xs K x3 Z X S) {H : Heap} {locs : List Loc} (hG : GW D (fun q : Nat => s.heap.size ≤ q) s (wP o qp oa qa cy Z X ++ w9 om qm cy S) H locs) {ls : Array Slot} (hl : lv_has ls 4 [(0, .ref b), (1, .ref o), (2, .ref om), (3, .int x3)]) : W p l e room_1 s m #[Value.ref b] below meth c H locs 104 2976 (lw_Z below #[Value.ref b] s) (F0 m 1453 ls []) := by
  have hx := C.1
  have hb := C.2.1
  unfold wL_c35 at h
  refine lv_aload_n hx hb dL_law_1453 rfl (lv_at hl 1 rfl) ?_
  refine callVL (As := []) (rest := []) C hG (c8_digest l D cy o qp oa qa Z X _ h) 0 gL_law_X8_digest rfl (by decide +kernel) ⟨⟨Nat.le_of_ble_eq_true rfl, Nat.le_of_ble_eq_true rfl⟩, rfl, rfl⟩ rfl rfl (foLx C.2.2.2.2.2.2.2.2.1) rfl hl.1 rfl (Nat.le_of_ble_eq_true rfl) dL_law_1454 ⟨Nat.le_of_ble_eq_true rfl, Nat.le_of_ble_eq_true rfl⟩ (fun r1 z H locs h hG => ?_)
  obtain ⟨Z2, X3⟩ := z
  obtain ⟨eZ2, h⟩ := h
  have eZ2 : Z2 = Z := eZ2
  obtain ⟨eX3, h⟩ := h
  have eX3 : X3 = X := eX3
  replace h := h
  subst Z2
  subst X3
  have hG : GW D (fun q : Nat => s.heap.size ≤ q) s (wP o qp oa qa cy Z X ++ w9 om qm cy S) H locs := hG
  refine lv_pop2_2 hx hb dL_law_1457 rfl ?_
  refine lv_aload_n hx hb dL_law_1458 rfl (lv_at hl 2 rfl) ?_
  refine callVL (As := []) (rest := []) C hG (c9_digest l D cy om qm S _ h) 0 gL_law_X9_digest rfl (by decide +kernel) ⟨⟨Nat.le_of_ble_eq_true rfl, Nat.le_of_ble_eq_true rfl⟩, rfl, rfl⟩ rfl rfl (foLm C.2.2.2.2.2.2.2.2.1) rfl hl.1 rfl (Nat.le_of_ble_eq_true rfl) dL_law_1459 ⟨Nat.le_of_ble_eq_true rfl, Nat.le_of_ble_eq_true rfl⟩ (fun r4 S5 H locs h hG => ?_)
  obtain ⟨eS5, h⟩ := h
  subst S5
  have hG : GW D (fun q : Nat => s.heap.size ≤ q) s (wP o qp oa qa cy Z X ++ w9 om qm cy S) H locs := hG
  refine lv_pop2_2 hx hb dL_law_1462 rfl ?_
  refine lv_goto (tgt := 1466) hx hb dL_law_1463 (by decide) ?_
  obtain ⟨y6, ey6⟩ : ∃ y : Int32, y = x3 + 6 := ⟨_, rfl⟩
  replace h := h y6 ey6
  refine lv_iinc (v := y6) (lv' := [(3, .int y6), (0, .ref b), (1, .ref o), (2, .ref om)]) hx hb dL_law_1466 hl (k := 3) rfl (by rw [ey6]; rfl) (by decide) rfl (fun ls hl => ?_)
  refine lv_goto (tgt := 18) hx hb dL_law_1469 (by decide) ?_
  exact hK y6 Z X S _ _ _ h hG (lv_sub hl [1, 2, 3, 0] rfl)
def wL_cd (xs : Nat → Int32) (K : Int32 → MS → (Nat → MS) → MS → Prop) (x3 : Int32) (Z : MS) (X : Nat → MS) (S : MS) : Prop :=
  ∀ y1 : Int32, y1 = x3 + 6 → K y1 Z X S
set_option maxHeartbeats 4000000 in
set_option maxRecDepth 100000 in
theorem bL_cd {p : Program} {l : Launch} {e : Env} {s : State} {m : MethodId} {below : List Frame} {meth : Method} {c : Code} {D : va_G} {cy : Nat → ClassId} {o om : Nat} {qp oa qm : Nat → Nat} {qa : Nat → Nat → Nat} {b L : Nat} {xs : Nat → Int32} (C : Cx p s m #[Value.ref b] meth c cL_law 4 (some .boolean) wsL_law RL D cy nestWs (fun q : Nat => s.heap.size ≤ q)) (hX : va_X b L xs s s.heap) (hbl : b < s.heap.size) {K : Int32 → MS → (Nat → MS) → MS → Prop} (hK : ∀ (x3 : Int32) (Z : MS) (X : Nat → MS) (S : MS) (H : Heap) (locs : List Loc) (ls : Array Slot), K x3 Z X S → GW D (fun q : Nat => s.heap.size ≤ q) s (wP o qp oa qa cy Z X ++ w9 om qm cy S) H locs → lv_has ls 4 [(0, .ref b), (1, .ref o), (2, .ref om), (3, .int x3)] → W p l e room_1 s m #[Value.ref b] below meth c H locs 104 2976 (lw_Z below #[Value.ref b] s) (F0 m 18 ls [])) (x3 : Int32) (hv : (vp_in (x3 + (1 : Int32)) L ∧ vp_in (x3 + (2 : Int32)) L ∧ vp_in (x3 + (3 : Int32)) L ∧ vp_in (x3 + (4 : Int32)) L ∧ vp_in (x3 + (5 : Int32)) L)) (Z : MS) (X : Nat → MS) (S : MS) (h : wL_cd xs K x3 Z X S) {H : Heap} {locs : List Loc} (hG : GW D (fun q : Nat => s.heap.size ≤ q) s (wP o qp oa qa cy Z X ++ w9 om qm cy S) H locs) {ls : Array Slot} (hl : lv_has ls 4 [(0, .ref b), (1, .ref o), (2, .ref om), (3, .int x3)]) : W p l e room_1 s m #[Value.ref b] below meth c H locs 104 2976 (lw_Z below #[Value.ref b] s) (F0 m 1466 ls []) := by
  have hx := C.1
  have hb := C.2.1
  unfold wL_cd at h
  obtain ⟨y1, ey1⟩ : ∃ y : Int32, y = x3 + 6 := ⟨_, rfl⟩
  replace h := h y1 ey1
  refine lv_iinc (v := y1) (lv' := [(3, .int y1), (0, .ref b), (1, .ref o), (2, .ref om)]) hx hb dL_law_1466 hl (k := 3) rfl (by rw [ey1]; rfl) (by decide) rfl (fun ls hl => ?_)
  refine lv_goto (tgt := 18) hx hb dL_law_1469 (by decide) ?_
  exact hK y1 Z X S _ _ _ h hG (lv_sub hl [1, 2, 3, 0] rfl)
def wL_d18 (L : Nat) (xs : Nat → Int32) (K : Int32 → MS → (Nat → MS) → MS → Prop) (x3 : Int32) (Z : MS) (X : Nat → MS) (S : MS) : Prop :=
  ¬ (Int32.ofNat L - (6 : Int32)) < x3 → (vp_in x3 L ∧ (vp_in (x3 + (1 : Int32)) L ∧ vp_in (x3 + (2 : Int32)) L ∧ vp_in (x3 + (3 : Int32)) L ∧ vp_in (x3 + (4 : Int32)) L ∧ vp_in (x3 + (5 : Int32)) L)) ∧ ((xs x3.toNatClampNeg &&& (63 : Int32)) = 0 → wL_c0 xs K x3 Z X S) ∧ ((xs x3.toNatClampNeg &&& (63 : Int32)) = 1 → wL_c1 xs K x3 Z X S) ∧ ((xs x3.toNatClampNeg &&& (63 : Int32)) = 2 → wL_c2 xs K x3 Z X S) ∧ ((xs x3.toNatClampNeg &&& (63 : Int32)) = 3 → wL_c3 xs K x3 Z X S) ∧ ((xs x3.toNatClampNeg &&& (63 : Int32)) = 4 → wL_c4 xs K x3 Z X S) ∧ ((xs x3.toNatClampNeg &&& (63 : Int32)) = 5 → wL_c5 xs K x3 Z X S) ∧ ((xs x3.toNatClampNeg &&& (63 : Int32)) = 6 → wL_c6 xs K x3 Z X S) ∧ ((xs x3.toNatClampNeg &&& (63 : Int32)) = 7 → wL_c7 xs K x3 Z X S) ∧ ((xs x3.toNatClampNeg &&& (63 : Int32)) = 8 → wL_c8 xs K x3 Z X S) ∧ ((xs x3.toNatClampNeg &&& (63 : Int32)) = 9 → wL_c9 xs K x3 Z X S) ∧ ((xs x3.toNatClampNeg &&& (63 : Int32)) = 10 → wL_c10 xs K x3 Z X S) ∧ ((xs x3.toNatClampNeg &&& (63 : Int32)) = 11 → wL_c11 xs K x3 Z X S) ∧ ((xs x3.toNatClampNeg &&& (63 : Int32)) = 12 → wL_c12 xs K x3 Z X S) ∧ ((xs x3.toNatClampNeg &&& (63 : Int32)) = 13 → wL_c13 xs K x3 Z X S) ∧ ((xs x3.toNatClampNeg &&& (63 : Int32)) = 14 → wL_c14 xs K x3 Z X S) ∧ ((xs x3.toNatClampNeg &&& (63 : Int32)) = 15 → wL_c15 xs K x3 Z X S) ∧ ((xs x3.toNatClampNeg &&& (63 : Int32)) = 16 → wL_c16 xs K x3 Z X S) ∧ ((xs x3.toNatClampNeg &&& (63 : Int32)) = 17 → wL_c17 xs K x3 Z X S) ∧ ((xs x3.toNatClampNeg &&& (63 : Int32)) = 18 → wL_c18 xs K x3 Z X S) ∧ ((xs x3.toNatClampNeg &&& (63 : Int32)) = 19 → wL_c19 xs K x3 Z X S) ∧ ((xs x3.toNatClampNeg &&& (63 : Int32)) = 20 → wL_c20 xs K x3 Z X S) ∧ ((xs x3.toNatClampNeg &&& (63 : Int32)) = 21 → wL_c21 xs K x3 Z X S) ∧ ((xs x3.toNatClampNeg &&& (63 : Int32)) = 22 → wL_c22 xs K x3 Z X S) ∧ ((xs x3.toNatClampNeg &&& (63 : Int32)) = 23 → wL_c23 xs K x3 Z X S) ∧ ((xs x3.toNatClampNeg &&& (63 : Int32)) = 24 → wL_c24 xs K x3 Z X S) ∧ ((xs x3.toNatClampNeg &&& (63 : Int32)) = 25 → wL_c25 xs K x3 Z X S) ∧ ((xs x3.toNatClampNeg &&& (63 : Int32)) = 26 → wL_c26 xs K x3 Z X S) ∧ ((xs x3.toNatClampNeg &&& (63 : Int32)) = 27 → wL_c27 xs K x3 Z X S) ∧ ((xs x3.toNatClampNeg &&& (63 : Int32)) = 28 → wL_c28 xs K x3 Z X S) ∧ ((xs x3.toNatClampNeg &&& (63 : Int32)) = 29 → wL_c29 xs K x3 Z X S) ∧ ((xs x3.toNatClampNeg &&& (63 : Int32)) = 30 → wL_c30 xs K x3 Z X S) ∧ ((xs x3.toNatClampNeg &&& (63 : Int32)) = 31 → wL_c31 xs K x3 Z X S) ∧ ((xs x3.toNatClampNeg &&& (63 : Int32)) = 32 → wL_c32 xs K x3 Z X S) ∧ ((xs x3.toNatClampNeg &&& (63 : Int32)) = 33 → wL_c33 xs K x3 Z X S) ∧ ((xs x3.toNatClampNeg &&& (63 : Int32)) = 34 → wL_c34 xs K x3 Z X S) ∧ ((xs x3.toNatClampNeg &&& (63 : Int32)) = 35 → wL_c35 xs K x3 Z X S) ∧ (¬ (xs x3.toNatClampNeg &&& (63 : Int32)) = 0 → ¬ (xs x3.toNatClampNeg &&& (63 : Int32)) = 1 → ¬ (xs x3.toNatClampNeg &&& (63 : Int32)) = 2 → ¬ (xs x3.toNatClampNeg &&& (63 : Int32)) = 3 → ¬ (xs x3.toNatClampNeg &&& (63 : Int32)) = 4 → ¬ (xs x3.toNatClampNeg &&& (63 : Int32)) = 5 → ¬ (xs x3.toNatClampNeg &&& (63 : Int32)) = 6 → ¬ (xs x3.toNatClampNeg &&& (63 : Int32)) = 7 → ¬ (xs x3.toNatClampNeg &&& (63 : Int32)) = 8 → ¬ (xs x3.toNatClampNeg &&& (63 : Int32)) = 9 → ¬ (xs x3.toNatClampNeg &&& (63 : Int32)) = 10 → ¬ (xs x3.toNatClampNeg &&& (63 : Int32)) = 11 → ¬ (xs x3.toNatClampNeg &&& (63 : Int32)) = 12 → ¬ (xs x3.toNatClampNeg &&& (63 : Int32)) = 13 → ¬ (xs x3.toNatClampNeg &&& (63 : Int32)) = 14 → ¬ (xs x3.toNatClampNeg &&& (63 : Int32)) = 15 → ¬ (xs x3.toNatClampNeg &&& (63 : Int32)) = 16 → ¬ (xs x3.toNatClampNeg &&& (63 : Int32)) = 17 → ¬ (xs x3.toNatClampNeg &&& (63 : Int32)) = 18 → ¬ (xs x3.toNatClampNeg &&& (63 : Int32)) = 19 → ¬ (xs x3.toNatClampNeg &&& (63 : Int32)) = 20 → ¬ (xs x3.toNatClampNeg &&& (63 : Int32)) = 21 → ¬ (xs x3.toNatClampNeg &&& (63 : Int32)) = 22 → ¬ (xs x3.toNatClampNeg &&& (63 : Int32)) = 23 → ¬ (xs x3.toNatClampNeg &&& (63 : Int32)) = 24 → ¬ (xs x3.toNatClampNeg &&& (63 : Int32)) = 25 → ¬ (xs x3.toNatClampNeg &&& (63 : Int32)) = 26 → ¬ (xs x3.toNatClampNeg &&& (63 : Int32)) = 27 → ¬ (xs x3.toNatClampNeg &&& (63 : Int32)) = 28 → ¬ (xs x3.toNatClampNeg &&& (63 : Int32)) = 29 → ¬ (xs x3.toNatClampNeg &&& (63 : Int32)) = 30 → ¬ (xs x3.toNatClampNeg &&& (63 : Int32)) = 31 → ¬ (xs x3.toNatClampNeg &&& (63 : Int32)) = 32 → ¬ (xs x3.toNatClampNeg &&& (63 : Int32)) = 33 → ¬ (xs x3.toNatClampNeg &&& (63 : Int32)) = 34 → ¬ (xs x3.toNatClampNeg &&& (63 : Int32)) = 35 → wL_cd xs K x3 Z X S)
set_option maxHeartbeats 8000000 in
set_option maxRecDepth 100000 in
theorem bL_d18 {p : Program} {l : Launch} {e : Env} {s : State} {m : MethodId} {below : List Frame} {meth : Method} {c : Code} {D : va_G} {cy : Nat → ClassId} {o om : Nat} {qp oa qm : Nat → Nat} {qa : Nat → Nat → Nat} {b L : Nat} {xs : Nat → Int32} (C : Cx p s m #[Value.ref b] meth c cL_law 4 (some .boolean) wsL_law RL D cy nestWs (fun q : Nat => s.heap.size ≤ q)) (hX : va_X b L xs s s.heap) (hbl : b < s.heap.size) {K : Int32 → MS → (Nat → MS) → MS → Prop} (hK : ∀ (x3 : Int32) (Z : MS) (X : Nat → MS) (S : MS) (H : Heap) (locs : List Loc) (ls : Array Slot), K x3 Z X S → GW D (fun q : Nat => s.heap.size ≤ q) s (wP o qp oa qa cy Z X ++ w9 om qm cy S) H locs → lv_has ls 4 [(0, .ref b), (1, .ref o), (2, .ref om), (3, .int x3)] → W p l e room_1 s m #[Value.ref b] below meth c H locs 104 2976 (lw_Z below #[Value.ref b] s) (F0 m 18 ls [])) (x3 : Int32) (Z : MS) (X : Nat → MS) (S : MS) (h : wL_d18 L xs K x3 Z X S) {H : Heap} {locs : List Loc} (hG : GW D (fun q : Nat => s.heap.size ≤ q) s (wP o qp oa qa cy Z X ++ w9 om qm cy S) H locs) {ls : Array Slot} (hl : lv_has ls 4 [(0, .ref b), (1, .ref o), (2, .ref om), (3, .int x3)]) : W p l e room_1 s m #[Value.ref b] below meth c H locs 104 2976 (lw_Z below #[Value.ref b] s) (F0 m 18 ls []) := by
  have hx := C.1
  have hb := C.2.1
  refine lv_iload_n hx hb dL_law_18 rfl (lv_at hl 3 rfl) ?_
  refine lv_aload_n hx hb dL_law_19 rfl (lv_at hl 0 rfl) ?_
  refine va_slen hx hb hX hbl (Nat.not_le.mpr hbl) hG.2.2 dL_law_20 ?_
  refine lv_bipush (v := 6) hx hb dL_law_21 (by decide) ?_
  refine lv_isub hx hb dL_law_23 ?_
  refine lv_icmp_gt (tgt := 1472) hx hb dL_law_24 (by decide) (fun c1 => ?_) (fun c1 => ?_)
  · refine lv_iconst (v := 1) hx hb dL_law_1472 (by decide) ?_
    refine va_forget (fun q hq => hG.2.2.2.2 q hq) ?_
    refine W.widen (k := 600000) (n := 7302250) (Nat.le_of_ble_eq_true rfl) (Nat.le_of_ble_eq_true rfl) ?_
    exact lw_ret hx hb C.2.2.2.2.2.1 C.2.2.2.2.2.2.1 dL_law_1473
  · obtain ⟨⟨h0, hv⟩, h⟩ := h c1
    refine lv_aload_n hx hb dL_law_27 rfl (lv_at hl 0 rfl) ?_
    refine lv_iload_n hx hb dL_law_28 rfl (lv_at hl 3 rfl) ?_
    refine va_sld hx hb hX hbl (Nat.not_le.mpr hbl) hG.2.2 h0 dL_law_29 ?_
    refine lv_bipush (v := 63) hx hb dL_law_30 (by decide) ?_
    refine lv_iand hx hb dL_law_32 ?_
    by_cases e0 : (xs x3.toNatClampNeg &&& (63 : Int32)) = 0
    · refine lv_tableIn (tgt := 192) hx hb dL_law_33 (by rw [e0]; decide) (by rw [e0]; decide) (by rw [e0]; rfl) (by decide) ?_
      exact bL_c0 C hX hbl hK x3 hv Z X S (h.1 e0) hG hl
    by_cases e1 : (xs x3.toNatClampNeg &&& (63 : Int32)) = 1
    · refine lv_tableIn (tgt := 255) hx hb dL_law_33 (by rw [e1]; decide) (by rw [e1]; decide) (by rw [e1]; rfl) (by decide) ?_
      exact bL_c1 C hX hbl hK x3 hv Z X S (h.2.1 e1) hG hl
    by_cases e2 : (xs x3.toNatClampNeg &&& (63 : Int32)) = 2
    · refine lv_tableIn (tgt := 278) hx hb dL_law_33 (by rw [e2]; decide) (by rw [e2]; decide) (by rw [e2]; rfl) (by decide) ?_
      exact bL_c2 C hX hbl hK x3 hv Z X S (h.2.2.1 e2) hG hl
    by_cases e3 : (xs x3.toNatClampNeg &&& (63 : Int32)) = 3
    · refine lv_tableIn (tgt := 331) hx hb dL_law_33 (by rw [e3]; decide) (by rw [e3]; decide) (by rw [e3]; rfl) (by decide) ?_
      exact bL_c3 C hX hbl hK x3 hv Z X S (h.2.2.2.1 e3) hG hl
    by_cases e4 : (xs x3.toNatClampNeg &&& (63 : Int32)) = 4
    · refine lv_tableIn (tgt := 364) hx hb dL_law_33 (by rw [e4]; decide) (by rw [e4]; decide) (by rw [e4]; rfl) (by decide) ?_
      exact bL_c4 C hX hbl hK x3 hv Z X S (h.2.2.2.2.1 e4) hG hl
    by_cases e5 : (xs x3.toNatClampNeg &&& (63 : Int32)) = 5
    · refine lv_tableIn (tgt := 397) hx hb dL_law_33 (by rw [e5]; decide) (by rw [e5]; decide) (by rw [e5]; rfl) (by decide) ?_
      exact bL_c5 C hX hbl hK x3 hv Z X S (h.2.2.2.2.2.1 e5) hG hl
    by_cases e6 : (xs x3.toNatClampNeg &&& (63 : Int32)) = 6
    · refine lv_tableIn (tgt := 420) hx hb dL_law_33 (by rw [e6]; decide) (by rw [e6]; decide) (by rw [e6]; rfl) (by decide) ?_
      exact bL_c6 C hX hbl hK x3 hv Z X S (h.2.2.2.2.2.2.1 e6) hG hl
    by_cases e7 : (xs x3.toNatClampNeg &&& (63 : Int32)) = 7
    · refine lv_tableIn (tgt := 479) hx hb dL_law_33 (by rw [e7]; decide) (by rw [e7]; decide) (by rw [e7]; rfl) (by decide) ?_
      exact bL_c7 C hX hbl hK x3 hv Z X S (h.2.2.2.2.2.2.2.1 e7) hG hl
    by_cases e8 : (xs x3.toNatClampNeg &&& (63 : Int32)) = 8
    · refine lv_tableIn (tgt := 512) hx hb dL_law_33 (by rw [e8]; decide) (by rw [e8]; decide) (by rw [e8]; rfl) (by decide) ?_
      exact bL_c8 C hX hbl hK x3 hv Z X S (h.2.2.2.2.2.2.2.2.1 e8) hG hl
    by_cases e9 : (xs x3.toNatClampNeg &&& (63 : Int32)) = 9
    · refine lv_tableIn (tgt := 555) hx hb dL_law_33 (by rw [e9]; decide) (by rw [e9]; decide) (by rw [e9]; rfl) (by decide) ?_
      exact bL_c9 C hX hbl hK x3 hv Z X S (h.2.2.2.2.2.2.2.2.2.1 e9) hG hl
    by_cases e10 : (xs x3.toNatClampNeg &&& (63 : Int32)) = 10
    · refine lv_tableIn (tgt := 608) hx hb dL_law_33 (by rw [e10]; decide) (by rw [e10]; decide) (by rw [e10]; rfl) (by decide) ?_
      exact bL_c10 C hX hbl hK x3 hv Z X S (h.2.2.2.2.2.2.2.2.2.2.1 e10) hG hl
    by_cases e11 : (xs x3.toNatClampNeg &&& (63 : Int32)) = 11
    · refine lv_tableIn (tgt := 661) hx hb dL_law_33 (by rw [e11]; decide) (by rw [e11]; decide) (by rw [e11]; rfl) (by decide) ?_
      exact bL_c11 C hX hbl hK x3 hv Z X S (h.2.2.2.2.2.2.2.2.2.2.2.1 e11) hG hl
    by_cases e12 : (xs x3.toNatClampNeg &&& (63 : Int32)) = 12
    · refine lv_tableIn (tgt := 724) hx hb dL_law_33 (by rw [e12]; decide) (by rw [e12]; decide) (by rw [e12]; rfl) (by decide) ?_
      exact bL_c12 C hX hbl hK x3 hv Z X S (h.2.2.2.2.2.2.2.2.2.2.2.2.1 e12) hG hl
    by_cases e13 : (xs x3.toNatClampNeg &&& (63 : Int32)) = 13
    · refine lv_tableIn (tgt := 757) hx hb dL_law_33 (by rw [e13]; decide) (by rw [e13]; decide) (by rw [e13]; rfl) (by decide) ?_
      exact bL_c13 C hX hbl hK x3 hv Z X S (h.2.2.2.2.2.2.2.2.2.2.2.2.2.1 e13) hG hl
    by_cases e14 : (xs x3.toNatClampNeg &&& (63 : Int32)) = 14
    · refine lv_tableIn (tgt := 810) hx hb dL_law_33 (by rw [e14]; decide) (by rw [e14]; decide) (by rw [e14]; rfl) (by decide) ?_
      exact bL_c14 C hX hbl hK x3 hv Z X S (h.2.2.2.2.2.2.2.2.2.2.2.2.2.2.1 e14) hG hl
    by_cases e15 : (xs x3.toNatClampNeg &&& (63 : Int32)) = 15
    · refine lv_tableIn (tgt := 873) hx hb dL_law_33 (by rw [e15]; decide) (by rw [e15]; decide) (by rw [e15]; rfl) (by decide) ?_
      exact bL_c15 C hX hbl hK x3 hv Z X S (h.2.2.2.2.2.2.2.2.2.2.2.2.2.2.2.1 e15) hG hl
    by_cases e16 : (xs x3.toNatClampNeg &&& (63 : Int32)) = 16
    · refine lv_tableIn (tgt := 916) hx hb dL_law_33 (by rw [e16]; decide) (by rw [e16]; decide) (by rw [e16]; rfl) (by decide) ?_
      exact bL_c16 C hX hbl hK x3 hv Z X S (h.2.2.2.2.2.2.2.2.2.2.2.2.2.2.2.2.1 e16) hG hl
    by_cases e17 : (xs x3.toNatClampNeg &&& (63 : Int32)) = 17
    · refine lv_tableIn (tgt := 949) hx hb dL_law_33 (by rw [e17]; decide) (by rw [e17]; decide) (by rw [e17]; rfl) (by decide) ?_
      exact bL_c17 C hX hbl hK x3 hv Z X S (h.2.2.2.2.2.2.2.2.2.2.2.2.2.2.2.2.2.1 e17) hG hl
    by_cases e18 : (xs x3.toNatClampNeg &&& (63 : Int32)) = 18
    · refine lv_tableIn (tgt := 982) hx hb dL_law_33 (by rw [e18]; decide) (by rw [e18]; decide) (by rw [e18]; rfl) (by decide) ?_
      exact bL_c18 C hX hbl hK x3 hv Z X S (h.2.2.2.2.2.2.2.2.2.2.2.2.2.2.2.2.2.2.1 e18) hG hl
    by_cases e19 : (xs x3.toNatClampNeg &&& (63 : Int32)) = 19
    · refine lv_tableIn (tgt := 1005) hx hb dL_law_33 (by rw [e19]; decide) (by rw [e19]; decide) (by rw [e19]; rfl) (by decide) ?_
      exact bL_c19 C hX hbl hK x3 hv Z X S (h.2.2.2.2.2.2.2.2.2.2.2.2.2.2.2.2.2.2.2.1 e19) hG hl
    by_cases e20 : (xs x3.toNatClampNeg &&& (63 : Int32)) = 20
    · refine lv_tableIn (tgt := 1048) hx hb dL_law_33 (by rw [e20]; decide) (by rw [e20]; decide) (by rw [e20]; rfl) (by decide) ?_
      exact bL_c20 C hX hbl hK x3 hv Z X S (h.2.2.2.2.2.2.2.2.2.2.2.2.2.2.2.2.2.2.2.2.1 e20) hG hl
    by_cases e21 : (xs x3.toNatClampNeg &&& (63 : Int32)) = 21
    · refine lv_tableIn (tgt := 1081) hx hb dL_law_33 (by rw [e21]; decide) (by rw [e21]; decide) (by rw [e21]; rfl) (by decide) ?_
      exact bL_c21 C hX hbl hK x3 hv Z X S (h.2.2.2.2.2.2.2.2.2.2.2.2.2.2.2.2.2.2.2.2.2.1 e21) hG hl
    by_cases e22 : (xs x3.toNatClampNeg &&& (63 : Int32)) = 22
    · refine lv_tableIn (tgt := 1104) hx hb dL_law_33 (by rw [e22]; decide) (by rw [e22]; decide) (by rw [e22]; rfl) (by decide) ?_
      exact bL_c22 C hX hbl hK x3 hv Z X S (h.2.2.2.2.2.2.2.2.2.2.2.2.2.2.2.2.2.2.2.2.2.2.1 e22) hG hl
    by_cases e23 : (xs x3.toNatClampNeg &&& (63 : Int32)) = 23
    · refine lv_tableIn (tgt := 1127) hx hb dL_law_33 (by rw [e23]; decide) (by rw [e23]; decide) (by rw [e23]; rfl) (by decide) ?_
      exact bL_c23 C hX hbl hK x3 hv Z X S (h.2.2.2.2.2.2.2.2.2.2.2.2.2.2.2.2.2.2.2.2.2.2.2.1 e23) hG hl
    by_cases e24 : (xs x3.toNatClampNeg &&& (63 : Int32)) = 24
    · refine lv_tableIn (tgt := 1160) hx hb dL_law_33 (by rw [e24]; decide) (by rw [e24]; decide) (by rw [e24]; rfl) (by decide) ?_
      exact bL_c24 C hX hbl hK x3 hv Z X S (h.2.2.2.2.2.2.2.2.2.2.2.2.2.2.2.2.2.2.2.2.2.2.2.2.1 e24) hG hl
    by_cases e25 : (xs x3.toNatClampNeg &&& (63 : Int32)) = 25
    · refine lv_tableIn (tgt := 1173) hx hb dL_law_33 (by rw [e25]; decide) (by rw [e25]; decide) (by rw [e25]; rfl) (by decide) ?_
      exact bL_c25 C hX hbl hK x3 hv Z X S (h.2.2.2.2.2.2.2.2.2.2.2.2.2.2.2.2.2.2.2.2.2.2.2.2.2.1 e25) hG hl
    by_cases e26 : (xs x3.toNatClampNeg &&& (63 : Int32)) = 26
    · refine lv_tableIn (tgt := 1196) hx hb dL_law_33 (by rw [e26]; decide) (by rw [e26]; decide) (by rw [e26]; rfl) (by decide) ?_
      exact bL_c26 C hX hbl hK x3 hv Z X S (h.2.2.2.2.2.2.2.2.2.2.2.2.2.2.2.2.2.2.2.2.2.2.2.2.2.2.1 e26) hG hl
    by_cases e27 : (xs x3.toNatClampNeg &&& (63 : Int32)) = 27
    · refine lv_tableIn (tgt := 1229) hx hb dL_law_33 (by rw [e27]; decide) (by rw [e27]; decide) (by rw [e27]; rfl) (by decide) ?_
      exact bL_c27 C hX hbl hK x3 hv Z X S (h.2.2.2.2.2.2.2.2.2.2.2.2.2.2.2.2.2.2.2.2.2.2.2.2.2.2.2.1 e27) hG hl
    by_cases e28 : (xs x3.toNatClampNeg &&& (63 : Int32)) = 28
    · refine lv_tableIn (tgt := 1272) hx hb dL_law_33 (by rw [e28]; decide) (by rw [e28]; decide) (by rw [e28]; rfl) (by decide) ?_
      exact bL_c28 C hX hbl hK x3 hv Z X S (h.2.2.2.2.2.2.2.2.2.2.2.2.2.2.2.2.2.2.2.2.2.2.2.2.2.2.2.2.1 e28) hG hl
    by_cases e29 : (xs x3.toNatClampNeg &&& (63 : Int32)) = 29
    · refine lv_tableIn (tgt := 1295) hx hb dL_law_33 (by rw [e29]; decide) (by rw [e29]; decide) (by rw [e29]; rfl) (by decide) ?_
      exact bL_c29 C hX hbl hK x3 hv Z X S (h.2.2.2.2.2.2.2.2.2.2.2.2.2.2.2.2.2.2.2.2.2.2.2.2.2.2.2.2.2.1 e29) hG hl
    by_cases e30 : (xs x3.toNatClampNeg &&& (63 : Int32)) = 30
    · refine lv_tableIn (tgt := 1358) hx hb dL_law_33 (by rw [e30]; decide) (by rw [e30]; decide) (by rw [e30]; rfl) (by decide) ?_
      exact bL_c30 C hX hbl hK x3 hv Z X S (h.2.2.2.2.2.2.2.2.2.2.2.2.2.2.2.2.2.2.2.2.2.2.2.2.2.2.2.2.2.2.1 e30) hG hl
    by_cases e31 : (xs x3.toNatClampNeg &&& (63 : Int32)) = 31
    · refine lv_tableIn (tgt := 1381) hx hb dL_law_33 (by rw [e31]; decide) (by rw [e31]; decide) (by rw [e31]; rfl) (by decide) ?_
      exact bL_c31 C hX hbl hK x3 hv Z X S (h.2.2.2.2.2.2.2.2.2.2.2.2.2.2.2.2.2.2.2.2.2.2.2.2.2.2.2.2.2.2.2.1 e31) hG hl
    by_cases e32 : (xs x3.toNatClampNeg &&& (63 : Int32)) = 32
    · refine lv_tableIn (tgt := 1394) hx hb dL_law_33 (by rw [e32]; decide) (by rw [e32]; decide) (by rw [e32]; rfl) (by decide) ?_
      exact bL_c32 C hX hbl hK x3 hv Z X S (h.2.2.2.2.2.2.2.2.2.2.2.2.2.2.2.2.2.2.2.2.2.2.2.2.2.2.2.2.2.2.2.2.1 e32) hG hl
    by_cases e33 : (xs x3.toNatClampNeg &&& (63 : Int32)) = 33
    · refine lv_tableIn (tgt := 1417) hx hb dL_law_33 (by rw [e33]; decide) (by rw [e33]; decide) (by rw [e33]; rfl) (by decide) ?_
      exact bL_c33 C hX hbl hK x3 hv Z X S (h.2.2.2.2.2.2.2.2.2.2.2.2.2.2.2.2.2.2.2.2.2.2.2.2.2.2.2.2.2.2.2.2.2.1 e33) hG hl
    by_cases e34 : (xs x3.toNatClampNeg &&& (63 : Int32)) = 34
    · refine lv_tableIn (tgt := 1430) hx hb dL_law_33 (by rw [e34]; decide) (by rw [e34]; decide) (by rw [e34]; rfl) (by decide) ?_
      exact bL_c34 C hX hbl hK x3 hv Z X S (h.2.2.2.2.2.2.2.2.2.2.2.2.2.2.2.2.2.2.2.2.2.2.2.2.2.2.2.2.2.2.2.2.2.2.1 e34) hG hl
    by_cases e35 : (xs x3.toNatClampNeg &&& (63 : Int32)) = 35
    · refine lv_tableIn (tgt := 1453) hx hb dL_law_33 (by rw [e35]; decide) (by rw [e35]; decide) (by rw [e35]; rfl) (by decide) ?_
      exact bL_c35 C hX hbl hK x3 hv Z X S (h.2.2.2.2.2.2.2.2.2.2.2.2.2.2.2.2.2.2.2.2.2.2.2.2.2.2.2.2.2.2.2.2.2.2.2.1 e35) hG hl
    refine lv_tableOut (tgt := 1466) hx hb dL_law_33 (sw_out 0 36 (by decide) (fun j hj => by rcases (show j = 0 ∨ j = 1 ∨ j = 2 ∨ j = 3 ∨ j = 4 ∨ j = 5 ∨ j = 6 ∨ j = 7 ∨ j = 8 ∨ j = 9 ∨ j = 10 ∨ j = 11 ∨ j = 12 ∨ j = 13 ∨ j = 14 ∨ j = 15 ∨ j = 16 ∨ j = 17 ∨ j = 18 ∨ j = 19 ∨ j = 20 ∨ j = 21 ∨ j = 22 ∨ j = 23 ∨ j = 24 ∨ j = 25 ∨ j = 26 ∨ j = 27 ∨ j = 28 ∨ j = 29 ∨ j = 30 ∨ j = 31 ∨ j = 32 ∨ j = 33 ∨ j = 34 ∨ j = 35 by omega) with rfl | rfl | rfl | rfl | rfl | rfl | rfl | rfl | rfl | rfl | rfl | rfl | rfl | rfl | rfl | rfl | rfl | rfl | rfl | rfl | rfl | rfl | rfl | rfl | rfl | rfl | rfl | rfl | rfl | rfl | rfl | rfl | rfl | rfl | rfl | rfl <;> first | exact e0 | exact e1 | exact e2 | exact e3 | exact e4 | exact e5 | exact e6 | exact e7 | exact e8 | exact e9 | exact e10 | exact e11 | exact e12 | exact e13 | exact e14 | exact e15 | exact e16 | exact e17 | exact e18 | exact e19 | exact e20 | exact e21 | exact e22 | exact e23 | exact e24 | exact e25 | exact e26 | exact e27 | exact e28 | exact e29 | exact e30 | exact e31 | exact e32 | exact e33 | exact e34 | exact e35)) (by decide) ?_
    exact bL_cd C hX hbl hK x3 hv Z X S (h.2.2.2.2.2.2.2.2.2.2.2.2.2.2.2.2.2.2.2.2.2.2.2.2.2.2.2.2.2.2.2.2.2.2.2.2 e0 e1 e2 e3 e4 e5 e6 e7 e8 e9 e10 e11 e12 e13 e14 e15 e16 e17 e18 e19 e20 e21 e22 e23 e24 e25 e26 e27 e28 e29 e30 e31 e32 e33 e34 e35) hG hl
def wL_F18 (L : Nat) (xs : Nat → Int32) (K : Int32 × MS × (Nat → MS) × MS → Prop) (a : Int32 × MS × (Nat → MS) × MS) : Prop := wL_d18 L xs (fun x Z X S => K (x, Z, X, S)) a.1 a.2.1 a.2.2.1 a.2.2.2
theorem bL_b18 {p : Program} {l : Launch} {e : Env} {s : State} {m : MethodId} {below : List Frame} {meth : Method} {c : Code} {D : va_G} {cy : Nat → ClassId} {o om : Nat} {qp oa qm : Nat → Nat} {qa : Nat → Nat → Nat} {b L : Nat} {xs : Nat → Int32} (C : Cx p s m #[Value.ref b] meth c cL_law 4 (some .boolean) wsL_law RL D cy nestWs (fun q : Nat => s.heap.size ≤ q)) (hX : va_X b L xs s s.heap) (hbl : b < s.heap.size) (x3 : Int32) (Z : MS) (X : Nat → MS) (S : MS) (h : lp (wL_F18 L xs) (x3, Z, X, S)) {H : Heap} {locs : List Loc} (hG : GW D (fun q : Nat => s.heap.size ≤ q) s (wP o qp oa qa cy Z X ++ w9 om qm cy S) H locs) {ls : Array Slot} (hl : lv_has ls 4 [(0, .ref b), (1, .ref o), (2, .ref om), (3, .int x3)]) : W p l e room_1 s m #[Value.ref b] below meth c H locs 104 2976 (lw_Z below #[Value.ref b] s) (F0 m 18 ls []) := by
  obtain ⟨k, hn⟩ := h
  induction k generalizing x3 Z X S H locs ls with
  | zero => exact hn.elim
  | succ k ih => exact bL_d18 (K := fun x Z X S => itr (wL_F18 L xs) k (x, Z, X, S)) C hX hbl (fun x3 Z X S H locs ls hk hG hl => ih x3 Z X S hG hl hk) x3 Z X S hn hG hl
