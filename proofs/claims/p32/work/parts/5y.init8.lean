/-! ===== the constructor of PaperBodies ===== -/
def AO3 (U : State) : Prop := va_AO "PaperBodies$Figure" U ∧ va_AO "PaperBodies$Box" U ∧ va_AO "PaperBodies$Row" U
theorem AO3.moved {u U : State} (hvm : u.vm.Alike U.vm) (h : AO3 u) : AO3 U := ⟨h.1.moved hvm, h.2.1.moved hvm, h.2.2.moved hvm⟩
def MetCE (l : Launch) (y : MethodName) (ws : List Cond) (rm : Room) (D : va_G) (cy : Nat → ClassId) (ns : List Cond) (w0 : va_W) (av : List Value) {σ : Type} (w : σ → va_W) (Q : σ → Prop) (mc ms : Nat) : Prop :=
  ∀ sz, Met l y ws rm (va_Pc av (fun U => P1 D cy ns w0 sz U ∧ AO3 U)) (va_Qv Q (B1 D w (va_A w0 sz)) (va_A w0 sz)) mc ms (va_A w0 sz)
theorem MetCE.mk {l : Launch} {y : MethodName} {ws ws' : List Cond} {rm : Room} {D : va_G} {cy : Nat → ClassId} {ns : List Cond} {σ : Type} {w0 : va_W} {w : σ → va_W} {av : List Value} {mc ms : Nat} {Q : σ → Prop} (own : String) (cc : ByteArray) (maxL : Nat) (hy : plainName y.cls = true) (hy2 : y.name = "<init>") (hw : ws = Cond.code y cc maxL none :: ws') (hn : ∀ w ∈ ns, nestW w) (hown : y.cls = own) (hlen : (lg_sl av).length ≤ maxL)
    (body : ∀ p e s m below meth c A ls, Cx p s m av.toArray meth c cc maxL none ws own D cy ns A → meth.name = "<init>" → AO3 s → GW D A s w0 s.heap [] → lv_has ls maxL (lv_args 0 av) →
      W p l e rm s m av.toArray below meth c s.heap [] 0 0 (MQ below (va_Qv Q (B1 D w A) A) av.toArray s mc ms A) (F0 m 0 ls [])) : MetCE l y ws rm D cy ns w0 av w Q mc ms := by
  intro sz
  refine Met.ofW (cc := cc) (maxL := maxL) (ret := none) hy hw ?_
  intro p e s m args below meth c s₁ B hml hv
  obtain ⟨rfl, ⟨hsz, hP, hK, hN, hD0, hT⟩, hE⟩ := hv
  have hts := atoms_spec (ws := ws) B.pre
  have hown' : s.vm.findClass own = some m.cls := hown ▸ findClass_of_methodNamed B.named
  have hin : meth.name = "<init>" := ((name_of_methodNamed B.named B.method).1).trans hy2
  subst hsz
  have hD := hD0.self (sz := s.heap.size)
  generalize hAe : va_A w0 s.heap.size = A at hD hT ⊢
  have hA : ∀ q : Nat, s.heap.size ≤ q → A q := fun q h => by rw [← hAe]; exact Or.inr h
  have hl := lv_entry av (n := maxL) hlen
  rw [lg_entry_eq]
  exact body p e s m below meth c A _ ⟨B.exec, B.bytes, hml, hown', hts, B.returns, B.notSynchronized, hK, hA, hN, hn, hT⟩ hin hE ⟨hP, hD, va_S.rf⟩ hl
section RowsI8
variable {p : Program} {l : Launch} {e : Env} {R : Room} {s : State} {m : MethodId} {args : Array Value} {below : List Frame} {meth : Method} {c : Code} {H : Heap} {locs : List Loc} {cells slots : Nat} {Q : State → Prop}
variable {cc : ByteArray} {nL : Nat} {ret : Option FieldType} {Ts : List Cond} {own : String} {D : va_G} {cy : Nat → ClassId} {ns : List Cond} {A : Nat → Prop} {ls : Array Slot} {rest st : List Value} {pc : Nat} {ws : va_W}
theorem gx_newQ {C' : String} (C : Cx p s m args meth c cc nL ret Ts own D cy ns A) (hG : GW D A s ws H locs) {idx : Nat} (hcl : Cond.classLink own idx C' ∈ Ts) (hover : va_AO C' s) (t0 : Nat) {cA0 : ClassId} (ht : (TY cy)[t0]? = some (cA0, .object C')) {n : Int32} {N : Nat} (hn : ¬ n < 0) (hNn : n.toNatClampNeg = N) (hbytes : N * 4 ≤ 536870912) (hcells : cells + 1 ≤ R.cells) (hslots : slots + N ≤ R.slots) (hdg : decode cc pc = .ok (.anewarray idx, 3))
    (kk : ∀ (q : Nat) (H1 : Heap), GW D A s (ws ++ [(q, .inl (cA0, N, .inr (.inr (.inr (.inr (fun _ => none))))))]) H1 locs → W p l e R s m args below meth c H1 locs (cells + 1) (slots + N) Q (F0 m (pc + 3) ls (.ref q :: rest))) : W p l e R s m args below meth c H locs cells slots Q (F0 m pc ls (.int n :: rest)) := by
  obtain ⟨hx, hb, hml, hown, hts, hr, hlocks, hK, hA, hN, hn', hT⟩ := C
  refine va_newq hx hb hown (hts _ hcl) hover hK hG.1 hG.2.1 hG.2.2 hA hn hNn hbytes hcells hslots hdg (fun q cA H1 hK1 hP1 hD1 hS1 => ?_)
  obtain ⟨k1, c1, a1, a2, a3, a4⟩ := (hK1.2 5 (cA, .object C') rfl).2
  obtain ⟨k2, c2, b1, b2, b3, b4⟩ := (hK.2 t0 (cA0, .object C') ht).2
  have e3 : cA = cA0 := Option.some.inj (a4.symm.trans b4)
  subst e3
  exact kk q H1 ⟨hP1, hD1, hS1⟩
theorem gx_new (C : Cx p s m args meth c cc nL ret Ts own D cy ns A) (hG : GW D A s ws H locs) {C' : String} {T : u_T} {N ci idx : Nat} (hin : ∀ w ∈ u_ws C' T N, w ∈ Ts) (ty : Nat → FieldType) (hty : ∀ k, k < N → parseFieldDescriptor (T k).2.2.1 = some (ty k)) (hcl : Cond.classLink own idx C' ∈ Ts) (hinst : Cond.instantiable C' N ∈ Ts) (hini : Cond.initialized C' ∈ Ts) (hc : vwCl[ci]? = some (C', T, N)) {fs : List Value} (hfs : ∀ j, j < N → defaultValue (ty j) = vp_V fs j) (hcells : cells + 1 ≤ R.cells) (hslots : slots + N ≤ R.slots) (hdg : decode cc pc = .ok (.new idx, 3))
    (kk : ∀ (q : Nat) (H1 : Heap), GW D A s (ws ++ [(q, .inr (ci, fs))]) H1 locs → W p l e R s m args below meth c H1 locs (cells + 1) (slots + N) Q (F0 m (pc + 3) ls (.ref q :: rest))) : W p l e R s m args below meth c H locs cells slots Q (F0 m pc ls rest) := by
  obtain ⟨hx, hb, hml, hown, hts, hr, hlocks, hK, hA, hN, hn', hT⟩ := C
  exact va_new hx hb hts hin ty hty hown (hts _ hcl) (hts _ hinst) (hts _ hini) hK hG.1 hG.2.1 hG.2.2 hA hc hfs hcells hslots hdg (fun q H1 h1 h2 h3 => kk q H1 ⟨h1, h2, h3⟩)
theorem gx_aast (C : Cx p s m args meth c cc nL ret Ts own D cy ns A) (hG : GW D A s ws H locs) (q0 t0 qk ci : Nat) {cA : ClassId} {r : vw_C} {a n v : Nat} {vs : List Value} {f : Nat → Option Nat} (ha : ws[q0]? = some (a, .inl (cA, n, .inr (.inr (.inr (.inr f)))))) (ht : (TY cy)[t0]? = some (cA, .object r.1)) (hv : ws[qk]? = some (v, .inr (ci, vs))) (hc : vwCl[ci]? = some r) {i : Int32} (hin : vp_in i n) (hdg : decode cc pc = .ok (.aastore, 1)) {ws' : va_W} (hw : ws.set q0 (a, .inl (cA, n, .inr (.inr (.inr (.inr (va_up f i.toNatClampNeg (some v))))))) = ws')
    (kk : ∀ (H1 : Heap) (locs1 : List Loc), GW D A s ws' H1 locs1 → W p l e R s m args below meth c H1 locs1 cells slots Q (F0 m (pc + 1) ls rest)) : W p l e R s m args below meth c H locs cells slots Q (F0 m pc ls (.ref v :: .int i :: .ref a :: rest)) := by
  obtain ⟨hx, hb, hml, hown, hts, hr, hlocks, hK, hA, hN, hn', hT⟩ := C
  subst hw
  exact va_astq hx hb hK hG.1 hG.2.1 hG.2.2 q0 t0 qk ci ha ht hv hc hin hdg (fun H1 locs1 h1 h2 h3 => kk H1 locs1 ⟨h1, h2, h3⟩)
/-- a nest mate's constructor, on the cell that was made last -/
theorem callIC {σ : Type} {w0 : va_W} {w' : σ → va_W} {Qp : σ → Prop} {y : MethodName} {wsc ws' : List Cond} {rm : Room} {b mc ms maxL index : Nat} {bytes : ByteArray} {host : String} (C : Cx p s m args meth c cc nL ret Ts own D cy ns A) (hG : GW D A s (ws ++ w0) H locs) (hM : MetC l y wsc rm D cy ns w0 [.ref b] w' Qp mc ms) (hT : GoodIn Ts wsc) (hw : wsc = Cond.code y bytes maxL none :: ws') (hnl : Cond.methodLinkNest own index y host ∈ ns) (hini : Cond.initialized y.cls ∈ Ts) (hinst : Cond.instanceMethod y ∈ Ts) (hy : y.name = "<init>")
    (hd : y.cls ≠ "java/lang/invoke/MethodHandle" ∧ y.cls ≠ "java/lang/invoke/VarHandle" ∧ (parseMethodDescriptor y.desc).map (fun d => d.parameters.length) = some 0) (hR : (rm.frames + 1 ≤ R.frames ∧ 8 + (maxL + 11) + rm.locals ≤ R.locals) ∧ rm.cells = mc ∧ rm.slots = ms)
    (hsize : ls.size = nL) (hst : st = .ref b :: rest) (hW : (rest.map fun v => v.category).sum ≤ 8) (hdg : decode cc pc = .ok (.invokespecial index, 3)) (hf : cells + mc ≤ R.cells ∧ slots + ms ≤ R.slots)
    (kk : ∀ (u : σ) (H1 : Heap) (locs1 : List Loc), Qp u → GW D A s (ws ++ w' u) H1 locs1 → W p l e R s m args below meth c H1 locs1 (cells + mc) (slots + ms) Q (F0 m (pc + 3) ls rest)) : W p l e R s m args below meth c H locs cells slots Q (F0 m pc ls st) := by
  obtain ⟨hx, hb, hml, hown, hts, hr, hlocks, hK, hA, hN, hn', hTb⟩ := C
  subst hst
  have fo : Foc D A s (ws ++ w0) (fun z : Option σ => (z.elim w0 w' : va_W)) none (fun z => ws ++ z.elim w0 w') := Foc.perm hA (wr := ws) List.perm_append_comm (fun _ => List.perm_append_comm)
  obtain ⟨f1, f2, f3, f4⟩ := fo H locs hG
  refine va_callv (va_runIN (As := []) (rest := rest) ⟨hx, hb, hml, hown, hts⟩ (hM H.size) ⟨va_cnB 0 hts hT hw hR.2.1 hR.2.2 (hN _ hnl) (hts _ hini) hd hR.1, hy, hts _ hinst⟩ ⟨P1.blind hn', fun U hU hW => ⟨rfl, by rw [hU], by rw [hU]; exact f1, va_K.moved hW.alike hK, NW.moved hn' hN hW, f2, by rw [hU]; exact hTb.go (hG.2.2.2.1) f3 hW.alike⟩⟩ rfl rfl hsize rfl (lv_room hW) hdg hf) hG.2.2 (fun q _ h => f3 q h) f3 (fun u t H1 locs1 ht hvm hw hB hz1 hk1 hS => ?_)
  obtain ⟨g1, g2⟩ := hB
  rw [ht] at g1
  obtain ⟨k1, k2⟩ := f4 H1 (some u) hk1 g1 g2
  exact kk u H1 locs1 hw ⟨k1, k2, hS⟩
end RowsI8
theorem cell_cong {cA : ClassId} {n : Nat} {f g : Nat → Option Nat} (h : ∀ j, j < n → f j = g j) : vp_cell cA (n, .inr (.inr (.inr (.inr f)))) = vp_cell cA (n, .inr (.inr (.inr (.inr g)))) := by
  show arrV cA n (fun j => va_rf (f j)) = arrV cA n (fun j => va_rf (g j))
  unfold arrV
  congr 1
  apply Array.ext
  · simp
  · intro i h1 h2
    simp only [Array.getElem_ofFn]
    rw [h i (by simpa using h1)]
/-- a row of references as it is below its length -/
theorem GW.refs {D : va_G} {A : Nat → Prop} {s : State} {l1 l2 : va_W} {a n : Nat} {cA : ClassId} {f g : Nat → Option Nat} {H : Heap} {locs : List Loc} (h : ∀ j, j < n → f j = g j) (hG : GW D A s (l1 ++ (a, .inl (cA, n, .inr (.inr (.inr (.inr f))))) :: l2) H locs) : GW D A s (l1 ++ (a, .inl (cA, n, .inr (.inr (.inr (.inr g))))) :: l2) H locs := by
  refine ⟨P_mem.mpr (fun q hq => ?_), D_mem.mpr ?_, hG.2.2⟩
  · have hp := P_mem.mp hG.1
    rcases List.mem_append.mp hq with h1 | h1
    · exact hp q (List.mem_append_left _ h1)
    · rcases List.mem_cons.mp h1 with h1 | h1
      · subst h1
        have h2 := hp (a, .inl (cA, n, .inr (.inr (.inr (.inr f))))) (List.mem_append_right _ List.mem_cons_self)
        show H[a]? = some (vp_cell cA (n, .inr (.inr (.inr (.inr g)))))
        rw [← cell_cong h]
        exact h2
      · exact hp q (List.mem_append_right _ (List.mem_cons_of_mem _ h1))
  · have hd := D_mem.mp hG.2.1
    refine ⟨by simpa using hd.1, fun q hq => ?_⟩
    rcases List.mem_append.mp hq with h1 | h1
    · exact hd.2 q (List.mem_append_left _ h1)
    · rcases List.mem_cons.mp h1 with h1 | h1
      · subst h1
        exact hd.2 (a, .inl (cA, n, .inr (.inr (.inr (.inr f))))) (List.mem_append_right _ List.mem_cons_self)
      · exact hd.2 q (List.mem_append_right _ (List.mem_cons_of_mem _ h1))
def i8 : MS := (fun _ => 0, fun _ => 0, fun _ _ => 0, fun _ _ => 0)
def X8i : Nat → MS := fun k => if k < 6 then i2 else if k < 10 then i1 else if k < 15 then i5 else if k < 17 then i6 else if k < 18 then i7 else if k < 19 then i4 else i3
theorem k8_init_o : (Cond.methodLink RX8 3 objectInit ∈ wsX8_init ∧ Cond.instanceMethod objectInit ∈ wsX8_init) ∧ Cond.code objectInit ⟨#[0xb1]⟩ 1 none ∈ wsX8_init := ⟨⟨(List.mem_cons_of_mem _ mw_315), (List.mem_cons_of_mem _ mw_40)⟩, (List.mem_cons_of_mem _ mw_41)⟩
theorem k8_init_c9 : (Cond.classLink RX8 9 RX2 ∈ wsX8_init ∧ Cond.instantiable RX2 4 ∈ wsX8_init) ∧ Cond.initialized RX2 ∈ wsX8_init := ⟨⟨(List.mem_cons_of_mem _ mw_316), (List.mem_cons_of_mem _ mw_338)⟩, (List.mem_cons_of_mem _ mw_128)⟩
theorem k8_init_11 : Cond.fieldLink RX8 11 "PaperBodies" "figures" "[LPaperBodies$Figure;" ∈ wsX8_init := (List.mem_cons_of_mem _ mw_317)
theorem i8_init_X8 : ∀ w ∈ wsX80, w ∈ wsX8_init := fun w h => List.mem_cons_of_mem _ (inG_X8 w h)
theorem k8_init_c15 : (Cond.classLink RX8 15 RX1 ∈ wsX8_init ∧ Cond.instantiable RX1 7 ∈ wsX8_init) ∧ Cond.initialized RX1 ∈ wsX8_init := ⟨⟨(List.mem_cons_of_mem _ mw_318), (List.mem_cons_of_mem _ mw_339)⟩, (List.mem_cons_of_mem _ mw_58)⟩
theorem k8_init_17 : Cond.fieldLink RX8 17 "PaperBodies" "boxes" "[LPaperBodies$Box;" ∈ wsX8_init := (List.mem_cons_of_mem _ mw_319)
theorem k8_init_c21 : (Cond.classLink RX8 21 RX5 ∈ wsX8_init ∧ Cond.instantiable RX5 2 ∈ wsX8_init) ∧ Cond.initialized RX5 ∈ wsX8_init := ⟨⟨(List.mem_cons_of_mem _ mw_320), (List.mem_cons_of_mem _ mw_322)⟩, (List.mem_cons_of_mem _ mw_284)⟩
theorem k8_init_23 : Cond.fieldLink RX8 23 "PaperBodies" "rows" "[LPaperBodies$Row;" ∈ wsX8_init := (List.mem_cons_of_mem _ mw_321)
theorem i8_init_X5 : ∀ w ∈ wsX50, w ∈ wsX8_init := fun w h => List.mem_cons_of_mem _ (inG_X5 w h)
theorem k8_init_m27 : Cond.initialized yX5_init.cls ∈ wsX8_init ∧ Cond.instanceMethod yX5_init ∈ wsX8_init := ⟨(List.mem_cons_of_mem _ mw_284), (List.mem_cons_of_mem _ mw_340)⟩
theorem k8_init_28 : Cond.fieldLink RX8 28 "PaperBodies" "allWays" "LPaperBodies$Row;" ∈ wsX8_init := (List.mem_cons_of_mem _ mw_323)
theorem k8_init_c32 : (Cond.classLink RX8 32 RX6 ∈ wsX8_init ∧ Cond.instantiable RX6 5 ∈ wsX8_init) ∧ Cond.initialized RX6 ∈ wsX8_init := ⟨⟨(List.mem_cons_of_mem _ mw_324), (List.mem_cons_of_mem _ mw_325)⟩, (List.mem_cons_of_mem _ mw_256)⟩
theorem i8_init_X6 : ∀ w ∈ wsX60, w ∈ wsX8_init := fun w h => List.mem_cons_of_mem _ (inG_X6 w h)
theorem k8_init_m34 : Cond.initialized yX6_init.cls ∈ wsX8_init ∧ Cond.instanceMethod yX6_init ∈ wsX8_init := ⟨(List.mem_cons_of_mem _ mw_256), (List.mem_cons_of_mem _ mw_341)⟩
theorem k8_init_35 : Cond.fieldLink RX8 35 "PaperBodies" "folded" "LPaperBodies$Sheet;" ∈ wsX8_init := (List.mem_cons_of_mem _ mw_326)
theorem k8_init_39 : Cond.fieldLink RX8 39 "PaperBodies" "laidOut" "LPaperBodies$Sheet;" ∈ wsX8_init := (List.mem_cons_of_mem _ mw_327)
theorem k8_init_c42 : (Cond.classLink RX8 42 RX7 ∈ wsX8_init ∧ Cond.instantiable RX7 1 ∈ wsX8_init) ∧ Cond.initialized RX7 ∈ wsX8_init := ⟨⟨(List.mem_cons_of_mem _ mw_328), (List.mem_cons_of_mem _ mw_329)⟩, (List.mem_cons_of_mem _ mw_308)⟩
theorem i8_init_X7 : ∀ w ∈ wsX70, w ∈ wsX8_init := fun w h => List.mem_cons_of_mem _ (inG_X7 w h)
theorem k8_init_m44 : Cond.initialized yX7_init.cls ∈ wsX8_init ∧ Cond.instanceMethod yX7_init ∈ wsX8_init := ⟨(List.mem_cons_of_mem _ mw_308), (List.mem_cons_of_mem _ mw_342)⟩
theorem k8_init_45 : Cond.fieldLink RX8 45 "PaperBodies" "unfolding" "LPaperBodies$Unfolding;" ∈ wsX8_init := (List.mem_cons_of_mem _ mw_330)
theorem k8_init_c49 : (Cond.classLink RX8 49 RX4 ∈ wsX8_init ∧ Cond.instantiable RX4 4 ∈ wsX8_init) ∧ Cond.initialized RX4 ∈ wsX8_init := ⟨⟨(List.mem_cons_of_mem _ mw_331), (List.mem_cons_of_mem _ mw_332)⟩, (List.mem_cons_of_mem _ mw_150)⟩
theorem i8_init_X4 : ∀ w ∈ wsX40, w ∈ wsX8_init := fun w h => List.mem_cons_of_mem _ (inG_X4 w h)
theorem k8_init_m51 : Cond.initialized yX4_init.cls ∈ wsX8_init ∧ Cond.instanceMethod yX4_init ∈ wsX8_init := ⟨(List.mem_cons_of_mem _ mw_150), (List.mem_cons_of_mem _ mw_343)⟩
theorem k8_init_52 : Cond.fieldLink RX8 52 "PaperBodies" "walked" "LPaperBodies$Rim;" ∈ wsX8_init := (List.mem_cons_of_mem _ mw_333)
theorem k8_init_c56 : (Cond.classLink RX8 56 RX3 ∈ wsX8_init ∧ Cond.instantiable RX3 13 ∈ wsX8_init) ∧ Cond.initialized RX3 ∈ wsX8_init := ⟨⟨(List.mem_cons_of_mem _ mw_334), (List.mem_cons_of_mem _ mw_335)⟩, (List.mem_cons_of_mem _ mw_166)⟩
theorem i8_init_X3 : ∀ w ∈ wsX30, w ∈ wsX8_init := fun w h => List.mem_cons_of_mem _ (inG_X3 w h)
theorem k8_init_m58 : Cond.initialized yX3_init.cls ∈ wsX8_init ∧ Cond.instanceMethod yX3_init ∈ wsX8_init := ⟨(List.mem_cons_of_mem _ mw_166), (List.mem_cons_of_mem _ mw_344)⟩
theorem k8_init_59 : Cond.fieldLink RX8 59 "PaperBodies" "gluer" "LPaperBodies$Gluer;" ∈ wsX8_init := (List.mem_cons_of_mem _ mw_336)
theorem k8_init_a0 : Cond.arrayClass .int ∈ wsX8_init := (List.mem_cons_of_mem _ mw_42)
theorem k8_init_63 : Cond.fieldLink RX8 63 "PaperBodies" "timesFound" "[I" ∈ wsX8_init := (List.mem_cons_of_mem _ mw_337)
theorem i8_init_X2 : ∀ w ∈ wsX20, w ∈ wsX8_init := fun w h => List.mem_cons_of_mem _ (inG_X2 w h)
theorem k8_init_m67 : Cond.initialized yX2_init.cls ∈ wsX8_init ∧ Cond.instanceMethod yX2_init ∈ wsX8_init := ⟨(List.mem_cons_of_mem _ mw_128), (List.mem_cons_of_mem _ mw_345)⟩
theorem i8_init_X1 : ∀ w ∈ wsX10, w ∈ wsX8_init := fun w h => List.mem_cons_of_mem _ (inG_X1 w h)
theorem k8_init_m68 : Cond.initialized yX1_init.cls ∈ wsX8_init ∧ Cond.instanceMethod yX1_init ∈ wsX8_init := ⟨(List.mem_cons_of_mem _ mw_58), (List.mem_cons_of_mem _ mw_346)⟩
theorem wP_list {o : Nat} {qp oa : Nat → Nat} {qa : Nat → Nat → Nat} {cy : Nat → ClassId} {Z : MS} {X : Nat → MS} : wP o qp oa qa cy Z X = wP0 o qp oa cy Z ++ (w2 (oa 0) (qa 0) cy (X 0) ++ (w2 (oa 1) (qa 1) cy (X 1) ++ (w2 (oa 2) (qa 2) cy (X 2) ++ (w2 (oa 3) (qa 3) cy (X 3) ++ (w2 (oa 4) (qa 4) cy (X 4) ++ (w2 (oa 5) (qa 5) cy (X 5) ++ (w1 (oa 6) (qa 6) cy (X 6) ++ (w1 (oa 7) (qa 7) cy (X 7) ++ (w1 (oa 8) (qa 8) cy (X 8) ++ (w1 (oa 9) (qa 9) cy (X 9) ++ (w5 (oa 10) (qa 10) cy (X 10) ++ (w5 (oa 11) (qa 11) cy (X 11) ++ (w5 (oa 12) (qa 12) cy (X 12) ++ (w5 (oa 13) (qa 13) cy (X 13) ++ (w5 (oa 14) (qa 14) cy (X 14) ++ (w6 (oa 15) (qa 15) cy (X 15) ++ (w6 (oa 16) (qa 16) cy (X 16) ++ (w7 (oa 17) (qa 17) cy (X 17) ++ (w4 (oa 18) (qa 18) cy (X 18) ++ (w3 (oa 19) (qa 19) cy (X 19))))))))))))))))))))) := by
  unfold wP wPb
  rw [show List.range 20 = [0, 1, 2, 3, 4, 5, 6, 7, 8, 9, 10, 11, 12, 13, 14, 15, 16, 17, 18, 19] from by decide]
  simp [blk]
set_option maxHeartbeats 8000000 in
set_option maxRecDepth 100000 in
theorem c8_init (l : Launch) (D : va_G) (cy : Nat → ClassId) (o : Nat) (Q : (Nat → MS) → Prop) (h : w5_begin 0 i5 (fun S1 => Q (va_up X8i 14 S1))) : MetCE l yX8_init wsX8_init ({ frames := 8, cells := 68, slots := 1650, locals := 300 } : Room) D cy nestWs [(o, .inr (7, [.null, .null, .null, .null, .null, .null, .null, .null, .null, .null, .int 0, .long 0]))] [.ref o] (fun u : (Nat → Nat) × (Nat → Nat) × (Nat → Nat → Nat) × (Nat → MS) => wP o u.1 u.2.1 u.2.2.1 cy i8 u.2.2.2) (fun u => Q u.2.2.2) 68 1650 := by
  refine MetCE.mk RX8 cX8_init 2 (by decide) rfl rfl nestWs_ok rfl (Nat.le_of_ble_eq_true rfl) ?_
  intro p e s m below meth c A ls C hinit hE hG hl
  have hl : lv_has ls 2 [(0, .ref o)] := hl
  have hx := C.1
  have hb := C.2.1
  refine lv_aload_n hx hb dX8_init_0 rfl (lv_at hl 0 rfl) ?_
  refine gx_oinit C k8_init_o.1.1 k8_init_o.1.2 k8_init_o.2 hl.1 dX8_init_1 (Nat.le_of_ble_eq_true rfl) (Nat.le_of_ble_eq_true rfl) ?_
  refine lv_aload_n hx hb dX8_init_4 rfl (lv_at hl 0 rfl) ?_
  refine lv_bipush (v := 6) hx hb dX8_init_5 (by decide) ?_
  refine gx_newQ (C' := RX2) (N := 6) C hG k8_init_c9.1.1 hE.1 3 rfl (by decide) (by decide) (by decide) (Nat.le_of_ble_eq_true rfl) (Nat.le_of_ble_eq_true rfl) dX8_init_7 (fun q0 H hG => ?_)
  refine W.widen (k := 1) (n := 6) (Nat.le_of_ble_eq_true rfl) (Nat.le_of_ble_eq_true rfl) ?_
  have hG : GW D A s ([(o, .inr (7, [.null, .null, .null, .null, .null, .null, .null, .null, .null, .null, .int 0, .long 0])), (q0, .inl (cy 3, 6, .inr (.inr (.inr (.inr (fun _ => none))))))]) H _ := hG
  refine gx_putF (ty := .array (.object "PaperBodies$Figure")) (ws' := [(o, .inr (7, [.ref q0, .null, .null, .null, .null, .null, .null, .null, .null, .null, .int 0, .long 0])), (q0, .inl (cy 3, 6, .inr (.inr (.inr (.inr (fun _ => none))))))]) C hinit i8_init_X8 tyX8 tyX8_ok nmX8 hG 0 rfl rfl 0 (by decide) k8_init_11 rfl rfl (by decide +kernel) rfl rfl (Nat.le_of_ble_eq_true rfl) dX8_init_10 rfl (fun H locs hG => ?_)
  refine lv_aload_n hx hb dX8_init_13 rfl (lv_at hl 0 rfl) ?_
  refine lv_iconst (v := 4) hx hb dX8_init_14 (by decide) ?_
  refine gx_newQ (C' := RX1) (N := 4) C hG k8_init_c15.1.1 hE.2.1 2 rfl (by decide) (by decide) (by decide) (Nat.le_of_ble_eq_true rfl) (Nat.le_of_ble_eq_true rfl) dX8_init_15 (fun q1 H hG => ?_)
  refine W.widen (k := 2) (n := 10) (Nat.le_of_ble_eq_true rfl) (Nat.le_of_ble_eq_true rfl) ?_
  have hG : GW D A s ([(o, .inr (7, [.ref q0, .null, .null, .null, .null, .null, .null, .null, .null, .null, .int 0, .long 0])), (q0, .inl (cy 3, 6, .inr (.inr (.inr (.inr (fun _ => none)))))), (q1, .inl (cy 2, 4, .inr (.inr (.inr (.inr (fun _ => none))))))]) H _ := hG
  refine gx_putF (ty := .array (.object "PaperBodies$Box")) (ws' := [(o, .inr (7, [.ref q0, .ref q1, .null, .null, .null, .null, .null, .null, .null, .null, .int 0, .long 0])), (q0, .inl (cy 3, 6, .inr (.inr (.inr (.inr (fun _ => none)))))), (q1, .inl (cy 2, 4, .inr (.inr (.inr (.inr (fun _ => none))))))]) C hinit i8_init_X8 tyX8 tyX8_ok nmX8 hG 0 rfl rfl 1 (by decide) k8_init_17 rfl rfl (by decide +kernel) rfl rfl (Nat.le_of_ble_eq_true rfl) dX8_init_18 rfl (fun H locs hG => ?_)
  refine lv_aload_n hx hb dX8_init_21 rfl (lv_at hl 0 rfl) ?_
  refine lv_iconst (v := 4) hx hb dX8_init_22 (by decide) ?_
  refine gx_newQ (C' := RX5) (N := 4) C hG k8_init_c21.1.1 hE.2.2 4 rfl (by decide) (by decide) (by decide) (Nat.le_of_ble_eq_true rfl) (Nat.le_of_ble_eq_true rfl) dX8_init_23 (fun q2 H hG => ?_)
  refine W.widen (k := 3) (n := 14) (Nat.le_of_ble_eq_true rfl) (Nat.le_of_ble_eq_true rfl) ?_
  have hG : GW D A s ([(o, .inr (7, [.ref q0, .ref q1, .null, .null, .null, .null, .null, .null, .null, .null, .int 0, .long 0])), (q0, .inl (cy 3, 6, .inr (.inr (.inr (.inr (fun _ => none)))))), (q1, .inl (cy 2, 4, .inr (.inr (.inr (.inr (fun _ => none)))))), (q2, .inl (cy 4, 4, .inr (.inr (.inr (.inr (fun _ => none))))))]) H _ := hG
  refine gx_putF (ty := .array (.object "PaperBodies$Row")) (ws' := [(o, .inr (7, [.ref q0, .ref q1, .ref q2, .null, .null, .null, .null, .null, .null, .null, .int 0, .long 0])), (q0, .inl (cy 3, 6, .inr (.inr (.inr (.inr (fun _ => none)))))), (q1, .inl (cy 2, 4, .inr (.inr (.inr (.inr (fun _ => none)))))), (q2, .inl (cy 4, 4, .inr (.inr (.inr (.inr (fun _ => none))))))]) C hinit i8_init_X8 tyX8 tyX8_ok nmX8 hG 0 rfl rfl 2 (by decide) k8_init_23 rfl rfl (by decide +kernel) rfl rfl (Nat.le_of_ble_eq_true rfl) dX8_init_26 rfl (fun H locs hG => ?_)
  refine lv_aload_n hx hb dX8_init_29 rfl (lv_at hl 0 rfl) ?_
  refine gx_new (fs := [.null, .int 0]) C hG i8_init_X5 tyX5 tyX5_ok k8_init_c21.1.1 k8_init_c21.1.2 k8_init_c21.2 (ci := 4) rfl (fun j hj => by rcases (show j = 0 ∨ j = 1 by omega) with rfl | rfl <;> rfl) (Nat.le_of_ble_eq_true rfl) (Nat.le_of_ble_eq_true rfl) dX8_init_30 (fun r_0 H hG => ?_)
  refine W.widen (k := 4) (n := 16) (Nat.le_of_ble_eq_true rfl) (Nat.le_of_ble_eq_true rfl) ?_
  refine lv_dup hx hb dX8_init_33 rfl ?_
  refine callIC (ws := [(o, .inr (7, [.ref q0, .ref q1, .ref q2, .null, .null, .null, .null, .null, .null, .null, .int 0, .long 0])), (q0, .inl (cy 3, 6, .inr (.inr (.inr (.inr (fun _ => none)))))), (q1, .inl (cy 2, 4, .inr (.inr (.inr (.inr (fun _ => none)))))), (q2, .inl (cy 4, 4, .inr (.inr (.inr (.inr (fun _ => none))))))]) (w0 := [(r_0, .inr (4, [.null, .int 0]))]) (rest := [.ref r_0, .ref o]) (host := "PaperBodies") C hG (c5_init l D cy r_0) gX8_init_X5_init_n27 rfl (by decide +kernel) k8_init_m27.1 k8_init_m27.2 rfl (by decide +kernel) ⟨⟨Nat.le_of_ble_eq_true rfl, Nat.le_of_ble_eq_true rfl⟩, rfl, rfl⟩ hl.1 rfl (Nat.le_of_ble_eq_true rfl) dX8_init_34 ⟨Nat.le_of_ble_eq_true rfl, Nat.le_of_ble_eq_true rfl⟩ (fun u H locs hq hG => ?_)
  obtain ⟨p0, S9⟩ := u
  replace hq : S9 = i5 := hq
  subst hq
  refine W.widen (k := 5) (n := 40) (Nat.le_of_ble_eq_true rfl) (Nat.le_of_ble_eq_true rfl) ?_
  have hG : GW D A s ([(o, .inr (7, [.ref q0, .ref q1, .ref q2, .null, .null, .null, .null, .null, .null, .null, .int 0, .long 0])), (q0, .inl (cy 3, 6, .inr (.inr (.inr (.inr (fun _ => none)))))), (q1, .inl (cy 2, 4, .inr (.inr (.inr (.inr (fun _ => none)))))), (q2, .inl (cy 4, 4, .inr (.inr (.inr (.inr (fun _ => none))))))] ++ w5 r_0 p0 cy i5) H locs := hG
  refine gx_putF (ty := .object "PaperBodies$Row") (ws' := [(o, .inr (7, [.ref q0, .ref q1, .ref q2, .ref r_0, .null, .null, .null, .null, .null, .null, .int 0, .long 0])), (q0, .inl (cy 3, 6, .inr (.inr (.inr (.inr (fun _ => none)))))), (q1, .inl (cy 2, 4, .inr (.inr (.inr (.inr (fun _ => none)))))), (q2, .inl (cy 4, 4, .inr (.inr (.inr (.inr (fun _ => none))))))] ++ w5 r_0 p0 cy i5) C hinit i8_init_X8 tyX8 tyX8_ok nmX8 hG 0 rfl rfl 3 (by decide) k8_init_28 rfl rfl (by decide +kernel) rfl rfl (Nat.le_of_ble_eq_true rfl) dX8_init_37 rfl (fun H locs hG => ?_)
  refine lv_aload_n hx hb dX8_init_40 rfl (lv_at hl 0 rfl) ?_
  refine gx_new (fs := [.null, .null, .int 0, .int 0, .long 0]) C hG i8_init_X6 tyX6 tyX6_ok k8_init_c32.1.1 k8_init_c32.1.2 k8_init_c32.2 (ci := 5) rfl (fun j hj => by rcases (show j = 0 ∨ j = 1 ∨ j = 2 ∨ j = 3 ∨ j = 4 by omega) with rfl | rfl | rfl | rfl | rfl <;> rfl) (Nat.le_of_ble_eq_true rfl) (Nat.le_of_ble_eq_true rfl) dX8_init_41 (fun s_1 H hG => ?_)
  refine W.widen (k := 6) (n := 45) (Nat.le_of_ble_eq_true rfl) (Nat.le_of_ble_eq_true rfl) ?_
  refine lv_dup hx hb dX8_init_44 rfl ?_
  refine callIC (ws := [(o, .inr (7, [.ref q0, .ref q1, .ref q2, .ref r_0, .null, .null, .null, .null, .null, .null, .int 0, .long 0])), (q0, .inl (cy 3, 6, .inr (.inr (.inr (.inr (fun _ => none)))))), (q1, .inl (cy 2, 4, .inr (.inr (.inr (.inr (fun _ => none)))))), (q2, .inl (cy 4, 4, .inr (.inr (.inr (.inr (fun _ => none))))))] ++ w5 r_0 p0 cy i5) (w0 := [(s_1, .inr (5, [.null, .null, .int 0, .int 0, .long 0]))]) (rest := [.ref s_1, .ref o]) (host := "PaperBodies") C hG (c6_init l D cy s_1) gX8_init_X6_init_n34 rfl (by decide +kernel) k8_init_m34.1 k8_init_m34.2 rfl (by decide +kernel) ⟨⟨Nat.le_of_ble_eq_true rfl, Nat.le_of_ble_eq_true rfl⟩, rfl, rfl⟩ hl.1 rfl (Nat.le_of_ble_eq_true rfl) dX8_init_45 ⟨Nat.le_of_ble_eq_true rfl, Nat.le_of_ble_eq_true rfl⟩ (fun u H locs hq hG => ?_)
  obtain ⟨p1, S9⟩ := u
  replace hq : S9 = i6 := hq
  subst hq
  refine W.widen (k := 8) (n := 133) (Nat.le_of_ble_eq_true rfl) (Nat.le_of_ble_eq_true rfl) ?_
  have hG : GW D A s ([(o, .inr (7, [.ref q0, .ref q1, .ref q2, .ref r_0, .null, .null, .null, .null, .null, .null, .int 0, .long 0])), (q0, .inl (cy 3, 6, .inr (.inr (.inr (.inr (fun _ => none)))))), (q1, .inl (cy 2, 4, .inr (.inr (.inr (.inr (fun _ => none)))))), (q2, .inl (cy 4, 4, .inr (.inr (.inr (.inr (fun _ => none))))))] ++ w5 r_0 p0 cy i5 ++ w6 s_1 p1 cy i6) H locs := hG
  refine gx_putF (ty := .object "PaperBodies$Sheet") (ws' := [(o, .inr (7, [.ref q0, .ref q1, .ref q2, .ref r_0, .ref s_1, .null, .null, .null, .null, .null, .int 0, .long 0])), (q0, .inl (cy 3, 6, .inr (.inr (.inr (.inr (fun _ => none)))))), (q1, .inl (cy 2, 4, .inr (.inr (.inr (.inr (fun _ => none)))))), (q2, .inl (cy 4, 4, .inr (.inr (.inr (.inr (fun _ => none))))))] ++ w5 r_0 p0 cy i5 ++ w6 s_1 p1 cy i6) C hinit i8_init_X8 tyX8 tyX8_ok nmX8 hG 0 rfl rfl 4 (by decide) k8_init_35 rfl rfl (by decide +kernel) rfl rfl (Nat.le_of_ble_eq_true rfl) dX8_init_48 rfl (fun H locs hG => ?_)
  refine lv_aload_n hx hb dX8_init_51 rfl (lv_at hl 0 rfl) ?_
  refine gx_new (fs := [.null, .null, .int 0, .int 0, .long 0]) C hG i8_init_X6 tyX6 tyX6_ok k8_init_c32.1.1 k8_init_c32.1.2 k8_init_c32.2 (ci := 5) rfl (fun j hj => by rcases (show j = 0 ∨ j = 1 ∨ j = 2 ∨ j = 3 ∨ j = 4 by omega) with rfl | rfl | rfl | rfl | rfl <;> rfl) (Nat.le_of_ble_eq_true rfl) (Nat.le_of_ble_eq_true rfl) dX8_init_52 (fun s_2 H hG => ?_)
  refine W.widen (k := 9) (n := 138) (Nat.le_of_ble_eq_true rfl) (Nat.le_of_ble_eq_true rfl) ?_
  refine lv_dup hx hb dX8_init_55 rfl ?_
  refine callIC (ws := [(o, .inr (7, [.ref q0, .ref q1, .ref q2, .ref r_0, .ref s_1, .null, .null, .null, .null, .null, .int 0, .long 0])), (q0, .inl (cy 3, 6, .inr (.inr (.inr (.inr (fun _ => none)))))), (q1, .inl (cy 2, 4, .inr (.inr (.inr (.inr (fun _ => none)))))), (q2, .inl (cy 4, 4, .inr (.inr (.inr (.inr (fun _ => none))))))] ++ w5 r_0 p0 cy i5 ++ w6 s_1 p1 cy i6) (w0 := [(s_2, .inr (5, [.null, .null, .int 0, .int 0, .long 0]))]) (rest := [.ref s_2, .ref o]) (host := "PaperBodies") C hG (c6_init l D cy s_2) gX8_init_X6_init_n34 rfl (by decide +kernel) k8_init_m34.1 k8_init_m34.2 rfl (by decide +kernel) ⟨⟨Nat.le_of_ble_eq_true rfl, Nat.le_of_ble_eq_true rfl⟩, rfl, rfl⟩ hl.1 rfl (Nat.le_of_ble_eq_true rfl) dX8_init_56 ⟨Nat.le_of_ble_eq_true rfl, Nat.le_of_ble_eq_true rfl⟩ (fun u H locs hq hG => ?_)
  obtain ⟨p2, S9⟩ := u
  replace hq : S9 = i6 := hq
  subst hq
  refine W.widen (k := 11) (n := 226) (Nat.le_of_ble_eq_true rfl) (Nat.le_of_ble_eq_true rfl) ?_
  have hG : GW D A s ([(o, .inr (7, [.ref q0, .ref q1, .ref q2, .ref r_0, .ref s_1, .null, .null, .null, .null, .null, .int 0, .long 0])), (q0, .inl (cy 3, 6, .inr (.inr (.inr (.inr (fun _ => none)))))), (q1, .inl (cy 2, 4, .inr (.inr (.inr (.inr (fun _ => none)))))), (q2, .inl (cy 4, 4, .inr (.inr (.inr (.inr (fun _ => none))))))] ++ w5 r_0 p0 cy i5 ++ w6 s_1 p1 cy i6 ++ w6 s_2 p2 cy i6) H locs := hG
  refine gx_putF (ty := .object "PaperBodies$Sheet") (ws' := [(o, .inr (7, [.ref q0, .ref q1, .ref q2, .ref r_0, .ref s_1, .ref s_2, .null, .null, .null, .null, .int 0, .long 0])), (q0, .inl (cy 3, 6, .inr (.inr (.inr (.inr (fun _ => none)))))), (q1, .inl (cy 2, 4, .inr (.inr (.inr (.inr (fun _ => none)))))), (q2, .inl (cy 4, 4, .inr (.inr (.inr (.inr (fun _ => none))))))] ++ w5 r_0 p0 cy i5 ++ w6 s_1 p1 cy i6 ++ w6 s_2 p2 cy i6) C hinit i8_init_X8 tyX8 tyX8_ok nmX8 hG 0 rfl rfl 5 (by decide) k8_init_39 rfl rfl (by decide +kernel) rfl rfl (Nat.le_of_ble_eq_true rfl) dX8_init_59 rfl (fun H locs hG => ?_)
  refine lv_aload_n hx hb dX8_init_62 rfl (lv_at hl 0 rfl) ?_
  refine gx_new (fs := [.null]) C hG i8_init_X7 tyX7 tyX7_ok k8_init_c42.1.1 k8_init_c42.1.2 k8_init_c42.2 (ci := 6) rfl (fun j hj => by rcases (show j = 0 by omega) with rfl <;> rfl) (Nat.le_of_ble_eq_true rfl) (Nat.le_of_ble_eq_true rfl) dX8_init_63 (fun u_3 H hG => ?_)
  refine W.widen (k := 12) (n := 227) (Nat.le_of_ble_eq_true rfl) (Nat.le_of_ble_eq_true rfl) ?_
  refine lv_dup hx hb dX8_init_66 rfl ?_
  refine callIC (ws := [(o, .inr (7, [.ref q0, .ref q1, .ref q2, .ref r_0, .ref s_1, .ref s_2, .null, .null, .null, .null, .int 0, .long 0])), (q0, .inl (cy 3, 6, .inr (.inr (.inr (.inr (fun _ => none)))))), (q1, .inl (cy 2, 4, .inr (.inr (.inr (.inr (fun _ => none)))))), (q2, .inl (cy 4, 4, .inr (.inr (.inr (.inr (fun _ => none))))))] ++ w5 r_0 p0 cy i5 ++ w6 s_1 p1 cy i6 ++ w6 s_2 p2 cy i6) (w0 := [(u_3, .inr (6, [.null]))]) (rest := [.ref u_3, .ref o]) (host := "PaperBodies") C hG (c7_init l D cy u_3) gX8_init_X7_init_n44 rfl (by decide +kernel) k8_init_m44.1 k8_init_m44.2 rfl (by decide +kernel) ⟨⟨Nat.le_of_ble_eq_true rfl, Nat.le_of_ble_eq_true rfl⟩, rfl, rfl⟩ hl.1 rfl (Nat.le_of_ble_eq_true rfl) dX8_init_67 ⟨Nat.le_of_ble_eq_true rfl, Nat.le_of_ble_eq_true rfl⟩ (fun u H locs hq hG => ?_)
  obtain ⟨p3, S9⟩ := u
  replace hq : S9 = i7 := hq
  subst hq
  refine W.widen (k := 13) (n := 245) (Nat.le_of_ble_eq_true rfl) (Nat.le_of_ble_eq_true rfl) ?_
  have hG : GW D A s ([(o, .inr (7, [.ref q0, .ref q1, .ref q2, .ref r_0, .ref s_1, .ref s_2, .null, .null, .null, .null, .int 0, .long 0])), (q0, .inl (cy 3, 6, .inr (.inr (.inr (.inr (fun _ => none)))))), (q1, .inl (cy 2, 4, .inr (.inr (.inr (.inr (fun _ => none)))))), (q2, .inl (cy 4, 4, .inr (.inr (.inr (.inr (fun _ => none))))))] ++ w5 r_0 p0 cy i5 ++ w6 s_1 p1 cy i6 ++ w6 s_2 p2 cy i6 ++ w7 u_3 p3 cy i7) H locs := hG
  refine gx_putF (ty := .object "PaperBodies$Unfolding") (ws' := [(o, .inr (7, [.ref q0, .ref q1, .ref q2, .ref r_0, .ref s_1, .ref s_2, .ref u_3, .null, .null, .null, .int 0, .long 0])), (q0, .inl (cy 3, 6, .inr (.inr (.inr (.inr (fun _ => none)))))), (q1, .inl (cy 2, 4, .inr (.inr (.inr (.inr (fun _ => none)))))), (q2, .inl (cy 4, 4, .inr (.inr (.inr (.inr (fun _ => none))))))] ++ w5 r_0 p0 cy i5 ++ w6 s_1 p1 cy i6 ++ w6 s_2 p2 cy i6 ++ w7 u_3 p3 cy i7) C hinit i8_init_X8 tyX8 tyX8_ok nmX8 hG 0 rfl rfl 6 (by decide) k8_init_45 rfl rfl (by decide +kernel) rfl rfl (Nat.le_of_ble_eq_true rfl) dX8_init_70 rfl (fun H locs hG => ?_)
  refine lv_aload_n hx hb dX8_init_73 rfl (lv_at hl 0 rfl) ?_
  refine gx_new (fs := [.null, .null, .null, .int 0]) C hG i8_init_X4 tyX4 tyX4_ok k8_init_c49.1.1 k8_init_c49.1.2 k8_init_c49.2 (ci := 3) rfl (fun j hj => by rcases (show j = 0 ∨ j = 1 ∨ j = 2 ∨ j = 3 by omega) with rfl | rfl | rfl | rfl <;> rfl) (Nat.le_of_ble_eq_true rfl) (Nat.le_of_ble_eq_true rfl) dX8_init_74 (fun m_4 H hG => ?_)
  refine W.widen (k := 14) (n := 249) (Nat.le_of_ble_eq_true rfl) (Nat.le_of_ble_eq_true rfl) ?_
  refine lv_dup hx hb dX8_init_77 rfl ?_
  refine callIC (ws := [(o, .inr (7, [.ref q0, .ref q1, .ref q2, .ref r_0, .ref s_1, .ref s_2, .ref u_3, .null, .null, .null, .int 0, .long 0])), (q0, .inl (cy 3, 6, .inr (.inr (.inr (.inr (fun _ => none)))))), (q1, .inl (cy 2, 4, .inr (.inr (.inr (.inr (fun _ => none)))))), (q2, .inl (cy 4, 4, .inr (.inr (.inr (.inr (fun _ => none))))))] ++ w5 r_0 p0 cy i5 ++ w6 s_1 p1 cy i6 ++ w6 s_2 p2 cy i6 ++ w7 u_3 p3 cy i7) (w0 := [(m_4, .inr (3, [.null, .null, .null, .int 0]))]) (rest := [.ref m_4, .ref o]) (host := "PaperBodies") C hG (c4_init l D cy m_4) gX8_init_X4_init_n51 rfl (by decide +kernel) k8_init_m51.1 k8_init_m51.2 rfl (by decide +kernel) ⟨⟨Nat.le_of_ble_eq_true rfl, Nat.le_of_ble_eq_true rfl⟩, rfl, rfl⟩ hl.1 rfl (Nat.le_of_ble_eq_true rfl) dX8_init_78 ⟨Nat.le_of_ble_eq_true rfl, Nat.le_of_ble_eq_true rfl⟩ (fun u H locs hq hG => ?_)
  obtain ⟨p4, S9⟩ := u
  replace hq : S9 = i4 := hq
  subst hq
  refine W.widen (k := 17) (n := 399) (Nat.le_of_ble_eq_true rfl) (Nat.le_of_ble_eq_true rfl) ?_
  have hG : GW D A s ([(o, .inr (7, [.ref q0, .ref q1, .ref q2, .ref r_0, .ref s_1, .ref s_2, .ref u_3, .null, .null, .null, .int 0, .long 0])), (q0, .inl (cy 3, 6, .inr (.inr (.inr (.inr (fun _ => none)))))), (q1, .inl (cy 2, 4, .inr (.inr (.inr (.inr (fun _ => none)))))), (q2, .inl (cy 4, 4, .inr (.inr (.inr (.inr (fun _ => none))))))] ++ w5 r_0 p0 cy i5 ++ w6 s_1 p1 cy i6 ++ w6 s_2 p2 cy i6 ++ w7 u_3 p3 cy i7 ++ w4 m_4 p4 cy i4) H locs := hG
  refine gx_putF (ty := .object "PaperBodies$Rim") (ws' := [(o, .inr (7, [.ref q0, .ref q1, .ref q2, .ref r_0, .ref s_1, .ref s_2, .ref u_3, .ref m_4, .null, .null, .int 0, .long 0])), (q0, .inl (cy 3, 6, .inr (.inr (.inr (.inr (fun _ => none)))))), (q1, .inl (cy 2, 4, .inr (.inr (.inr (.inr (fun _ => none)))))), (q2, .inl (cy 4, 4, .inr (.inr (.inr (.inr (fun _ => none))))))] ++ w5 r_0 p0 cy i5 ++ w6 s_1 p1 cy i6 ++ w6 s_2 p2 cy i6 ++ w7 u_3 p3 cy i7 ++ w4 m_4 p4 cy i4) C hinit i8_init_X8 tyX8 tyX8_ok nmX8 hG 0 rfl rfl 7 (by decide) k8_init_52 rfl rfl (by decide +kernel) rfl rfl (Nat.le_of_ble_eq_true rfl) dX8_init_81 rfl (fun H locs hG => ?_)
  refine lv_aload_n hx hb dX8_init_84 rfl (lv_at hl 0 rfl) ?_
  refine gx_new (fs := [.null, .null, .null, .null, .null, .null, .null, .int 0, .int 0, .int 0, .int 0, .int 0, .int 0]) C hG i8_init_X3 tyX3 tyX3_ok k8_init_c56.1.1 k8_init_c56.1.2 k8_init_c56.2 (ci := 2) rfl (fun j hj => by rcases (show j = 0 ∨ j = 1 ∨ j = 2 ∨ j = 3 ∨ j = 4 ∨ j = 5 ∨ j = 6 ∨ j = 7 ∨ j = 8 ∨ j = 9 ∨ j = 10 ∨ j = 11 ∨ j = 12 by omega) with rfl | rfl | rfl | rfl | rfl | rfl | rfl | rfl | rfl | rfl | rfl | rfl | rfl <;> rfl) (Nat.le_of_ble_eq_true rfl) (Nat.le_of_ble_eq_true rfl) dX8_init_85 (fun g_5 H hG => ?_)
  refine W.widen (k := 18) (n := 412) (Nat.le_of_ble_eq_true rfl) (Nat.le_of_ble_eq_true rfl) ?_
  refine lv_dup hx hb dX8_init_88 rfl ?_
  refine callIC (ws := [(o, .inr (7, [.ref q0, .ref q1, .ref q2, .ref r_0, .ref s_1, .ref s_2, .ref u_3, .ref m_4, .null, .null, .int 0, .long 0])), (q0, .inl (cy 3, 6, .inr (.inr (.inr (.inr (fun _ => none)))))), (q1, .inl (cy 2, 4, .inr (.inr (.inr (.inr (fun _ => none)))))), (q2, .inl (cy 4, 4, .inr (.inr (.inr (.inr (fun _ => none))))))] ++ w5 r_0 p0 cy i5 ++ w6 s_1 p1 cy i6 ++ w6 s_2 p2 cy i6 ++ w7 u_3 p3 cy i7 ++ w4 m_4 p4 cy i4) (w0 := [(g_5, .inr (2, [.null, .null, .null, .null, .null, .null, .null, .int 0, .int 0, .int 0, .int 0, .int 0, .int 0]))]) (rest := [.ref g_5, .ref o]) (host := "PaperBodies") C hG (c3_init l D cy g_5) gX8_init_X3_init_n58 rfl (by decide +kernel) k8_init_m58.1 k8_init_m58.2 rfl (by decide +kernel) ⟨⟨Nat.le_of_ble_eq_true rfl, Nat.le_of_ble_eq_true rfl⟩, rfl, rfl⟩ hl.1 rfl (Nat.le_of_ble_eq_true rfl) dX8_init_89 ⟨Nat.le_of_ble_eq_true rfl, Nat.le_of_ble_eq_true rfl⟩ (fun u H locs hq hG => ?_)
  obtain ⟨p5, S9⟩ := u
  replace hq : S9 = i3 := hq
  subst hq
  refine W.widen (k := 25) (n := 672) (Nat.le_of_ble_eq_true rfl) (Nat.le_of_ble_eq_true rfl) ?_
  have hG : GW D A s ([(o, .inr (7, [.ref q0, .ref q1, .ref q2, .ref r_0, .ref s_1, .ref s_2, .ref u_3, .ref m_4, .null, .null, .int 0, .long 0])), (q0, .inl (cy 3, 6, .inr (.inr (.inr (.inr (fun _ => none)))))), (q1, .inl (cy 2, 4, .inr (.inr (.inr (.inr (fun _ => none)))))), (q2, .inl (cy 4, 4, .inr (.inr (.inr (.inr (fun _ => none))))))] ++ w5 r_0 p0 cy i5 ++ w6 s_1 p1 cy i6 ++ w6 s_2 p2 cy i6 ++ w7 u_3 p3 cy i7 ++ w4 m_4 p4 cy i4 ++ w3 g_5 p5 cy i3) H locs := hG
  refine gx_putF (ty := .object "PaperBodies$Gluer") (ws' := [(o, .inr (7, [.ref q0, .ref q1, .ref q2, .ref r_0, .ref s_1, .ref s_2, .ref u_3, .ref m_4, .ref g_5, .null, .int 0, .long 0])), (q0, .inl (cy 3, 6, .inr (.inr (.inr (.inr (fun _ => none)))))), (q1, .inl (cy 2, 4, .inr (.inr (.inr (.inr (fun _ => none)))))), (q2, .inl (cy 4, 4, .inr (.inr (.inr (.inr (fun _ => none))))))] ++ w5 r_0 p0 cy i5 ++ w6 s_1 p1 cy i6 ++ w6 s_2 p2 cy i6 ++ w7 u_3 p3 cy i7 ++ w4 m_4 p4 cy i4 ++ w3 g_5 p5 cy i3) C hinit i8_init_X8 tyX8 tyX8_ok nmX8 hG 0 rfl rfl 8 (by decide) k8_init_59 rfl rfl (by decide +kernel) rfl rfl (Nat.le_of_ble_eq_true rfl) dX8_init_92 rfl (fun H locs hG => ?_)
  refine lv_aload_n hx hb dX8_init_95 rfl (lv_at hl 0 rfl) ?_
  refine lv_bipush (v := 6) hx hb dX8_init_96 (by decide) ?_
  refine gx_newI (N := 6) C hG k8_init_a0 (by decide) (by decide) (by decide) (Nat.le_of_ble_eq_true rfl) (Nat.le_of_ble_eq_true rfl) dX8_init_98 (fun q9 H hG => ?_)
  refine W.widen (k := 26) (n := 678) (Nat.le_of_ble_eq_true rfl) (Nat.le_of_ble_eq_true rfl) ?_
  have hG : GW D A s ([(o, .inr (7, [.ref q0, .ref q1, .ref q2, .ref r_0, .ref s_1, .ref s_2, .ref u_3, .ref m_4, .ref g_5, .null, .int 0, .long 0])), (q0, .inl (cy 3, 6, .inr (.inr (.inr (.inr (fun _ => none)))))), (q1, .inl (cy 2, 4, .inr (.inr (.inr (.inr (fun _ => none)))))), (q2, .inl (cy 4, 4, .inr (.inr (.inr (.inr (fun _ => none))))))] ++ w5 r_0 p0 cy i5 ++ w6 s_1 p1 cy i6 ++ w6 s_2 p2 cy i6 ++ w7 u_3 p3 cy i7 ++ w4 m_4 p4 cy i4 ++ w3 g_5 p5 cy i3 ++ [(q9, .inl (cy 0, 6, .inl (fun _ => 0)))]) H _ := hG
  refine gx_putF (ty := .array .int) (ws' := [(o, .inr (7, [.ref q0, .ref q1, .ref q2, .ref r_0, .ref s_1, .ref s_2, .ref u_3, .ref m_4, .ref g_5, .ref q9, .int 0, .long 0])), (q0, .inl (cy 3, 6, .inr (.inr (.inr (.inr (fun _ => none)))))), (q1, .inl (cy 2, 4, .inr (.inr (.inr (.inr (fun _ => none)))))), (q2, .inl (cy 4, 4, .inr (.inr (.inr (.inr (fun _ => none))))))] ++ w5 r_0 p0 cy i5 ++ w6 s_1 p1 cy i6 ++ w6 s_2 p2 cy i6 ++ w7 u_3 p3 cy i7 ++ w4 m_4 p4 cy i4 ++ w3 g_5 p5 cy i3 ++ [(q9, .inl (cy 0, 6, .inl (fun _ => 0)))]) C hinit i8_init_X8 tyX8 tyX8_ok nmX8 hG 0 rfl rfl 9 (by decide) k8_init_63 rfl rfl (by decide +kernel) rfl rfl (Nat.le_of_ble_eq_true rfl) dX8_init_100 rfl (fun H locs hG => ?_)
  simp only [List.append_assoc] at hG
  obtain ⟨Y0, eY0⟩ : ∃ Y : va_W, Y = w5 r_0 p0 cy i5 ++ (w6 s_1 p1 cy i6 ++ (w6 s_2 p2 cy i6 ++ (w7 u_3 p3 cy i7 ++ (w4 m_4 p4 cy i4 ++ (w3 g_5 p5 cy i3 ++ ([(q9, .inl (cy 0, 6, .inl (fun _ => 0)))])))))) := ⟨_, rfl⟩
  rw [← eY0] at hG
  refine lv_iconst (v := 0) hx hb dX8_init_103 (by decide) ?_
  refine lv_istore_n (lv' := [(1, .int 0), (0, .ref o)]) hx hb dX8_init_104 rfl hl (by decide) rfl (fun ls hl => ?_)
  refine lv_iload_n hx hb dX8_init_105 rfl (lv_at hl 0 rfl) ?_
  refine lv_bipush (v := 6) hx hb dX8_init_106 (by decide) ?_
  refine lv_icmp_ge (tgt := 130) hx hb dX8_init_108 (by decide) (fun c => absurd c (by decide)) (fun _ => ?_)
  refine lv_aload_n hx hb dX8_init_111 rfl (lv_at hl 1 rfl) ?_
  refine gx_get C i8_init_X8 hG 0 rfl rfl 0 (by decide) k8_init_11 rfl dX8_init_112 ?_
  refine lv_iload_n hx hb dX8_init_115 rfl (lv_at hl 0 rfl) ?_
  refine gx_new (fs := [.int 0, .long 0, .int 0, .int 0]) C hG i8_init_X2 tyX2 tyX2_ok k8_init_c9.1.1 k8_init_c9.1.2 k8_init_c9.2 (ci := 1) rfl (fun j hj => by rcases (show j = 0 ∨ j = 1 ∨ j = 2 ∨ j = 3 by omega) with rfl | rfl | rfl | rfl <;> rfl) (Nat.le_of_ble_eq_true rfl) (Nat.le_of_ble_eq_true rfl) dX8_init_116 (fun f_6 H hG => ?_)
  refine W.widen (k := 27) (n := 682) (Nat.le_of_ble_eq_true rfl) (Nat.le_of_ble_eq_true rfl) ?_
  refine lv_dup hx hb dX8_init_119 rfl ?_
  refine callIC (ws := [(o, .inr (7, [.ref q0, .ref q1, .ref q2, .ref r_0, .ref s_1, .ref s_2, .ref u_3, .ref m_4, .ref g_5, .ref q9, .int 0, .long 0])), (q0, .inl (cy 3, 6, .inr (.inr (.inr (.inr (fun _ => none)))))), (q1, .inl (cy 2, 4, .inr (.inr (.inr (.inr (fun _ => none)))))), (q2, .inl (cy 4, 4, .inr (.inr (.inr (.inr (fun _ => none))))))] ++ Y0) (w0 := [(f_6, .inr (1, [.int 0, .long 0, .int 0, .int 0]))]) (rest := [.ref f_6, .int 0, .ref q0]) (host := "PaperBodies") C hG (c2_init l D cy f_6) gX8_init_X2_init_n67 rfl (by decide +kernel) k8_init_m67.1 k8_init_m67.2 rfl (by decide +kernel) ⟨⟨Nat.le_of_ble_eq_true rfl, Nat.le_of_ble_eq_true rfl⟩, rfl, rfl⟩ hl.1 rfl (Nat.le_of_ble_eq_true rfl) dX8_init_120 ⟨Nat.le_of_ble_eq_true rfl, Nat.le_of_ble_eq_true rfl⟩ (fun u H locs hq hG => ?_)
  obtain ⟨p6, S9⟩ := u
  replace hq : S9 = i2 := hq
  subst hq
  refine W.widen (k := 27) (n := 682) (Nat.le_of_ble_eq_true rfl) (Nat.le_of_ble_eq_true rfl) ?_
  rw [List.append_assoc] at hG
  obtain ⟨Y1, eY1⟩ : ∃ Y : va_W, Y = Y0 ++ w2 f_6 p6 cy i2 := ⟨_, rfl⟩
  replace hG : GW D A s ([(o, .inr (7, [.ref q0, .ref q1, .ref q2, .ref r_0, .ref s_1, .ref s_2, .ref u_3, .ref m_4, .ref g_5, .ref q9, .int 0, .long 0])), (q0, .inl (cy 3, 6, .inr (.inr (.inr (.inr (fun _ => none)))))), (q1, .inl (cy 2, 4, .inr (.inr (.inr (.inr (fun _ => none)))))), (q2, .inl (cy 4, 4, .inr (.inr (.inr (.inr (fun _ => none))))))] ++ Y1) H locs := by rw [eY1]; exact hG
  obtain ⟨qk, hqk⟩ : ∃ k : Nat, ([(o, .inr (7, [.ref q0, .ref q1, .ref q2, .ref r_0, .ref s_1, .ref s_2, .ref u_3, .ref m_4, .ref g_5, .ref q9, .int 0, .long 0])), (q0, .inl (cy 3, 6, .inr (.inr (.inr (.inr (fun _ => none)))))), (q1, .inl (cy 2, 4, .inr (.inr (.inr (.inr (fun _ => none)))))), (q2, .inl (cy 4, 4, .inr (.inr (.inr (.inr (fun _ => none))))))] ++ Y1)[k]? = some (f_6, .inr (1, [.int (fI i2 0), .long (fJ i2 1), .int (fI i2 2), .int (fI i2 3)])) := List.mem_iff_getElem?.mp (List.mem_append_right _ (by rw [eY1]; exact List.mem_append_right _ List.mem_cons_self))
  refine gx_aast (ws' := [(o, .inr (7, [.ref q0, .ref q1, .ref q2, .ref r_0, .ref s_1, .ref s_2, .ref u_3, .ref m_4, .ref g_5, .ref q9, .int 0, .long 0])), (q0, .inl (cy 3, 6, .inr (.inr (.inr (.inr (va_up (fun _ => none) 0 (some f_6))))))), (q1, .inl (cy 2, 4, .inr (.inr (.inr (.inr (fun _ => none)))))), (q2, .inl (cy 4, 4, .inr (.inr (.inr (.inr (fun _ => none))))))] ++ Y1) C hG 1 3 qk 1 rfl rfl hqk rfl (by unfold vp_in; decide) dX8_init_123 rfl (fun H locs hG => ?_)
  refine lv_iinc (v := 1) (lv' := [(1, .int 1), (0, .ref o)]) hx hb dX8_init_124 hl (k := 0) rfl (by decide) (by decide) rfl (fun ls hl => ?_)
  refine lv_goto (tgt := 105) hx hb dX8_init_127 (by decide) ?_
  refine lv_iload_n hx hb dX8_init_105 rfl (lv_at hl 0 rfl) ?_
  refine lv_bipush (v := 6) hx hb dX8_init_106 (by decide) ?_
  refine lv_icmp_ge (tgt := 130) hx hb dX8_init_108 (by decide) (fun c => absurd c (by decide)) (fun _ => ?_)
  refine lv_aload_n hx hb dX8_init_111 rfl (lv_at hl 1 rfl) ?_
  refine gx_get C i8_init_X8 hG 0 rfl rfl 0 (by decide) k8_init_11 rfl dX8_init_112 ?_
  refine lv_iload_n hx hb dX8_init_115 rfl (lv_at hl 0 rfl) ?_
  refine gx_new (fs := [.int 0, .long 0, .int 0, .int 0]) C hG i8_init_X2 tyX2 tyX2_ok k8_init_c9.1.1 k8_init_c9.1.2 k8_init_c9.2 (ci := 1) rfl (fun j hj => by rcases (show j = 0 ∨ j = 1 ∨ j = 2 ∨ j = 3 by omega) with rfl | rfl | rfl | rfl <;> rfl) (Nat.le_of_ble_eq_true rfl) (Nat.le_of_ble_eq_true rfl) dX8_init_116 (fun f_7 H hG => ?_)
  refine W.widen (k := 28) (n := 686) (Nat.le_of_ble_eq_true rfl) (Nat.le_of_ble_eq_true rfl) ?_
  refine lv_dup hx hb dX8_init_119 rfl ?_
  refine callIC (ws := [(o, .inr (7, [.ref q0, .ref q1, .ref q2, .ref r_0, .ref s_1, .ref s_2, .ref u_3, .ref m_4, .ref g_5, .ref q9, .int 0, .long 0])), (q0, .inl (cy 3, 6, .inr (.inr (.inr (.inr (va_up (fun _ => none) 0 (some f_6))))))), (q1, .inl (cy 2, 4, .inr (.inr (.inr (.inr (fun _ => none)))))), (q2, .inl (cy 4, 4, .inr (.inr (.inr (.inr (fun _ => none))))))] ++ Y1) (w0 := [(f_7, .inr (1, [.int 0, .long 0, .int 0, .int 0]))]) (rest := [.ref f_7, .int 1, .ref q0]) (host := "PaperBodies") C hG (c2_init l D cy f_7) gX8_init_X2_init_n67 rfl (by decide +kernel) k8_init_m67.1 k8_init_m67.2 rfl (by decide +kernel) ⟨⟨Nat.le_of_ble_eq_true rfl, Nat.le_of_ble_eq_true rfl⟩, rfl, rfl⟩ hl.1 rfl (Nat.le_of_ble_eq_true rfl) dX8_init_120 ⟨Nat.le_of_ble_eq_true rfl, Nat.le_of_ble_eq_true rfl⟩ (fun u H locs hq hG => ?_)
  obtain ⟨p7, S9⟩ := u
  replace hq : S9 = i2 := hq
  subst hq
  refine W.widen (k := 28) (n := 686) (Nat.le_of_ble_eq_true rfl) (Nat.le_of_ble_eq_true rfl) ?_
  rw [List.append_assoc] at hG
  obtain ⟨Y2, eY2⟩ : ∃ Y : va_W, Y = Y1 ++ w2 f_7 p7 cy i2 := ⟨_, rfl⟩
  replace hG : GW D A s ([(o, .inr (7, [.ref q0, .ref q1, .ref q2, .ref r_0, .ref s_1, .ref s_2, .ref u_3, .ref m_4, .ref g_5, .ref q9, .int 0, .long 0])), (q0, .inl (cy 3, 6, .inr (.inr (.inr (.inr (va_up (fun _ => none) 0 (some f_6))))))), (q1, .inl (cy 2, 4, .inr (.inr (.inr (.inr (fun _ => none)))))), (q2, .inl (cy 4, 4, .inr (.inr (.inr (.inr (fun _ => none))))))] ++ Y2) H locs := by rw [eY2]; exact hG
  obtain ⟨qk, hqk⟩ : ∃ k : Nat, ([(o, .inr (7, [.ref q0, .ref q1, .ref q2, .ref r_0, .ref s_1, .ref s_2, .ref u_3, .ref m_4, .ref g_5, .ref q9, .int 0, .long 0])), (q0, .inl (cy 3, 6, .inr (.inr (.inr (.inr (va_up (fun _ => none) 0 (some f_6))))))), (q1, .inl (cy 2, 4, .inr (.inr (.inr (.inr (fun _ => none)))))), (q2, .inl (cy 4, 4, .inr (.inr (.inr (.inr (fun _ => none))))))] ++ Y2)[k]? = some (f_7, .inr (1, [.int (fI i2 0), .long (fJ i2 1), .int (fI i2 2), .int (fI i2 3)])) := List.mem_iff_getElem?.mp (List.mem_append_right _ (by rw [eY2]; exact List.mem_append_right _ List.mem_cons_self))
  refine gx_aast (ws' := [(o, .inr (7, [.ref q0, .ref q1, .ref q2, .ref r_0, .ref s_1, .ref s_2, .ref u_3, .ref m_4, .ref g_5, .ref q9, .int 0, .long 0])), (q0, .inl (cy 3, 6, .inr (.inr (.inr (.inr (va_up (va_up (fun _ => none) 0 (some f_6)) 1 (some f_7))))))), (q1, .inl (cy 2, 4, .inr (.inr (.inr (.inr (fun _ => none)))))), (q2, .inl (cy 4, 4, .inr (.inr (.inr (.inr (fun _ => none))))))] ++ Y2) C hG 1 3 qk 1 rfl rfl hqk rfl (by unfold vp_in; decide) dX8_init_123 rfl (fun H locs hG => ?_)
  refine lv_iinc (v := 2) (lv' := [(1, .int 2), (0, .ref o)]) hx hb dX8_init_124 hl (k := 0) rfl (by decide) (by decide) rfl (fun ls hl => ?_)
  refine lv_goto (tgt := 105) hx hb dX8_init_127 (by decide) ?_
  refine lv_iload_n hx hb dX8_init_105 rfl (lv_at hl 0 rfl) ?_
  refine lv_bipush (v := 6) hx hb dX8_init_106 (by decide) ?_
  refine lv_icmp_ge (tgt := 130) hx hb dX8_init_108 (by decide) (fun c => absurd c (by decide)) (fun _ => ?_)
  refine lv_aload_n hx hb dX8_init_111 rfl (lv_at hl 1 rfl) ?_
  refine gx_get C i8_init_X8 hG 0 rfl rfl 0 (by decide) k8_init_11 rfl dX8_init_112 ?_
  refine lv_iload_n hx hb dX8_init_115 rfl (lv_at hl 0 rfl) ?_
  refine gx_new (fs := [.int 0, .long 0, .int 0, .int 0]) C hG i8_init_X2 tyX2 tyX2_ok k8_init_c9.1.1 k8_init_c9.1.2 k8_init_c9.2 (ci := 1) rfl (fun j hj => by rcases (show j = 0 ∨ j = 1 ∨ j = 2 ∨ j = 3 by omega) with rfl | rfl | rfl | rfl <;> rfl) (Nat.le_of_ble_eq_true rfl) (Nat.le_of_ble_eq_true rfl) dX8_init_116 (fun f_8 H hG => ?_)
  refine W.widen (k := 29) (n := 690) (Nat.le_of_ble_eq_true rfl) (Nat.le_of_ble_eq_true rfl) ?_
  refine lv_dup hx hb dX8_init_119 rfl ?_
  refine callIC (ws := [(o, .inr (7, [.ref q0, .ref q1, .ref q2, .ref r_0, .ref s_1, .ref s_2, .ref u_3, .ref m_4, .ref g_5, .ref q9, .int 0, .long 0])), (q0, .inl (cy 3, 6, .inr (.inr (.inr (.inr (va_up (va_up (fun _ => none) 0 (some f_6)) 1 (some f_7))))))), (q1, .inl (cy 2, 4, .inr (.inr (.inr (.inr (fun _ => none)))))), (q2, .inl (cy 4, 4, .inr (.inr (.inr (.inr (fun _ => none))))))] ++ Y2) (w0 := [(f_8, .inr (1, [.int 0, .long 0, .int 0, .int 0]))]) (rest := [.ref f_8, .int 2, .ref q0]) (host := "PaperBodies") C hG (c2_init l D cy f_8) gX8_init_X2_init_n67 rfl (by decide +kernel) k8_init_m67.1 k8_init_m67.2 rfl (by decide +kernel) ⟨⟨Nat.le_of_ble_eq_true rfl, Nat.le_of_ble_eq_true rfl⟩, rfl, rfl⟩ hl.1 rfl (Nat.le_of_ble_eq_true rfl) dX8_init_120 ⟨Nat.le_of_ble_eq_true rfl, Nat.le_of_ble_eq_true rfl⟩ (fun u H locs hq hG => ?_)
  obtain ⟨p8, S9⟩ := u
  replace hq : S9 = i2 := hq
  subst hq
  refine W.widen (k := 29) (n := 690) (Nat.le_of_ble_eq_true rfl) (Nat.le_of_ble_eq_true rfl) ?_
  rw [List.append_assoc] at hG
  obtain ⟨Y3, eY3⟩ : ∃ Y : va_W, Y = Y2 ++ w2 f_8 p8 cy i2 := ⟨_, rfl⟩
  replace hG : GW D A s ([(o, .inr (7, [.ref q0, .ref q1, .ref q2, .ref r_0, .ref s_1, .ref s_2, .ref u_3, .ref m_4, .ref g_5, .ref q9, .int 0, .long 0])), (q0, .inl (cy 3, 6, .inr (.inr (.inr (.inr (va_up (va_up (fun _ => none) 0 (some f_6)) 1 (some f_7))))))), (q1, .inl (cy 2, 4, .inr (.inr (.inr (.inr (fun _ => none)))))), (q2, .inl (cy 4, 4, .inr (.inr (.inr (.inr (fun _ => none))))))] ++ Y3) H locs := by rw [eY3]; exact hG
  obtain ⟨qk, hqk⟩ : ∃ k : Nat, ([(o, .inr (7, [.ref q0, .ref q1, .ref q2, .ref r_0, .ref s_1, .ref s_2, .ref u_3, .ref m_4, .ref g_5, .ref q9, .int 0, .long 0])), (q0, .inl (cy 3, 6, .inr (.inr (.inr (.inr (va_up (va_up (fun _ => none) 0 (some f_6)) 1 (some f_7))))))), (q1, .inl (cy 2, 4, .inr (.inr (.inr (.inr (fun _ => none)))))), (q2, .inl (cy 4, 4, .inr (.inr (.inr (.inr (fun _ => none))))))] ++ Y3)[k]? = some (f_8, .inr (1, [.int (fI i2 0), .long (fJ i2 1), .int (fI i2 2), .int (fI i2 3)])) := List.mem_iff_getElem?.mp (List.mem_append_right _ (by rw [eY3]; exact List.mem_append_right _ List.mem_cons_self))
  refine gx_aast (ws' := [(o, .inr (7, [.ref q0, .ref q1, .ref q2, .ref r_0, .ref s_1, .ref s_2, .ref u_3, .ref m_4, .ref g_5, .ref q9, .int 0, .long 0])), (q0, .inl (cy 3, 6, .inr (.inr (.inr (.inr (va_up (va_up (va_up (fun _ => none) 0 (some f_6)) 1 (some f_7)) 2 (some f_8))))))), (q1, .inl (cy 2, 4, .inr (.inr (.inr (.inr (fun _ => none)))))), (q2, .inl (cy 4, 4, .inr (.inr (.inr (.inr (fun _ => none))))))] ++ Y3) C hG 1 3 qk 1 rfl rfl hqk rfl (by unfold vp_in; decide) dX8_init_123 rfl (fun H locs hG => ?_)
  refine lv_iinc (v := 3) (lv' := [(1, .int 3), (0, .ref o)]) hx hb dX8_init_124 hl (k := 0) rfl (by decide) (by decide) rfl (fun ls hl => ?_)
  refine lv_goto (tgt := 105) hx hb dX8_init_127 (by decide) ?_
  refine lv_iload_n hx hb dX8_init_105 rfl (lv_at hl 0 rfl) ?_
  refine lv_bipush (v := 6) hx hb dX8_init_106 (by decide) ?_
  refine lv_icmp_ge (tgt := 130) hx hb dX8_init_108 (by decide) (fun c => absurd c (by decide)) (fun _ => ?_)
  refine lv_aload_n hx hb dX8_init_111 rfl (lv_at hl 1 rfl) ?_
  refine gx_get C i8_init_X8 hG 0 rfl rfl 0 (by decide) k8_init_11 rfl dX8_init_112 ?_
  refine lv_iload_n hx hb dX8_init_115 rfl (lv_at hl 0 rfl) ?_
  refine gx_new (fs := [.int 0, .long 0, .int 0, .int 0]) C hG i8_init_X2 tyX2 tyX2_ok k8_init_c9.1.1 k8_init_c9.1.2 k8_init_c9.2 (ci := 1) rfl (fun j hj => by rcases (show j = 0 ∨ j = 1 ∨ j = 2 ∨ j = 3 by omega) with rfl | rfl | rfl | rfl <;> rfl) (Nat.le_of_ble_eq_true rfl) (Nat.le_of_ble_eq_true rfl) dX8_init_116 (fun f_9 H hG => ?_)
  refine W.widen (k := 30) (n := 694) (Nat.le_of_ble_eq_true rfl) (Nat.le_of_ble_eq_true rfl) ?_
  refine lv_dup hx hb dX8_init_119 rfl ?_
  refine callIC (ws := [(o, .inr (7, [.ref q0, .ref q1, .ref q2, .ref r_0, .ref s_1, .ref s_2, .ref u_3, .ref m_4, .ref g_5, .ref q9, .int 0, .long 0])), (q0, .inl (cy 3, 6, .inr (.inr (.inr (.inr (va_up (va_up (va_up (fun _ => none) 0 (some f_6)) 1 (some f_7)) 2 (some f_8))))))), (q1, .inl (cy 2, 4, .inr (.inr (.inr (.inr (fun _ => none)))))), (q2, .inl (cy 4, 4, .inr (.inr (.inr (.inr (fun _ => none))))))] ++ Y3) (w0 := [(f_9, .inr (1, [.int 0, .long 0, .int 0, .int 0]))]) (rest := [.ref f_9, .int 3, .ref q0]) (host := "PaperBodies") C hG (c2_init l D cy f_9) gX8_init_X2_init_n67 rfl (by decide +kernel) k8_init_m67.1 k8_init_m67.2 rfl (by decide +kernel) ⟨⟨Nat.le_of_ble_eq_true rfl, Nat.le_of_ble_eq_true rfl⟩, rfl, rfl⟩ hl.1 rfl (Nat.le_of_ble_eq_true rfl) dX8_init_120 ⟨Nat.le_of_ble_eq_true rfl, Nat.le_of_ble_eq_true rfl⟩ (fun u H locs hq hG => ?_)
  obtain ⟨p9, S9⟩ := u
  replace hq : S9 = i2 := hq
  subst hq
  refine W.widen (k := 30) (n := 694) (Nat.le_of_ble_eq_true rfl) (Nat.le_of_ble_eq_true rfl) ?_
  rw [List.append_assoc] at hG
  obtain ⟨Y4, eY4⟩ : ∃ Y : va_W, Y = Y3 ++ w2 f_9 p9 cy i2 := ⟨_, rfl⟩
  replace hG : GW D A s ([(o, .inr (7, [.ref q0, .ref q1, .ref q2, .ref r_0, .ref s_1, .ref s_2, .ref u_3, .ref m_4, .ref g_5, .ref q9, .int 0, .long 0])), (q0, .inl (cy 3, 6, .inr (.inr (.inr (.inr (va_up (va_up (va_up (fun _ => none) 0 (some f_6)) 1 (some f_7)) 2 (some f_8))))))), (q1, .inl (cy 2, 4, .inr (.inr (.inr (.inr (fun _ => none)))))), (q2, .inl (cy 4, 4, .inr (.inr (.inr (.inr (fun _ => none))))))] ++ Y4) H locs := by rw [eY4]; exact hG
  obtain ⟨qk, hqk⟩ : ∃ k : Nat, ([(o, .inr (7, [.ref q0, .ref q1, .ref q2, .ref r_0, .ref s_1, .ref s_2, .ref u_3, .ref m_4, .ref g_5, .ref q9, .int 0, .long 0])), (q0, .inl (cy 3, 6, .inr (.inr (.inr (.inr (va_up (va_up (va_up (fun _ => none) 0 (some f_6)) 1 (some f_7)) 2 (some f_8))))))), (q1, .inl (cy 2, 4, .inr (.inr (.inr (.inr (fun _ => none)))))), (q2, .inl (cy 4, 4, .inr (.inr (.inr (.inr (fun _ => none))))))] ++ Y4)[k]? = some (f_9, .inr (1, [.int (fI i2 0), .long (fJ i2 1), .int (fI i2 2), .int (fI i2 3)])) := List.mem_iff_getElem?.mp (List.mem_append_right _ (by rw [eY4]; exact List.mem_append_right _ List.mem_cons_self))
  refine gx_aast (ws' := [(o, .inr (7, [.ref q0, .ref q1, .ref q2, .ref r_0, .ref s_1, .ref s_2, .ref u_3, .ref m_4, .ref g_5, .ref q9, .int 0, .long 0])), (q0, .inl (cy 3, 6, .inr (.inr (.inr (.inr (va_up (va_up (va_up (va_up (fun _ => none) 0 (some f_6)) 1 (some f_7)) 2 (some f_8)) 3 (some f_9))))))), (q1, .inl (cy 2, 4, .inr (.inr (.inr (.inr (fun _ => none)))))), (q2, .inl (cy 4, 4, .inr (.inr (.inr (.inr (fun _ => none))))))] ++ Y4) C hG 1 3 qk 1 rfl rfl hqk rfl (by unfold vp_in; decide) dX8_init_123 rfl (fun H locs hG => ?_)
  refine lv_iinc (v := 4) (lv' := [(1, .int 4), (0, .ref o)]) hx hb dX8_init_124 hl (k := 0) rfl (by decide) (by decide) rfl (fun ls hl => ?_)
  refine lv_goto (tgt := 105) hx hb dX8_init_127 (by decide) ?_
  refine lv_iload_n hx hb dX8_init_105 rfl (lv_at hl 0 rfl) ?_
  refine lv_bipush (v := 6) hx hb dX8_init_106 (by decide) ?_
  refine lv_icmp_ge (tgt := 130) hx hb dX8_init_108 (by decide) (fun c => absurd c (by decide)) (fun _ => ?_)
  refine lv_aload_n hx hb dX8_init_111 rfl (lv_at hl 1 rfl) ?_
  refine gx_get C i8_init_X8 hG 0 rfl rfl 0 (by decide) k8_init_11 rfl dX8_init_112 ?_
  refine lv_iload_n hx hb dX8_init_115 rfl (lv_at hl 0 rfl) ?_
  refine gx_new (fs := [.int 0, .long 0, .int 0, .int 0]) C hG i8_init_X2 tyX2 tyX2_ok k8_init_c9.1.1 k8_init_c9.1.2 k8_init_c9.2 (ci := 1) rfl (fun j hj => by rcases (show j = 0 ∨ j = 1 ∨ j = 2 ∨ j = 3 by omega) with rfl | rfl | rfl | rfl <;> rfl) (Nat.le_of_ble_eq_true rfl) (Nat.le_of_ble_eq_true rfl) dX8_init_116 (fun f_10 H hG => ?_)
  refine W.widen (k := 31) (n := 698) (Nat.le_of_ble_eq_true rfl) (Nat.le_of_ble_eq_true rfl) ?_
  refine lv_dup hx hb dX8_init_119 rfl ?_
  refine callIC (ws := [(o, .inr (7, [.ref q0, .ref q1, .ref q2, .ref r_0, .ref s_1, .ref s_2, .ref u_3, .ref m_4, .ref g_5, .ref q9, .int 0, .long 0])), (q0, .inl (cy 3, 6, .inr (.inr (.inr (.inr (va_up (va_up (va_up (va_up (fun _ => none) 0 (some f_6)) 1 (some f_7)) 2 (some f_8)) 3 (some f_9))))))), (q1, .inl (cy 2, 4, .inr (.inr (.inr (.inr (fun _ => none)))))), (q2, .inl (cy 4, 4, .inr (.inr (.inr (.inr (fun _ => none))))))] ++ Y4) (w0 := [(f_10, .inr (1, [.int 0, .long 0, .int 0, .int 0]))]) (rest := [.ref f_10, .int 4, .ref q0]) (host := "PaperBodies") C hG (c2_init l D cy f_10) gX8_init_X2_init_n67 rfl (by decide +kernel) k8_init_m67.1 k8_init_m67.2 rfl (by decide +kernel) ⟨⟨Nat.le_of_ble_eq_true rfl, Nat.le_of_ble_eq_true rfl⟩, rfl, rfl⟩ hl.1 rfl (Nat.le_of_ble_eq_true rfl) dX8_init_120 ⟨Nat.le_of_ble_eq_true rfl, Nat.le_of_ble_eq_true rfl⟩ (fun u H locs hq hG => ?_)
  obtain ⟨p10, S9⟩ := u
  replace hq : S9 = i2 := hq
  subst hq
  refine W.widen (k := 31) (n := 698) (Nat.le_of_ble_eq_true rfl) (Nat.le_of_ble_eq_true rfl) ?_
  rw [List.append_assoc] at hG
  obtain ⟨Y5, eY5⟩ : ∃ Y : va_W, Y = Y4 ++ w2 f_10 p10 cy i2 := ⟨_, rfl⟩
  replace hG : GW D A s ([(o, .inr (7, [.ref q0, .ref q1, .ref q2, .ref r_0, .ref s_1, .ref s_2, .ref u_3, .ref m_4, .ref g_5, .ref q9, .int 0, .long 0])), (q0, .inl (cy 3, 6, .inr (.inr (.inr (.inr (va_up (va_up (va_up (va_up (fun _ => none) 0 (some f_6)) 1 (some f_7)) 2 (some f_8)) 3 (some f_9))))))), (q1, .inl (cy 2, 4, .inr (.inr (.inr (.inr (fun _ => none)))))), (q2, .inl (cy 4, 4, .inr (.inr (.inr (.inr (fun _ => none))))))] ++ Y5) H locs := by rw [eY5]; exact hG
  obtain ⟨qk, hqk⟩ : ∃ k : Nat, ([(o, .inr (7, [.ref q0, .ref q1, .ref q2, .ref r_0, .ref s_1, .ref s_2, .ref u_3, .ref m_4, .ref g_5, .ref q9, .int 0, .long 0])), (q0, .inl (cy 3, 6, .inr (.inr (.inr (.inr (va_up (va_up (va_up (va_up (fun _ => none) 0 (some f_6)) 1 (some f_7)) 2 (some f_8)) 3 (some f_9))))))), (q1, .inl (cy 2, 4, .inr (.inr (.inr (.inr (fun _ => none)))))), (q2, .inl (cy 4, 4, .inr (.inr (.inr (.inr (fun _ => none))))))] ++ Y5)[k]? = some (f_10, .inr (1, [.int (fI i2 0), .long (fJ i2 1), .int (fI i2 2), .int (fI i2 3)])) := List.mem_iff_getElem?.mp (List.mem_append_right _ (by rw [eY5]; exact List.mem_append_right _ List.mem_cons_self))
  refine gx_aast (ws' := [(o, .inr (7, [.ref q0, .ref q1, .ref q2, .ref r_0, .ref s_1, .ref s_2, .ref u_3, .ref m_4, .ref g_5, .ref q9, .int 0, .long 0])), (q0, .inl (cy 3, 6, .inr (.inr (.inr (.inr (va_up (va_up (va_up (va_up (va_up (fun _ => none) 0 (some f_6)) 1 (some f_7)) 2 (some f_8)) 3 (some f_9)) 4 (some f_10))))))), (q1, .inl (cy 2, 4, .inr (.inr (.inr (.inr (fun _ => none)))))), (q2, .inl (cy 4, 4, .inr (.inr (.inr (.inr (fun _ => none))))))] ++ Y5) C hG 1 3 qk 1 rfl rfl hqk rfl (by unfold vp_in; decide) dX8_init_123 rfl (fun H locs hG => ?_)
  refine lv_iinc (v := 5) (lv' := [(1, .int 5), (0, .ref o)]) hx hb dX8_init_124 hl (k := 0) rfl (by decide) (by decide) rfl (fun ls hl => ?_)
  refine lv_goto (tgt := 105) hx hb dX8_init_127 (by decide) ?_
  refine lv_iload_n hx hb dX8_init_105 rfl (lv_at hl 0 rfl) ?_
  refine lv_bipush (v := 6) hx hb dX8_init_106 (by decide) ?_
  refine lv_icmp_ge (tgt := 130) hx hb dX8_init_108 (by decide) (fun c => absurd c (by decide)) (fun _ => ?_)
  refine lv_aload_n hx hb dX8_init_111 rfl (lv_at hl 1 rfl) ?_
  refine gx_get C i8_init_X8 hG 0 rfl rfl 0 (by decide) k8_init_11 rfl dX8_init_112 ?_
  refine lv_iload_n hx hb dX8_init_115 rfl (lv_at hl 0 rfl) ?_
  refine gx_new (fs := [.int 0, .long 0, .int 0, .int 0]) C hG i8_init_X2 tyX2 tyX2_ok k8_init_c9.1.1 k8_init_c9.1.2 k8_init_c9.2 (ci := 1) rfl (fun j hj => by rcases (show j = 0 ∨ j = 1 ∨ j = 2 ∨ j = 3 by omega) with rfl | rfl | rfl | rfl <;> rfl) (Nat.le_of_ble_eq_true rfl) (Nat.le_of_ble_eq_true rfl) dX8_init_116 (fun f_11 H hG => ?_)
  refine W.widen (k := 32) (n := 702) (Nat.le_of_ble_eq_true rfl) (Nat.le_of_ble_eq_true rfl) ?_
  refine lv_dup hx hb dX8_init_119 rfl ?_
  refine callIC (ws := [(o, .inr (7, [.ref q0, .ref q1, .ref q2, .ref r_0, .ref s_1, .ref s_2, .ref u_3, .ref m_4, .ref g_5, .ref q9, .int 0, .long 0])), (q0, .inl (cy 3, 6, .inr (.inr (.inr (.inr (va_up (va_up (va_up (va_up (va_up (fun _ => none) 0 (some f_6)) 1 (some f_7)) 2 (some f_8)) 3 (some f_9)) 4 (some f_10))))))), (q1, .inl (cy 2, 4, .inr (.inr (.inr (.inr (fun _ => none)))))), (q2, .inl (cy 4, 4, .inr (.inr (.inr (.inr (fun _ => none))))))] ++ Y5) (w0 := [(f_11, .inr (1, [.int 0, .long 0, .int 0, .int 0]))]) (rest := [.ref f_11, .int 5, .ref q0]) (host := "PaperBodies") C hG (c2_init l D cy f_11) gX8_init_X2_init_n67 rfl (by decide +kernel) k8_init_m67.1 k8_init_m67.2 rfl (by decide +kernel) ⟨⟨Nat.le_of_ble_eq_true rfl, Nat.le_of_ble_eq_true rfl⟩, rfl, rfl⟩ hl.1 rfl (Nat.le_of_ble_eq_true rfl) dX8_init_120 ⟨Nat.le_of_ble_eq_true rfl, Nat.le_of_ble_eq_true rfl⟩ (fun u H locs hq hG => ?_)
  obtain ⟨p11, S9⟩ := u
  replace hq : S9 = i2 := hq
  subst hq
  refine W.widen (k := 32) (n := 702) (Nat.le_of_ble_eq_true rfl) (Nat.le_of_ble_eq_true rfl) ?_
  rw [List.append_assoc] at hG
  obtain ⟨Y6, eY6⟩ : ∃ Y : va_W, Y = Y5 ++ w2 f_11 p11 cy i2 := ⟨_, rfl⟩
  replace hG : GW D A s ([(o, .inr (7, [.ref q0, .ref q1, .ref q2, .ref r_0, .ref s_1, .ref s_2, .ref u_3, .ref m_4, .ref g_5, .ref q9, .int 0, .long 0])), (q0, .inl (cy 3, 6, .inr (.inr (.inr (.inr (va_up (va_up (va_up (va_up (va_up (fun _ => none) 0 (some f_6)) 1 (some f_7)) 2 (some f_8)) 3 (some f_9)) 4 (some f_10))))))), (q1, .inl (cy 2, 4, .inr (.inr (.inr (.inr (fun _ => none)))))), (q2, .inl (cy 4, 4, .inr (.inr (.inr (.inr (fun _ => none))))))] ++ Y6) H locs := by rw [eY6]; exact hG
  obtain ⟨qk, hqk⟩ : ∃ k : Nat, ([(o, .inr (7, [.ref q0, .ref q1, .ref q2, .ref r_0, .ref s_1, .ref s_2, .ref u_3, .ref m_4, .ref g_5, .ref q9, .int 0, .long 0])), (q0, .inl (cy 3, 6, .inr (.inr (.inr (.inr (va_up (va_up (va_up (va_up (va_up (fun _ => none) 0 (some f_6)) 1 (some f_7)) 2 (some f_8)) 3 (some f_9)) 4 (some f_10))))))), (q1, .inl (cy 2, 4, .inr (.inr (.inr (.inr (fun _ => none)))))), (q2, .inl (cy 4, 4, .inr (.inr (.inr (.inr (fun _ => none))))))] ++ Y6)[k]? = some (f_11, .inr (1, [.int (fI i2 0), .long (fJ i2 1), .int (fI i2 2), .int (fI i2 3)])) := List.mem_iff_getElem?.mp (List.mem_append_right _ (by rw [eY6]; exact List.mem_append_right _ List.mem_cons_self))
  refine gx_aast (ws' := [(o, .inr (7, [.ref q0, .ref q1, .ref q2, .ref r_0, .ref s_1, .ref s_2, .ref u_3, .ref m_4, .ref g_5, .ref q9, .int 0, .long 0])), (q0, .inl (cy 3, 6, .inr (.inr (.inr (.inr (va_up (va_up (va_up (va_up (va_up (va_up (fun _ => none) 0 (some f_6)) 1 (some f_7)) 2 (some f_8)) 3 (some f_9)) 4 (some f_10)) 5 (some f_11))))))), (q1, .inl (cy 2, 4, .inr (.inr (.inr (.inr (fun _ => none)))))), (q2, .inl (cy 4, 4, .inr (.inr (.inr (.inr (fun _ => none))))))] ++ Y6) C hG 1 3 qk 1 rfl rfl hqk rfl (by unfold vp_in; decide) dX8_init_123 rfl (fun H locs hG => ?_)
  refine lv_iinc (v := 6) (lv' := [(1, .int 6), (0, .ref o)]) hx hb dX8_init_124 hl (k := 0) rfl (by decide) (by decide) rfl (fun ls hl => ?_)
  refine lv_goto (tgt := 105) hx hb dX8_init_127 (by decide) ?_
  refine lv_iload_n hx hb dX8_init_105 rfl (lv_at hl 0 rfl) ?_
  refine lv_bipush (v := 6) hx hb dX8_init_106 (by decide) ?_
  refine lv_icmp_ge (tgt := 130) hx hb dX8_init_108 (by decide) (fun _ => ?_) (fun c => absurd (by decide) c)
  refine lv_iconst (v := 0) hx hb dX8_init_130 (by decide) ?_
  refine lv_istore_n (lv' := [(1, .int 0), (0, .ref o)]) hx hb dX8_init_131 rfl hl (by decide) rfl (fun ls hl => ?_)
  refine lv_iload_n hx hb dX8_init_132 rfl (lv_at hl 0 rfl) ?_
  refine lv_iconst (v := 4) hx hb dX8_init_133 (by decide) ?_
  refine lv_icmp_ge (tgt := 156) hx hb dX8_init_134 (by decide) (fun c => absurd c (by decide)) (fun _ => ?_)
  refine lv_aload_n hx hb dX8_init_137 rfl (lv_at hl 1 rfl) ?_
  refine gx_get C i8_init_X8 hG 0 rfl rfl 1 (by decide) k8_init_17 rfl dX8_init_138 ?_
  refine lv_iload_n hx hb dX8_init_141 rfl (lv_at hl 0 rfl) ?_
  refine gx_new (fs := [.null, .null, .null, .null, .null, .null, .int 0]) C hG i8_init_X1 tyX1 tyX1_ok k8_init_c15.1.1 k8_init_c15.1.2 k8_init_c15.2 (ci := 0) rfl (fun j hj => by rcases (show j = 0 ∨ j = 1 ∨ j = 2 ∨ j = 3 ∨ j = 4 ∨ j = 5 ∨ j = 6 by omega) with rfl | rfl | rfl | rfl | rfl | rfl | rfl <;> rfl) (Nat.le_of_ble_eq_true rfl) (Nat.le_of_ble_eq_true rfl) dX8_init_142 (fun b_12 H hG => ?_)
  refine W.widen (k := 33) (n := 709) (Nat.le_of_ble_eq_true rfl) (Nat.le_of_ble_eq_true rfl) ?_
  refine lv_dup hx hb dX8_init_145 rfl ?_
  refine callIC (ws := [(o, .inr (7, [.ref q0, .ref q1, .ref q2, .ref r_0, .ref s_1, .ref s_2, .ref u_3, .ref m_4, .ref g_5, .ref q9, .int 0, .long 0])), (q0, .inl (cy 3, 6, .inr (.inr (.inr (.inr (va_up (va_up (va_up (va_up (va_up (va_up (fun _ => none) 0 (some f_6)) 1 (some f_7)) 2 (some f_8)) 3 (some f_9)) 4 (some f_10)) 5 (some f_11))))))), (q1, .inl (cy 2, 4, .inr (.inr (.inr (.inr (fun _ => none)))))), (q2, .inl (cy 4, 4, .inr (.inr (.inr (.inr (fun _ => none))))))] ++ Y6) (w0 := [(b_12, .inr (0, [.null, .null, .null, .null, .null, .null, .int 0]))]) (rest := [.ref b_12, .int 0, .ref q1]) (host := "PaperBodies") C hG (c1_init l D cy b_12) gX8_init_X1_init_n68 rfl (by decide +kernel) k8_init_m68.1 k8_init_m68.2 rfl (by decide +kernel) ⟨⟨Nat.le_of_ble_eq_true rfl, Nat.le_of_ble_eq_true rfl⟩, rfl, rfl⟩ hl.1 rfl (Nat.le_of_ble_eq_true rfl) dX8_init_146 ⟨Nat.le_of_ble_eq_true rfl, Nat.le_of_ble_eq_true rfl⟩ (fun u H locs hq hG => ?_)
  obtain ⟨p12, S9⟩ := u
  replace hq : S9 = i1 := hq
  subst hq
  refine W.widen (k := 39) (n := 913) (Nat.le_of_ble_eq_true rfl) (Nat.le_of_ble_eq_true rfl) ?_
  rw [List.append_assoc] at hG
  obtain ⟨Y7, eY7⟩ : ∃ Y : va_W, Y = Y6 ++ w1 b_12 p12 cy i1 := ⟨_, rfl⟩
  replace hG : GW D A s ([(o, .inr (7, [.ref q0, .ref q1, .ref q2, .ref r_0, .ref s_1, .ref s_2, .ref u_3, .ref m_4, .ref g_5, .ref q9, .int 0, .long 0])), (q0, .inl (cy 3, 6, .inr (.inr (.inr (.inr (va_up (va_up (va_up (va_up (va_up (va_up (fun _ => none) 0 (some f_6)) 1 (some f_7)) 2 (some f_8)) 3 (some f_9)) 4 (some f_10)) 5 (some f_11))))))), (q1, .inl (cy 2, 4, .inr (.inr (.inr (.inr (fun _ => none)))))), (q2, .inl (cy 4, 4, .inr (.inr (.inr (.inr (fun _ => none))))))] ++ Y7) H locs := by rw [eY7]; exact hG
  obtain ⟨qk, hqk⟩ : ∃ k : Nat, ([(o, .inr (7, [.ref q0, .ref q1, .ref q2, .ref r_0, .ref s_1, .ref s_2, .ref u_3, .ref m_4, .ref g_5, .ref q9, .int 0, .long 0])), (q0, .inl (cy 3, 6, .inr (.inr (.inr (.inr (va_up (va_up (va_up (va_up (va_up (va_up (fun _ => none) 0 (some f_6)) 1 (some f_7)) 2 (some f_8)) 3 (some f_9)) 4 (some f_10)) 5 (some f_11))))))), (q1, .inl (cy 2, 4, .inr (.inr (.inr (.inr (fun _ => none)))))), (q2, .inl (cy 4, 4, .inr (.inr (.inr (.inr (fun _ => none))))))] ++ Y7)[k]? = some (b_12, .inr (0, [.ref (p12 0), .ref (p12 1), .ref (p12 2), .ref (p12 3), .ref (p12 4), .ref (p12 5), .int (fI i1 6)])) := List.mem_iff_getElem?.mp (List.mem_append_right _ (by rw [eY7]; exact List.mem_append_right _ List.mem_cons_self))
  refine gx_aast (ws' := [(o, .inr (7, [.ref q0, .ref q1, .ref q2, .ref r_0, .ref s_1, .ref s_2, .ref u_3, .ref m_4, .ref g_5, .ref q9, .int 0, .long 0])), (q0, .inl (cy 3, 6, .inr (.inr (.inr (.inr (va_up (va_up (va_up (va_up (va_up (va_up (fun _ => none) 0 (some f_6)) 1 (some f_7)) 2 (some f_8)) 3 (some f_9)) 4 (some f_10)) 5 (some f_11))))))), (q1, .inl (cy 2, 4, .inr (.inr (.inr (.inr (va_up (fun _ => none) 0 (some b_12))))))), (q2, .inl (cy 4, 4, .inr (.inr (.inr (.inr (fun _ => none))))))] ++ Y7) C hG 2 2 qk 0 rfl rfl hqk rfl (by unfold vp_in; decide) dX8_init_149 rfl (fun H locs hG => ?_)
  refine lv_iinc (v := 1) (lv' := [(1, .int 1), (0, .ref o)]) hx hb dX8_init_150 hl (k := 0) rfl (by decide) (by decide) rfl (fun ls hl => ?_)
  refine lv_goto (tgt := 132) hx hb dX8_init_153 (by decide) ?_
  refine lv_iload_n hx hb dX8_init_132 rfl (lv_at hl 0 rfl) ?_
  refine lv_iconst (v := 4) hx hb dX8_init_133 (by decide) ?_
  refine lv_icmp_ge (tgt := 156) hx hb dX8_init_134 (by decide) (fun c => absurd c (by decide)) (fun _ => ?_)
  refine lv_aload_n hx hb dX8_init_137 rfl (lv_at hl 1 rfl) ?_
  refine gx_get C i8_init_X8 hG 0 rfl rfl 1 (by decide) k8_init_17 rfl dX8_init_138 ?_
  refine lv_iload_n hx hb dX8_init_141 rfl (lv_at hl 0 rfl) ?_
  refine gx_new (fs := [.null, .null, .null, .null, .null, .null, .int 0]) C hG i8_init_X1 tyX1 tyX1_ok k8_init_c15.1.1 k8_init_c15.1.2 k8_init_c15.2 (ci := 0) rfl (fun j hj => by rcases (show j = 0 ∨ j = 1 ∨ j = 2 ∨ j = 3 ∨ j = 4 ∨ j = 5 ∨ j = 6 by omega) with rfl | rfl | rfl | rfl | rfl | rfl | rfl <;> rfl) (Nat.le_of_ble_eq_true rfl) (Nat.le_of_ble_eq_true rfl) dX8_init_142 (fun b_13 H hG => ?_)
  refine W.widen (k := 40) (n := 920) (Nat.le_of_ble_eq_true rfl) (Nat.le_of_ble_eq_true rfl) ?_
  refine lv_dup hx hb dX8_init_145 rfl ?_
  refine callIC (ws := [(o, .inr (7, [.ref q0, .ref q1, .ref q2, .ref r_0, .ref s_1, .ref s_2, .ref u_3, .ref m_4, .ref g_5, .ref q9, .int 0, .long 0])), (q0, .inl (cy 3, 6, .inr (.inr (.inr (.inr (va_up (va_up (va_up (va_up (va_up (va_up (fun _ => none) 0 (some f_6)) 1 (some f_7)) 2 (some f_8)) 3 (some f_9)) 4 (some f_10)) 5 (some f_11))))))), (q1, .inl (cy 2, 4, .inr (.inr (.inr (.inr (va_up (fun _ => none) 0 (some b_12))))))), (q2, .inl (cy 4, 4, .inr (.inr (.inr (.inr (fun _ => none))))))] ++ Y7) (w0 := [(b_13, .inr (0, [.null, .null, .null, .null, .null, .null, .int 0]))]) (rest := [.ref b_13, .int 1, .ref q1]) (host := "PaperBodies") C hG (c1_init l D cy b_13) gX8_init_X1_init_n68 rfl (by decide +kernel) k8_init_m68.1 k8_init_m68.2 rfl (by decide +kernel) ⟨⟨Nat.le_of_ble_eq_true rfl, Nat.le_of_ble_eq_true rfl⟩, rfl, rfl⟩ hl.1 rfl (Nat.le_of_ble_eq_true rfl) dX8_init_146 ⟨Nat.le_of_ble_eq_true rfl, Nat.le_of_ble_eq_true rfl⟩ (fun u H locs hq hG => ?_)
  obtain ⟨p13, S9⟩ := u
  replace hq : S9 = i1 := hq
  subst hq
  refine W.widen (k := 46) (n := 1124) (Nat.le_of_ble_eq_true rfl) (Nat.le_of_ble_eq_true rfl) ?_
  rw [List.append_assoc] at hG
  obtain ⟨Y8, eY8⟩ : ∃ Y : va_W, Y = Y7 ++ w1 b_13 p13 cy i1 := ⟨_, rfl⟩
  replace hG : GW D A s ([(o, .inr (7, [.ref q0, .ref q1, .ref q2, .ref r_0, .ref s_1, .ref s_2, .ref u_3, .ref m_4, .ref g_5, .ref q9, .int 0, .long 0])), (q0, .inl (cy 3, 6, .inr (.inr (.inr (.inr (va_up (va_up (va_up (va_up (va_up (va_up (fun _ => none) 0 (some f_6)) 1 (some f_7)) 2 (some f_8)) 3 (some f_9)) 4 (some f_10)) 5 (some f_11))))))), (q1, .inl (cy 2, 4, .inr (.inr (.inr (.inr (va_up (fun _ => none) 0 (some b_12))))))), (q2, .inl (cy 4, 4, .inr (.inr (.inr (.inr (fun _ => none))))))] ++ Y8) H locs := by rw [eY8]; exact hG
  obtain ⟨qk, hqk⟩ : ∃ k : Nat, ([(o, .inr (7, [.ref q0, .ref q1, .ref q2, .ref r_0, .ref s_1, .ref s_2, .ref u_3, .ref m_4, .ref g_5, .ref q9, .int 0, .long 0])), (q0, .inl (cy 3, 6, .inr (.inr (.inr (.inr (va_up (va_up (va_up (va_up (va_up (va_up (fun _ => none) 0 (some f_6)) 1 (some f_7)) 2 (some f_8)) 3 (some f_9)) 4 (some f_10)) 5 (some f_11))))))), (q1, .inl (cy 2, 4, .inr (.inr (.inr (.inr (va_up (fun _ => none) 0 (some b_12))))))), (q2, .inl (cy 4, 4, .inr (.inr (.inr (.inr (fun _ => none))))))] ++ Y8)[k]? = some (b_13, .inr (0, [.ref (p13 0), .ref (p13 1), .ref (p13 2), .ref (p13 3), .ref (p13 4), .ref (p13 5), .int (fI i1 6)])) := List.mem_iff_getElem?.mp (List.mem_append_right _ (by rw [eY8]; exact List.mem_append_right _ List.mem_cons_self))
  refine gx_aast (ws' := [(o, .inr (7, [.ref q0, .ref q1, .ref q2, .ref r_0, .ref s_1, .ref s_2, .ref u_3, .ref m_4, .ref g_5, .ref q9, .int 0, .long 0])), (q0, .inl (cy 3, 6, .inr (.inr (.inr (.inr (va_up (va_up (va_up (va_up (va_up (va_up (fun _ => none) 0 (some f_6)) 1 (some f_7)) 2 (some f_8)) 3 (some f_9)) 4 (some f_10)) 5 (some f_11))))))), (q1, .inl (cy 2, 4, .inr (.inr (.inr (.inr (va_up (va_up (fun _ => none) 0 (some b_12)) 1 (some b_13))))))), (q2, .inl (cy 4, 4, .inr (.inr (.inr (.inr (fun _ => none))))))] ++ Y8) C hG 2 2 qk 0 rfl rfl hqk rfl (by unfold vp_in; decide) dX8_init_149 rfl (fun H locs hG => ?_)
  refine lv_iinc (v := 2) (lv' := [(1, .int 2), (0, .ref o)]) hx hb dX8_init_150 hl (k := 0) rfl (by decide) (by decide) rfl (fun ls hl => ?_)
  refine lv_goto (tgt := 132) hx hb dX8_init_153 (by decide) ?_
  refine lv_iload_n hx hb dX8_init_132 rfl (lv_at hl 0 rfl) ?_
  refine lv_iconst (v := 4) hx hb dX8_init_133 (by decide) ?_
  refine lv_icmp_ge (tgt := 156) hx hb dX8_init_134 (by decide) (fun c => absurd c (by decide)) (fun _ => ?_)
  refine lv_aload_n hx hb dX8_init_137 rfl (lv_at hl 1 rfl) ?_
  refine gx_get C i8_init_X8 hG 0 rfl rfl 1 (by decide) k8_init_17 rfl dX8_init_138 ?_
  refine lv_iload_n hx hb dX8_init_141 rfl (lv_at hl 0 rfl) ?_
  refine gx_new (fs := [.null, .null, .null, .null, .null, .null, .int 0]) C hG i8_init_X1 tyX1 tyX1_ok k8_init_c15.1.1 k8_init_c15.1.2 k8_init_c15.2 (ci := 0) rfl (fun j hj => by rcases (show j = 0 ∨ j = 1 ∨ j = 2 ∨ j = 3 ∨ j = 4 ∨ j = 5 ∨ j = 6 by omega) with rfl | rfl | rfl | rfl | rfl | rfl | rfl <;> rfl) (Nat.le_of_ble_eq_true rfl) (Nat.le_of_ble_eq_true rfl) dX8_init_142 (fun b_14 H hG => ?_)
  refine W.widen (k := 47) (n := 1131) (Nat.le_of_ble_eq_true rfl) (Nat.le_of_ble_eq_true rfl) ?_
  refine lv_dup hx hb dX8_init_145 rfl ?_
  refine callIC (ws := [(o, .inr (7, [.ref q0, .ref q1, .ref q2, .ref r_0, .ref s_1, .ref s_2, .ref u_3, .ref m_4, .ref g_5, .ref q9, .int 0, .long 0])), (q0, .inl (cy 3, 6, .inr (.inr (.inr (.inr (va_up (va_up (va_up (va_up (va_up (va_up (fun _ => none) 0 (some f_6)) 1 (some f_7)) 2 (some f_8)) 3 (some f_9)) 4 (some f_10)) 5 (some f_11))))))), (q1, .inl (cy 2, 4, .inr (.inr (.inr (.inr (va_up (va_up (fun _ => none) 0 (some b_12)) 1 (some b_13))))))), (q2, .inl (cy 4, 4, .inr (.inr (.inr (.inr (fun _ => none))))))] ++ Y8) (w0 := [(b_14, .inr (0, [.null, .null, .null, .null, .null, .null, .int 0]))]) (rest := [.ref b_14, .int 2, .ref q1]) (host := "PaperBodies") C hG (c1_init l D cy b_14) gX8_init_X1_init_n68 rfl (by decide +kernel) k8_init_m68.1 k8_init_m68.2 rfl (by decide +kernel) ⟨⟨Nat.le_of_ble_eq_true rfl, Nat.le_of_ble_eq_true rfl⟩, rfl, rfl⟩ hl.1 rfl (Nat.le_of_ble_eq_true rfl) dX8_init_146 ⟨Nat.le_of_ble_eq_true rfl, Nat.le_of_ble_eq_true rfl⟩ (fun u H locs hq hG => ?_)
  obtain ⟨p14, S9⟩ := u
  replace hq : S9 = i1 := hq
  subst hq
  refine W.widen (k := 53) (n := 1335) (Nat.le_of_ble_eq_true rfl) (Nat.le_of_ble_eq_true rfl) ?_
  rw [List.append_assoc] at hG
  obtain ⟨Y9, eY9⟩ : ∃ Y : va_W, Y = Y8 ++ w1 b_14 p14 cy i1 := ⟨_, rfl⟩
  replace hG : GW D A s ([(o, .inr (7, [.ref q0, .ref q1, .ref q2, .ref r_0, .ref s_1, .ref s_2, .ref u_3, .ref m_4, .ref g_5, .ref q9, .int 0, .long 0])), (q0, .inl (cy 3, 6, .inr (.inr (.inr (.inr (va_up (va_up (va_up (va_up (va_up (va_up (fun _ => none) 0 (some f_6)) 1 (some f_7)) 2 (some f_8)) 3 (some f_9)) 4 (some f_10)) 5 (some f_11))))))), (q1, .inl (cy 2, 4, .inr (.inr (.inr (.inr (va_up (va_up (fun _ => none) 0 (some b_12)) 1 (some b_13))))))), (q2, .inl (cy 4, 4, .inr (.inr (.inr (.inr (fun _ => none))))))] ++ Y9) H locs := by rw [eY9]; exact hG
  obtain ⟨qk, hqk⟩ : ∃ k : Nat, ([(o, .inr (7, [.ref q0, .ref q1, .ref q2, .ref r_0, .ref s_1, .ref s_2, .ref u_3, .ref m_4, .ref g_5, .ref q9, .int 0, .long 0])), (q0, .inl (cy 3, 6, .inr (.inr (.inr (.inr (va_up (va_up (va_up (va_up (va_up (va_up (fun _ => none) 0 (some f_6)) 1 (some f_7)) 2 (some f_8)) 3 (some f_9)) 4 (some f_10)) 5 (some f_11))))))), (q1, .inl (cy 2, 4, .inr (.inr (.inr (.inr (va_up (va_up (fun _ => none) 0 (some b_12)) 1 (some b_13))))))), (q2, .inl (cy 4, 4, .inr (.inr (.inr (.inr (fun _ => none))))))] ++ Y9)[k]? = some (b_14, .inr (0, [.ref (p14 0), .ref (p14 1), .ref (p14 2), .ref (p14 3), .ref (p14 4), .ref (p14 5), .int (fI i1 6)])) := List.mem_iff_getElem?.mp (List.mem_append_right _ (by rw [eY9]; exact List.mem_append_right _ List.mem_cons_self))
  refine gx_aast (ws' := [(o, .inr (7, [.ref q0, .ref q1, .ref q2, .ref r_0, .ref s_1, .ref s_2, .ref u_3, .ref m_4, .ref g_5, .ref q9, .int 0, .long 0])), (q0, .inl (cy 3, 6, .inr (.inr (.inr (.inr (va_up (va_up (va_up (va_up (va_up (va_up (fun _ => none) 0 (some f_6)) 1 (some f_7)) 2 (some f_8)) 3 (some f_9)) 4 (some f_10)) 5 (some f_11))))))), (q1, .inl (cy 2, 4, .inr (.inr (.inr (.inr (va_up (va_up (va_up (fun _ => none) 0 (some b_12)) 1 (some b_13)) 2 (some b_14))))))), (q2, .inl (cy 4, 4, .inr (.inr (.inr (.inr (fun _ => none))))))] ++ Y9) C hG 2 2 qk 0 rfl rfl hqk rfl (by unfold vp_in; decide) dX8_init_149 rfl (fun H locs hG => ?_)
  refine lv_iinc (v := 3) (lv' := [(1, .int 3), (0, .ref o)]) hx hb dX8_init_150 hl (k := 0) rfl (by decide) (by decide) rfl (fun ls hl => ?_)
  refine lv_goto (tgt := 132) hx hb dX8_init_153 (by decide) ?_
  refine lv_iload_n hx hb dX8_init_132 rfl (lv_at hl 0 rfl) ?_
  refine lv_iconst (v := 4) hx hb dX8_init_133 (by decide) ?_
  refine lv_icmp_ge (tgt := 156) hx hb dX8_init_134 (by decide) (fun c => absurd c (by decide)) (fun _ => ?_)
  refine lv_aload_n hx hb dX8_init_137 rfl (lv_at hl 1 rfl) ?_
  refine gx_get C i8_init_X8 hG 0 rfl rfl 1 (by decide) k8_init_17 rfl dX8_init_138 ?_
  refine lv_iload_n hx hb dX8_init_141 rfl (lv_at hl 0 rfl) ?_
  refine gx_new (fs := [.null, .null, .null, .null, .null, .null, .int 0]) C hG i8_init_X1 tyX1 tyX1_ok k8_init_c15.1.1 k8_init_c15.1.2 k8_init_c15.2 (ci := 0) rfl (fun j hj => by rcases (show j = 0 ∨ j = 1 ∨ j = 2 ∨ j = 3 ∨ j = 4 ∨ j = 5 ∨ j = 6 by omega) with rfl | rfl | rfl | rfl | rfl | rfl | rfl <;> rfl) (Nat.le_of_ble_eq_true rfl) (Nat.le_of_ble_eq_true rfl) dX8_init_142 (fun b_15 H hG => ?_)
  refine W.widen (k := 54) (n := 1342) (Nat.le_of_ble_eq_true rfl) (Nat.le_of_ble_eq_true rfl) ?_
  refine lv_dup hx hb dX8_init_145 rfl ?_
  refine callIC (ws := [(o, .inr (7, [.ref q0, .ref q1, .ref q2, .ref r_0, .ref s_1, .ref s_2, .ref u_3, .ref m_4, .ref g_5, .ref q9, .int 0, .long 0])), (q0, .inl (cy 3, 6, .inr (.inr (.inr (.inr (va_up (va_up (va_up (va_up (va_up (va_up (fun _ => none) 0 (some f_6)) 1 (some f_7)) 2 (some f_8)) 3 (some f_9)) 4 (some f_10)) 5 (some f_11))))))), (q1, .inl (cy 2, 4, .inr (.inr (.inr (.inr (va_up (va_up (va_up (fun _ => none) 0 (some b_12)) 1 (some b_13)) 2 (some b_14))))))), (q2, .inl (cy 4, 4, .inr (.inr (.inr (.inr (fun _ => none))))))] ++ Y9) (w0 := [(b_15, .inr (0, [.null, .null, .null, .null, .null, .null, .int 0]))]) (rest := [.ref b_15, .int 3, .ref q1]) (host := "PaperBodies") C hG (c1_init l D cy b_15) gX8_init_X1_init_n68 rfl (by decide +kernel) k8_init_m68.1 k8_init_m68.2 rfl (by decide +kernel) ⟨⟨Nat.le_of_ble_eq_true rfl, Nat.le_of_ble_eq_true rfl⟩, rfl, rfl⟩ hl.1 rfl (Nat.le_of_ble_eq_true rfl) dX8_init_146 ⟨Nat.le_of_ble_eq_true rfl, Nat.le_of_ble_eq_true rfl⟩ (fun u H locs hq hG => ?_)
  obtain ⟨p15, S9⟩ := u
  replace hq : S9 = i1 := hq
  subst hq
  refine W.widen (k := 60) (n := 1546) (Nat.le_of_ble_eq_true rfl) (Nat.le_of_ble_eq_true rfl) ?_
  rw [List.append_assoc] at hG
  obtain ⟨Y10, eY10⟩ : ∃ Y : va_W, Y = Y9 ++ w1 b_15 p15 cy i1 := ⟨_, rfl⟩
  replace hG : GW D A s ([(o, .inr (7, [.ref q0, .ref q1, .ref q2, .ref r_0, .ref s_1, .ref s_2, .ref u_3, .ref m_4, .ref g_5, .ref q9, .int 0, .long 0])), (q0, .inl (cy 3, 6, .inr (.inr (.inr (.inr (va_up (va_up (va_up (va_up (va_up (va_up (fun _ => none) 0 (some f_6)) 1 (some f_7)) 2 (some f_8)) 3 (some f_9)) 4 (some f_10)) 5 (some f_11))))))), (q1, .inl (cy 2, 4, .inr (.inr (.inr (.inr (va_up (va_up (va_up (fun _ => none) 0 (some b_12)) 1 (some b_13)) 2 (some b_14))))))), (q2, .inl (cy 4, 4, .inr (.inr (.inr (.inr (fun _ => none))))))] ++ Y10) H locs := by rw [eY10]; exact hG
  obtain ⟨qk, hqk⟩ : ∃ k : Nat, ([(o, .inr (7, [.ref q0, .ref q1, .ref q2, .ref r_0, .ref s_1, .ref s_2, .ref u_3, .ref m_4, .ref g_5, .ref q9, .int 0, .long 0])), (q0, .inl (cy 3, 6, .inr (.inr (.inr (.inr (va_up (va_up (va_up (va_up (va_up (va_up (fun _ => none) 0 (some f_6)) 1 (some f_7)) 2 (some f_8)) 3 (some f_9)) 4 (some f_10)) 5 (some f_11))))))), (q1, .inl (cy 2, 4, .inr (.inr (.inr (.inr (va_up (va_up (va_up (fun _ => none) 0 (some b_12)) 1 (some b_13)) 2 (some b_14))))))), (q2, .inl (cy 4, 4, .inr (.inr (.inr (.inr (fun _ => none))))))] ++ Y10)[k]? = some (b_15, .inr (0, [.ref (p15 0), .ref (p15 1), .ref (p15 2), .ref (p15 3), .ref (p15 4), .ref (p15 5), .int (fI i1 6)])) := List.mem_iff_getElem?.mp (List.mem_append_right _ (by rw [eY10]; exact List.mem_append_right _ List.mem_cons_self))
  refine gx_aast (ws' := [(o, .inr (7, [.ref q0, .ref q1, .ref q2, .ref r_0, .ref s_1, .ref s_2, .ref u_3, .ref m_4, .ref g_5, .ref q9, .int 0, .long 0])), (q0, .inl (cy 3, 6, .inr (.inr (.inr (.inr (va_up (va_up (va_up (va_up (va_up (va_up (fun _ => none) 0 (some f_6)) 1 (some f_7)) 2 (some f_8)) 3 (some f_9)) 4 (some f_10)) 5 (some f_11))))))), (q1, .inl (cy 2, 4, .inr (.inr (.inr (.inr (va_up (va_up (va_up (va_up (fun _ => none) 0 (some b_12)) 1 (some b_13)) 2 (some b_14)) 3 (some b_15))))))), (q2, .inl (cy 4, 4, .inr (.inr (.inr (.inr (fun _ => none))))))] ++ Y10) C hG 2 2 qk 0 rfl rfl hqk rfl (by unfold vp_in; decide) dX8_init_149 rfl (fun H locs hG => ?_)
  refine lv_iinc (v := 4) (lv' := [(1, .int 4), (0, .ref o)]) hx hb dX8_init_150 hl (k := 0) rfl (by decide) (by decide) rfl (fun ls hl => ?_)
  refine lv_goto (tgt := 132) hx hb dX8_init_153 (by decide) ?_
  refine lv_iload_n hx hb dX8_init_132 rfl (lv_at hl 0 rfl) ?_
  refine lv_iconst (v := 4) hx hb dX8_init_133 (by decide) ?_
  refine lv_icmp_ge (tgt := 156) hx hb dX8_init_134 (by decide) (fun _ => ?_) (fun c => absurd (by decide) c)
  refine lv_iconst (v := 0) hx hb dX8_init_156 (by decide) ?_
  refine lv_istore_n (lv' := [(1, .int 0), (0, .ref o)]) hx hb dX8_init_157 rfl hl (by decide) rfl (fun ls hl => ?_)
  refine lv_iload_n hx hb dX8_init_158 rfl (lv_at hl 0 rfl) ?_
  refine lv_iconst (v := 4) hx hb dX8_init_159 (by decide) ?_
  refine lv_icmp_ge (tgt := 182) hx hb dX8_init_160 (by decide) (fun c => absurd c (by decide)) (fun _ => ?_)
  refine lv_aload_n hx hb dX8_init_163 rfl (lv_at hl 1 rfl) ?_
  refine gx_get C i8_init_X8 hG 0 rfl rfl 2 (by decide) k8_init_23 rfl dX8_init_164 ?_
  refine lv_iload_n hx hb dX8_init_167 rfl (lv_at hl 0 rfl) ?_
  refine gx_new (fs := [.null, .int 0]) C hG i8_init_X5 tyX5 tyX5_ok k8_init_c21.1.1 k8_init_c21.1.2 k8_init_c21.2 (ci := 4) rfl (fun j hj => by rcases (show j = 0 ∨ j = 1 by omega) with rfl | rfl <;> rfl) (Nat.le_of_ble_eq_true rfl) (Nat.le_of_ble_eq_true rfl) dX8_init_168 (fun r_16 H hG => ?_)
  refine W.widen (k := 61) (n := 1548) (Nat.le_of_ble_eq_true rfl) (Nat.le_of_ble_eq_true rfl) ?_
  refine lv_dup hx hb dX8_init_171 rfl ?_
  refine callIC (ws := [(o, .inr (7, [.ref q0, .ref q1, .ref q2, .ref r_0, .ref s_1, .ref s_2, .ref u_3, .ref m_4, .ref g_5, .ref q9, .int 0, .long 0])), (q0, .inl (cy 3, 6, .inr (.inr (.inr (.inr (va_up (va_up (va_up (va_up (va_up (va_up (fun _ => none) 0 (some f_6)) 1 (some f_7)) 2 (some f_8)) 3 (some f_9)) 4 (some f_10)) 5 (some f_11))))))), (q1, .inl (cy 2, 4, .inr (.inr (.inr (.inr (va_up (va_up (va_up (va_up (fun _ => none) 0 (some b_12)) 1 (some b_13)) 2 (some b_14)) 3 (some b_15))))))), (q2, .inl (cy 4, 4, .inr (.inr (.inr (.inr (fun _ => none))))))] ++ Y10) (w0 := [(r_16, .inr (4, [.null, .int 0]))]) (rest := [.ref r_16, .int 0, .ref q2]) (host := "PaperBodies") C hG (c5_init l D cy r_16) gX8_init_X5_init_n27 rfl (by decide +kernel) k8_init_m27.1 k8_init_m27.2 rfl (by decide +kernel) ⟨⟨Nat.le_of_ble_eq_true rfl, Nat.le_of_ble_eq_true rfl⟩, rfl, rfl⟩ hl.1 rfl (Nat.le_of_ble_eq_true rfl) dX8_init_172 ⟨Nat.le_of_ble_eq_true rfl, Nat.le_of_ble_eq_true rfl⟩ (fun u H locs hq hG => ?_)
  obtain ⟨p16, S9⟩ := u
  replace hq : S9 = i5 := hq
  subst hq
  refine W.widen (k := 62) (n := 1572) (Nat.le_of_ble_eq_true rfl) (Nat.le_of_ble_eq_true rfl) ?_
  rw [List.append_assoc] at hG
  obtain ⟨Y11, eY11⟩ : ∃ Y : va_W, Y = Y10 ++ w5 r_16 p16 cy i5 := ⟨_, rfl⟩
  replace hG : GW D A s ([(o, .inr (7, [.ref q0, .ref q1, .ref q2, .ref r_0, .ref s_1, .ref s_2, .ref u_3, .ref m_4, .ref g_5, .ref q9, .int 0, .long 0])), (q0, .inl (cy 3, 6, .inr (.inr (.inr (.inr (va_up (va_up (va_up (va_up (va_up (va_up (fun _ => none) 0 (some f_6)) 1 (some f_7)) 2 (some f_8)) 3 (some f_9)) 4 (some f_10)) 5 (some f_11))))))), (q1, .inl (cy 2, 4, .inr (.inr (.inr (.inr (va_up (va_up (va_up (va_up (fun _ => none) 0 (some b_12)) 1 (some b_13)) 2 (some b_14)) 3 (some b_15))))))), (q2, .inl (cy 4, 4, .inr (.inr (.inr (.inr (fun _ => none))))))] ++ Y11) H locs := by rw [eY11]; exact hG
  obtain ⟨qk, hqk⟩ : ∃ k : Nat, ([(o, .inr (7, [.ref q0, .ref q1, .ref q2, .ref r_0, .ref s_1, .ref s_2, .ref u_3, .ref m_4, .ref g_5, .ref q9, .int 0, .long 0])), (q0, .inl (cy 3, 6, .inr (.inr (.inr (.inr (va_up (va_up (va_up (va_up (va_up (va_up (fun _ => none) 0 (some f_6)) 1 (some f_7)) 2 (some f_8)) 3 (some f_9)) 4 (some f_10)) 5 (some f_11))))))), (q1, .inl (cy 2, 4, .inr (.inr (.inr (.inr (va_up (va_up (va_up (va_up (fun _ => none) 0 (some b_12)) 1 (some b_13)) 2 (some b_14)) 3 (some b_15))))))), (q2, .inl (cy 4, 4, .inr (.inr (.inr (.inr (fun _ => none))))))] ++ Y11)[k]? = some (r_16, .inr (4, [.ref (p16 0), .int (fI i5 1)])) := List.mem_iff_getElem?.mp (List.mem_append_right _ (by rw [eY11]; exact List.mem_append_right _ List.mem_cons_self))
  refine gx_aast (ws' := [(o, .inr (7, [.ref q0, .ref q1, .ref q2, .ref r_0, .ref s_1, .ref s_2, .ref u_3, .ref m_4, .ref g_5, .ref q9, .int 0, .long 0])), (q0, .inl (cy 3, 6, .inr (.inr (.inr (.inr (va_up (va_up (va_up (va_up (va_up (va_up (fun _ => none) 0 (some f_6)) 1 (some f_7)) 2 (some f_8)) 3 (some f_9)) 4 (some f_10)) 5 (some f_11))))))), (q1, .inl (cy 2, 4, .inr (.inr (.inr (.inr (va_up (va_up (va_up (va_up (fun _ => none) 0 (some b_12)) 1 (some b_13)) 2 (some b_14)) 3 (some b_15))))))), (q2, .inl (cy 4, 4, .inr (.inr (.inr (.inr (va_up (fun _ => none) 0 (some r_16)))))))] ++ Y11) C hG 3 4 qk 4 rfl rfl hqk rfl (by unfold vp_in; decide) dX8_init_175 rfl (fun H locs hG => ?_)
  refine lv_iinc (v := 1) (lv' := [(1, .int 1), (0, .ref o)]) hx hb dX8_init_176 hl (k := 0) rfl (by decide) (by decide) rfl (fun ls hl => ?_)
  refine lv_goto (tgt := 158) hx hb dX8_init_179 (by decide) ?_
  refine lv_iload_n hx hb dX8_init_158 rfl (lv_at hl 0 rfl) ?_
  refine lv_iconst (v := 4) hx hb dX8_init_159 (by decide) ?_
  refine lv_icmp_ge (tgt := 182) hx hb dX8_init_160 (by decide) (fun c => absurd c (by decide)) (fun _ => ?_)
  refine lv_aload_n hx hb dX8_init_163 rfl (lv_at hl 1 rfl) ?_
  refine gx_get C i8_init_X8 hG 0 rfl rfl 2 (by decide) k8_init_23 rfl dX8_init_164 ?_
  refine lv_iload_n hx hb dX8_init_167 rfl (lv_at hl 0 rfl) ?_
  refine gx_new (fs := [.null, .int 0]) C hG i8_init_X5 tyX5 tyX5_ok k8_init_c21.1.1 k8_init_c21.1.2 k8_init_c21.2 (ci := 4) rfl (fun j hj => by rcases (show j = 0 ∨ j = 1 by omega) with rfl | rfl <;> rfl) (Nat.le_of_ble_eq_true rfl) (Nat.le_of_ble_eq_true rfl) dX8_init_168 (fun r_17 H hG => ?_)
  refine W.widen (k := 63) (n := 1574) (Nat.le_of_ble_eq_true rfl) (Nat.le_of_ble_eq_true rfl) ?_
  refine lv_dup hx hb dX8_init_171 rfl ?_
  refine callIC (ws := [(o, .inr (7, [.ref q0, .ref q1, .ref q2, .ref r_0, .ref s_1, .ref s_2, .ref u_3, .ref m_4, .ref g_5, .ref q9, .int 0, .long 0])), (q0, .inl (cy 3, 6, .inr (.inr (.inr (.inr (va_up (va_up (va_up (va_up (va_up (va_up (fun _ => none) 0 (some f_6)) 1 (some f_7)) 2 (some f_8)) 3 (some f_9)) 4 (some f_10)) 5 (some f_11))))))), (q1, .inl (cy 2, 4, .inr (.inr (.inr (.inr (va_up (va_up (va_up (va_up (fun _ => none) 0 (some b_12)) 1 (some b_13)) 2 (some b_14)) 3 (some b_15))))))), (q2, .inl (cy 4, 4, .inr (.inr (.inr (.inr (va_up (fun _ => none) 0 (some r_16)))))))] ++ Y11) (w0 := [(r_17, .inr (4, [.null, .int 0]))]) (rest := [.ref r_17, .int 1, .ref q2]) (host := "PaperBodies") C hG (c5_init l D cy r_17) gX8_init_X5_init_n27 rfl (by decide +kernel) k8_init_m27.1 k8_init_m27.2 rfl (by decide +kernel) ⟨⟨Nat.le_of_ble_eq_true rfl, Nat.le_of_ble_eq_true rfl⟩, rfl, rfl⟩ hl.1 rfl (Nat.le_of_ble_eq_true rfl) dX8_init_172 ⟨Nat.le_of_ble_eq_true rfl, Nat.le_of_ble_eq_true rfl⟩ (fun u H locs hq hG => ?_)
  obtain ⟨p17, S9⟩ := u
  replace hq : S9 = i5 := hq
  subst hq
  refine W.widen (k := 64) (n := 1598) (Nat.le_of_ble_eq_true rfl) (Nat.le_of_ble_eq_true rfl) ?_
  rw [List.append_assoc] at hG
  obtain ⟨Y12, eY12⟩ : ∃ Y : va_W, Y = Y11 ++ w5 r_17 p17 cy i5 := ⟨_, rfl⟩
  replace hG : GW D A s ([(o, .inr (7, [.ref q0, .ref q1, .ref q2, .ref r_0, .ref s_1, .ref s_2, .ref u_3, .ref m_4, .ref g_5, .ref q9, .int 0, .long 0])), (q0, .inl (cy 3, 6, .inr (.inr (.inr (.inr (va_up (va_up (va_up (va_up (va_up (va_up (fun _ => none) 0 (some f_6)) 1 (some f_7)) 2 (some f_8)) 3 (some f_9)) 4 (some f_10)) 5 (some f_11))))))), (q1, .inl (cy 2, 4, .inr (.inr (.inr (.inr (va_up (va_up (va_up (va_up (fun _ => none) 0 (some b_12)) 1 (some b_13)) 2 (some b_14)) 3 (some b_15))))))), (q2, .inl (cy 4, 4, .inr (.inr (.inr (.inr (va_up (fun _ => none) 0 (some r_16)))))))] ++ Y12) H locs := by rw [eY12]; exact hG
  obtain ⟨qk, hqk⟩ : ∃ k : Nat, ([(o, .inr (7, [.ref q0, .ref q1, .ref q2, .ref r_0, .ref s_1, .ref s_2, .ref u_3, .ref m_4, .ref g_5, .ref q9, .int 0, .long 0])), (q0, .inl (cy 3, 6, .inr (.inr (.inr (.inr (va_up (va_up (va_up (va_up (va_up (va_up (fun _ => none) 0 (some f_6)) 1 (some f_7)) 2 (some f_8)) 3 (some f_9)) 4 (some f_10)) 5 (some f_11))))))), (q1, .inl (cy 2, 4, .inr (.inr (.inr (.inr (va_up (va_up (va_up (va_up (fun _ => none) 0 (some b_12)) 1 (some b_13)) 2 (some b_14)) 3 (some b_15))))))), (q2, .inl (cy 4, 4, .inr (.inr (.inr (.inr (va_up (fun _ => none) 0 (some r_16)))))))] ++ Y12)[k]? = some (r_17, .inr (4, [.ref (p17 0), .int (fI i5 1)])) := List.mem_iff_getElem?.mp (List.mem_append_right _ (by rw [eY12]; exact List.mem_append_right _ List.mem_cons_self))
  refine gx_aast (ws' := [(o, .inr (7, [.ref q0, .ref q1, .ref q2, .ref r_0, .ref s_1, .ref s_2, .ref u_3, .ref m_4, .ref g_5, .ref q9, .int 0, .long 0])), (q0, .inl (cy 3, 6, .inr (.inr (.inr (.inr (va_up (va_up (va_up (va_up (va_up (va_up (fun _ => none) 0 (some f_6)) 1 (some f_7)) 2 (some f_8)) 3 (some f_9)) 4 (some f_10)) 5 (some f_11))))))), (q1, .inl (cy 2, 4, .inr (.inr (.inr (.inr (va_up (va_up (va_up (va_up (fun _ => none) 0 (some b_12)) 1 (some b_13)) 2 (some b_14)) 3 (some b_15))))))), (q2, .inl (cy 4, 4, .inr (.inr (.inr (.inr (va_up (va_up (fun _ => none) 0 (some r_16)) 1 (some r_17)))))))] ++ Y12) C hG 3 4 qk 4 rfl rfl hqk rfl (by unfold vp_in; decide) dX8_init_175 rfl (fun H locs hG => ?_)
  refine lv_iinc (v := 2) (lv' := [(1, .int 2), (0, .ref o)]) hx hb dX8_init_176 hl (k := 0) rfl (by decide) (by decide) rfl (fun ls hl => ?_)
  refine lv_goto (tgt := 158) hx hb dX8_init_179 (by decide) ?_
  refine lv_iload_n hx hb dX8_init_158 rfl (lv_at hl 0 rfl) ?_
  refine lv_iconst (v := 4) hx hb dX8_init_159 (by decide) ?_
  refine lv_icmp_ge (tgt := 182) hx hb dX8_init_160 (by decide) (fun c => absurd c (by decide)) (fun _ => ?_)
  refine lv_aload_n hx hb dX8_init_163 rfl (lv_at hl 1 rfl) ?_
  refine gx_get C i8_init_X8 hG 0 rfl rfl 2 (by decide) k8_init_23 rfl dX8_init_164 ?_
  refine lv_iload_n hx hb dX8_init_167 rfl (lv_at hl 0 rfl) ?_
  refine gx_new (fs := [.null, .int 0]) C hG i8_init_X5 tyX5 tyX5_ok k8_init_c21.1.1 k8_init_c21.1.2 k8_init_c21.2 (ci := 4) rfl (fun j hj => by rcases (show j = 0 ∨ j = 1 by omega) with rfl | rfl <;> rfl) (Nat.le_of_ble_eq_true rfl) (Nat.le_of_ble_eq_true rfl) dX8_init_168 (fun r_18 H hG => ?_)
  refine W.widen (k := 65) (n := 1600) (Nat.le_of_ble_eq_true rfl) (Nat.le_of_ble_eq_true rfl) ?_
  refine lv_dup hx hb dX8_init_171 rfl ?_
  refine callIC (ws := [(o, .inr (7, [.ref q0, .ref q1, .ref q2, .ref r_0, .ref s_1, .ref s_2, .ref u_3, .ref m_4, .ref g_5, .ref q9, .int 0, .long 0])), (q0, .inl (cy 3, 6, .inr (.inr (.inr (.inr (va_up (va_up (va_up (va_up (va_up (va_up (fun _ => none) 0 (some f_6)) 1 (some f_7)) 2 (some f_8)) 3 (some f_9)) 4 (some f_10)) 5 (some f_11))))))), (q1, .inl (cy 2, 4, .inr (.inr (.inr (.inr (va_up (va_up (va_up (va_up (fun _ => none) 0 (some b_12)) 1 (some b_13)) 2 (some b_14)) 3 (some b_15))))))), (q2, .inl (cy 4, 4, .inr (.inr (.inr (.inr (va_up (va_up (fun _ => none) 0 (some r_16)) 1 (some r_17)))))))] ++ Y12) (w0 := [(r_18, .inr (4, [.null, .int 0]))]) (rest := [.ref r_18, .int 2, .ref q2]) (host := "PaperBodies") C hG (c5_init l D cy r_18) gX8_init_X5_init_n27 rfl (by decide +kernel) k8_init_m27.1 k8_init_m27.2 rfl (by decide +kernel) ⟨⟨Nat.le_of_ble_eq_true rfl, Nat.le_of_ble_eq_true rfl⟩, rfl, rfl⟩ hl.1 rfl (Nat.le_of_ble_eq_true rfl) dX8_init_172 ⟨Nat.le_of_ble_eq_true rfl, Nat.le_of_ble_eq_true rfl⟩ (fun u H locs hq hG => ?_)
  obtain ⟨p18, S9⟩ := u
  replace hq : S9 = i5 := hq
  subst hq
  refine W.widen (k := 66) (n := 1624) (Nat.le_of_ble_eq_true rfl) (Nat.le_of_ble_eq_true rfl) ?_
  rw [List.append_assoc] at hG
  obtain ⟨Y13, eY13⟩ : ∃ Y : va_W, Y = Y12 ++ w5 r_18 p18 cy i5 := ⟨_, rfl⟩
  replace hG : GW D A s ([(o, .inr (7, [.ref q0, .ref q1, .ref q2, .ref r_0, .ref s_1, .ref s_2, .ref u_3, .ref m_4, .ref g_5, .ref q9, .int 0, .long 0])), (q0, .inl (cy 3, 6, .inr (.inr (.inr (.inr (va_up (va_up (va_up (va_up (va_up (va_up (fun _ => none) 0 (some f_6)) 1 (some f_7)) 2 (some f_8)) 3 (some f_9)) 4 (some f_10)) 5 (some f_11))))))), (q1, .inl (cy 2, 4, .inr (.inr (.inr (.inr (va_up (va_up (va_up (va_up (fun _ => none) 0 (some b_12)) 1 (some b_13)) 2 (some b_14)) 3 (some b_15))))))), (q2, .inl (cy 4, 4, .inr (.inr (.inr (.inr (va_up (va_up (fun _ => none) 0 (some r_16)) 1 (some r_17)))))))] ++ Y13) H locs := by rw [eY13]; exact hG
  obtain ⟨qk, hqk⟩ : ∃ k : Nat, ([(o, .inr (7, [.ref q0, .ref q1, .ref q2, .ref r_0, .ref s_1, .ref s_2, .ref u_3, .ref m_4, .ref g_5, .ref q9, .int 0, .long 0])), (q0, .inl (cy 3, 6, .inr (.inr (.inr (.inr (va_up (va_up (va_up (va_up (va_up (va_up (fun _ => none) 0 (some f_6)) 1 (some f_7)) 2 (some f_8)) 3 (some f_9)) 4 (some f_10)) 5 (some f_11))))))), (q1, .inl (cy 2, 4, .inr (.inr (.inr (.inr (va_up (va_up (va_up (va_up (fun _ => none) 0 (some b_12)) 1 (some b_13)) 2 (some b_14)) 3 (some b_15))))))), (q2, .inl (cy 4, 4, .inr (.inr (.inr (.inr (va_up (va_up (fun _ => none) 0 (some r_16)) 1 (some r_17)))))))] ++ Y13)[k]? = some (r_18, .inr (4, [.ref (p18 0), .int (fI i5 1)])) := List.mem_iff_getElem?.mp (List.mem_append_right _ (by rw [eY13]; exact List.mem_append_right _ List.mem_cons_self))
  refine gx_aast (ws' := [(o, .inr (7, [.ref q0, .ref q1, .ref q2, .ref r_0, .ref s_1, .ref s_2, .ref u_3, .ref m_4, .ref g_5, .ref q9, .int 0, .long 0])), (q0, .inl (cy 3, 6, .inr (.inr (.inr (.inr (va_up (va_up (va_up (va_up (va_up (va_up (fun _ => none) 0 (some f_6)) 1 (some f_7)) 2 (some f_8)) 3 (some f_9)) 4 (some f_10)) 5 (some f_11))))))), (q1, .inl (cy 2, 4, .inr (.inr (.inr (.inr (va_up (va_up (va_up (va_up (fun _ => none) 0 (some b_12)) 1 (some b_13)) 2 (some b_14)) 3 (some b_15))))))), (q2, .inl (cy 4, 4, .inr (.inr (.inr (.inr (va_up (va_up (va_up (fun _ => none) 0 (some r_16)) 1 (some r_17)) 2 (some r_18)))))))] ++ Y13) C hG 3 4 qk 4 rfl rfl hqk rfl (by unfold vp_in; decide) dX8_init_175 rfl (fun H locs hG => ?_)
  refine lv_iinc (v := 3) (lv' := [(1, .int 3), (0, .ref o)]) hx hb dX8_init_176 hl (k := 0) rfl (by decide) (by decide) rfl (fun ls hl => ?_)
  refine lv_goto (tgt := 158) hx hb dX8_init_179 (by decide) ?_
  refine lv_iload_n hx hb dX8_init_158 rfl (lv_at hl 0 rfl) ?_
  refine lv_iconst (v := 4) hx hb dX8_init_159 (by decide) ?_
  refine lv_icmp_ge (tgt := 182) hx hb dX8_init_160 (by decide) (fun c => absurd c (by decide)) (fun _ => ?_)
  refine lv_aload_n hx hb dX8_init_163 rfl (lv_at hl 1 rfl) ?_
  refine gx_get C i8_init_X8 hG 0 rfl rfl 2 (by decide) k8_init_23 rfl dX8_init_164 ?_
  refine lv_iload_n hx hb dX8_init_167 rfl (lv_at hl 0 rfl) ?_
  refine gx_new (fs := [.null, .int 0]) C hG i8_init_X5 tyX5 tyX5_ok k8_init_c21.1.1 k8_init_c21.1.2 k8_init_c21.2 (ci := 4) rfl (fun j hj => by rcases (show j = 0 ∨ j = 1 by omega) with rfl | rfl <;> rfl) (Nat.le_of_ble_eq_true rfl) (Nat.le_of_ble_eq_true rfl) dX8_init_168 (fun r_19 H hG => ?_)
  refine W.widen (k := 67) (n := 1626) (Nat.le_of_ble_eq_true rfl) (Nat.le_of_ble_eq_true rfl) ?_
  refine lv_dup hx hb dX8_init_171 rfl ?_
  refine callIC (ws := [(o, .inr (7, [.ref q0, .ref q1, .ref q2, .ref r_0, .ref s_1, .ref s_2, .ref u_3, .ref m_4, .ref g_5, .ref q9, .int 0, .long 0])), (q0, .inl (cy 3, 6, .inr (.inr (.inr (.inr (va_up (va_up (va_up (va_up (va_up (va_up (fun _ => none) 0 (some f_6)) 1 (some f_7)) 2 (some f_8)) 3 (some f_9)) 4 (some f_10)) 5 (some f_11))))))), (q1, .inl (cy 2, 4, .inr (.inr (.inr (.inr (va_up (va_up (va_up (va_up (fun _ => none) 0 (some b_12)) 1 (some b_13)) 2 (some b_14)) 3 (some b_15))))))), (q2, .inl (cy 4, 4, .inr (.inr (.inr (.inr (va_up (va_up (va_up (fun _ => none) 0 (some r_16)) 1 (some r_17)) 2 (some r_18)))))))] ++ Y13) (w0 := [(r_19, .inr (4, [.null, .int 0]))]) (rest := [.ref r_19, .int 3, .ref q2]) (host := "PaperBodies") C hG (c5_init l D cy r_19) gX8_init_X5_init_n27 rfl (by decide +kernel) k8_init_m27.1 k8_init_m27.2 rfl (by decide +kernel) ⟨⟨Nat.le_of_ble_eq_true rfl, Nat.le_of_ble_eq_true rfl⟩, rfl, rfl⟩ hl.1 rfl (Nat.le_of_ble_eq_true rfl) dX8_init_172 ⟨Nat.le_of_ble_eq_true rfl, Nat.le_of_ble_eq_true rfl⟩ (fun u H locs hq hG => ?_)
  obtain ⟨p19, S9⟩ := u
  replace hq : S9 = i5 := hq
  subst hq
  refine W.widen (k := 68) (n := 1650) (Nat.le_of_ble_eq_true rfl) (Nat.le_of_ble_eq_true rfl) ?_
  rw [List.append_assoc] at hG
  obtain ⟨Y14, eY14⟩ : ∃ Y : va_W, Y = Y13 ++ w5 r_19 p19 cy i5 := ⟨_, rfl⟩
  replace hG : GW D A s ([(o, .inr (7, [.ref q0, .ref q1, .ref q2, .ref r_0, .ref s_1, .ref s_2, .ref u_3, .ref m_4, .ref g_5, .ref q9, .int 0, .long 0])), (q0, .inl (cy 3, 6, .inr (.inr (.inr (.inr (va_up (va_up (va_up (va_up (va_up (va_up (fun _ => none) 0 (some f_6)) 1 (some f_7)) 2 (some f_8)) 3 (some f_9)) 4 (some f_10)) 5 (some f_11))))))), (q1, .inl (cy 2, 4, .inr (.inr (.inr (.inr (va_up (va_up (va_up (va_up (fun _ => none) 0 (some b_12)) 1 (some b_13)) 2 (some b_14)) 3 (some b_15))))))), (q2, .inl (cy 4, 4, .inr (.inr (.inr (.inr (va_up (va_up (va_up (fun _ => none) 0 (some r_16)) 1 (some r_17)) 2 (some r_18)))))))] ++ Y14) H locs := by rw [eY14]; exact hG
  obtain ⟨qk, hqk⟩ : ∃ k : Nat, ([(o, .inr (7, [.ref q0, .ref q1, .ref q2, .ref r_0, .ref s_1, .ref s_2, .ref u_3, .ref m_4, .ref g_5, .ref q9, .int 0, .long 0])), (q0, .inl (cy 3, 6, .inr (.inr (.inr (.inr (va_up (va_up (va_up (va_up (va_up (va_up (fun _ => none) 0 (some f_6)) 1 (some f_7)) 2 (some f_8)) 3 (some f_9)) 4 (some f_10)) 5 (some f_11))))))), (q1, .inl (cy 2, 4, .inr (.inr (.inr (.inr (va_up (va_up (va_up (va_up (fun _ => none) 0 (some b_12)) 1 (some b_13)) 2 (some b_14)) 3 (some b_15))))))), (q2, .inl (cy 4, 4, .inr (.inr (.inr (.inr (va_up (va_up (va_up (fun _ => none) 0 (some r_16)) 1 (some r_17)) 2 (some r_18)))))))] ++ Y14)[k]? = some (r_19, .inr (4, [.ref (p19 0), .int (fI i5 1)])) := List.mem_iff_getElem?.mp (List.mem_append_right _ (by rw [eY14]; exact List.mem_append_right _ List.mem_cons_self))
  refine gx_aast (ws' := [(o, .inr (7, [.ref q0, .ref q1, .ref q2, .ref r_0, .ref s_1, .ref s_2, .ref u_3, .ref m_4, .ref g_5, .ref q9, .int 0, .long 0])), (q0, .inl (cy 3, 6, .inr (.inr (.inr (.inr (va_up (va_up (va_up (va_up (va_up (va_up (fun _ => none) 0 (some f_6)) 1 (some f_7)) 2 (some f_8)) 3 (some f_9)) 4 (some f_10)) 5 (some f_11))))))), (q1, .inl (cy 2, 4, .inr (.inr (.inr (.inr (va_up (va_up (va_up (va_up (fun _ => none) 0 (some b_12)) 1 (some b_13)) 2 (some b_14)) 3 (some b_15))))))), (q2, .inl (cy 4, 4, .inr (.inr (.inr (.inr (va_up (va_up (va_up (va_up (fun _ => none) 0 (some r_16)) 1 (some r_17)) 2 (some r_18)) 3 (some r_19)))))))] ++ Y14) C hG 3 4 qk 4 rfl rfl hqk rfl (by unfold vp_in; decide) dX8_init_175 rfl (fun H locs hG => ?_)
  refine lv_iinc (v := 4) (lv' := [(1, .int 4), (0, .ref o)]) hx hb dX8_init_176 hl (k := 0) rfl (by decide) (by decide) rfl (fun ls hl => ?_)
  refine lv_goto (tgt := 158) hx hb dX8_init_179 (by decide) ?_
  refine lv_iload_n hx hb dX8_init_158 rfl (lv_at hl 0 rfl) ?_
  refine lv_iconst (v := 4) hx hb dX8_init_159 (by decide) ?_
  refine lv_icmp_ge (tgt := 182) hx hb dX8_init_160 (by decide) (fun _ => ?_) (fun c => absurd (by decide) c)
  simp only [eY14, eY13, eY12, eY11, eY10, eY9, eY8, eY7, eY6, eY5, eY4, eY3, eY2, eY1, eY0, List.append_assoc] at hG
  have pp := (List.perm_append_comm (l₁ := w5 r_0 p0 cy i5 ++ (w6 s_1 p1 cy i6 ++ (w6 s_2 p2 cy i6 ++ (w7 u_3 p3 cy i7 ++ (w4 m_4 p4 cy i4 ++ (w3 g_5 p5 cy i3)))))) (l₂ := [(q9, .inl (cy 0, 6, .inl (fun _ => 0)))] ++ (w2 f_6 p6 cy i2 ++ (w2 f_7 p7 cy i2 ++ (w2 f_8 p8 cy i2 ++ (w2 f_9 p9 cy i2 ++ (w2 f_10 p10 cy i2 ++ (w2 f_11 p11 cy i2 ++ (w1 b_12 p12 cy i1 ++ (w1 b_13 p13 cy i1 ++ (w1 b_14 p14 cy i1 ++ (w1 b_15 p15 cy i1 ++ (w5 r_16 p16 cy i5 ++ (w5 r_17 p17 cy i5 ++ (w5 r_18 p18 cy i5 ++ (w5 r_19 p19 cy i5)))))))))))))))).append_left ([(o, .inr (7, [.ref q0, .ref q1, .ref q2, .ref r_0, .ref s_1, .ref s_2, .ref u_3, .ref m_4, .ref g_5, .ref q9, .int 0, .long 0])), (q0, .inl (cy 3, 6, .inr (.inr (.inr (.inr (va_up (va_up (va_up (va_up (va_up (va_up (fun _ => none) 0 (some f_6)) 1 (some f_7)) 2 (some f_8)) 3 (some f_9)) 4 (some f_10)) 5 (some f_11))))))), (q1, .inl (cy 2, 4, .inr (.inr (.inr (.inr (va_up (va_up (va_up (va_up (fun _ => none) 0 (some b_12)) 1 (some b_13)) 2 (some b_14)) 3 (some b_15))))))), (q2, .inl (cy 4, 4, .inr (.inr (.inr (.inr (va_up (va_up (va_up (va_up (fun _ => none) 0 (some r_16)) 1 (some r_17)) 2 (some r_18)) 3 (some r_19)))))))])
  simp only [List.append_assoc] at pp
  replace hG := hG.perm pp
  obtain ⟨Y, eY⟩ : ∃ Y : va_W, Y = [(q9, .inl (cy 0, 6, .inl (fun _ => 0)))] ++ (w2 f_6 p6 cy i2 ++ (w2 f_7 p7 cy i2 ++ (w2 f_8 p8 cy i2 ++ (w2 f_9 p9 cy i2 ++ (w2 f_10 p10 cy i2 ++ (w2 f_11 p11 cy i2 ++ (w1 b_12 p12 cy i1 ++ (w1 b_13 p13 cy i1 ++ (w1 b_14 p14 cy i1 ++ (w1 b_15 p15 cy i1 ++ (w5 r_16 p16 cy i5 ++ (w5 r_17 p17 cy i5 ++ (w5 r_18 p18 cy i5 ++ (w5 r_19 p19 cy i5 ++ (w5 r_0 p0 cy i5 ++ (w6 s_1 p1 cy i6 ++ (w6 s_2 p2 cy i6 ++ (w7 u_3 p3 cy i7 ++ (w4 m_4 p4 cy i4 ++ (w3 g_5 p5 cy i3)))))))))))))))))))) := ⟨_, rfl⟩
  replace hG : GW D A s ([(o, .inr (7, [.ref q0, .ref q1, .ref q2, .ref r_0, .ref s_1, .ref s_2, .ref u_3, .ref m_4, .ref g_5, .ref q9, .int 0, .long 0])), (q0, .inl (cy 3, 6, .inr (.inr (.inr (.inr (va_up (va_up (va_up (va_up (va_up (va_up (fun _ => none) 0 (some f_6)) 1 (some f_7)) 2 (some f_8)) 3 (some f_9)) 4 (some f_10)) 5 (some f_11))))))), (q1, .inl (cy 2, 4, .inr (.inr (.inr (.inr (va_up (va_up (va_up (va_up (fun _ => none) 0 (some b_12)) 1 (some b_13)) 2 (some b_14)) 3 (some b_15))))))), (q2, .inl (cy 4, 4, .inr (.inr (.inr (.inr (va_up (va_up (va_up (va_up (fun _ => none) 0 (some r_16)) 1 (some r_17)) 2 (some r_18)) 3 (some r_19)))))))] ++ Y) H locs := by rw [eY]; exact hG
  obtain ⟨oa, eoa⟩ : ∃ f : Nat → Nat, f = (fun k : Nat => match k with | 0 => f_6 | 1 => f_7 | 2 => f_8 | 3 => f_9 | 4 => f_10 | 5 => f_11 | 6 => b_12 | 7 => b_13 | 8 => b_14 | 9 => b_15 | 10 => r_16 | 11 => r_17 | 12 => r_18 | 13 => r_19 | 14 => r_0 | 15 => s_1 | 16 => s_2 | 17 => u_3 | 18 => m_4 | _ => g_5) := ⟨_, rfl⟩
  replace hG := GW.refs (l1 := [(o, .inr (7, [.ref q0, .ref q1, .ref q2, .ref r_0, .ref s_1, .ref s_2, .ref u_3, .ref m_4, .ref g_5, .ref q9, .int 0, .long 0]))]) (l2 := [(q1, .inl (cy 2, 4, .inr (.inr (.inr (.inr (va_up (va_up (va_up (va_up (fun _ => none) 0 (some b_12)) 1 (some b_13)) 2 (some b_14)) 3 (some b_15))))))), (q2, .inl (cy 4, 4, .inr (.inr (.inr (.inr (va_up (va_up (va_up (va_up (fun _ => none) 0 (some r_16)) 1 (some r_17)) 2 (some r_18)) 3 (some r_19)))))))] ++ Y) (a := q0) (cA := cy 3) (n := 6) (g := fun i => some (oa i)) (fun j hj => by subst eoa; rcases (show j = 0 ∨ j = 1 ∨ j = 2 ∨ j = 3 ∨ j = 4 ∨ j = 5 by omega) with rfl | rfl | rfl | rfl | rfl | rfl <;> rfl) hG
  replace hG := GW.refs (l1 := [(o, .inr (7, [.ref q0, .ref q1, .ref q2, .ref r_0, .ref s_1, .ref s_2, .ref u_3, .ref m_4, .ref g_5, .ref q9, .int 0, .long 0])), (q0, .inl (cy 3, 6, .inr (.inr (.inr (.inr (fun i => some (oa i)))))))]) (l2 := [(q2, .inl (cy 4, 4, .inr (.inr (.inr (.inr (va_up (va_up (va_up (va_up (fun _ => none) 0 (some r_16)) 1 (some r_17)) 2 (some r_18)) 3 (some r_19)))))))] ++ Y) (a := q1) (cA := cy 2) (n := 4) (g := fun i => some (oa (6 + i))) (fun j hj => by subst eoa; rcases (show j = 0 ∨ j = 1 ∨ j = 2 ∨ j = 3 by omega) with rfl | rfl | rfl | rfl <;> rfl) hG
  replace hG := GW.refs (l1 := [(o, .inr (7, [.ref q0, .ref q1, .ref q2, .ref r_0, .ref s_1, .ref s_2, .ref u_3, .ref m_4, .ref g_5, .ref q9, .int 0, .long 0])), (q0, .inl (cy 3, 6, .inr (.inr (.inr (.inr (fun i => some (oa i))))))), (q1, .inl (cy 2, 4, .inr (.inr (.inr (.inr (fun i => some (oa (6 + i))))))))]) (l2 := [] ++ Y) (a := q2) (cA := cy 4) (n := 4) (g := fun i => some (oa (10 + i))) (fun j hj => by subst eoa; rcases (show j = 0 ∨ j = 1 ∨ j = 2 ∨ j = 3 by omega) with rfl | rfl | rfl | rfl <;> rfl) hG
  replace hG : GW D A s ([(o, .inr (7, [.ref q0, .ref q1, .ref q2, .ref r_0, .ref s_1, .ref s_2, .ref u_3, .ref m_4, .ref g_5, .ref q9, .int 0, .long 0])), (q0, .inl (cy 3, 6, .inr (.inr (.inr (.inr (fun i => some (oa i))))))), (q1, .inl (cy 2, 4, .inr (.inr (.inr (.inr (fun i => some (oa (6 + i)))))))), (q2, .inl (cy 4, 4, .inr (.inr (.inr (.inr (fun i => some (oa (10 + i))))))))] ++ Y) H locs := hG
  rw [eY] at hG
  replace hG : GW D A s ([(o, .inr (7, [.ref q0, .ref q1, .ref q2, .ref r_0, .ref s_1, .ref s_2, .ref u_3, .ref m_4, .ref g_5, .ref q9, .int 0, .long 0])), (q0, .inl (cy 3, 6, .inr (.inr (.inr (.inr (fun i => some (oa i))))))), (q1, .inl (cy 2, 4, .inr (.inr (.inr (.inr (fun i => some (oa (6 + i)))))))), (q2, .inl (cy 4, 4, .inr (.inr (.inr (.inr (fun i => some (oa (10 + i)))))))), (q9, .inl (cy 0, 6, .inl (fun _ => 0)))] ++ (w2 f_6 p6 cy i2 ++ (w2 f_7 p7 cy i2 ++ (w2 f_8 p8 cy i2 ++ (w2 f_9 p9 cy i2 ++ (w2 f_10 p10 cy i2 ++ (w2 f_11 p11 cy i2 ++ (w1 b_12 p12 cy i1 ++ (w1 b_13 p13 cy i1 ++ (w1 b_14 p14 cy i1 ++ (w1 b_15 p15 cy i1 ++ (w5 r_16 p16 cy i5 ++ (w5 r_17 p17 cy i5 ++ (w5 r_18 p18 cy i5 ++ (w5 r_19 p19 cy i5 ++ (w5 r_0 p0 cy i5 ++ (w6 s_1 p1 cy i6 ++ (w6 s_2 p2 cy i6 ++ (w7 u_3 p3 cy i7 ++ (w4 m_4 p4 cy i4 ++ (w3 g_5 p5 cy i3))))))))))))))))))))) H locs := hG
  subst eoa
  have hG : GW D A s (wP o (fun k : Nat => match k with | 0 => q0 | 1 => q1 | 2 => q2 | _ => q9) (fun k : Nat => match k with | 0 => f_6 | 1 => f_7 | 2 => f_8 | 3 => f_9 | 4 => f_10 | 5 => f_11 | 6 => b_12 | 7 => b_13 | 8 => b_14 | 9 => b_15 | 10 => r_16 | 11 => r_17 | 12 => r_18 | 13 => r_19 | 14 => r_0 | 15 => s_1 | 16 => s_2 | 17 => u_3 | 18 => m_4 | _ => g_5) (fun k : Nat => match k with | 0 => p6 | 1 => p7 | 2 => p8 | 3 => p9 | 4 => p10 | 5 => p11 | 6 => p12 | 7 => p13 | 8 => p14 | 9 => p15 | 10 => p16 | 11 => p17 | 12 => p18 | 13 => p19 | 14 => p0 | 15 => p1 | 16 => p2 | 17 => p3 | 18 => p4 | _ => p5) cy i8 X8i) H locs := by
    rw [wP_list]
    exact hG
  refine lv_aload_n hx hb dX8_init_182 rfl (lv_at hl 1 rfl) ?_
  refine gx_get C i8_init_X8 hG 0 rfl rfl 3 (by decide) k8_init_28 rfl dX8_init_183 ?_
  refine lv_iconst (v := 0) hx hb dX8_init_186 (by decide) ?_
  refine callVV (As := [.int 0]) (rest := []) C hG (c5_begin l D cy r_0 p0 0 i5 _ h) 1 gX8_init_X5_begin rfl (by decide +kernel) ⟨⟨Nat.le_of_ble_eq_true rfl, Nat.le_of_ble_eq_true rfl⟩, rfl, rfl⟩ rfl rfl (fo_5 (k0 := 14) C.2.2.2.2.2.2.2.2.1 ⟨by decide, by decide⟩) rfl hl.1 rfl (Nat.le_of_ble_eq_true rfl) dX8_init_187 ⟨Nat.le_of_ble_eq_true rfl, Nat.le_of_ble_eq_true rfl⟩ (fun S1 H locs h hG => ?_)
  exact retC (w := (fun u : (Nat → Nat) × (Nat → Nat) × (Nat → Nat → Nat) × (Nat → MS) => wP o u.1 u.2.1 u.2.2.1 cy i8 u.2.2.2)) (S := ((fun k : Nat => match k with | 0 => q0 | 1 => q1 | 2 => q2 | _ => q9), (fun k : Nat => match k with | 0 => f_6 | 1 => f_7 | 2 => f_8 | 3 => f_9 | 4 => f_10 | 5 => f_11 | 6 => b_12 | 7 => b_13 | 8 => b_14 | 9 => b_15 | 10 => r_16 | 11 => r_17 | 12 => r_18 | 13 => r_19 | 14 => r_0 | 15 => s_1 | 16 => s_2 | 17 => u_3 | 18 => m_4 | _ => g_5), (fun k : Nat => match k with | 0 => p6 | 1 => p7 | 2 => p8 | 3 => p9 | 4 => p10 | 5 => p11 | 6 => p12 | 7 => p13 | 8 => p14 | 9 => p15 | 10 => p16 | 11 => p17 | 12 => p18 | 13 => p19 | 14 => p0 | 15 => p1 | 16 => p2 | 17 => p3 | 18 => p4 | _ => p5), va_up X8i 14 S1)) (Qp := (fun u => Q u.2.2.2)) C hG h dX8_init_190
