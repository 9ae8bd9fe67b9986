/-! ===== my base: states, worlds, loops, wrapped rows ===== -/
/-- the state of an object with arrays of its own: int fields, long fields, int arrays, long arrays, by slot -/
abbrev MS : Type := (Nat → Int32) × (Nat → Int64) × (Nat → Nat → Int32) × (Nat → Nat → Int64)
def fI (S : MS) (k : Nat) : Int32 := S.1 k
def fJ (S : MS) (k : Nat) : Int64 := S.2.1 k
def aI (S : MS) (k : Nat) : Nat → Int32 := S.2.2.1 k
def aJ (S : MS) (k : Nat) : Nat → Int64 := S.2.2.2 k
def rA (S : MS) (k : Nat) (i : Int32) : Int32 := aI S k i.toNatClampNeg
def rL (S : MS) (k : Nat) (i : Int32) : Int64 := aJ S k i.toNatClampNeg
def sI (S : MS) (k : Nat) (v : Int32) : MS := (va_up S.1 k v, S.2.1, S.2.2.1, S.2.2.2)
def sJ (S : MS) (k : Nat) (v : Int64) : MS := (S.1, va_up S.2.1 k v, S.2.2.1, S.2.2.2)
def pA (S : MS) (k : Nat) (f : Nat → Int32) : MS := (S.1, S.2.1, va_up S.2.2.1 k f, S.2.2.2)
def pL (S : MS) (k : Nat) (f : Nat → Int64) : MS := (S.1, S.2.1, S.2.2.1, va_up S.2.2.2 k f)
def sA (S : MS) (k : Nat) (i : Int32) (v : Int32) : MS := pA S k (upd (aI S k) i.toNatClampNeg v)
def sL (S : MS) (k : Nat) (i : Int32) (v : Int64) : MS := pL S k (vp_updL (aJ S k) i.toNatClampNeg v)
/-- loops: a step F, that goes on by its first argument; so many rounds -/
def itr {α : Type} (F : (α → Prop) → α → Prop) : Nat → α → Prop
  | 0, _ => False
  | n + 1, a => F (itr F n) a
def lp {α : Type} (F : (α → Prop) → α → Prop) (a : α) : Prop := ∃ n, itr F n a
theorem lp_of {α : Type} {F : (α → Prop) → α → Prop} (I : α → Prop) (μ : α → Nat) (hs : ∀ (K : α → Prop) (a : α), I a → (∀ b, I b → μ b < μ a → K b) → F K a) {a : α} (h : I a) : lp F a := by
  have key : ∀ (n : Nat) (a : α), I a → μ a < n → itr F n a := by
    intro n
    induction n with
    | zero => intro a _ h; exact absurd h (Nat.not_lt_zero _)
    | succ n ih => intro a ha hn; exact hs _ a ha (fun b hb hlt => ih b hb (by omega))
  exact ⟨μ a + 1, key _ a h (Nat.lt_succ_self _)⟩
/-- the array classes -/
def TY (cy : Nat → ClassId) : List (ClassId × FieldType) := [(cy 0, .int), (cy 1, .long), (cy 2, .object "PaperBodies$Box"), (cy 3, .object "PaperBodies$Figure"), (cy 4, .object "PaperBodies$Row")]
/-- a world in a heap -/
def GW (D : va_G) (A : Nat → Prop) (s : State) (ws : va_W) (H : Heap) (locs : List Loc) : Prop := va_P D vwCl ws H ∧ va_D A ws ∧ va_S A s.heap H locs
/-- words that hold at any time -/
def NW (ns : List Cond) (U : State) : Prop := ∀ w ∈ ns, va_Nw w U
def nestW (w : Cond) : Prop := (∃ a i b n d h, w = .fieldLinkNest a i b n d h) ∨ (∃ a i x h, w = .methodLinkNest a i x h)
theorem NW.moved {ns : List Cond} {s U : State} (hn : ∀ w ∈ ns, nestW w) (h : NW ns s) (hW : s.WarmedH U.vm) : NW ns U := by
  intro w hw
  rcases hn w hw with ⟨a, i, b, n, d, h', rfl⟩ | ⟨a, i, x, h', rfl⟩
  · exact va_Nw.warmF hW (h _ hw)
  · exact va_Nw.warmM hW (h _ hw)
theorem NW.same {ns : List Cond} {s U : State} (hn : ∀ w ∈ ns, nestW w) (h : NW ns s) (hv : s.vm = U.vm) : NW ns U := by
  intro w hw
  rcases hn w hw with ⟨a, i, b, n, d, h', rfl⟩ | ⟨a, i, x, h', rfl⟩
  · exact va_Nw.same rfl hv (h _ hw)
  · exact va_Nw.same rfl hv (h _ hw)
def nestWs : List Cond := [.fieldLinkNest "PaperBodies$Sheet" 81 "PaperBodies$Row" "places" "[I" "PaperBodies", .fieldLinkNest "PaperBodies$Gluer" 111 "PaperBodies$Row" "places" "[I" "PaperBodies", .fieldLinkNest "PaperBodies" 264 "PaperBodies$Row" "places" "[I" "PaperBodies", .fieldLinkNest "PaperBodies$Gluer" 106 "PaperBodies$Row" "size" "I" "PaperBodies", .fieldLinkNest "PaperBodies" 278 "PaperBodies$Row" "size" "I" "PaperBodies", .fieldLinkNest "PaperBodies" 186 "PaperBodies$Sheet" "laid" "I" "PaperBodies", .fieldLinkNest "PaperBodies" 318 "PaperBodies$Sheet" "set" "J" "PaperBodies", .fieldLinkNest "PaperBodies$Gluer" 47 "PaperBodies$Rim" "length" "I" "PaperBodies", .fieldLinkNest "PaperBodies" 218 "PaperBodies$Rim" "length" "I" "PaperBodies", .fieldLinkNest "PaperBodies" 231 "PaperBodies$Gluer" "legalOnes" "I" "PaperBodies", .fieldLinkNest "PaperBodies" 255 "PaperBodies$Gluer" "triesMade" "I" "PaperBodies", .fieldLinkNest "PaperBodies" 122 "PaperBodies$Figure" "kind" "I" "PaperBodies", .fieldLinkNest "PaperBodies" 125 "PaperBodies$Figure" "set" "J" "PaperBodies", .fieldLinkNest "PaperBodies" 141 "PaperBodies$Figure" "leastCell" "I" "PaperBodies", .fieldLinkNest "PaperBodies" 144 "PaperBodies$Figure" "boxLength" "I" "PaperBodies", .fieldLinkNest "PaperBodies$Sheet" 34 "PaperBodies$Box" "cells" "I" "PaperBodies", .fieldLinkNest "PaperBodies" 118 "PaperBodies$Box" "cells" "I" "PaperBodies", .methodLinkNest "PaperBodies" 27 ⟨"PaperBodies$Row", "<init>", "()V"⟩ "PaperBodies", .methodLinkNest "PaperBodies" 34 ⟨"PaperBodies$Sheet", "<init>", "()V"⟩ "PaperBodies", .methodLinkNest "PaperBodies" 44 ⟨"PaperBodies$Unfolding", "<init>", "()V"⟩ "PaperBodies", .methodLinkNest "PaperBodies" 51 ⟨"PaperBodies$Rim", "<init>", "()V"⟩ "PaperBodies", .methodLinkNest "PaperBodies" 58 ⟨"PaperBodies$Gluer", "<init>", "()V"⟩ "PaperBodies", .methodLinkNest "PaperBodies" 67 ⟨"PaperBodies$Figure", "<init>", "()V"⟩ "PaperBodies", .methodLinkNest "PaperBodies" 68 ⟨"PaperBodies$Box", "<init>", "()V"⟩ "PaperBodies", .methodLinkNest "PaperBodies$Box" 34 ⟨"PaperBodies", "within", "(III)Z"⟩ "PaperBodies", .methodLinkNest "PaperBodies$Box" 42 ⟨"PaperBodies", "frameOf", "(II)I"⟩ "PaperBodies", .methodLinkNest "PaperBodies$Sheet" 90 ⟨"PaperBodies", "isSquare", "(I)Z"⟩ "PaperBodies", .methodLinkNest "PaperBodies$Sheet" 93 ⟨"PaperBodies", "within", "(III)Z"⟩ "PaperBodies", .methodLinkNest "PaperBodies$Board" 15 ⟨"PaperBodies", "isSquare", "(I)Z"⟩ "PaperBodies", .methodLinkNest "PaperBodies$Board" 21 ⟨"PaperBodies", "within", "(III)Z"⟩ "PaperBodies", .methodLinkNest "PaperBodies$Gluer" 37 ⟨"PaperBodies", "within", "(III)Z"⟩ "PaperBodies"]
theorem nestWs_ok : ∀ w ∈ nestWs, nestW w := by
  intro w h
  simp only [nestWs, List.mem_cons, List.not_mem_nil, or_false] at h
  rcases h with rfl | rfl | rfl | rfl | rfl | rfl | rfl | rfl | rfl | rfl | rfl | rfl | rfl | rfl | rfl | rfl | rfl | rfl | rfl | rfl | rfl | rfl | rfl | rfl | rfl | rfl | rfl | rfl | rfl | rfl | rfl
  all_goals first | exact Or.inl ⟨_, _, _, _, _, _, rfl⟩ | exact Or.inr ⟨_, _, _, _, rfl⟩
/-- the four tables of the boxes -/
def tbR (j : Nat) : Int32 := match j with | 0 => 2 | 1 => 3 | 2 => 1 | 3 => 0 | 4 => 0 | _ => 1
def tbU (j : Nat) : Int32 := match j with | 0 => 5 | 1 => 5 | 2 => 5 | 3 => 5 | 4 => 3 | _ => 3
def tbF (j : Nat) : Int32 := match j with | 0 => 1 | 1 => 0 | _ => 0
def tbO (j : Nat) : Int32 := match j with | 0 => 2 | 1 => 2 | _ => 1
def TB1 (n : String) (N : Nat) (f : Nat → Int32) (A : Nat → Prop) (U : State) (H : Heap) : Prop := ∃ t : Nat, va_Z "PaperBodies$Box" n "[I" (.ref t) A U H ∧ va_T .int t N (fun j => .int (f j)) A U H
def TB (A : Nat → Prop) (U : State) (H : Heap) : Prop := TB1 "RIGHT" 6 tbR A U H ∧ TB1 "UP" 6 tbU A U H ∧ TB1 "FIRST_LETTER" 3 tbF A U H ∧ TB1 "OTHER_LETTER" 3 tbO A U H
theorem TB1.go {n : String} {N : Nat} {f : Nat → Int32} {A B : Nat → Prop} {s U : State} {H H1 : Heap} (h : TB1 n N f A s H) (hq : ∀ a : Nat, a < H.size → ¬ A a → H1[a]? = H[a]?) (hAB : ∀ q, B q → A q) (hvm : s.vm.Alike U.vm) : TB1 n N f B U H1 := by
  obtain ⟨t, h1, h2⟩ := h
  exact ⟨t, ((h1.kept hq).narrow hAB).moved hvm, ((h2.kept hq).narrow hAB).moved hvm⟩
theorem TB.go {A B : Nat → Prop} {s U : State} {H H1 : Heap} (h : TB A s H) (hq : ∀ a : Nat, a < H.size → ¬ A a → H1[a]? = H[a]?) (hAB : ∀ q, B q → A q) (hvm : s.vm.Alike U.vm) : TB B U H1 :=
  ⟨h.1.go hq hAB hvm, h.2.1.go hq hAB hvm, h.2.2.1.go hq hAB hvm, h.2.2.2.go hq hAB hvm⟩
/-- what a method's body stands on -/
def Cx (p : Program) (s : State) (m : MethodId) (args : Array Value) (meth : Method) (c : Code) (cc : ByteArray) (nL : Nat) (ret : Option FieldType) (Ts : List Cond) (own : String) (D : va_G) (cy : Nat → ClassId) (ns : List Cond) (A : Nat → Prop) : Prop :=
  p.tables.exec = Jvm.exec ∧ c.code = cc ∧ c.maxLocals = nL ∧ s.vm.findClass own = some m.cls ∧ (∀ w ∈ Ts, w.before args s = true) ∧ meth.sig.returnType = ret ∧ meth.locks = false ∧ va_K D vwCl (TY cy) s ∧ (∀ q : Nat, s.heap.size ≤ q → A q) ∧ NW ns s ∧ (∀ w ∈ ns, nestW w) ∧ TB A s s.heap
def P1 (D : va_G) (cy : Nat → ClassId) (ns : List Cond) (ws : va_W) (sz : Nat) : State → Prop := fun U => U.heap.size = sz ∧ va_P D vwCl ws U.heap ∧ va_K D vwCl (TY cy) U ∧ NW ns U ∧ va_D (fun _ => True) ws ∧ TB (va_A ws sz) U U.heap
def B1 (D : va_G) {σ : Type} (w : σ → va_W) (A : Nat → Prop) : σ → State → Prop := fun S t => va_P D vwCl (w S) t.heap ∧ va_D A (w S)
def MetI (l : Launch) (y : MethodName) (ws : List Cond) (rm : Room) (D : va_G) (cy : Nat → ClassId) (ns : List Cond) {σ : Type} (w : σ → va_W) (av : List Value) (S : σ) (Q : Int32 → σ → Prop) : Prop :=
  ∀ sz, Met l y ws rm (va_Pc av (P1 D cy ns (w S) sz)) (va_Qi Q (B1 D w (va_A (w S) sz)) (va_A (w S) sz)) 0 0 (va_A (w S) sz)
def MetL (l : Launch) (y : MethodName) (ws : List Cond) (rm : Room) (D : va_G) (cy : Nat → ClassId) (ns : List Cond) {σ : Type} (w : σ → va_W) (av : List Value) (S : σ) (Q : Int64 → σ → Prop) : Prop :=
  ∀ sz, Met l y ws rm (va_Pc av (P1 D cy ns (w S) sz)) (va_Ql Q (B1 D w (va_A (w S) sz)) (va_A (w S) sz)) 0 0 (va_A (w S) sz)
def MetV (l : Launch) (y : MethodName) (ws : List Cond) (rm : Room) (D : va_G) (cy : Nat → ClassId) (ns : List Cond) {σ : Type} (w : σ → va_W) (av : List Value) (S : σ) (Q : σ → Prop) : Prop :=
  ∀ sz, Met l y ws rm (va_Pc av (P1 D cy ns (w S) sz)) (va_Qv Q (B1 D w (va_A (w S) sz)) (va_A (w S) sz)) 0 0 (va_A (w S) sz)
theorem P1.blind {D : va_G} {cy : Nat → ClassId} {ns : List Cond} (hn : ∀ w ∈ ns, nestW w) {ws : va_W} {sz : Nat} {av : List Value} : FrameBlind (va_Pc av (P1 D cy ns ws sz)) := by
  intro a U g mk q
  obtain ⟨q0, q1, qP, qK, qN, qD, qT⟩ := q
  exact ⟨q0, q1, qP, va_K.moved (u := U) (U := U.calling g mk a) (Vm.Alike.refl U.vm) qK, NW.same hn qN rfl, qD, TB.go (U := U.calling g mk a) (H1 := U.heap) qT (fun _ _ _ => rfl) (fun _ h => h) (Vm.Alike.refl U.vm)⟩
section BodyRows
variable {l : Launch} {y : MethodName} {ws ws' : List Cond} {rm : Room} {D : va_G} {cy : Nat → ClassId} {ns : List Cond} {σ : Type} {w : σ → va_W} {av : List Value} {S : σ}
theorem MetI.mk {Q : Int32 → σ → Prop} (own : String) (cc : ByteArray) (maxL : Nat) (ty : FieldType) (hy : plainName y.cls = true) (hw : ws = Cond.code y cc maxL (some ty) :: ws') (hn : ∀ w ∈ ns, nestW w) (hown : y.cls = own) (hlen : (lg_sl av).length ≤ maxL)
    (body : ∀ p e s m below meth c A ls, Cx p s m av.toArray meth c cc maxL (some ty) ws own D cy ns A → GW D A s (w S) s.heap [] → lv_has ls maxL (lv_args 0 av) →
      W p l e rm s m av.toArray below meth c s.heap [] 0 0 (MQ below (va_Qi Q (B1 D w A) A) av.toArray s 0 0 A) (F0 m 0 ls [])) : MetI l y ws rm D cy ns w av S Q := by
  intro sz
  refine Met.ofW (cc := cc) (maxL := maxL) (ret := some ty) hy hw ?_
  intro p e s m args below meth c s₁ B hml hv
  obtain ⟨rfl, hsz, hP, hK, hN, hD0, hT⟩ := hv
  have hts := atoms_spec (ws := ws) B.pre
  have hown' : s.vm.findClass own = some m.cls := hown ▸ findClass_of_methodNamed B.named
  subst hsz
  have hD := hD0.self (sz := s.heap.size)
  generalize hAe : va_A (w S) s.heap.size = A at hD hT ⊢
  have hA : ∀ q : Nat, s.heap.size ≤ q → A q := fun q h => by rw [← hAe]; exact Or.inr h
  have hl := lv_entry av (n := maxL) hlen
  rw [lg_entry_eq]
  exact body p e s m below meth c A _ ⟨B.exec, B.bytes, hml, hown', hts, B.returns, B.notSynchronized, hK, hA, hN, hn, hT⟩ ⟨hP, hD, va_S.rf⟩ hl
theorem MetL.mk {Q : Int64 → σ → Prop} (own : String) (cc : ByteArray) (maxL : Nat) (hy : plainName y.cls = true) (hw : ws = Cond.code y cc maxL (some .long) :: ws') (hn : ∀ w ∈ ns, nestW w) (hown : y.cls = own) (hlen : (lg_sl av).length ≤ maxL)
    (body : ∀ p e s m below meth c A ls, Cx p s m av.toArray meth c cc maxL (some .long) ws own D cy ns A → GW D A s (w S) s.heap [] → lv_has ls maxL (lv_args 0 av) →
      W p l e rm s m av.toArray below meth c s.heap [] 0 0 (MQ below (va_Ql Q (B1 D w A) A) av.toArray s 0 0 A) (F0 m 0 ls [])) : MetL l y ws rm D cy ns w av S Q := by
  intro sz
  refine Met.ofW (cc := cc) (maxL := maxL) (ret := some .long) hy hw ?_
  intro p e s m args below meth c s₁ B hml hv
  obtain ⟨rfl, hsz, hP, hK, hN, hD0, hT⟩ := hv
  have hts := atoms_spec (ws := ws) B.pre
  have hown' : s.vm.findClass own = some m.cls := hown ▸ findClass_of_methodNamed B.named
  subst hsz
  have hD := hD0.self (sz := s.heap.size)
  generalize hAe : va_A (w S) s.heap.size = A at hD hT ⊢
  have hA : ∀ q : Nat, s.heap.size ≤ q → A q := fun q h => by rw [← hAe]; exact Or.inr h
  have hl := lv_entry av (n := maxL) hlen
  rw [lg_entry_eq]
  exact body p e s m below meth c A _ ⟨B.exec, B.bytes, hml, hown', hts, B.returns, B.notSynchronized, hK, hA, hN, hn, hT⟩ ⟨hP, hD, va_S.rf⟩ hl
theorem MetV.mk {Q : σ → Prop} (own : String) (cc : ByteArray) (maxL : Nat) (hy : plainName y.cls = true) (hw : ws = Cond.code y cc maxL none :: ws') (hn : ∀ w ∈ ns, nestW w) (hown : y.cls = own) (hlen : (lg_sl av).length ≤ maxL)
    (body : ∀ p e s m below meth c A ls, Cx p s m av.toArray meth c cc maxL none ws own D cy ns A → GW D A s (w S) s.heap [] → lv_has ls maxL (lv_args 0 av) →
      W p l e rm s m av.toArray below meth c s.heap [] 0 0 (MQ below (va_Qv Q (B1 D w A) A) av.toArray s 0 0 A) (F0 m 0 ls [])) : MetV l y ws rm D cy ns w av S Q := by
  intro sz
  refine Met.ofW (cc := cc) (maxL := maxL) (ret := none) hy hw ?_
  intro p e s m args below meth c s₁ B hml hv
  obtain ⟨rfl, hsz, hP, hK, hN, hD0, hT⟩ := hv
  have hts := atoms_spec (ws := ws) B.pre
  have hown' : s.vm.findClass own = some m.cls := hown ▸ findClass_of_methodNamed B.named
  subst hsz
  have hD := hD0.self (sz := s.heap.size)
  generalize hAe : va_A (w S) s.heap.size = A at hD hT ⊢
  have hA : ∀ q : Nat, s.heap.size ≤ q → A q := fun q h => by rw [← hAe]; exact Or.inr h
  have hl := lv_entry av (n := maxL) hlen
  rw [lg_entry_eq]
  exact body p e s m below meth c A _ ⟨B.exec, B.bytes, hml, hown', hts, B.returns, B.notSynchronized, hK, hA, hN, hn, hT⟩ ⟨hP, hD, va_S.rf⟩ hl
end BodyRows
theorem sw_ne {x : Int32} {k : Int} (h : ¬ x = Int32.ofInt k) : ¬ k = x.toInt := fun e => h (by rw [e, Int32.ofInt_toInt])
theorem sw_out {x : Int32} (lo : Int) (n : Nat) {hi : Int} (hh : hi = lo + n - 1) (h : ∀ j : Nat, j < n → ¬ x = Int32.ofInt (lo + j)) : x.toInt < lo ∨ hi < x.toInt := by
  rcases Int.lt_or_le x.toInt lo with h1 | h1
  · exact Or.inl h1
  · rcases Int.lt_or_le hi x.toInt with h2 | h2
    · exact Or.inr h2
    · exfalso
      refine h (x.toInt - lo).toNat (by omega) ?_
      have e : lo + ((x.toInt - lo).toNat : Int) = x.toInt := by omega
      rw [e, Int32.ofInt_toInt]
section StepRows
variable {p : Program} {l : Launch} {e : Env} {R : Room} {s : State} {m : MethodId} {args : Array Value} {below : List Frame} {meth : Method} {c : Code} {H : Heap} {locs : List Loc} {cells slots : Nat} {Q : State → Prop}
variable {cc : ByteArray} {nL : Nat} {ret : Option FieldType} {Ts : List Cond} {own : String} {D : va_G} {cy : Nat → ClassId} {ns : List Cond} {A : Nat → Prop} {ls : Array Slot} {rest : List Value} {pc : Nat} {ws : va_W}
theorem retI {σ : Type} {w : σ → va_W} {S : σ} {Qp : Int32 → σ → Prop} {v : Int32} (C : Cx p s m args meth c cc nL (some .int) Ts own D cy ns A) (hG : GW D A s (w S) H locs) (h : Qp v S) (hdg : decode cc pc = .ok (.ireturn, 1)) :
    W p l e R s m args below meth c H locs 0 0 (MQ below (va_Qi Qp (B1 D w A) A) args s 0 0 A) (F0 m pc ls [.int v]) := by
  obtain ⟨hx, hb, hml, hown, hts, hr, hlocks, hK, hA, hN, hn, hT⟩ := C
  exact W.iret (v := v) hx hb hr (fun t ht hW => ⟨⟨v, S, rfl, h, by rw [ht]; exact hG.1, hG.2.1⟩, hG.2.2.F ht⟩) hG.2.2.2.2 hdg
theorem retZ {σ : Type} {w : σ → va_W} {S : σ} {Qp : Int32 → σ → Prop} {v : Int32} (C : Cx p s m args meth c cc nL (some .boolean) Ts own D cy ns A) (hG : GW D A s (w S) H locs) (h : narrow .boolean (.int v) = .int v ∧ Qp v S) (hdg : decode cc pc = .ok (.ireturn, 1)) :
    W p l e R s m args below meth c H locs 0 0 (MQ below (va_Qi Qp (B1 D w A) A) args s 0 0 A) (F0 m pc ls [.int v]) := by
  obtain ⟨hx, hb, hml, hown, hts, hr, hlocks, hK, hA, hN, hn, hT⟩ := C
  exact W.zret (v := v) hx hb hr h.1 (fun t ht hW => ⟨⟨v, S, rfl, h.2, by rw [ht]; exact hG.1, hG.2.1⟩, hG.2.2.F ht⟩) hG.2.2.2.2 hdg
theorem retL {σ : Type} {w : σ → va_W} {S : σ} {Qp : Int64 → σ → Prop} {v : Int64} (C : Cx p s m args meth c cc nL (some .long) Ts own D cy ns A) (hG : GW D A s (w S) H locs) (h : Qp v S) (hdg : decode cc pc = .ok (.lreturn, 1)) :
    W p l e R s m args below meth c H locs 0 0 (MQ below (va_Ql Qp (B1 D w A) A) args s 0 0 A) (F0 m pc ls [.long v]) := by
  obtain ⟨hx, hb, hml, hown, hts, hr, hlocks, hK, hA, hN, hn, hT⟩ := C
  exact W.lret (v := v) hx hb hr (fun t ht hW => ⟨⟨v, S, rfl, h, by rw [ht]; exact hG.1, hG.2.1⟩, hG.2.2.F ht⟩) hG.2.2.2.2 hdg
theorem retV {σ : Type} {w : σ → va_W} {S : σ} {Qp : σ → Prop} (C : Cx p s m args meth c cc nL none Ts own D cy ns A) (hG : GW D A s (w S) H locs) (h : Qp S) (hdg : decode cc pc = .ok (.return_, 1)) :
    W p l e R s m args below meth c H locs 0 0 (MQ below (va_Qv Qp (B1 D w A) A) args s 0 0 A) (F0 m pc ls []) := by
  obtain ⟨hx, hb, hml, hown, hts, hr, hlocks, hK, hA, hN, hn, hT⟩ := C
  exact W.vret hx hb hr (fun t ht hW => ⟨⟨S, rfl, h, by rw [ht]; exact hG.1, hG.2.1⟩, hG.2.2.F ht⟩) hG.2.2.2.2 hdg
theorem gx_get (C : Cx p s m args meth c cc nL ret Ts own D cy ns A) {C' : String} {T : u_T} {N ci idx a : Nat} (hin : ∀ w ∈ u_ws C' T N, w ∈ Ts) (hG : GW D A s ws H locs) (q0 : Nat) {fs : List Value} (he : ws[q0]? = some (a, .inr (ci, fs))) (hc : vwCl[ci]? = some (C', T, N)) (k : Nat) (hk : k < N) (hlink : Cond.fieldLink own idx (T k).1 (T k).2.1 (T k).2.2.1 ∈ Ts) {v : Value} (hv : fs[k]? = some v) (hdg : decode cc pc = .ok (.getfield idx, 3))
    (kk : W p l e R s m args below meth c H locs cells slots Q (F0 m (pc + 3) ls (v :: rest))) : W p l e R s m args below meth c H locs cells slots Q (F0 m pc ls (.ref a :: rest)) := by
  obtain ⟨hx, hb, hml, hown, hts, hr, hlocks, hK, hA, hN, hn, hT⟩ := C
  exact va_get hx hb hts hin hown hK hG.1 q0 he hc k hk (hts _ hlink) (fun _ h9 => h9) hv hdg kk
theorem gx_put (C : Cx p s m args meth c cc nL ret Ts own D cy ns A) {C' : String} {T : u_T} {N ci idx a : Nat} (hin : ∀ w ∈ u_ws C' T N, w ∈ Ts) (ty0 : Nat → FieldType) (hty : ∀ k, k < N → parseFieldDescriptor (T k).2.2.1 = some (ty0 k)) (hnm : ∀ a, a < N → ∀ b, b < N → a ≠ b → (T a).2.1 ≠ (T b).2.1) (hG : GW D A s ws H locs) (q0 : Nat) {fs : List Value} (he : ws[q0]? = some (a, .inr (ci, fs))) (hc : vwCl[ci]? = some (C', T, N)) (k : Nat) (hk : k < N) (hlink : Cond.fieldLink own idx (T k).1 (T k).2.1 (T k).2.2.1 ∈ Ts) (hfin : (T k).2.2.2 = false) {ty : FieldType} {v : Value} (hd : parseFieldDescriptor (T k).2.2.1 = some ty) (hnw : narrow ty v = v) (hfit : fits ty v = true) (hl : k < fs.length) (hdg : decode cc pc = .ok (.putfield idx, 3)) {ws' : va_W} (hw : ws.set q0 (a, .inr (ci, fs.set k v)) = ws')
    (kk : ∀ (H1 : Heap) (locs1 : List Loc), GW D A s ws' H1 locs1 → W p l e R s m args below meth c H1 locs1 cells slots Q (F0 m (pc + 3) ls rest)) : W p l e R s m args below meth c H locs cells slots Q (F0 m pc ls (v :: .ref a :: rest)) := by
  obtain ⟨hx, hb, hml, hown, hts, hr, hlocks, hK, hA, hN, hn, hT⟩ := C
  subst hw
  exact va_put hx hb hts hin ty0 hty hnm hown hK hG.1 hG.2.1 hG.2.2 q0 he hc k hk (hts _ hlink) (fun _ h9 => h9) hfin hd hnw hfit hl hdg (fun H1 locs1 h1 h2 h3 => kk H1 locs1 ⟨h1, h2, h3⟩)
theorem gx_ald (C : Cx p s m args meth c cc nL ret Ts own D cy ns A) (hG : GW D A s ws H locs) (q0 : Nat) {a n : Nat} {f : Nat → Int32} (ha : ws[q0]? = some (a, .inl (cy 0, n, .inl f))) {i : Int32} (hin : vp_in i n) (hdg : decode cc pc = .ok (.iaload, 1))
    (kk : W p l e R s m args below meth c H locs cells slots Q (F0 m (pc + 1) ls (.int (f i.toNatClampNeg) :: rest))) : W p l e R s m args below meth c H locs cells slots Q (F0 m pc ls (.int i :: .ref a :: rest)) := by
  obtain ⟨hx, hb, hml, hown, hts, hr, hlocks, hK, hA, hN, hn, hT⟩ := C
  exact va_iald hx hb hK hG.1 q0 0 ha rfl hin hdg kk
theorem gx_aldL (C : Cx p s m args meth c cc nL ret Ts own D cy ns A) (hG : GW D A s ws H locs) (q0 : Nat) {a n : Nat} {f : Nat → Int64} (ha : ws[q0]? = some (a, .inl (cy 1, n, .inr (.inl f)))) {i : Int32} (hin : vp_in i n) (hdg : decode cc pc = .ok (.laload, 1))
    (kk : W p l e R s m args below meth c H locs cells slots Q (F0 m (pc + 1) ls (.long (f i.toNatClampNeg) :: rest))) : W p l e R s m args below meth c H locs cells slots Q (F0 m pc ls (.int i :: .ref a :: rest)) := by
  obtain ⟨hx, hb, hml, hown, hts, hr, hlocks, hK, hA, hN, hn, hT⟩ := C
  exact va_lald hx hb hK hG.1 q0 1 ha rfl hin hdg kk
theorem gx_ast (C : Cx p s m args meth c cc nL ret Ts own D cy ns A) (hG : GW D A s ws H locs) (q0 : Nat) {a n : Nat} {f : Nat → Int32} (ha : ws[q0]? = some (a, .inl (cy 0, n, .inl f))) {i x : Int32} (hin : vp_in i n) (hdg : decode cc pc = .ok (.iastore, 1)) {ws' : va_W} (hw : ws.set q0 (a, .inl (cy 0, n, .inl (upd f i.toNatClampNeg x))) = ws')
    (kk : ∀ (H1 : Heap) (locs1 : List Loc), GW D A s ws' H1 locs1 → W p l e R s m args below meth c H1 locs1 cells slots Q (F0 m (pc + 1) ls rest)) : W p l e R s m args below meth c H locs cells slots Q (F0 m pc ls (.int x :: .int i :: .ref a :: rest)) := by
  obtain ⟨hx, hb, hml, hown, hts, hr, hlocks, hK, hA, hN, hn, hT⟩ := C
  subst hw
  exact va_iast hx hb hK hG.1 hG.2.1 hG.2.2 q0 0 ha rfl hin hdg (fun H1 locs1 h1 h2 h3 => kk H1 locs1 ⟨h1, h2, h3⟩)
theorem gx_astL (C : Cx p s m args meth c cc nL ret Ts own D cy ns A) (hG : GW D A s ws H locs) (q0 : Nat) {a n : Nat} {f : Nat → Int64} (ha : ws[q0]? = some (a, .inl (cy 1, n, .inr (.inl f)))) {i : Int32} {x : Int64} (hin : vp_in i n) (hdg : decode cc pc = .ok (.lastore, 1)) {ws' : va_W} (hw : ws.set q0 (a, .inl (cy 1, n, .inr (.inl (vp_updL f i.toNatClampNeg x)))) = ws')
    (kk : ∀ (H1 : Heap) (locs1 : List Loc), GW D A s ws' H1 locs1 → W p l e R s m args below meth c H1 locs1 cells slots Q (F0 m (pc + 1) ls rest)) : W p l e R s m args below meth c H locs cells slots Q (F0 m pc ls (.long x :: .int i :: .ref a :: rest)) := by
  obtain ⟨hx, hb, hml, hown, hts, hr, hlocks, hK, hA, hN, hn, hT⟩ := C
  subst hw
  exact va_last hx hb hK hG.1 hG.2.1 hG.2.2 q0 1 ha rfl hin hdg (fun H1 locs1 h1 h2 h3 => kk H1 locs1 ⟨h1, h2, h3⟩)
theorem gx_getN (C : Cx p s m args meth c cc nL ret Ts own D cy ns A) {C' host : String} {T : u_T} {N ci idx a : Nat} (hin : ∀ w ∈ u_ws C' T N, w ∈ Ts) (hG : GW D A s ws H locs) (q0 : Nat) {fs : List Value} (he : ws[q0]? = some (a, .inr (ci, fs))) (hc : vwCl[ci]? = some (C', T, N)) (k : Nat) (hk : k < N) (hlink : Cond.fieldLinkNest own idx (T k).1 (T k).2.1 (T k).2.2.1 host ∈ ns) {v : Value} (hv : fs[k]? = some v) (hdg : decode cc pc = .ok (.getfield idx, 3))
    (kk : W p l e R s m args below meth c H locs cells slots Q (F0 m (pc + 3) ls (v :: rest))) : W p l e R s m args below meth c H locs cells slots Q (F0 m pc ls (.ref a :: rest)) := by
  obtain ⟨hx, hb, hml, hown, hts, hr, hlocks, hK, hA, hN, hn, hT⟩ := C
  exact va_getN hx hb hts hin hown hK hG.1 q0 he hc k hk (va_Nw.use rfl (hN _ hlink)) (fun _ h9 => h9) hv hdg kk
theorem gx_alen (C : Cx p s m args meth c cc nL ret Ts own D cy ns A) (hG : GW D A s ws H locs) (q0 : Nat) {a n : Nat} {f : Nat → Int32} (ha : ws[q0]? = some (a, .inl (cy 0, n, .inl f))) (hdg : decode cc pc = .ok (.arraylength, 1))
    (kk : W p l e R s m args below meth c H locs cells slots Q (F0 m (pc + 1) ls (.int (nI n) :: rest))) : W p l e R s m args below meth c H locs cells slots Q (F0 m pc ls (.ref a :: rest)) := by
  obtain ⟨hx, hb, hml, hown, hts, hr, hlocks, hK, hA, hN, hn, hT⟩ := C
  exact va_alen hx hb hK hG.1 q0 0 ha rfl rfl hdg kk
/-- a table's static, and its element -/
theorem gx_tab (C : Cx p s m args meth c cc nL ret Ts own D cy ns A) (hG : GW D A s ws H locs) {n : String} {N idx : Nat} {f : Nat → Int32} (hT1 : TB1 n N f A s s.heap) (hlink : Cond.fieldLink own idx "PaperBodies$Box" n "[I" ∈ Ts) (hdg : decode cc pc = .ok (.getstatic idx, 3))
    (kk : ∀ t : Nat, va_T .int t N (fun j => .int (f j)) A s s.heap → W p l e R s m args below meth c H locs cells slots Q (F0 m (pc + 3) ls (.ref t :: rest))) : W p l e R s m args below meth c H locs cells slots Q (F0 m pc ls rest) := by
  obtain ⟨hx, hb, hml, hown, hts, hr, hlocks, hK, hA, hN, hn, hT⟩ := C
  obtain ⟨t, h1, h2⟩ := hT1
  exact va_gets hx hb h1 hG.2.2 hown (hts _ hlink) (fun _ h => h) hdg (kk t h2)
theorem gx_tald (C : Cx p s m args meth c cc nL ret Ts own D cy ns A) (hG : GW D A s ws H locs) {t N : Nat} {f : Nat → Int32} (hT1 : va_T .int t N (fun j => .int (f j)) A s s.heap) {i : Int32} (hin : vp_in i N) (hdg : decode cc pc = .ok (.iaload, 1))
    (kk : W p l e R s m args below meth c H locs cells slots Q (F0 m (pc + 1) ls (.int (f i.toNatClampNeg) :: rest))) : W p l e R s m args below meth c H locs cells slots Q (F0 m pc ls (.int i :: .ref t :: rest)) := by
  obtain ⟨hx, hb, hml, hown, hts, hr, hlocks, hK, hA, hN, hn, hT⟩ := C
  exact va_ti hx hb hT1 hG.2.2 hin rfl hdg kk
theorem gx_copy (C : Cx p s m args meth c cc nL ret Ts own D cy ns A) (hG : GW D A s ws H locs) {idx : Nat} (hsz : ls.size = nL) (hlink : (Cond.methodLink own idx arraycopyName).before args s = true) (hnat : (Cond.native arraycopyName).before args s = true) (hstat : (Cond.static arraycopyName).before args s = true) (hini : (Cond.initialized "java/lang/System").before args s = true) (q0 q1 : Nat) {a0 a n0 n1 : Nat} {f g : Nat → Int32} (ha0 : ws[q0]? = some (a0, .inl (cy 0, n0, .inl f))) (ha1 : ws[q1]? = some (a, .inl (cy 0, n1, .inl g))) {sp dp n : Int32}
    (hb1 : ¬ sp < 0 ∧ ¬ dp < 0 ∧ ¬ n < 0 ∧ sp.toNatClampNeg + n.toNatClampNeg ≤ n0 ∧ dp.toNatClampNeg + n.toNatClampNeg ≤ n1) (hframes : 1 ≤ R.frames) (hlocals : (rest.map fun v => v.category).sum + (nativeFrameWords "java/lang/System" "arraycopy" 5 + 11) ≤ R.locals) (hdg : decode cc pc = .ok (.invokestatic idx, 3)) {ws' : va_W} (hw : ws.set q1 (a, .inl (cy 0, n1, .inl (va_cpy f g sp.toNatClampNeg dp.toNatClampNeg n.toNatClampNeg))) = ws')
    (kk : ∀ (H1 : Heap) (locs1 : List Loc), GW D A s ws' H1 locs1 → W p l e R s m args below meth c H1 locs1 cells slots Q (F0 m (pc + 3) ls rest)) : W p l e R s m args below meth c H locs cells slots Q (F0 m pc ls (.int n :: .int dp :: .ref a :: .int sp :: .ref a0 :: rest)) := by
  obtain ⟨hx, hb, hml, hown, hts, hr, hlocks, hK, hA, hN, hn, hT⟩ := C
  subst hw
  exact va_copyi (ty := .int) hx hb (hml.trans hsz.symm) hown hlink hnat hstat hini hK hG.1 hG.2.1 hG.2.2 q0 q1 0 0 ha0 ha1 rfl rfl rfl hb1.1 hb1.2.1 hb1.2.2.1 hb1.2.2.2.1 hb1.2.2.2.2 (fun _ _ => rfl) hframes hlocals hdg (fun H1 locs1 h1 h2 h3 => kk H1 locs1 ⟨h1, h2, h3⟩)
end StepRows
/-- a part of a world that a callee takes, and what stands when it comes back -/
def Foc (D : va_G) (A : Nat → Prop) (s : State) (ws : va_W) {σ' : Type} (w' : σ' → va_W) (S' : σ') (rv : σ' → va_W) : Prop := ∀ (H : Heap) (locs : List Loc), GW D A s ws H locs → va_P D vwCl (w' S') H ∧ va_D (fun _ => True) (w' S') ∧ (∀ q, va_A (w' S') H.size q → A q) ∧
  ∀ (H1 : Heap) (S1 : σ'), (∀ q : Nat, q < H.size → ¬ va_A (w' S') H.size q → H1[q]? = H[q]?) → va_P D vwCl (w' S1) H1 → va_D (va_A (w' S') H.size) (w' S1) → va_P D vwCl (rv S1) H1 ∧ va_D A (rv S1)
theorem Foc.all {D : va_G} {A : Nat → Prop} {s : State} (hA : ∀ q : Nat, s.heap.size ≤ q → A q) {σ' : Type} {w' : σ' → va_W} {S' : σ'} : Foc D A s (w' S') w' S' w' := by
  intro H locs hG
  have hF : ∀ q, va_A (w' S') H.size q → A q := by
    intro q h
    rcases h with ⟨k, e, h⟩ | h
    · exact hG.2.1.2 k _ h
    · exact hA q (Nat.le_trans hG.2.2.1 h)
  exact ⟨hG.1, hG.2.1.weaken (fun _ _ _ _ => trivial), hF, fun H1 S1 _ h2 h3 => ⟨h2, h3.weaken (fun k q _ h => hF q.1 h)⟩⟩
theorem Foc.none {D : va_G} {A : Nat → Prop} {s : State} (hA : ∀ q : Nat, s.heap.size ≤ q → A q) {ws : va_W} : Foc D A s ws (fun _ : Unit => ([] : va_W)) () (fun _ => ws) := by
  intro H locs hG
  refine ⟨fun k q h => by simp at h, ⟨fun i j p q h => by simp at h, fun k q h => by simp at h⟩, ?_, fun H1 w1 h1 _ _ => ⟨hG.1.kept (fun k q hk => h1 q.1 (hG.1 k q hk).lt ?_), hG.2.1⟩⟩
  · intro q h
    rcases h with ⟨k, e, h⟩ | h
    · simp at h
    · exact hA q (Nat.le_trans hG.2.2.1 h)
  · intro h
    rcases h with ⟨k', e', h⟩ | h
    · simp at h
    · exact absurd (hG.1 k q hk).lt (Nat.not_lt.mpr h)
/-- by places: isC the callee's, isR the rest's; is puts what comes back into its order -/
theorem Foc.pl {D : va_G} {A : Nat → Prop} {s : State} (hA : ∀ q : Nat, s.heap.size ≤ q → A q) {σ' : Type} {ws wr : va_W} {w' rv : σ' → va_W} {S' : σ'} (isC isR is : List Nat) (hC : isC.map (fun i => ws[i]?) = (w' S').map some) (hR : isR.map (fun i => ws[i]?) = wr.map some) (hC2 : isC.filterMap (fun i => ws[i]?) = w' S') (hnC : va_nd isC = true) (hn : va_nd isR = true) (hdis : ∀ i ∈ isR, i ∉ isC) (hni : va_nd is = true) (his : ∀ S1, is.filterMap (fun i => (wr ++ w' S1)[i]?) = rv S1) (his2 : ∀ S1, is.map (fun i => (wr ++ w' S1)[i]?) = (rv S1).map some) : Foc D A s ws w' S' rv := by
  intro H locs hG
  have hF := va_free (wc := w' S') hG.2.1 hG.2.2 hA isC hC
  refine ⟨hG.1.sub isC hC2, (hG.2.1.sub isC hnC hC).weaken (fun _ _ _ _ => trivial), hF, fun H1 S1 h1 h2 h3 => ?_⟩
  obtain ⟨g1, g2⟩ := va_join (wr := wr) (w1 := w' S1) hG.1 hG.2.1 isC isR hC hR hn hdis h1 hF h2 h3
  exact ⟨g1.sub is (his S1), g2.sub is hni (his2 S1)⟩
section CallRows
variable {p : Program} {l : Launch} {e : Env} {R : Room} {s : State} {m : MethodId} {args : Array Value} {below : List Frame} {meth : Method} {c : Code} {H : Heap} {locs : List Loc} {cells slots : Nat} {Q : State → Prop}
variable {cc : ByteArray} {nL : Nat} {ret : Option FieldType} {Ts : List Cond} {own : String} {D : va_G} {cy : Nat → ClassId} {ns : List Cond} {A : Nat → Prop} {ls : Array Slot} {rest st : List Value} {pc : Nat} {ws : va_W}
variable {σ' : Type} {w' : σ' → va_W} {S' : σ'} {y : MethodName} {wsc ws' : List Cond} {rm : Room} {b : Nat} {As : List Value} {index maxL ci N : Nat} {bytes : ByteArray} {ret' : Option FieldType} {C' : String} {T : u_T} {fs : List Value} {rv : σ' → va_W}
theorem callVI {Qp : Int32 → σ' → Prop} (C : Cx p s m args meth c cc nL ret Ts own D cy ns A) (hG : GW D A s ws H locs) (hM : MetI l y wsc rm D cy ns w' (.ref b :: As) S' Qp) (n : Nat) (hT : GoodIn Ts (wsV own index C' y wsc)) (hw : wsc = Cond.code y bytes maxL ret' :: ws')
    (hd : y.cls = C' ∧ y.cls ≠ "java/lang/invoke/MethodHandle" ∧ y.cls ≠ "java/lang/invoke/VarHandle" ∧ (parseMethodDescriptor y.desc).map (fun d => d.parameters.length) = some n) (hR : (rm.frames + 1 ≤ R.frames ∧ 8 + (maxL + 11) + rm.locals ≤ R.locals) ∧ rm.cells = 0 ∧ rm.slots = 0) (hci : vwCl[ci]? = some (C', T, N)) (he : (w' S')[0]? = some (b, .inr (ci, fs))) (fo : Foc D A s ws w' S' rv)
    (hn : As.length = n) (hsize : ls.size = nL) (hst : st = As.reverse ++ .ref b :: rest) (hW : (rest.map fun v => v.category).sum ≤ 8) (hdg : decode cc pc = .ok (.invokevirtual index, 3)) (hf : cells ≤ R.cells ∧ slots ≤ R.slots)
    (kk : ∀ (r : Int32) (S1 : σ') (H1 : Heap) (locs1 : List Loc), Qp r S1 → GW D A s (rv S1) H1 locs1 → W p l e R s m args below meth c H1 locs1 cells slots Q (F0 m (pc + 3) ls (.int r :: rest))) : W p l e R s m args below meth c H locs cells slots Q (F0 m pc ls st) := by
  obtain ⟨hx, hb, hml, hown, hts, hr, hlocks, hK, hA, hN, hn', hTb⟩ := C
  subst hst
  obtain ⟨f1, f2, f3, f4⟩ := fo H locs hG
  refine va_calli (va_runV (As := As) (rest := rest) ⟨hx, hb, hml, hown, hts⟩ (hM H.size) (cwV n hts hT hw hR.2.1 hR.2.2 hd hR.1) ⟨P1.blind hn', va_recv hK f1 hci he, fun U hU hW => ⟨rfl, by rw [hU], by rw [hU]; exact f1, va_K.moved hW.alike hK, NW.moved hn' hN hW, f2, by rw [hU]; exact hTb.go (hG.2.2.2.1) f3 hW.alike⟩⟩ rfl hn hsize rfl (lv_room hW) hdg hf) hG.2.2 (fun q _ h => f3 q h) f3 (fun r u t H1 locs1 ht hvm hw hB hz1 hk1 hS => ?_)
  obtain ⟨g1, g2⟩ := hB
  rw [ht] at g1
  obtain ⟨k1, k2⟩ := f4 H1 _ hk1 g1 g2
  exact kk r u H1 locs1 hw ⟨k1, k2, hS⟩
theorem callVL {Qp : Int64 → σ' → Prop} (C : Cx p s m args meth c cc nL ret Ts own D cy ns A) (hG : GW D A s ws H locs) (hM : MetL l y wsc rm D cy ns w' (.ref b :: As) S' Qp) (n : Nat) (hT : GoodIn Ts (wsV own index C' y wsc)) (hw : wsc = Cond.code y bytes maxL ret' :: ws')
    (hd : y.cls = C' ∧ y.cls ≠ "java/lang/invoke/MethodHandle" ∧ y.cls ≠ "java/lang/invoke/VarHandle" ∧ (parseMethodDescriptor y.desc).map (fun d => d.parameters.length) = some n) (hR : (rm.frames + 1 ≤ R.frames ∧ 8 + (maxL + 11) + rm.locals ≤ R.locals) ∧ rm.cells = 0 ∧ rm.slots = 0) (hci : vwCl[ci]? = some (C', T, N)) (he : (w' S')[0]? = some (b, .inr (ci, fs))) (fo : Foc D A s ws w' S' rv)
    (hn : As.length = n) (hsize : ls.size = nL) (hst : st = As.reverse ++ .ref b :: rest) (hW : (rest.map fun v => v.category).sum ≤ 8) (hdg : decode cc pc = .ok (.invokevirtual index, 3)) (hf : cells ≤ R.cells ∧ slots ≤ R.slots)
    (kk : ∀ (r : Int64) (S1 : σ') (H1 : Heap) (locs1 : List Loc), Qp r S1 → GW D A s (rv S1) H1 locs1 → W p l e R s m args below meth c H1 locs1 cells slots Q (F0 m (pc + 3) ls (.long r :: rest))) : W p l e R s m args below meth c H locs cells slots Q (F0 m pc ls st) := by
  obtain ⟨hx, hb, hml, hown, hts, hr, hlocks, hK, hA, hN, hn', hTb⟩ := C
  subst hst
  obtain ⟨f1, f2, f3, f4⟩ := fo H locs hG
  refine va_calll (va_runV (As := As) (rest := rest) ⟨hx, hb, hml, hown, hts⟩ (hM H.size) (cwV n hts hT hw hR.2.1 hR.2.2 hd hR.1) ⟨P1.blind hn', va_recv hK f1 hci he, fun U hU hW => ⟨rfl, by rw [hU], by rw [hU]; exact f1, va_K.moved hW.alike hK, NW.moved hn' hN hW, f2, by rw [hU]; exact hTb.go (hG.2.2.2.1) f3 hW.alike⟩⟩ rfl hn hsize rfl (lv_room hW) hdg hf) hG.2.2 (fun q _ h => f3 q h) f3 (fun r u t H1 locs1 ht hvm hw hB hz1 hk1 hS => ?_)
  obtain ⟨g1, g2⟩ := hB
  rw [ht] at g1
  obtain ⟨k1, k2⟩ := f4 H1 _ hk1 g1 g2
  exact kk r u H1 locs1 hw ⟨k1, k2, hS⟩
theorem callVV {Qp : σ' → Prop} (C : Cx p s m args meth c cc nL ret Ts own D cy ns A) (hG : GW D A s ws H locs) (hM : MetV l y wsc rm D cy ns w' (.ref b :: As) S' Qp) (n : Nat) (hT : GoodIn Ts (wsV own index C' y wsc)) (hw : wsc = Cond.code y bytes maxL ret' :: ws')
    (hd : y.cls = C' ∧ y.cls ≠ "java/lang/invoke/MethodHandle" ∧ y.cls ≠ "java/lang/invoke/VarHandle" ∧ (parseMethodDescriptor y.desc).map (fun d => d.parameters.length) = some n) (hR : (rm.frames + 1 ≤ R.frames ∧ 8 + (maxL + 11) + rm.locals ≤ R.locals) ∧ rm.cells = 0 ∧ rm.slots = 0) (hci : vwCl[ci]? = some (C', T, N)) (he : (w' S')[0]? = some (b, .inr (ci, fs))) (fo : Foc D A s ws w' S' rv)
    (hn : As.length = n) (hsize : ls.size = nL) (hst : st = As.reverse ++ .ref b :: rest) (hW : (rest.map fun v => v.category).sum ≤ 8) (hdg : decode cc pc = .ok (.invokevirtual index, 3)) (hf : cells ≤ R.cells ∧ slots ≤ R.slots)
    (kk : ∀ (S1 : σ') (H1 : Heap) (locs1 : List Loc), Qp S1 → GW D A s (rv S1) H1 locs1 → W p l e R s m args below meth c H1 locs1 cells slots Q (F0 m (pc + 3) ls rest)) : W p l e R s m args below meth c H locs cells slots Q (F0 m pc ls st) := by
  obtain ⟨hx, hb, hml, hown, hts, hr, hlocks, hK, hA, hN, hn', hTb⟩ := C
  subst hst
  obtain ⟨f1, f2, f3, f4⟩ := fo H locs hG
  refine va_callv (va_runV (As := As) (rest := rest) ⟨hx, hb, hml, hown, hts⟩ (hM H.size) (cwV n hts hT hw hR.2.1 hR.2.2 hd hR.1) ⟨P1.blind hn', va_recv hK f1 hci he, fun U hU hW => ⟨rfl, by rw [hU], by rw [hU]; exact f1, va_K.moved hW.alike hK, NW.moved hn' hN hW, f2, by rw [hU]; exact hTb.go (hG.2.2.2.1) f3 hW.alike⟩⟩ rfl hn hsize rfl (lv_room hW) hdg hf) hG.2.2 (fun q _ h => f3 q h) f3 (fun u t H1 locs1 ht hvm hw hB hz1 hk1 hS => ?_)
  obtain ⟨g1, g2⟩ := hB
  rw [ht] at g1
  obtain ⟨k1, k2⟩ := f4 H1 _ hk1 g1 g2
  exact kk u H1 locs1 hw ⟨k1, k2, hS⟩
theorem callSI {Qp : Int32 → σ' → Prop} (C : Cx p s m args meth c cc nL ret Ts own D cy ns A) (hG : GW D A s ws H locs) (hM : MetI l y wsc rm D cy ns w' As S' Qp) (n : Nat) (hT : GoodIn Ts (va_wsS own index y wsc)) (hw : wsc = Cond.code y bytes maxL ret' :: ws')
    (hd : y.cls ≠ "java/lang/invoke/MethodHandle" ∧ y.cls ≠ "java/lang/invoke/VarHandle" ∧ (parseMethodDescriptor y.desc).map (fun d => d.parameters.length) = some n) (hR : (rm.frames + 1 ≤ R.frames ∧ 8 + (maxL + 11) + rm.locals ≤ R.locals) ∧ rm.cells = 0 ∧ rm.slots = 0) (fo : Foc D A s ws w' S' rv)
    (hn : As.length = n) (hsize : ls.size = nL) (hst : st = As.reverse ++ rest) (hW : (rest.map fun v => v.category).sum ≤ 8) (hdg : decode cc pc = .ok (.invokestatic index, 3)) (hf : cells ≤ R.cells ∧ slots ≤ R.slots)
    (kk : ∀ (r : Int32) (S1 : σ') (H1 : Heap) (locs1 : List Loc), Qp r S1 → GW D A s (rv S1) H1 locs1 → W p l e R s m args below meth c H1 locs1 cells slots Q (F0 m (pc + 3) ls (.int r :: rest))) : W p l e R s m args below meth c H locs cells slots Q (F0 m pc ls st) := by
  obtain ⟨hx, hb, hml, hown, hts, hr, hlocks, hK, hA, hN, hn', hTb⟩ := C
  subst hst
  obtain ⟨f1, f2, f3, f4⟩ := fo H locs hG
  refine va_calli (va_runS (As := As) (rest := rest) ⟨hx, hb, hml, hown, hts⟩ (hM H.size) (va_cwS n hts hT hw hR.2.1 hR.2.2 hd hR.1) ⟨P1.blind hn', fun U hU hW => ⟨rfl, by rw [hU], by rw [hU]; exact f1, va_K.moved hW.alike hK, NW.moved hn' hN hW, f2, by rw [hU]; exact hTb.go (hG.2.2.2.1) f3 hW.alike⟩⟩ rfl hn hsize rfl (lv_room hW) hdg hf) hG.2.2 (fun q _ h => f3 q h) f3 (fun r u t H1 locs1 ht hvm hw hB hz1 hk1 hS => ?_)
  obtain ⟨g1, g2⟩ := hB
  rw [ht] at g1
  obtain ⟨k1, k2⟩ := f4 H1 _ hk1 g1 g2
  exact kk r u H1 locs1 hw ⟨k1, k2, hS⟩
theorem callSL {Qp : Int64 → σ' → Prop} (C : Cx p s m args meth c cc nL ret Ts own D cy ns A) (hG : GW D A s ws H locs) (hM : MetL l y wsc rm D cy ns w' As S' Qp) (n : Nat) (hT : GoodIn Ts (va_wsS own index y wsc)) (hw : wsc = Cond.code y bytes maxL ret' :: ws')
    (hd : y.cls ≠ "java/lang/invoke/MethodHandle" ∧ y.cls ≠ "java/lang/invoke/VarHandle" ∧ (parseMethodDescriptor y.desc).map (fun d => d.parameters.length) = some n) (hR : (rm.frames + 1 ≤ R.frames ∧ 8 + (maxL + 11) + rm.locals ≤ R.locals) ∧ rm.cells = 0 ∧ rm.slots = 0) (fo : Foc D A s ws w' S' rv)
    (hn : As.length = n) (hsize : ls.size = nL) (hst : st = As.reverse ++ rest) (hW : (rest.map fun v => v.category).sum ≤ 8) (hdg : decode cc pc = .ok (.invokestatic index, 3)) (hf : cells ≤ R.cells ∧ slots ≤ R.slots)
    (kk : ∀ (r : Int64) (S1 : σ') (H1 : Heap) (locs1 : List Loc), Qp r S1 → GW D A s (rv S1) H1 locs1 → W p l e R s m args below meth c H1 locs1 cells slots Q (F0 m (pc + 3) ls (.long r :: rest))) : W p l e R s m args below meth c H locs cells slots Q (F0 m pc ls st) := by
  obtain ⟨hx, hb, hml, hown, hts, hr, hlocks, hK, hA, hN, hn', hTb⟩ := C
  subst hst
  obtain ⟨f1, f2, f3, f4⟩ := fo H locs hG
  refine va_calll (va_runS (As := As) (rest := rest) ⟨hx, hb, hml, hown, hts⟩ (hM H.size) (va_cwS n hts hT hw hR.2.1 hR.2.2 hd hR.1) ⟨P1.blind hn', fun U hU hW => ⟨rfl, by rw [hU], by rw [hU]; exact f1, va_K.moved hW.alike hK, NW.moved hn' hN hW, f2, by rw [hU]; exact hTb.go (hG.2.2.2.1) f3 hW.alike⟩⟩ rfl hn hsize rfl (lv_room hW) hdg hf) hG.2.2 (fun q _ h => f3 q h) f3 (fun r u t H1 locs1 ht hvm hw hB hz1 hk1 hS => ?_)
  obtain ⟨g1, g2⟩ := hB
  rw [ht] at g1
  obtain ⟨k1, k2⟩ := f4 H1 _ hk1 g1 g2
  exact kk r u H1 locs1 hw ⟨k1, k2, hS⟩
theorem callSV {Qp : σ' → Prop} (C : Cx p s m args meth c cc nL ret Ts own D cy ns A) (hG : GW D A s ws H locs) (hM : MetV l y wsc rm D cy ns w' As S' Qp) (n : Nat) (hT : GoodIn Ts (va_wsS own index y wsc)) (hw : wsc = Cond.code y bytes maxL ret' :: ws')
    (hd : y.cls ≠ "java/lang/invoke/MethodHandle" ∧ y.cls ≠ "java/lang/invoke/VarHandle" ∧ (parseMethodDescriptor y.desc).map (fun d => d.parameters.length) = some n) (hR : (rm.frames + 1 ≤ R.frames ∧ 8 + (maxL + 11) + rm.locals ≤ R.locals) ∧ rm.cells = 0 ∧ rm.slots = 0) (fo : Foc D A s ws w' S' rv)
    (hn : As.length = n) (hsize : ls.size = nL) (hst : st = As.reverse ++ rest) (hW : (rest.map fun v => v.category).sum ≤ 8) (hdg : decode cc pc = .ok (.invokestatic index, 3)) (hf : cells ≤ R.cells ∧ slots ≤ R.slots)
    (kk : ∀ (S1 : σ') (H1 : Heap) (locs1 : List Loc), Qp S1 → GW D A s (rv S1) H1 locs1 → W p l e R s m args below meth c H1 locs1 cells slots Q (F0 m (pc + 3) ls rest)) : W p l e R s m args below meth c H locs cells slots Q (F0 m pc ls st) := by
  obtain ⟨hx, hb, hml, hown, hts, hr, hlocks, hK, hA, hN, hn', hTb⟩ := C
  subst hst
  obtain ⟨f1, f2, f3, f4⟩ := fo H locs hG
  refine va_callv (va_runS (As := As) (rest := rest) ⟨hx, hb, hml, hown, hts⟩ (hM H.size) (va_cwS n hts hT hw hR.2.1 hR.2.2 hd hR.1) ⟨P1.blind hn', fun U hU hW => ⟨rfl, by rw [hU], by rw [hU]; exact f1, va_K.moved hW.alike hK, NW.moved hn' hN hW, f2, by rw [hU]; exact hTb.go (hG.2.2.2.1) f3 hW.alike⟩⟩ rfl hn hsize rfl (lv_room hW) hdg hf) hG.2.2 (fun q _ h => f3 q h) f3 (fun u t H1 locs1 ht hvm hw hB hz1 hk1 hS => ?_)
  obtain ⟨g1, g2⟩ := hB
  rw [ht] at g1
  obtain ⟨k1, k2⟩ := f4 H1 _ hk1 g1 g2
  exact kk u H1 locs1 hw ⟨k1, k2, hS⟩
theorem callSNI {Qp : Int32 → σ' → Prop} (C : Cx p s m args meth c cc nL ret Ts own D cy ns A) (hG : GW D A s ws H locs) (hM : MetI l y wsc rm D cy ns w' As S' Qp) (n : Nat) (hT : GoodIn Ts wsc) (hw : wsc = Cond.code y bytes maxL ret' :: ws') {host : String} (hnl : Cond.methodLinkNest own index y host ∈ ns) (hini : Cond.initialized y.cls ∈ Ts) (hstt : Cond.static y ∈ Ts)
    (hd : y.cls ≠ "java/lang/invoke/MethodHandle" ∧ y.cls ≠ "java/lang/invoke/VarHandle" ∧ (parseMethodDescriptor y.desc).map (fun d => d.parameters.length) = some n) (hR : (rm.frames + 1 ≤ R.frames ∧ 8 + (maxL + 11) + rm.locals ≤ R.locals) ∧ rm.cells = 0 ∧ rm.slots = 0) (fo : Foc D A s ws w' S' rv)
    (hn : As.length = n) (hsize : ls.size = nL) (hst : st = As.reverse ++ rest) (hW : (rest.map fun v => v.category).sum ≤ 8) (hdg : decode cc pc = .ok (.invokestatic index, 3)) (hf : cells ≤ R.cells ∧ slots ≤ R.slots)
    (kk : ∀ (r : Int32) (S1 : σ') (H1 : Heap) (locs1 : List Loc), Qp r S1 → GW D A s (rv S1) H1 locs1 → W p l e R s m args below meth c H1 locs1 cells slots Q (F0 m (pc + 3) ls (.int r :: rest))) : W p l e R s m args below meth c H locs cells slots Q (F0 m pc ls st) := by
  obtain ⟨hx, hb, hml, hown, hts, hr, hlocks, hK, hA, hN, hn', hTb⟩ := C
  subst hst
  obtain ⟨f1, f2, f3, f4⟩ := fo H locs hG
  refine va_calli (va_runSN (As := As) (rest := rest) ⟨hx, hb, hml, hown, hts⟩ (hM H.size) ⟨va_cnB n hts hT hw hR.2.1 hR.2.2 (hN _ hnl) (hts _ hini) hd hR.1, hts _ hstt, trivial⟩ ⟨P1.blind hn', fun U hU hW => ⟨rfl, by rw [hU], by rw [hU]; exact f1, va_K.moved hW.alike hK, NW.moved hn' hN hW, f2, by rw [hU]; exact hTb.go (hG.2.2.2.1) f3 hW.alike⟩⟩ rfl hn hsize rfl (lv_room hW) hdg hf) hG.2.2 (fun q _ h => f3 q h) f3 (fun r u t H1 locs1 ht hvm hw hB hz1 hk1 hS => ?_)
  obtain ⟨g1, g2⟩ := hB
  rw [ht] at g1
  obtain ⟨k1, k2⟩ := f4 H1 _ hk1 g1 g2
  exact kk r u H1 locs1 hw ⟨k1, k2, hS⟩
end CallRows
