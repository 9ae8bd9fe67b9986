/-! ===== pure: ways on a box: paths of sides, unfoldings, lengths ===== -/
def enD (d : Nat → Nat) (s : Nat) : Int32 := nI (if s % 2 = 0 then 0 else 2 * d (s / 2))
/-- a spot on side f comes into the plane of side t -/
def uf (d : Nat → Nat) (f t : Nat) (X : Nat → Int32) : Nat → Int32 := fun j => if j = f / 2 then enD d f + sg (f ^^^ 1) * (sg (t ^^^ 1) * (enD d t - X (t / 2))) else if j = t / 2 then enD d t else X j
def Uq (d : Nat → Nat) (q : Nat → Int32) : List Nat → Nat → Int32
  | [] => q
  | [_] => q
  | s :: t :: r => uf d t s (Uq d q (t :: r))
def chn : List Nat → Prop
  | [] => True
  | [_] => True
  | a :: b :: r => ¬ a / 2 = b / 2 ∧ chn (b :: r)
def SP (L : List Nat) : Prop := L.Nodup ∧ chn L ∧ (∀ x ∈ L, x < 6) ∧ L.length ≤ 6
def Hd (L : List Nat) (a : Nat) : Prop := ∃ M, L = a :: M
def Ls (L : List Nat) (a : Nat) : Prop := ∃ M, L = M ++ [a]
def OKL (a b : Nat) (L : List Nat) : Prop := SP L ∧ Hd L a ∧ Ls L b
def pl (P X : Nat → Int32) : Nat → Int32
  | 0 => 0
  | n + 1 => pl P X n + (X n - P n) * (X n - P n)
def ln (P X : Nat → Int32) : Int32 := pl P X 3
def VL (d : Nat → Nat) (P q : Nat → Int32) (L : List Nat) : Int32 := ln P (Uq d q L)
theorem chn_tl {a : Nat} {l : List Nat} (h : chn (a :: l)) : chn l := by
  cases l with
  | nil => trivial
  | cons b r => exact h.2
theorem chn_app : ∀ (l : List Nat) {m : List Nat}, chn (l ++ m) → chn m
  | [], _, h => h
  | _ :: l, _, h => chn_app l (chn_tl h)
theorem chn_sn : ∀ (l : List Nat) (s t : Nat), chn (l ++ [s]) → ¬ s / 2 = t / 2 → chn (l ++ [s] ++ [t])
  | [], s, t, _, h => by
    show chn (s :: t :: [])
    exact ⟨h, trivial⟩
  | [a], s, t, h1, h => by
    have h2 : chn (a :: s :: []) := h1
    show chn (a :: s :: t :: [])
    exact ⟨h2.1, h, trivial⟩
  | a :: b :: r, s, t, h1, h => by
    have h2 : chn (a :: b :: (r ++ [s])) := h1
    have h3 := chn_sn (b :: r) s t h2.2 h
    show chn (a :: b :: (r ++ [s] ++ [t]))
    exact ⟨h2.1, h3⟩
theorem SP_app {l m : List Nat} (h : SP (l ++ m)) : SP m := by
  obtain ⟨h1, h2, h3, h4⟩ := h
  refine ⟨(List.nodup_append.mp h1).2.1, chn_app l h2, fun x hx => h3 x (List.mem_append_right l hx), ?_⟩
  rw [List.length_append] at h4
  omega
theorem SP_cons {t s : Nat} {r : List Nat} (h : SP (s :: r)) (ht : t < 6) (hn : t ∉ s :: r) (hb : ¬ t / 2 = s / 2) (hl : (s :: r).length ≤ 5) : SP (t :: s :: r) := by
  refine ⟨List.nodup_cons.mpr ⟨hn, h.1⟩, ⟨hb, h.2.1⟩, fun x hx => ?_, ?_⟩
  · rcases List.mem_cons.mp hx with e | e
    · rw [e]; exact ht
    · exact h.2.2.1 x e
  · rw [List.length_cons]; omega
theorem nd_1 (t : Nat) : [t].Nodup := List.nodup_cons.mpr ⟨fun h => absurd h (List.not_mem_nil), List.nodup_nil⟩
theorem len_1 (a : Nat) : [a].length ≤ 6 := by rw [List.length_singleton]; decide
theorem SP_sn {l : List Nat} {s t : Nat} (h : SP (l ++ [s])) (ht : t < 6) (hn : t ∉ l ++ [s]) (hb : ¬ s / 2 = t / 2) (hl : (l ++ [s]).length ≤ 5) : SP (l ++ [s] ++ [t]) := by
  refine ⟨List.nodup_append.mpr ⟨h.1, nd_1 t, fun a ha b hb2 e => ?_⟩, chn_sn l s t h.2.1 hb, fun x hx => ?_, ?_⟩
  · rw [List.mem_singleton] at hb2
    exact hn (by rw [← hb2, ← e]; exact ha)
  · rcases List.mem_append.mp hx with e | e
    · exact h.2.2.1 x e
    · rw [List.mem_singleton] at e
      rw [e]; exact ht
  · rw [List.length_append, List.length_singleton]; omega
theorem SP_nx {l suf : List Nat} {s t : Nat} (h : SP (l ++ [s] ++ t :: suf)) : t < 6 ∧ t ∉ l ++ [s] ∧ ¬ s / 2 = t / 2 := by
  obtain ⟨h1, h2, h3, h4⟩ := h
  have ht : t ∈ t :: suf := List.mem_cons.mpr (Or.inl rfl)
  refine ⟨h3 t (List.mem_append_right _ ht), fun c => (List.nodup_append.mp h1).2.2 t c t ht rfl, ?_⟩
  rw [List.append_assoc] at h2
  have h5 : chn (s :: t :: suf) := chn_app l h2
  exact h5.1
theorem SP_pv {pre r : List Nat} {s t : Nat} (h : SP (pre ++ t :: s :: r)) : t < 6 ∧ t ∉ s :: r ∧ ¬ t / 2 = s / 2 := by
  obtain ⟨h1, h2, h3, h4⟩ := SP_app h
  exact ⟨h3 t (List.mem_cons.mpr (Or.inl rfl)), (List.nodup_cons.mp h1).1, h2.1⟩
theorem pre_nil {pre r : List Nat} {s : Nat} (h : SP (pre ++ s :: r)) (hh : Hd (pre ++ s :: r) s) : pre = [] := by
  cases pre with
  | nil => rfl
  | cons a p =>
    obtain ⟨M, e⟩ := hh
    rw [List.cons_append] at e
    have e1 : a = s := (List.cons.inj e).1
    exact absurd e1 ((List.nodup_append.mp h.1).2.2 a (List.mem_cons.mpr (Or.inl rfl)) s (List.mem_cons.mpr (Or.inl rfl)))
theorem pre_some {pre r : List Nat} {s a : Nat} (hh : Hd (pre ++ s :: r) a) (hn : ¬ s = a) : ∃ p t, pre = p ++ [t] := by
  rcases List.eq_nil_or_concat pre with e | ⟨p, t, e⟩
  · subst e
    obtain ⟨M, e⟩ := hh
    rw [List.nil_append] at e
    exact absurd (List.cons.inj e).1 hn
  · exact ⟨p, t, by rw [e, List.concat_eq_append]⟩
theorem ls_in {m : List Nat} {t b : Nat} (h : Ls (m ++ [t]) b) : t = b := by
  obtain ⟨M, e⟩ := h
  exact (List.cons.inj (List.append_inj' e rfl).2).1
theorem suf_nil {m suf : List Nat} {t : Nat} (h : SP (m ++ t :: suf)) (hl : Ls (m ++ t :: suf) t) : suf = [] := by
  rcases List.eq_nil_or_concat suf with e | ⟨p, b, e⟩
  · exact e
  · rw [List.concat_eq_append] at e
    subst e
    have e3 : m ++ t :: (p ++ [b]) = (m ++ t :: p) ++ [b] := by rw [List.append_assoc]; rfl
    rw [e3] at hl h
    have e4 := ls_in hl
    exact absurd e4.symm ((List.nodup_append.mp h.1).2.2 t (List.mem_append_right _ (List.mem_cons.mpr (Or.inl rfl))) b (List.mem_singleton.mpr rfl))
theorem suf_some {m suf : List Nat} {t b : Nat} (hl : Ls (m ++ t :: suf) b) (hn : ¬ t = b) : ∃ t2 s2, suf = t2 :: s2 := by
  cases suf with
  | nil => exact absurd (ls_in hl) hn
  | cons a r => exact ⟨a, r, rfl⟩
/-- the least -/
def Mn (d : Nat → Nat) (P q : Nat → Int32) (a b : Nat) (v : Int32) : Prop := (∃ L, OKL a b L ∧ v = VL d P q L) ∧ ∀ L, OKL a b L → v.toInt ≤ (VL d P q L).toInt
theorem Mn_one {d : Nat → Nat} {P q : Nat → Int32} {a b : Nat} {v v' : Int32} (h : Mn d P q a b v) (h' : Mn d P q a b v') : v = v' := by
  obtain ⟨⟨L, h1, e1⟩, h2⟩ := h
  obtain ⟨⟨L', h1', e1'⟩, h2'⟩ := h'
  have a1 := h2 L' h1'
  have a2 := h2' L h1
  rw [← e1'] at a1
  rw [← e1] at a2
  exact (pi_eq _ _).mpr (by omega)
theorem ok_ex {a b : Nat} (ha : a < 6) (hb : b < 6) : ∃ L, OKL a b L := by
  by_cases e : a = b
  · subst e
    refine ⟨[a], ⟨nd_1 a, trivial, fun x hx => ?_, len_1 a⟩, ⟨[], rfl⟩, ⟨[], rfl⟩⟩
    rw [List.mem_singleton] at hx
    rw [hx]; exact ha
  · by_cases e2 : a / 2 = b / 2
    · refine ⟨[a, (a + 2) % 6, b], ⟨List.nodup_cons.mpr ⟨?_, List.nodup_cons.mpr ⟨?_, nd_1 b⟩⟩, ⟨?_, ?_, trivial⟩, fun x hx => ?_, by show 3 ≤ 6; decide⟩, ⟨_, rfl⟩, ⟨[a, (a + 2) % 6], rfl⟩⟩
      · rw [List.mem_cons, List.mem_singleton]; omega
      · rw [List.mem_singleton]; omega
      · omega
      · omega
      · rw [List.mem_cons, List.mem_cons, List.mem_singleton] at hx; omega
    · refine ⟨[a, b], ⟨List.nodup_cons.mpr ⟨?_, nd_1 b⟩, ⟨e2, trivial⟩, fun x hx => ?_, by show 2 ≤ 6; decide⟩, ⟨_, rfl⟩, ⟨[a], rfl⟩⟩
      · rw [List.mem_singleton]; exact e
      · rw [List.mem_cons, List.mem_singleton] at hx; omega
/-! bounds -/
def Bd (B : Int) (X : Nat → Int32) : Prop := ∀ j, j < 3 → -B ≤ (X j).toInt ∧ (X j).toInt ≤ B
theorem sg_toInt (k : Nat) : (sg k).toInt = 1 ∨ (sg k).toInt = -1 := by
  unfold sg
  by_cases e : k % 2 = 0
  · rw [if_pos e]; exact Or.inl rfl
  · rw [if_neg e]; exact Or.inr rfl
theorem sg_mul {k : Nat} {x : Int32} {B : Int} (hB : B ≤ 100000) (h : -B ≤ x.toInt ∧ x.toInt ≤ B) : -B ≤ (sg k * x).toInt ∧ (sg k * x).toInt ≤ B := by
  rcases sg_toInt k with e | e
  · rw [fb_mulI (by rw [e]; omega) (by rw [e]; omega), e]; omega
  · rw [fb_mulI (by rw [e]; omega) (by rw [e]; omega), e]; omega
theorem enD_b {d : Nat → Nat} {s : Nat} (hd : ∀ j, j < 3 → d j ≤ 5) (hs : s < 6) : 0 ≤ (enD d s).toInt ∧ (enD d s).toInt ≤ 10 := by
  have := hd (s / 2) (by omega)
  unfold enD
  by_cases e : s % 2 = 0
  · rw [if_pos e, nI_toInt (by omega)]; omega
  · rw [if_neg e, nI_toInt (by omega)]; omega
theorem uf_bd {d : Nat → Nat} {f t : Nat} {X : Nat → Int32} {B : Int} (hd : ∀ j, j < 3 → d j ≤ 5) (hf : f < 6) (ht : t < 6) (hB : 10 ≤ B ∧ B ≤ 1000) (h : Bd B X) : Bd (B + 20) (uf d f t X) := by
  intro j hj
  have e1 := enD_b hd hf
  have e2 := enD_b hd ht
  have hx := h (t / 2) (by omega)
  have hxj := h j hj
  unfold uf
  by_cases q1 : j = f / 2
  · rw [if_pos q1]
    have s1 : (enD d t - X (t / 2)).toInt = (enD d t).toInt - (X (t / 2)).toInt := fb_subI (by omega) (by omega)
    have s2 := sg_mul (k := t ^^^ 1) (x := enD d t - X (t / 2)) (B := B + 10) (by omega) (by rw [s1]; omega)
    have s3 := sg_mul (k := f ^^^ 1) (x := sg (t ^^^ 1) * (enD d t - X (t / 2))) (B := B + 10) (by omega) s2
    rw [fb_addI (by omega) (by omega)]
    omega
  · rw [if_neg q1]
    by_cases q2 : j = t / 2
    · rw [if_pos q2]; omega
    · rw [if_neg q2]; omega
theorem Uq_bd {d : Nat → Nat} {q : Nat → Int32} (hd : ∀ j, j < 3 → d j ≤ 5) (hq : Bd 10 q) : ∀ L : List Nat, (∀ x ∈ L, x < 6) → L.length ≤ 6 → Bd (10 + 20 * (L.length : Int)) (Uq d q L)
  | [], _, _ => fun j hj => by
    have := hq j hj
    show -(10 + 20 * ((0 : Nat) : Int)) ≤ (q j).toInt ∧ (q j).toInt ≤ 10 + 20 * ((0 : Nat) : Int)
    omega
  | [_], _, _ => fun j hj => by
    have := hq j hj
    show -(10 + 20 * ((1 : Nat) : Int)) ≤ (q j).toInt ∧ (q j).toInt ≤ 10 + 20 * ((1 : Nat) : Int)
    omega
  | s :: t :: r, hx, hl => by
    have hl2 : (t :: r).length + 1 ≤ 6 := hl
    have ih := Uq_bd hd hq (t :: r) (fun x h => hx x (List.mem_cons.mpr (Or.inr h))) (by omega)
    have h1 := uf_bd (f := t) (t := s) hd (hx t (List.mem_cons.mpr (Or.inr (List.mem_cons.mpr (Or.inl rfl))))) (hx s (List.mem_cons.mpr (Or.inl rfl))) (by omega) ih
    intro j hj
    have h2 := h1 j hj
    show -(10 + 20 * (((t :: r).length + 1 : Nat) : Int)) ≤ (uf d t s (Uq d q (t :: r)) j).toInt ∧ (uf d t s (Uq d q (t :: r)) j).toInt ≤ 10 + 20 * (((t :: r).length + 1 : Nat) : Int)
    omega
theorem sq_b {a : Int} (h : -1000 ≤ a ∧ a ≤ 1000) : 0 ≤ a * a ∧ a * a ≤ 1000000 := by
  have e : ((a.natAbs * a.natAbs : Nat) : Int) = a * a := Int.natAbs_mul_self
  have h1 : a.natAbs ≤ 1000 := by omega
  have h2 := Nat.mul_le_mul h1 h1
  rw [← e]
  generalize a.natAbs * a.natAbs = n at h2
  omega
theorem sq_I {x : Int32} (h : -1000 ≤ x.toInt ∧ x.toInt ≤ 1000) : 0 ≤ (x * x).toInt ∧ (x * x).toInt ≤ 1000000 := by
  have := sq_b h
  rw [fb_mulI (by omega) (by omega)]
  exact this
theorem VL_b {d : Nat → Nat} {P q : Nat → Int32} {L : List Nat} (hd : ∀ j, j < 3 → d j ≤ 5) (hP : Bd 10 P) (hq : Bd 10 q) (h : SP L) : 0 ≤ (VL d P q L).toInt ∧ (VL d P q L).toInt < 1073741824 := by
  have hb := Uq_bd hd hq L h.2.2.1 h.2.2.2
  have h6 := h.2.2.2
  have key : ∀ j, j < 3 → 0 ≤ ((Uq d q L j - P j) * (Uq d q L j - P j)).toInt ∧ ((Uq d q L j - P j) * (Uq d q L j - P j)).toInt ≤ 1000000 := fun j hj => by
    have h1 := hb j hj
    have h2 := hP j hj
    refine sq_I ?_
    rw [fb_subI (by omega) (by omega)]
    omega
  have k0 := key 0 (by decide)
  have k1 := key 1 (by decide)
  have k2 := key 2 (by decide)
  show 0 ≤ ((((0 : Int32) + (Uq d q L 0 - P 0) * (Uq d q L 0 - P 0)) + (Uq d q L 1 - P 1) * (Uq d q L 1 - P 1)) + (Uq d q L 2 - P 2) * (Uq d q L 2 - P 2)).toInt ∧ ((((0 : Int32) + (Uq d q L 0 - P 0) * (Uq d q L 0 - P 0)) + (Uq d q L 1 - P 1) * (Uq d q L 1 - P 1)) + (Uq d q L 2 - P 2) * (Uq d q L 2 - P 2)).toInt < 1073741824
  rw [Int32.zero_add]
  generalize (Uq d q L 0 - P 0) * (Uq d q L 0 - P 0) = a0 at k0 ⊢
  generalize (Uq d q L 1 - P 1) * (Uq d q L 1 - P 1) = a1 at k1 ⊢
  generalize (Uq d q L 2 - P 2) * (Uq d q L 2 - P 2) = a2 at k2 ⊢
  have e1 : (a0 + a1).toInt = a0.toInt + a1.toInt := fb_addI (by omega) (by omega)
  have e2 : (a0 + a1 + a2).toInt = (a0 + a1).toInt + a2.toInt := fb_addI (by omega) (by omega)
  omega
theorem posB {d : Nat → Nat} {s l : Nat} (hs : s < 6) (hd : ∀ j, j < 3 → 1 ≤ d j ∧ d j ≤ 5) (hl : l < sz d s) : Bd 10 (fun j => nI (posOf d s l j)) := by
  intro j hj
  have ho := posOf_ok hs (fun j hj => (hd j hj).1) hl
  have h5 := hd j hj
  have h5s := hd (s / 2) (by omega)
  have hp : posOf d s l j ≤ 10 := by
    by_cases e : j = s / 2
    · rw [e, ho.2]; split <;> omega
    · have := (ho.1 j hj e).2; omega
  show -10 ≤ (nI (posOf d s l j)).toInt ∧ (nI (posOf d s l j)).toInt ≤ 10
  rw [nI_toInt (by omega)]
  omega
