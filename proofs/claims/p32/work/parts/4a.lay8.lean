/-! ===== worlds up to order; the class's own world ===== -/
theorem P_mem {D : va_G} {ws : va_W} {H : Heap} : va_P D vwCl ws H ↔ ∀ q ∈ ws, va_at D vwCl q H :=
  ⟨fun h q hq => by obtain ⟨k, hk⟩ := List.mem_iff_getElem?.mp hq; exact h k q hk, fun h k q hk => h q (List.mem_of_getElem? hk)⟩
theorem D_mem {A : Nat → Prop} {ws : va_W} : va_D A ws ↔ (ws.map (fun q => q.1)).Nodup ∧ ∀ q ∈ ws, A q.1 := by
  constructor
  · intro h
    refine ⟨?_, fun q hq => by obtain ⟨k, hk⟩ := List.mem_iff_getElem?.mp hq; exact h.2 k q hk⟩
    rw [List.nodup_iff_pairwise_ne, List.pairwise_iff_getElem]
    intro i j hi hj hij he
    simp only [List.length_map] at hi hj
    simp only [List.getElem_map] at he
    have := h.1 i j ws[i] ws[j] (List.getElem?_eq_getElem hi) (List.getElem?_eq_getElem hj) he
    omega
  · intro h
    refine ⟨fun i j p q hi hj hpq => ?_, fun k q hk => h.2 q (List.mem_of_getElem? hk)⟩
    obtain ⟨hi', ei⟩ := List.getElem?_eq_some_iff.mp hi
    obtain ⟨hj', ej⟩ := List.getElem?_eq_some_iff.mp hj
    have h1 := h.1
    rw [List.nodup_iff_pairwise_ne, List.pairwise_iff_getElem] at h1
    rcases Nat.lt_trichotomy i j with hl | hl | hl
    · have h2 := h1 i j (by simpa using hi') (by simpa using hj') hl
      simp only [List.getElem_map] at h2
      rw [ei, ej] at h2
      exact absurd hpq h2
    · exact hl
    · have h2 := h1 j i (by simpa using hj') (by simpa using hi') hl
      simp only [List.getElem_map] at h2
      rw [ei, ej] at h2
      exact absurd hpq.symm h2
theorem GW.perm {D : va_G} {A : Nat → Prop} {s : State} {ws ws' : va_W} {H : Heap} {locs : List Loc} (h : GW D A s ws H locs) (hp : ws.Perm ws') : GW D A s ws' H locs :=
  ⟨P_mem.mpr (fun q hq => P_mem.mp h.1 q (hp.mem_iff.mpr hq)), D_mem.mpr ⟨((hp.map _).nodup_iff).mp (D_mem.mp h.2.1).1, fun q hq => (D_mem.mp h.2.1).2 q (hp.mem_iff.mpr hq)⟩, h.2.2⟩
theorem A_mem {ws : va_W} {sz q : Nat} : va_A ws sz q ↔ q ∈ ws.map (fun q => q.1) ∨ sz ≤ q := by
  constructor
  · rintro (⟨k, e, h⟩ | h)
    · exact Or.inl (List.mem_map.mpr ⟨(q, e), List.mem_of_getElem? h, rfl⟩)
    · exact Or.inr h
  · rintro (h | h)
    · obtain ⟨⟨q', e⟩, hq, rfl⟩ := List.mem_map.mp h
      obtain ⟨k, hk⟩ := List.mem_iff_getElem?.mp hq
      exact Or.inl ⟨k, e, hk⟩
    · exact Or.inr h
theorem Foc.perm {D : va_G} {A : Nat → Prop} {s : State} (hA : ∀ q : Nat, s.heap.size ≤ q → A q) {σ' : Type} {ws wr : va_W} {w' rv : σ' → va_W} {S' : σ'} (h1 : ws.Perm (w' S' ++ wr)) (h2 : ∀ S1, (w' S1 ++ wr).Perm (rv S1)) : Foc D A s ws w' S' rv := by
  intro H locs hG
  have hG2 := hG.perm h1
  have hd := (D_mem.mp hG2.2.1)
  have hp := P_mem.mp hG2.1
  rw [List.map_append, List.nodup_append] at hd
  obtain ⟨⟨nc, nr, dis⟩, hAm⟩ := hd
  have hF : ∀ q, va_A (w' S') H.size q → A q := by
    intro q h
    rcases A_mem.mp h with h | h
    · obtain ⟨x, hx, rfl⟩ := List.mem_map.mp h
      exact hAm x (List.mem_append_left _ hx)
    · exact hA q (Nat.le_trans hG.2.2.1 h)
  refine ⟨P_mem.mpr (fun q hq => hp q (List.mem_append_left _ hq)), D_mem.mpr ⟨nc, fun _ _ => trivial⟩, hF, fun H1 S1 g1 g2 g3 => ?_⟩
  have hr : ∀ x ∈ wr, x.1 < H.size ∧ ¬ va_A (w' S') H.size x.1 := by
    intro x hx
    have hl := (hp x (List.mem_append_right _ hx)).lt
    refine ⟨hl, fun h => ?_⟩
    rcases A_mem.mp h with h | h
    · exact dis _ h _ (List.mem_map.mpr ⟨x, hx, rfl⟩) rfl
    · omega
  have g3' := D_mem.mp g3
  have key : va_P D vwCl (w' S1 ++ wr) H1 ∧ va_D A (w' S1 ++ wr) := by
    refine ⟨P_mem.mpr (fun q hq => ?_), D_mem.mpr ⟨?_, fun q hq => ?_⟩⟩
    · rcases List.mem_append.mp hq with h | h
      · exact P_mem.mp g2 q h
      · exact (hp q (List.mem_append_right _ h)).kept (g1 q.1 (hr q h).1 (hr q h).2)
    · rw [List.map_append, List.nodup_append]
      refine ⟨g3'.1, nr, fun a ha b hb hab => ?_⟩
      obtain ⟨x, hx, rfl⟩ := List.mem_map.mp ha
      obtain ⟨y, hy, rfl⟩ := List.mem_map.mp hb
      exact (hr y hy).2 (by have := g3'.2 x hx; rw [hab] at this; exact this)
    · rcases List.mem_append.mp hq with h | h
      · exact hF _ (g3'.2 q h)
      · exact hAm q (List.mem_append_right _ h)
  exact ⟨P_mem.mpr (fun q hq => P_mem.mp key.1 q ((h2 S1).mem_iff.mpr hq)), D_mem.mpr ⟨(((h2 S1).map _).nodup_iff).mp (D_mem.mp key.2).1, fun q hq => (D_mem.mp key.2).2 q ((h2 S1).mem_iff.mpr hq)⟩⟩
theorem flat_perm {α : Type} {l1 l2 : List (List α)} (h : l1.Perm l2) : l1.flatten.Perm l2.flatten := by
  induction h with
  | nil => exact List.Perm.refl _
  | cons x _ ih => exact ih.append_left x
  | swap x y l =>
    simp only [List.flatten_cons, ← List.append_assoc]
    exact (List.perm_append_comm).append_right _
  | trans _ _ ih1 ih2 => exact ih1.trans ih2
theorem flat_at {α : Type} (f : Nat → List α) {L : List Nat} {k : Nat} (hk : k ∈ L) : (List.map f L).flatten.Perm (f k ++ (List.map f (L.erase k)).flatten) :=
  flat_perm ((List.perm_cons_erase hk).map f)
theorem flat_cong {α : Type} {f g : Nat → List α} {L : List Nat} (h : ∀ j ∈ L, f j = g j) : (List.map f L).flatten = (List.map g L).flatten := by
  rw [List.map_congr_left h]
theorem up_same (X : Nat → MS) (k : Nat) : va_up X k (X k) = X := by
  funext j
  by_cases h : j = k
  · subst h; simp [va_up]
  · simp [va_up, h]
theorem up_back {X : Nat → MS} {a b : Nat} {S : MS} (h : b ≠ a) : va_up (va_up X a S) b (X b) = va_up X a S := by
  funext j
  by_cases e : j = b
  · subst e; simp [va_up, h]
  · simp [va_up, e]
theorem up_at (X : Nat → MS) (k : Nat) (S : MS) : va_up X k S k = S := by simp [va_up]
theorem up_no (X : Nat → MS) {k j : Nat} (S : MS) (h : j ≠ k) : va_up X k S j = X j := by simp [va_up, h]
/-- the twenty objects, by number -/
def blk (j o : Nat) (q : Nat → Nat) (cy : Nat → ClassId) (S : MS) : va_W := if j < 6 then w2 o q cy S else if j < 10 then w1 o q cy S else if j < 15 then w5 o q cy S else if j < 17 then w6 o q cy S else if j < 18 then w7 o q cy S else if j < 19 then w4 o q cy S else w3 o q cy S
def wP0 (o : Nat) (qp oa : Nat → Nat) (cy : Nat → ClassId) (Z : MS) : va_W := [(o, .inr (7, [.ref (qp 0), .ref (qp 1), .ref (qp 2), .ref (oa 14), .ref (oa 15), .ref (oa 16), .ref (oa 17), .ref (oa 18), .ref (oa 19), .ref (qp 9), .int (fI Z 10), .long (fJ Z 11)])), (qp 0, .inl (cy 3, 6, .inr (.inr (.inr (.inr (fun i => some (oa i))))))), (qp 1, .inl (cy 2, 4, .inr (.inr (.inr (.inr (fun i => some (oa (6 + i)))))))), (qp 2, .inl (cy 4, 4, .inr (.inr (.inr (.inr (fun i => some (oa (10 + i)))))))), (qp 9, .inl (cy 0, 6, .inl (aI Z 9)))]
def wPb (oa : Nat → Nat) (qa : Nat → Nat → Nat) (cy : Nat → ClassId) (X : Nat → MS) (L : List Nat) : va_W := (List.map (fun j => blk j (oa j) (qa j) cy (X j)) L).flatten
def wP (o : Nat) (qp oa : Nat → Nat) (qa : Nat → Nat → Nat) (cy : Nat → ClassId) (Z : MS) (X : Nat → MS) : va_W := wP0 o qp oa cy Z ++ wPb oa qa cy X (List.range 20)
section W8
variable {o : Nat} {qp oa : Nat → Nat} {qa : Nat → Nat → Nat} {cy : Nat → ClassId} {Z : MS} {X : Nat → MS} {D : va_G} {A : Nat → Prop} {s : State}
theorem wPb_at {L : List Nat} {k : Nat} (hk : k ∈ L) : (wPb oa qa cy X L).Perm (blk k (oa k) (qa k) cy (X k) ++ wPb oa qa cy X (L.erase k)) := flat_at (fun j => blk j (oa j) (qa j) cy (X j)) hk
theorem wPb_up {L : List Nat} {k : Nat} (hk : k ∉ L) (S : MS) : wPb oa qa cy (va_up X k S) L = wPb oa qa cy X L :=
  flat_cong (fun j hj => by have e : j ≠ k := fun e => hk (by rw [← e]; exact hj)
                            rw [up_no X S e])
theorem wP_split {k : Nat} (hk : k < 20) : (wP o qp oa qa cy Z X).Perm (blk k (oa k) (qa k) cy (X k) ++ (wP0 o qp oa cy Z ++ wPb oa qa cy X ((List.range 20).erase k))) := by
  refine ((wPb_at (List.mem_range.mpr hk)).append_left (wP0 o qp oa cy Z)).trans ?_
  rw [← List.append_assoc, ← List.append_assoc]
  exact (List.perm_append_comm).append_right _
theorem nr20 {k : Nat} : k ∉ (List.range 20).erase k := (List.nodup_range (n := 20)).not_mem_erase
theorem fo_1k {k : Nat} (hA : ∀ q : Nat, s.heap.size ≤ q → A q) (hk : k < 20) {w' : MS → va_W} (hw : ∀ S, blk k (oa k) (qa k) cy S = w' S) : Foc D A s (wP o qp oa qa cy Z X) w' (X k) (fun S1 => wP o qp oa qa cy Z (va_up X k S1)) := by
  refine Foc.perm hA (wr := wP0 o qp oa cy Z ++ wPb oa qa cy X ((List.range 20).erase k)) ?_ (fun S1 => ?_)
  · rw [← hw]; exact wP_split hk
  · rw [← hw]
    have h := (wP_split (o := o) (qp := qp) (oa := oa) (qa := qa) (cy := cy) (Z := Z) (X := va_up X k S1) hk).symm
    rw [up_at, wPb_up nr20] at h
    exact h
theorem wP_split2 {k0 k1 : Nat} (h0 : k0 < 20) (h1 : k1 < 20) (h01 : k1 ≠ k0) : (wP o qp oa qa cy Z X).Perm ((blk k0 (oa k0) (qa k0) cy (X k0) ++ blk k1 (oa k1) (qa k1) cy (X k1)) ++ (wP0 o qp oa cy Z ++ wPb oa qa cy X (((List.range 20).erase k0).erase k1))) := by
  refine (wP_split h0).trans ?_
  rw [List.append_assoc]
  refine List.Perm.append_left _ ?_
  have hm : k1 ∈ (List.range 20).erase k0 := (List.mem_erase_of_ne h01).mpr (List.mem_range.mpr h1)
  refine ((wPb_at hm).append_left _).trans ?_
  rw [← List.append_assoc, ← List.append_assoc]
  exact (List.perm_append_comm).append_right _
theorem nr20b {k0 k1 : Nat} : k0 ∉ ((List.range 20).erase k0).erase k1 ∧ k1 ∉ ((List.range 20).erase k0).erase k1 :=
  ⟨fun h => nr20 (List.mem_of_mem_erase h), ((List.nodup_range (n := 20)).erase k0).not_mem_erase⟩
theorem fo_2k {k0 k1 : Nat} (hA : ∀ q : Nat, s.heap.size ≤ q → A q) (h0 : k0 < 20) (h1 : k1 < 20) (h01 : k1 ≠ k0) {wa wb : MS → va_W} (ha : ∀ S, blk k0 (oa k0) (qa k0) cy S = wa S) (hb : ∀ S, blk k1 (oa k1) (qa k1) cy S = wb S) : Foc D A s (wP o qp oa qa cy Z X) (fun z : MS × MS => (wa z.1 ++ wb z.2 : va_W)) (X k0, X k1) (fun z => wP o qp oa qa cy Z (va_up (va_up X k0 z.1) k1 z.2)) := by
  refine Foc.perm hA (wr := wP0 o qp oa cy Z ++ wPb oa qa cy X (((List.range 20).erase k0).erase k1)) ?_ (fun z => ?_)
  · show (wP o qp oa qa cy Z X).Perm ((wa (X k0) ++ wb (X k1)) ++ _)
    rw [← ha, ← hb]; exact wP_split2 h0 h1 h01
  · show ((wa z.1 ++ wb z.2) ++ _ : va_W).Perm _
    rw [← ha, ← hb]
    have h := (wP_split2 (o := o) (qp := qp) (oa := oa) (qa := qa) (cy := cy) (Z := Z) (X := va_up (va_up X k0 z.1) k1 z.2) h0 h1 h01).symm
    rw [up_at, up_no _ z.2 (fun e => h01 e.symm), up_at, wPb_up nr20b.2, wPb_up nr20b.1] at h
    exact h
theorem wP_split3 {k0 k1 k2 : Nat} (h0 : k0 < 20) (h1 : k1 < 20) (h2 : k2 < 20) (h01 : k1 ≠ k0) (h02 : k2 ≠ k0) (h12 : k2 ≠ k1) : (wP o qp oa qa cy Z X).Perm (((blk k0 (oa k0) (qa k0) cy (X k0) ++ blk k1 (oa k1) (qa k1) cy (X k1)) ++ blk k2 (oa k2) (qa k2) cy (X k2)) ++ (wP0 o qp oa cy Z ++ wPb oa qa cy X ((((List.range 20).erase k0).erase k1).erase k2))) := by
  refine (wP_split2 h0 h1 h01).trans ?_
  rw [List.append_assoc (blk k0 (oa k0) (qa k0) cy (X k0) ++ blk k1 (oa k1) (qa k1) cy (X k1))]
  refine List.Perm.append_left _ ?_
  have hm : k2 ∈ ((List.range 20).erase k0).erase k1 := (List.mem_erase_of_ne h12).mpr ((List.mem_erase_of_ne h02).mpr (List.mem_range.mpr h2))
  refine ((wPb_at hm).append_left _).trans ?_
  rw [← List.append_assoc, ← List.append_assoc]
  exact (List.perm_append_comm).append_right _
theorem fo_3k {k0 k1 k2 : Nat} (hA : ∀ q : Nat, s.heap.size ≤ q → A q) (h0 : k0 < 20) (h1 : k1 < 20) (h2 : k2 < 20) (h01 : k1 ≠ k0) (h02 : k2 ≠ k0) (h12 : k2 ≠ k1) {wa wb wc : MS → va_W} (ha : ∀ S, blk k0 (oa k0) (qa k0) cy S = wa S) (hb : ∀ S, blk k1 (oa k1) (qa k1) cy S = wb S) (hc : ∀ S, blk k2 (oa k2) (qa k2) cy S = wc S) : Foc D A s (wP o qp oa qa cy Z X) (fun z : MS × MS × MS => (wa z.1 ++ wb z.2.1 ++ wc z.2.2 : va_W)) (X k0, X k1, X k2) (fun z => wP o qp oa qa cy Z (va_up (va_up (va_up X k0 z.1) k1 z.2.1) k2 z.2.2)) := by
  refine Foc.perm hA (wr := wP0 o qp oa cy Z ++ wPb oa qa cy X ((((List.range 20).erase k0).erase k1).erase k2)) ?_ (fun z => ?_)
  · show (wP o qp oa qa cy Z X).Perm ((wa (X k0) ++ wb (X k1) ++ wc (X k2)) ++ _)
    rw [← ha, ← hb, ← hc]; exact wP_split3 h0 h1 h2 h01 h02 h12
  · show ((wa z.1 ++ wb z.2.1 ++ wc z.2.2) ++ _ : va_W).Perm _
    rw [← ha, ← hb, ← hc]
    have h := (wP_split3 (o := o) (qp := qp) (oa := oa) (qa := qa) (cy := cy) (Z := Z) (X := va_up (va_up (va_up X k0 z.1) k1 z.2.1) k2 z.2.2) h0 h1 h2 h01 h02 h12).symm
    have n0 : k0 ∉ (((List.range 20).erase k0).erase k1).erase k2 := fun h => nr20b.1 (List.mem_of_mem_erase h)
    have n1 : k1 ∉ (((List.range 20).erase k0).erase k1).erase k2 := fun h => nr20b.2 (List.mem_of_mem_erase h)
    have n2 : k2 ∉ (((List.range 20).erase k0).erase k1).erase k2 := (((List.nodup_range (n := 20)).erase k0).erase k1).not_mem_erase
    rw [up_at, up_no _ z.2.2 (fun e => h12 e.symm), up_at, up_no _ z.2.2 (fun e => h02 e.symm), up_no _ z.2.1 (fun e => h01 e.symm), up_at, wPb_up n2, wPb_up n1, wPb_up n0] at h
    exact h
end W8
theorem blk2 {k o : Nat} {q : Nat → Nat} {cy : Nat → ClassId} {S : MS} (h : 0 ≤ k ∧ k < 6) : blk k o q cy S = w2 o q cy S := by simp [blk, h.2]
theorem blk1 {k o : Nat} {q : Nat → Nat} {cy : Nat → ClassId} {S : MS} (h : 6 ≤ k ∧ k < 10) : blk k o q cy S = w1 o q cy S := by simp [blk, h.2, show ¬ k < 6 by omega]
theorem blk5 {k o : Nat} {q : Nat → Nat} {cy : Nat → ClassId} {S : MS} (h : 10 ≤ k ∧ k < 15) : blk k o q cy S = w5 o q cy S := by simp [blk, h.2, show ¬ k < 6 by omega, show ¬ k < 10 by omega]
theorem blk6 {k o : Nat} {q : Nat → Nat} {cy : Nat → ClassId} {S : MS} (h : 15 ≤ k ∧ k < 17) : blk k o q cy S = w6 o q cy S := by simp [blk, h.2, show ¬ k < 6 by omega, show ¬ k < 10 by omega, show ¬ k < 15 by omega]
theorem blk7 {k o : Nat} {q : Nat → Nat} {cy : Nat → ClassId} {S : MS} (h : 17 ≤ k ∧ k < 18) : blk k o q cy S = w7 o q cy S := by simp [blk, h.2, show ¬ k < 6 by omega, show ¬ k < 10 by omega, show ¬ k < 15 by omega, show ¬ k < 17 by omega]
theorem blk4 {k o : Nat} {q : Nat → Nat} {cy : Nat → ClassId} {S : MS} (h : 18 ≤ k ∧ k < 19) : blk k o q cy S = w4 o q cy S := by simp [blk, h.2, show ¬ k < 6 by omega, show ¬ k < 10 by omega, show ¬ k < 15 by omega, show ¬ k < 17 by omega, show ¬ k < 18 by omega]
theorem blk3 {k o : Nat} {q : Nat → Nat} {cy : Nat → ClassId} {S : MS} (h : 19 ≤ k ∧ k < 20) : blk k o q cy S = w3 o q cy S := by simp [blk, show ¬ k < 6 by omega, show ¬ k < 10 by omega, show ¬ k < 15 by omega, show ¬ k < 17 by omega, show ¬ k < 18 by omega, show ¬ k < 19 by omega]
theorem wP_mem {o : Nat} {qp oa : Nat → Nat} {qa : Nat → Nat → Nat} {cy : Nat → ClassId} {Z : MS} {X : Nat → MS} {k : Nat} (hk : k < 20) {w : va_W} (hw : blk k (oa k) (qa k) cy (X k) = w) {c : Nat × va_E} (hc : c ∈ w) : ∃ q0 : Nat, (wP o qp oa qa cy Z X)[q0]? = some c :=
  List.mem_iff_getElem?.mp ((wP_split hk).mem_iff.mpr (List.mem_append_left _ (hw ▸ hc)))
/-- a row's places, and what stands when they are written -/
theorem set_perm {l r : va_W} {c c' : Nat × va_E} (h : l.Perm (c :: r)) : ∃ q0 : Nat, l[q0]? = some c ∧ (l.set q0 c').Perm (c' :: r) := by
  obtain ⟨l1, l2, rfl⟩ := List.append_of_mem (h.mem_iff.mpr List.mem_cons_self)
  refine ⟨l1.length, by simp, ?_⟩
  have h2 : (l1 ++ l2).Perm r := (List.perm_cons c).mp ((List.perm_middle.symm).trans h)
  have e : (l1 ++ c :: l2).set l1.length c' = l1 ++ c' :: l2 := by simp [List.set_append]
  rw [e]
  exact (List.perm_middle).trans (h2.cons c')
theorem at5_0 {o : Nat} {qp oa : Nat → Nat} {qa : Nat → Nat → Nat} {cy : Nat → ClassId} {Z : MS} {X : Nat → MS} {k : Nat} (hk : 10 ≤ k ∧ k < 15) (f : Nat → Int32) : ∃ q0 : Nat, (wP o qp oa qa cy Z X)[q0]? = some (qa k 0, .inl (cy 0, 24, .inl (aI (X k) 0))) ∧ ((wP o qp oa qa cy Z X).set q0 (qa k 0, .inl (cy 0, 24, .inl f))).Perm (wP o qp oa qa cy Z (va_up X k (pA (X k) 0 f))) := by
  have h1 := wP_split (o := o) (qp := qp) (oa := oa) (qa := qa) (cy := cy) (Z := Z) (X := X) (show k < 20 by omega)
  have h2 := wP_split (o := o) (qp := qp) (oa := oa) (qa := qa) (cy := cy) (Z := Z) (X := va_up X k (pA (X k) 0 f)) (show k < 20 by omega)
  rw [blk5 hk] at h1 h2
  rw [up_at, wPb_up nr20] at h2
  generalize wP0 o qp oa cy Z ++ wPb oa qa cy X ((List.range 20).erase k) = r at h1 h2
  have h3 : (wP o qp oa qa cy Z X).Perm ((qa k 0, .inl (cy 0, 24, .inl (aI (X k) 0))) :: (oa k, .inr (4, [.ref (qa k 0), .int (fI (X k) 1)])) :: r) := h1.trans (List.Perm.swap _ _ _)
  obtain ⟨q0, e1, e2⟩ := set_perm (c' := (qa k 0, .inl (cy 0, 24, .inl f))) h3
  exact ⟨q0, e1, e2.trans ((List.Perm.swap _ _ _).trans h2.symm)⟩
section Rows8
variable {p : Program} {l : Launch} {e : Env} {R : Room} {s : State} {m : MethodId} {args : Array Value} {below : List Frame} {meth : Method} {c : Code} {H : Heap} {locs : List Loc} {cells slots : Nat} {Q : State → Prop}
variable {cc : ByteArray} {nL : Nat} {ret : Option FieldType} {Ts : List Cond} {own : String} {D : va_G} {cy : Nat → ClassId} {ns : List Cond} {A : Nat → Prop} {ls : Array Slot} {rest : List Value} {pc : Nat} {ws : va_W}
theorem gx_aald {C' : String} (C : Cx p s m args meth c cc nL ret Ts own D cy ns A) (hG : GW D A s ws H locs) (q0 t0 : Nat) {a n : Nat} {cA : ClassId} {g : Nat → Nat} (ha : ws[q0]? = some (a, .inl (cA, n, .inr (.inr (.inr (.inr (fun i => some (g i)))))))) (ht : (TY cy)[t0]? = some (cA, .object C')) {i : Int32} (hin : vp_in i n) (hdg : decode cc pc = .ok (.aaload, 1))
    (kk : W p l e R s m args below meth c H locs cells slots Q (F0 m (pc + 1) ls (.ref (g i.toNatClampNeg) :: rest))) : W p l e R s m args below meth c H locs cells slots Q (F0 m pc ls (.int i :: .ref a :: rest)) := by
  obtain ⟨hx, hb, hml, hown, hts, hr, hlocks, hK, hA, hN, hn, hT⟩ := C
  exact va_aldq hx hb hK hG.1 q0 t0 ha ht hin hdg kk
theorem gx_astP (C : Cx p s m args meth c cc nL ret Ts own D cy ns A) (hG : GW D A s ws H locs) (q0 : Nat) {a n : Nat} {f : Nat → Int32} (ha : ws[q0]? = some (a, .inl (cy 0, n, .inl f))) {i x : Int32} (hin : vp_in i n) (hdg : decode cc pc = .ok (.iastore, 1)) {ws' : va_W} (hw : (ws.set q0 (a, .inl (cy 0, n, .inl (upd f i.toNatClampNeg x)))).Perm ws')
    (kk : ∀ (H1 : Heap) (locs1 : List Loc), GW D A s ws' H1 locs1 → W p l e R s m args below meth c H1 locs1 cells slots Q (F0 m (pc + 1) ls rest)) : W p l e R s m args below meth c H locs cells slots Q (F0 m pc ls (.int x :: .int i :: .ref a :: rest)) :=
  gx_ast C hG q0 ha hin hdg rfl (fun H1 locs1 h => kk H1 locs1 (h.perm hw))
theorem gx_copyP (C : Cx p s m args meth c cc nL ret Ts own D cy ns A) (hG : GW D A s ws H locs) {idx : Nat} (hsz : ls.size = nL) (hlink : (Cond.methodLink own idx arraycopyName).before args s = true) (hnat : (Cond.native arraycopyName).before args s = true) (hstat : (Cond.static arraycopyName).before args s = true) (hini : (Cond.initialized "java/lang/System").before args s = true) (q0 q1 : Nat) {a0 a n0 n1 : Nat} {f g : Nat → Int32} (ha0 : ws[q0]? = some (a0, .inl (cy 0, n0, .inl f))) (ha1 : ws[q1]? = some (a, .inl (cy 0, n1, .inl g))) {sp dp n : Int32}
    (hb1 : ¬ sp < 0 ∧ ¬ dp < 0 ∧ ¬ n < 0 ∧ sp.toNatClampNeg + n.toNatClampNeg ≤ n0 ∧ dp.toNatClampNeg + n.toNatClampNeg ≤ n1) (hframes : 1 ≤ R.frames) (hlocals : (rest.map fun v => v.category).sum + (nativeFrameWords "java/lang/System" "arraycopy" 5 + 11) ≤ R.locals) (hdg : decode cc pc = .ok (.invokestatic idx, 3)) {ws' : va_W} (hw : (ws.set q1 (a, .inl (cy 0, n1, .inl (va_cpy f g sp.toNatClampNeg dp.toNatClampNeg n.toNatClampNeg)))).Perm ws')
    (kk : ∀ (H1 : Heap) (locs1 : List Loc), GW D A s ws' H1 locs1 → W p l e R s m args below meth c H1 locs1 cells slots Q (F0 m (pc + 3) ls rest)) : W p l e R s m args below meth c H locs cells slots Q (F0 m pc ls (.int n :: .int dp :: .ref a :: .int sp :: .ref a0 :: rest)) :=
  gx_copy C hG hsz hlink hnat hstat hini q0 q1 ha0 ha1 hb1 hframes hlocals hdg rfl (fun H1 locs1 h => kk H1 locs1 (h.perm hw))
end Rows8
