/-! ===== pure: rows on both sides ===== -/
/-- rows on both sides: missing, or of one size -/
def RR (X : Nat → MS) (S : MS) : Prop := ∀ r, r < 4 → ((fI (X (10 + r)) 1).toInt = -1 ∧ (aI S 40 r).toInt < 0) ∨ (0 ≤ (fI (X (10 + r)) 1).toInt ∧ (fI (X (10 + r)) 1).toInt = (aI S 40 r).toInt)
theorem rr_g {X X' : Nat → MS} {S S' : MS} (h : RR X S) (g8 : G8 X X') (g9 : G9 S S') : RR X' S' := by
  intro r hr
  rw [g8.2 (10 + r) (by omega) (by omega), g9.2.1]
  exact h r hr
/-- what a call leaves that makes no box -/
def Nx (X X' : Nat → MS) (S S' : MS) : Prop := Inv8 X' ∧ Inv9 S' ∧ RR X' S' ∧ (∀ b, b < 4 ∨ b = 8 → X' (6 + b) = X (6 + b)) ∧ aI S' 7 = aI S 7
theorem nx_g {X X' : Nat → MS} {S S' : MS} (h : RR X S) (g8 : G8 X X') (g9 : G9 S S') : Nx X X' S S' := ⟨g8.1, g9.1, rr_g h g8 g9, fun b hb => g8.2 (6 + b) (by omega) (by omega), g9.2.2.2⟩
theorem nx_rf {X : Nat → MS} {S : MS} (h8 : Inv8 X) (h9 : Inv9 S) (h : RR X S) : Nx X X S S := ⟨h8, h9, h, fun _ _ => rfl, rfl⟩
/-- boxes on both sides: missing, or built alike -/
def BB (X : Nat → MS) (S : MS) : Prop := ∀ b, b < 4 → (fI (X (6 + b)) 6 = 0 ∧ dm S b 0 = 0) ∨ ∃ d, BoxN S b d ∧ BoxC (X (6 + b)) d
theorem bb_nx {X X' : Nat → MS} {S S' : MS} (h : BB X S) (n : Nx X X' S S') : BB X' S' := by
  intro b hb
  rw [n.2.2.2.1 b (Or.inl hb)]
  rcases h b hb with ⟨q1, q2⟩ | ⟨d, q1, q2⟩
  · refine Or.inl ⟨q1, ?_⟩
    unfold dm at q2 ⊢
    rw [n.2.2.2.2]; exact q2
  · exact Or.inr ⟨d, boxN_eq n.2.2.2.2 q1, q2⟩
theorem inv9_rows {ks : List Nat} {S S' : MS} (h : Inv9 S) (hF : Fr ks S S') (h3 : 3 ∉ ks) (h7 : 7 ∉ ks) (h40 : ∀ r, r < 4 → (aI S' 40 r).toInt ≤ 24) : Inv9 S' :=
  ⟨inv_box (hF 7 h7).2.2.1 h.1, by rw [(hF 3 h3).2.2.2]; exact h.2.1, h40⟩
theorem inv8_row {X : Nat → MS} {r : Nat} (h : Inv8 X) (S : MS) (hr : r < 4) (hS : RowI S) : Inv8 (va_up X (10 + r) S) := by
  have ne : ∀ j, j ≠ 10 + r → va_up X (10 + r) S j = X j := fun j h1 => va_up_ne _ _ h1
  refine ⟨fun q hq => ?_, fun c hc => ?_, ?_, ?_, ?_⟩
  · by_cases e : q = r
    · rw [e, va_up_self]; exact hS
    · rw [ne _ (by omega)]; exact h.1 q hq
  · rw [ne _ (by omega)]; exact h.2.1 c hc
  · rw [ne _ (by omega)]; exact h.2.2.1
  · rw [ne _ (by omega)]; exact h.2.2.2.1
  · rw [ne _ (by omega)]; exact h.2.2.2.2
theorem fI_m1 {x : Int32} : x = -1 ↔ x.toInt = -1 := by
  rw [pi_eq, show (-1 : Int32).toInt = -1 from rfl]
theorem s8_lay (x i v : Int32) (Z : MS) (X : Nat → MS) (hI : Inv8 X) (Q : Int32 → MS → (Nat → MS) → Prop) (hb : ¬ vp_in x 4 → Q (-1) Z X)
    (hn : ∀ r, r < 4 → x = nI r → ((fI (X (10 + r)) 1).toInt = -1 ∨ ¬ (0 ≤ i.toInt ∧ i.toInt < (fI (X (10 + r)) 1).toInt)) → ∀ Z', Q (-3) Z' X)
    (hk : ∀ r, r < 4 → x = nI r → (0 ≤ i.toInt ∧ i.toInt < (fI (X (10 + r)) 1).toInt) → ∀ Z' S', fI S' 1 = fI (X (10 + r)) 1 → Q 1 Z' (va_up X (10 + r) S')) : w8_lay x i v Z X Q := by
  unfold w8_lay
  refine s8_isRow _ _ (fun hx => ⟨fun _ => ?_, fun c => absurd c (by decide)⟩) (fun hx => ⟨fun c => absurd rfl c, fun _ => hb hx⟩)
  obtain ⟨r, hr, rfl⟩ := vp_in_of hx (by decide)
  rw [nI_clamp (by omega)]
  have h24 := (hI.1 r (by omega)).2
  refine ⟨hx, ⟨by omega, by omega⟩, s5_isThere _ _ (fun _ => ⟨fun _ => s5_hasPlace _ _ _ (fun hp => ⟨fun _ => ⟨pi_in.mpr (by omega), ?_⟩, fun c => absurd c (by decide)⟩) (fun hp => ⟨fun c => absurd rfl c, fun _ => s8_refuse _ _ _ _ (fun Z' _ => hn r hr rfl (Or.inr hp) Z')⟩), fun c => absurd c (by decide)⟩) (fun he => ⟨fun c => absurd rfl c, fun _ => s8_refuse _ _ _ _ (fun Z' _ => hn r hr rfl (Or.inl (fI_m1.mp he)) Z')⟩)⟩
  rintro _ rfl _ rfl
  exact hk r hr rfl hp _ _ (fi_sA _ _ _ _ _)
theorem s8_tear (x : Int32) (Z : MS) (X : Nat → MS) (Q : Int32 → MS → (Nat → MS) → Prop) (hb : ¬ vp_in x 4 → Q (-1) Z X)
    (hn : ∀ r, r < 4 → x = nI r → (fI (X (10 + r)) 1).toInt = -1 → ∀ Z', Q (-3) Z' X)
    (hk : ∀ r, r < 4 → x = nI r → ¬ (fI (X (10 + r)) 1).toInt = -1 → ∀ S', fI S' 1 = -1 → Q 1 Z (va_up X (10 + r) S')) : w8_tear x Z X Q := by
  unfold w8_tear
  refine s8_isRow _ _ (fun hx => ⟨fun _ => ?_, fun c => absurd c (by decide)⟩) (fun hx => ⟨fun c => absurd rfl c, fun _ => hb hx⟩)
  obtain ⟨r, hr, rfl⟩ := vp_in_of hx (by decide)
  rw [nI_clamp (by omega)]
  refine ⟨hx, ⟨by omega, by omega⟩, s5_isThere _ _ (fun he => ⟨fun _ => ?_, fun c => absurd c (by decide)⟩) (fun he => ⟨fun c => absurd rfl c, fun _ => s8_refuse _ _ _ _ (fun Z' _ => hn r hr rfl (fI_m1.mp he) Z')⟩)⟩
  unfold w5_takeAway
  rintro _ rfl _ rfl
  exact hk r hr rfl (fun q => he (fI_m1.mpr q)) _ (rd_fI _ _ _)
theorem s8_copy (x i t j n : Int32) (Z : MS) (X : Nat → MS) (hI : Inv8 X) (Q : Int32 → MS → (Nat → MS) → Prop) (hb : (¬ vp_in x 4 ∨ ¬ vp_in t 4) → Q (-1) Z X)
    (hn : ∀ r q, r < 4 → q < 4 → x = nI r → t = nI q → (n.toInt < 0 ∨ (fI (X (10 + r)) 1).toInt = -1 ∨ (fI (X (10 + q)) 1).toInt = -1 ∨ ¬ (0 ≤ i.toInt ∧ 0 ≤ n.toInt ∧ i.toInt + n.toInt ≤ (fI (X (10 + r)) 1).toInt) ∨ ¬ (0 ≤ j.toInt ∧ 0 ≤ n.toInt ∧ j.toInt + n.toInt ≤ (fI (X (10 + q)) 1).toInt)) → ∀ Z', Q (-3) Z' X)
    (hk : ∀ r q, r < 4 → q < 4 → x = nI r → t = nI q → ((0 ≤ i.toInt ∧ 0 ≤ n.toInt ∧ i.toInt + n.toInt ≤ (fI (X (10 + r)) 1).toInt) ∧ (0 ≤ j.toInt ∧ 0 ≤ n.toInt ∧ j.toInt + n.toInt ≤ (fI (X (10 + q)) 1).toInt)) → ∀ S', fI S' 1 = fI (X (10 + q)) 1 → Q 1 Z (va_up X (10 + q) S')) : w8_copy x i t j n Z X Q := by
  have e0 : (0 : Int32).toInt = 0 := rfl
  unfold w8_copy w8_copy_b14 w8_copy_b51 w8_copy_b88
  refine s8_isRow _ _ (fun hx => ⟨fun c => absurd c (by decide), fun _ => s8_isRow _ _ (fun ht => ⟨fun _ => ?_, fun c => absurd c (by decide)⟩) (fun ht => ⟨fun c => absurd rfl c, fun _ => hb (Or.inr ht)⟩)⟩) (fun hx => ⟨fun _ => hb (Or.inl hx), fun c => absurd rfl c⟩)
  obtain ⟨r, hr, rfl⟩ := vp_in_of hx (by decide)
  obtain ⟨q, hq, rfl⟩ := vp_in_of ht (by decide)
  rw [nI_clamp (by omega), nI_clamp (by omega)]
  have hR := hI.1 r (by omega)
  have hT := hI.1 q (by omega)
  have r24 := hR.2
  have t24 := hT.2
  have bad := hn r q hr hq rfl rfl
  have rf : ∀ w, (n.toInt < 0 ∨ (fI (X (10 + r)) 1).toInt = -1 ∨ (fI (X (10 + q)) 1).toInt = -1 ∨ ¬ (0 ≤ i.toInt ∧ 0 ≤ n.toInt ∧ i.toInt + n.toInt ≤ (fI (X (10 + r)) 1).toInt) ∨ ¬ (0 ≤ j.toInt ∧ 0 ≤ n.toInt ∧ j.toInt + n.toInt ≤ (fI (X (10 + q)) 1).toInt)) → w8_refuse w Z X (fun r1 S2 => Q r1 S2 X) := fun w hc => s8_refuse _ _ _ _ (fun Z' _ => bad hc Z')
  rw [pi_le, e0]
  refine ⟨fun c1 => ⟨hx, ⟨by omega, by omega⟩, s5_isThere _ _ (fun _ => ⟨fun c => absurd c (by decide), fun _ => ⟨ht, ⟨by omega, by omega⟩, s5_isThere _ _ (fun _ => ⟨fun _ => s5_hasPlaces _ _ _ hR _ (fun p1 => ⟨fun c => absurd c (by decide), fun _ => s5_hasPlaces _ _ _ hT _ (fun p2 => ⟨fun _ => ?_, fun c => absurd c (by decide)⟩) (fun p2 => ⟨fun c => absurd rfl c, fun _ => rf _ (Or.inr (Or.inr (Or.inr (Or.inr p2))))⟩)⟩) (fun p1 => ⟨fun _ => rf _ (Or.inr (Or.inr (Or.inr (Or.inl p1)))), fun c => absurd rfl c⟩), fun c => absurd c (by decide)⟩) (fun he => ⟨fun c => absurd rfl c, fun _ => rf _ (Or.inr (Or.inr (Or.inl (fI_m1.mp he))))⟩)⟩⟩) (fun he => ⟨fun _ => rf _ (Or.inr (Or.inl (fI_m1.mp he))), fun c => absurd rfl c⟩)⟩, fun c1 => rf _ (Or.inl (by omega))⟩
  have good := hk r q hr hq rfl rfl ⟨p1, p2⟩
  obtain ⟨nn, hnn, rfl⟩ := vp_in_of (n := 25) (pi_in.mpr (by omega) : vp_in n 25) (by decide)
  obtain ⟨a, ha, rfl⟩ := vp_in_of (n := 25) (pi_in.mpr (by omega) : vp_in i 25) (by decide)
  obtain ⟨b, hb2, rfl⟩ := vp_in_of (n := 25) (pi_in.mpr (by omega) : vp_in j 25) (by decide)
  have en : (nI nn).toInt = (nn : Int) := nI_toInt (by omega)
  have ea : (nI a).toInt = (a : Int) := nI_toInt (by omega)
  have eb : (nI b).toInt = (b : Int) := nI_toInt (by omega)
  rw [nI_clamp (by omega), nI_clamp (by omega), nI_clamp (by omega)]
  refine ⟨⟨nI_pos (by omega), nI_pos (by omega), nI_pos (by omega), by omega, by omega⟩, ?_⟩
  rintro _ rfl
  exact good _ rfl
theorem s8_meanRow (x : Int32) (Z : MS) (X : Nat → MS) (hI : Inv8 X) (Q : Int32 → MS → Prop) (hb : ¬ vp_in x 4 → Q (-1) Z)
    (hn : ∀ r, r < 4 → x = nI r → ((fI (X (10 + r)) 1).toInt = -1 ∨ (fI (X (10 + r)) 1).toInt = 0) → ∀ Z', Q (-3) Z')
    (hk : ∀ r, r < 4 → x = nI r → ¬ (fI (X (10 + r)) 1).toInt = -1 → ¬ (fI (X (10 + r)) 1).toInt = 0 → ∀ Z', Q 1 Z') : w8_meanRow x Z X Q := by
  have e0 : (0 : Int32).toInt = 0 := rfl
  unfold w8_meanRow
  refine s8_isRow _ _ (fun hx => ⟨fun _ => ?_, fun c => absurd c (by decide)⟩) (fun hx => ⟨fun c => absurd rfl c, fun _ => hb hx⟩)
  obtain ⟨r, hr, rfl⟩ := vp_in_of hx (by decide)
  rw [nI_clamp (by omega)]
  have hR := hI.1 r (by omega)
  refine ⟨hx, ⟨by omega, by omega⟩, s5_isThere _ _ (fun he => ⟨fun _ => ?_, fun c => absurd c (by decide)⟩) (fun he => ⟨fun c => absurd rfl c, fun _ => s8_refuse _ _ _ _ (fun Z' _ => hn r hr rfl (Or.inl (fI_m1.mp he)) Z')⟩)⟩
  rintro _ rfl
  refine ⟨fun c => t5_sum _ hR _ (fun v => ⟨fun e => c ?_, ?_⟩), fun c => s8_refuse _ _ _ _ (fun Z' _ => hn r hr rfl (Or.inr (by rw [c]; rfl)) Z')⟩
  · have := congrArg Int64.toInt e
    rw [Int32.toInt_toInt64] at this
    rw [pi_eq, this]; rfl
  · rintro _ rfl
    refine hk r hr rfl (fun q => he (fI_m1.mpr q)) (fun q => c ?_) _
    rw [pi_eq, q]; rfl
/-! both sides, call by call: what each leaves, and that they answer alike -/
theorem rr_row {X : Nat → MS} {S S' T : MS} {r : Nat} {n : Int32} (h : RR X S) (hr : r < 4) (e8 : fI T 1 = n) (e9 : aI S' 40 = upd (aI S 40) r n) (hn : 0 ≤ n.toInt) : RR (va_up X (10 + r) T) S' := by
  intro q hq
  rw [e9]
  by_cases e : q = r
  · rw [e, va_up_self, pk_us, e8]; exact Or.inr ⟨hn, rfl⟩
  · rw [va_up_ne _ _ (by omega), pk_un e]; exact h q hq
theorem rr_same {X : Nat → MS} {S S' T : MS} {r : Nat} (h : RR X S) (hr : r < 4) (e8 : fI T 1 = fI (X (10 + r)) 1) (e9 : aI S' 40 = aI S 40) : RR (va_up X (10 + r) T) S' := by
  intro q hq
  rw [e9]
  by_cases e : q = r
  · rw [e, va_up_self, e8]; exact h r hr
  · rw [va_up_ne _ _ (by omega)]; exact h q hq
theorem e_row (x n : Int32) (Z : MS) (X : Nat → MS) (S : MS) (h8 : Inv8 X) (h9 : Inv9 S) (hR : RR X S) (P : Int32 → Int32 → MS → (Nat → MS) → MS → Prop) (h : ∀ v Z' X' S', Nx X X' S S' → P v v Z' X' S') : w8_row x n Z X (fun r1 Z2 X3 => w9_row x n S (fun r4 S5 => P r1 r4 Z2 X3 S5)) := by
  refine s8_row _ _ _ _ _ (fun c8 => ?_) (fun hx hn Z' _ => ?_) (fun hx h0 h24 T _ eT => ?_)
  · refine s9_row _ _ _ _ (fun _ => h _ _ _ _ (nx_rf h8 h9 hR)) (fun hx hn S' _ => ?_) (fun hx h0 h24 S' _ _ => ?_)
    · exfalso; rcases c8 with c | c
      · exact c hx
      · omega
    · exfalso; rcases c8 with c | c
      · exact c hx
      · omega
  · refine s9_row _ _ _ _ (fun c9 => ?_) (fun _ _ S' hF => h _ _ _ _ (nx_g hR (g8_rf h8) (g9_fr h9 hF (by decide) (by decide) (by decide) (by decide)))) (fun _ h0 _ S' _ _ => ?_)
    · exfalso; rcases c9 with c | c
      · exact c hx
      · omega
    · omega
  · obtain ⟨r, hr, rfl⟩ := vp_in_of hx (by decide)
    rw [nI_clamp (by omega)]
    refine s9_row _ _ _ _ (fun c9 => ?_) (fun _ hn S' _ => ?_) (fun _ _ _ S' hF e9 => ?_)
    · exfalso; rcases c9 with c | c
      · exact c hx
      · omega
    · omega
    · rw [nI_clamp (by omega)] at e9
      refine h _ _ _ _ ⟨inv8_row h8 T hr ⟨by rw [eT]; omega, by rw [eT]; omega⟩, inv9_rows h9 hF (by decide) (by decide) (fun q hq => ?_), rr_row hR hr eT e9 h0, fun b hb => va_up_ne _ _ (by omega), (hF 7 (by decide)).2.2.1⟩
      rw [e9]
      by_cases e : q = r
      · rw [e, pk_us]; exact h24
      · rw [pk_un e]; exact h9.2.2 q hq
theorem e_lay (x i v : Int32) (Z : MS) (X : Nat → MS) (S : MS) (h8 : Inv8 X) (h9 : Inv9 S) (hR : RR X S) (P : Int32 → Int32 → MS → (Nat → MS) → MS → Prop) (h : ∀ v Z' X' S', Nx X X' S S' → P v v Z' X' S') : w8_lay x i v Z X (fun r1 Z2 X3 => w9_lay x i v S (fun r4 S5 => P r1 r4 Z2 X3 S5)) := by
  have hin : ∀ a b, a < 4 → b < 4 → nI a = nI b → a = b := fun a b ha hb e => (nI_eq (by omega) (by omega)).mp e
  refine s8_lay _ _ _ _ _ h8 _ (fun c8 => ?_) (fun r hr e c8 Z' => ?_) (fun r hr e c8 Z' T eT => ?_)
  · refine s9_lay _ _ _ _ _ h9.2.2 (fun _ => h _ _ _ _ (nx_rf h8 h9 hR)) (fun r hr e _ S' _ => ?_) (fun r hr e _ S' _ => ?_)
    · exact absurd (by rw [e]; exact vp_in_nI hr (by decide)) c8
    · exact absurd (by rw [e]; exact vp_in_nI hr (by decide)) c8
  · subst e
    have hq := hR r hr
    refine s9_lay _ _ _ _ _ h9.2.2 (fun c9 => absurd (vp_in_nI hr (by decide)) c9) (fun r' hr' e' _ S' hF => ?_) (fun r' hr' e' c9 S' _ => ?_)
    · have g := g9_fr h9 hF (by decide) (by decide) (by decide) (by decide)
      exact h _ _ _ _ (nx_g hR (g8_rf h8) g)
    · have := hin r r' hr hr' e'
      subst this
      omega
  · subst e
    have hq := hR r hr
    refine s9_lay _ _ _ _ _ h9.2.2 (fun c9 => absurd (vp_in_nI hr (by decide)) c9) (fun r' hr' e' c9 S' hF => ?_) (fun r' hr' e' c9 S' hF => ?_)
    · have := hin r r' hr hr' e'
      subst this
      omega
    · exact h _ _ _ _ ⟨inv8_row h8 T hr (by unfold RowI; rw [eT]; exact h8.1 r (by omega)), inv9_rows h9 hF (by decide) (by decide) (by rw [(hF 40 (by decide)).2.2.1]; exact h9.2.2), rr_same hR hr eT (hF 40 (by decide)).2.2.1, fun b hb => va_up_ne _ _ (by omega), (hF 7 (by decide)).2.2.1⟩
theorem e_tear (x : Int32) (Z : MS) (X : Nat → MS) (S : MS) (h8 : Inv8 X) (h9 : Inv9 S) (hR : RR X S) (P : Int32 → Int32 → MS → (Nat → MS) → MS → Prop) (h : ∀ v Z' X' S', Nx X X' S S' → P v v Z' X' S') : w8_tear x Z X (fun r1 Z2 X3 => w9_tear x S (fun r4 S5 => P r1 r4 Z2 X3 S5)) := by
  have hrr : ∀ r, r < 4 → rA S 40 (nI r) = aI S 40 r := fun r hr => rA_n _ _ (by omega)
  refine s8_tear _ _ _ _ (fun c8 => ?_) (fun r hr e c8 Z' => ?_) (fun r hr e c8 T eT => ?_)
  · exact s9_tear _ _ _ (fun _ => h _ _ _ _ (nx_rf h8 h9 hR)) (fun c _ _ _ => absurd c c8) (fun c _ _ _ _ => absurd c c8)
  · subst e
    have hq := hR r hr
    refine s9_tear _ _ _ (fun c9 => absurd (vp_in_nI hr (by decide)) c9) (fun _ _ S' hF => ?_) (fun _ c9 S' _ _ => ?_)
    · have g := g9_fr h9 hF (by decide) (by decide) (by decide) (by decide)
      exact h _ _ _ _ (nx_g hR (g8_rf h8) g)
    · rw [hrr r hr] at c9; omega
  · subst e
    have hq := hR r hr
    refine s9_tear _ _ _ (fun c9 => absurd (vp_in_nI hr (by decide)) c9) (fun _ c9 S' _ => ?_) (fun _ c9 S' hF e9 => ?_)
    · rw [hrr r hr] at c9; omega
    · rw [nI_clamp (by omega)] at e9
      have m1 : (-1 : Int32).toInt = -1 := rfl
      have m9 : (-9 : Int32).toInt = -9 := rfl
      refine h _ _ _ _ ⟨inv8_row h8 T hr (by unfold RowI; rw [eT]; omega), inv9_rows h9 hF (by decide) (by decide) (fun q hq => ?_), fun q hq => ?_, fun b hb => va_up_ne _ _ (by omega), (hF 7 (by decide)).2.2.1⟩
      · rw [e9]
        by_cases e : q = r
        · rw [e, pk_us]; omega
        · rw [pk_un e]; exact h9.2.2 q hq
      · rw [e9]
        by_cases e : q = r
        · rw [e, va_up_self, pk_us, eT]; exact Or.inl ⟨m1, by omega⟩
        · rw [va_up_ne _ _ (by omega), pk_un e]; exact hR q hq
theorem e_copy (x i t j n : Int32) (Z : MS) (X : Nat → MS) (S : MS) (h8 : Inv8 X) (h9 : Inv9 S) (hR : RR X S) (P : Int32 → Int32 → MS → (Nat → MS) → MS → Prop) (h : ∀ v Z' X' S', Nx X X' S S' → P v v Z' X' S') : w8_copy x i t j n Z X (fun r1 Z2 X3 => w9_copy x i t j n S (fun r4 S5 => P r1 r4 Z2 X3 S5)) := by
  have hin : ∀ a b, a < 4 → b < 4 → nI a = nI b → a = b := fun a b ha hb e => (nI_eq (by omega) (by omega)).mp e
  refine s8_copy _ _ _ _ _ _ _ h8 _ (fun c8 => ?_) (fun r q hr hq e1 e2 c8 Z' => ?_) (fun r q hr hq e1 e2 c8 T eT => ?_)
  · have no : ∀ r q, r < 4 → q < 4 → x = nI r → t = nI q → False := fun r q hr hq e1 e2 => by
      rcases c8 with c | c
      · exact c (by rw [e1]; exact vp_in_nI hr (by decide))
      · exact c (by rw [e2]; exact vp_in_nI hq (by decide))
    exact s9_copy _ _ _ _ _ _ _ h9.2.2 (fun _ => h _ _ _ _ (nx_rf h8 h9 hR)) (fun r q hr hq e1 e2 _ _ _ => (no r q hr hq e1 e2).elim) (fun r q hr hq e1 e2 _ _ _ => (no r q hr hq e1 e2).elim)
  · subst e1 e2
    have a1 := hR r hr
    have a2 := hR q hq
    refine s9_copy _ _ _ _ _ _ _ h9.2.2 (fun c9 => ?_) (fun r' q' hr' hq' e1 e2 _ S' hF => ?_) (fun r' q' hr' hq' e1 e2 c9 S' _ => ?_)
    · exfalso; rcases c9 with c | c
      · exact c (vp_in_nI hr (by decide))
      · exact c (vp_in_nI hq (by decide))
    · have g := g9_fr h9 hF (by decide) (by decide) (by decide) (by decide)
      exact h _ _ _ _ (nx_g hR (g8_rf h8) g)
    · have b1 := hin r r' hr hr' e1
      have b2 := hin q q' hq hq' e2
      subst b1 b2
      exfalso; omega
  · subst e1 e2
    have a1 := hR r hr
    have a2 := hR q hq
    refine s9_copy _ _ _ _ _ _ _ h9.2.2 (fun c9 => ?_) (fun r' q' hr' hq' e1 e2 c9 S' hF => ?_) (fun r' q' hr' hq' e1 e2 c9 S' hF => ?_)
    · exfalso; rcases c9 with c | c
      · exact c (vp_in_nI hr (by decide))
      · exact c (vp_in_nI hq (by decide))
    · have b1 := hin r r' hr hr' e1
      have b2 := hin q q' hq hq' e2
      subst b1 b2
      exfalso; omega
    · exact h _ _ _ _ ⟨inv8_row h8 T hq (by unfold RowI; rw [eT]; exact h8.1 q (by omega)), inv9_rows h9 hF (by decide) (by decide) (by rw [(hF 40 (by decide)).2.2.1]; exact h9.2.2), rr_same hR hq eT (hF 40 (by decide)).2.2.1, fun b hb => va_up_ne _ _ (by omega), (hF 7 (by decide)).2.2.1⟩
theorem e_meanRow (x : Int32) (Z : MS) (X : Nat → MS) (S : MS) (h8 : Inv8 X) (h9 : Inv9 S) (hR : RR X S) (P : Int32 → Int32 → MS → MS → Prop) (h : ∀ v Z' S', Nx X X S S' → P v v Z' S') : w8_meanRow x Z X (fun r1 Z2 => w9_meanRow x S (fun r4 S5 => P r1 r4 Z2 S5)) := by
  have hin : ∀ a b, a < 4 → b < 4 → nI a = nI b → a = b := fun a b ha hb e => (nI_eq (by omega) (by omega)).mp e
  refine s8_meanRow _ _ _ h8 _ (fun c8 => ?_) (fun r hr e c8 Z' => ?_) (fun r hr e c1 c2 Z' => ?_)
  · refine s9_meanRow _ _ _ h9.2.2 (fun _ => h _ _ _ (nx_rf h8 h9 hR)) (fun r hr e _ S' _ => ?_) (fun r hr e _ S' _ => ?_)
    · exact absurd (by rw [e]; exact vp_in_nI hr (by decide)) c8
    · exact absurd (by rw [e]; exact vp_in_nI hr (by decide)) c8
  · subst e
    have hq := hR r hr
    refine s9_meanRow _ _ _ h9.2.2 (fun c9 => absurd (vp_in_nI hr (by decide)) c9) (fun r' hr' e' _ S' hF => ?_) (fun r' hr' e' c9 S' _ => ?_)
    · have g := g9_fr h9 hF (by decide) (by decide) (by decide) (by decide)
      exact h _ _ _ (nx_g hR (g8_rf h8) g)
    · have := hin r r' hr hr' e'
      subst this
      omega
  · subst e
    have hq := hR r hr
    refine s9_meanRow _ _ _ h9.2.2 (fun c9 => absurd (vp_in_nI hr (by decide)) c9) (fun r' hr' e' c9 S' hF => ?_) (fun r' hr' e' c9 S' hF => ?_)
    · have := hin r r' hr hr' e'
      subst this
      omega
    · have g := g9_fr h9 hF (by decide) (by decide) (by decide) (by decide)
      exact h _ _ _ (nx_g hR (g8_rf h8) g)
theorem e_box (x a b c : Int32) (Z : MS) (X : Nat → MS) (S : MS) (h8 : Inv8 X) (h9 : Inv9 S) (hR : RR X S) (hB : BB X S) (P : Int32 → Int32 → (Nat → MS) → MS → Prop) (h : ∀ v X' S', Inv8 X' → Inv9 S' → RR X' S' → BB X' S' → X' 14 = X 14 → P v v X' S') : w8_box x a b c Z X (fun r1 X3 => w9_box x a b c S (fun r4 S5 => P r1 r4 X3 S5)) := by
  refine s8_box _ _ _ _ _ _ _ (fun c8 => ?_) (fun k d T hk e hok ea eb ec hd ht hN => ?_)
  · exact s9_box _ _ _ _ _ _ (fun _ => h _ _ _ h8 h9 hR hB rfl) (fun k hk e hok _ _ _ => absurd ⟨by rw [e]; exact vp_in_nI hk (by decide), hok⟩ c8)
  · have ev : (2 : Int32) * (((a * b) + (b * c)) + (c * a)) = nI (tot d) := by
      rw [ea, eb, ec, show (2 : Int32) = nI 2 from rfl]
      simp only [pk_mul, nI_add]
      rfl
    refine s9_box _ _ _ _ _ _ (fun c9 => absurd ⟨by rw [e]; exact vp_in_nI hk (by decide), hok⟩ c9) (fun k' hk' e' _ S' hF hd' => ?_)
    have ek : k' = k := by
      rw [e] at e'
      exact ((nI_eq (by omega) (by omega)).mp e').symm
    subst ek
    have g9 := g9_box h9 hok hF hd'
    rw [ev]
    refine h _ _ _ (inv8_box h8 T hk (boxC_Bx ht hN)) g9.1 (fun r hr => ?_) (fun m hm => ?_) (va_up_ne _ _ (by omega))
    · rw [va_up_ne _ _ (by omega), g9.2.1]; exact hR r hr
    · by_cases q : m = k'
      · subst q
        rw [va_up_self]
        refine Or.inr ⟨d, ⟨fun j hj => ⟨(hd j hj).1, (hd j hj).2, ?_⟩, ht⟩, hN⟩
        rw [hd' m j hm hj, if_pos rfl]
        rcases (show j = 0 ∨ j = 1 ∨ j = 2 by omega) with rfl | rfl | rfl
        · exact ea
        · exact eb
        · exact ec
      · rw [va_up_ne _ _ (by omega)]
        rcases hB m hm with ⟨q1, q2⟩ | ⟨d2, q1, q2⟩
        · exact Or.inl ⟨q1, by rw [hd' m 0 hm (by decide), if_neg q]; exact q2⟩
        · refine Or.inr ⟨d2, ⟨fun j hj => ⟨(q1.1 j hj).1, (q1.1 j hj).2.1, ?_⟩, q1.2⟩, q2⟩
          rw [hd' m j hm hj, if_neg q]; exact (q1.1 j hj).2.2
