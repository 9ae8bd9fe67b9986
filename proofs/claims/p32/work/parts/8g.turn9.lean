/-! ===== pure: figures turned ===== -/
theorem or_z (x : Int64) : x ||| 0 = x := bt_ext fun k _ => by rw [bt_or, bt_0, Bool.or_false]
theorem s9_putDown (x : Int64) (o q : Int32) (hq : q.toInt ≤ 100) (S : MS) (Q : Int64 → MS → Prop) (h : ∀ v S', pc v ≤ pc x → Fr [6] S S' → Q v S') : w9_putDown x o q S Q := by
  have em : (-1 : Int32).toInt = -1 := rfl
  have e0 : (0 : Int32).toInt = 0 := rfl
  have e1 : (1 : Int32).toInt = 1 := rfl
  have main : ∀ t : Int32, -1 ≤ t.toInt ∧ t.toInt ≤ 100 → w9_putDown_b14 q x t S Q := by
    intro t0 ht0
    unfold w9_putDown_b14
    refine lp_of (fun z : Int64 × Int32 × MS => pc z.1 ≤ pc x ∧ Fr [6] S z.2.2 ∧ -1 ≤ z.2.1.toInt ∧ z.2.1.toInt ≤ 101) (fun z => (102 - z.2.1.toInt).toNat) ?_ ⟨Nat.le_refl _, fr_rf, ht0.1, by dsimp only; omega⟩
    rintro K ⟨now, t, S1⟩ ⟨hp, hF, ht1, ht2⟩ hK
    try dsimp only at hp hF ht1 ht2 hK
    unfold w9_putDown_F14 w9_putDown_d14
    try dsimp only
    refine ⟨fun _ => s9_setEnds _ _ _ (fun S2 hF2 => ?_), fun c => s9_setEnds _ _ _ (fun S2 hF2 => ?_)⟩
    · obtain ⟨n, hn, _, hs⟩ := cr_amt (((8 : Int32) * (rA S2 6 (2 : Int32))) + (rA S2 6 (0 : Int32))).toInt64
      exact h _ _ (Nat.le_trans (pc_shr now hn hs) hp) (fr_tr hF hF2)
    · rw [pi_le] at c
      have et : (t + 1).toInt = t.toInt + 1 := by
        rw [fb_addI (by omega) (by omega), e1]
      unfold w9_putDown_b33
      refine lp_up 64 (fun z => z.2) (fun k z => pc z.1 ≤ fb_ct (bt now) k) (by decide) ?_ (Nat.zero_le _) (rfl : (0 : Int32) = nI 0) (by show pc 0 ≤ 0; rw [pc_0]; exact Nat.le_refl _)
      rintro K1 ⟨next, y⟩ k hk hc hI hK1
      try dsimp only at hc hI hK1
      subst hc
      unfold w9_putDown_F33 w9_putDown_d33
      try dsimp only
      refine ⟨fun c2 => ?_, fun c2 => ?_⟩
      · have e := nI_end (N := 64) (by decide) hk c2
        subst e
        rintro _ rfl
        refine hK (_, _, _) ⟨Nat.le_trans hI hp, fr_tr hF hF2, ?_, ?_⟩ ?_
        · try dsimp only
          omega
        · try dsimp only
          omega
        · try dsimp only
          omega
      · have hlt := nI_go (N := 64) (by decide) hk c2
        have k106 : ∀ a b, w9_putDown_b106 (fun y0 y1 => K1 (y0, y1)) q now t next (nI k) a b S2 Q := by
          intro a b
          unfold w9_putDown_b106 w9_putDown_b134
          refine s9_has _ _ _ (fun hb => ⟨fun c => absurd c (by decide), fun _ => ?_⟩) (fun hb => ⟨fun _ => ?_, fun c => absurd rfl c⟩)
          · rintro _ rfl _ rfl
            refine hK1 (_, _) hlt (nI_1 k) ?_
            obtain ⟨s, hs, e⟩ := one_any (((8 : Int32) * b) + a)
            try dsimp only
            rw [e, fb_ct_succ, if_pos ((hasB_iff now hlt).mp hb)]
            exact Nat.le_trans (pc_or1 next hs) (by omega)
          · rintro _ rfl _ rfl
            refine hK1 (_, _) hlt (nI_1 k) ?_
            try dsimp only
            rw [or_z, fb_ct_succ]
            exact Nat.le_trans hI (Nat.le_add_right _ _)
        have k72 : ∀ a, w9_putDown_b72 (fun y0 y1 => K1 (y0, y1)) q now t next (nI k) a S2 Q := by
          intro a
          unfold w9_putDown_b72
          exact ⟨fun _ => k106 _ _, fun _ => k106 _ _⟩
        exact ⟨fun _ => k72 _, fun _ => k72 _⟩
  unfold w9_putDown w9_putDown_b12
  exact ⟨fun _ => main _ (by omega), fun _ => main _ (by omega)⟩
theorem t9_turn (f o t : Int32) (S : MS) (Q : Int32 → MS → Prop) (hI : Inv9 S) (h : ∀ r S', G9 S S' → Q r S') : w9_turn f o t S Q := by
  have key : ∀ q : Int32, q.toInt ≤ 100 → vp_in f 6 → vp_in t 6 → w9_turn_b43 t (rL S 3 f) o q S Q := by
    intro q hq hf ht
    unfold w9_turn_b43
    refine s9_putDown _ _ _ hq _ _ (fun v S1 hv hF1 => s9_keep _ ht _ _ _ (fun S2 hF2 e => h _ _ ?_))
    refine g9_fig (ks := [3, 4, 5, 6]) (f := t.toNatClampNeg) (v := v) hI (fr_tr (fr_mono hF1 (by decide)) hF2) (by decide) (by decide) (by decide) ?_ (Nat.le_trans hv (inv_fig hI hf))
    rw [e, (hF1 3 (by decide)).2.2.2]
  unfold w9_turn
  refine s9_isFigure _ _ (fun ht => ⟨fun _ => s9_looked _ _ _ (fun _ => ⟨fun c => absurd c (by decide), fun _ => h _ _ (g9_rf hI)⟩) (fun _ _ S' hF => ⟨fun c => absurd c (by decide), fun _ => h _ _ (g9_fr hI hF (by decide) (by decide) (by decide) (by decide))⟩) (fun hf hx => ⟨fun _ => ⟨hf, fun _ => key _ (by decide) hf ht, fun _ => key _ (by decide) hf ht⟩, fun c => absurd r0_pos c⟩), fun c => absurd c (by decide)⟩) (fun _ => ⟨fun c => absurd rfl c, fun _ => h _ _ (g9_rf hI)⟩)
theorem t9_alike (f g : Int32) (S : MS) (Q : Int32 → MS → Prop) (hI : Inv9 S) (h : ∀ r S', G9 S S' → Q r S') : w9_alike f g S Q := by
  have k38 : w9_alike_b38 S Q := by
    unfold w9_alike_b38
    exact s9_meets _ _ _ (by unfold vp_in; decide) (h _ _ (g9_fr (ks := [0, 1]) hI (fr_tr (fr_sI (by decide)) (fr_sA (by decide))) (by decide) (by decide) (by decide) (by decide)))
  unfold w9_alike w9_alike_b14
  refine s9_isFigure _ _ (fun hf => ⟨fun c => absurd c (by decide), fun _ => s9_isFigure _ _ (fun hg => ⟨fun _ => ⟨hf, fun _ => k38, fun _ => ⟨hg, fun _ => ?_, fun _ => k38⟩⟩, fun c => absurd c (by decide)⟩) (fun _ => ⟨fun c => absurd rfl c, fun _ => h _ _ (g9_rf hI)⟩)⟩) (fun _ => ⟨fun _ => h _ _ (g9_rf hI), fun c => absurd rfl c⟩)
  refine s9_putDown _ _ _ (by decide) _ _ (fun v S1 _ hF1 => ?_)
  unfold w9_alike_b63
  refine lp_up 8 (fun z => z.2.1) (fun k z => Fr [6] S z.2.2) (by decide) ?_ (Nat.zero_le _) (rfl : (0 : Int32) = nI 0) hF1
  rintro K ⟨a, y, S2⟩ k hk hc hF hK
  try dsimp only at hc hF hK
  subst hc
  have hG := g9_fr hI hF (by decide) (by decide) (by decide) (by decide)
  unfold w9_alike_F63 w9_alike_d63 w9_alike_b128 w9_alike_b105 w9_alike_b93
  try dsimp only
  refine ⟨fun _ => ⟨fun _ => h _ _ hG, fun _ => h _ _ hG⟩, fun c => ?_⟩
  have hlt := nI_go (N := 8) (by decide) hk c
  have hend : ∀ r S3, Fr [6] S S3 → w9_alike_b110 (fun y0 y1 y2 => K (y0, y1, y2)) f v (nI k) r S3 Q := by
    intro r S3 hF3
    unfold w9_alike_b110
    rintro _ rfl
    exact hK (_, _, _) hlt (nI_1 k) hF3
  have e4 : (nI k - nI k / (4 : Int32) * (4 : Int32)).toInt ≤ 100 := by
    rw [show (4 : Int32) = nI 4 from rfl, pk_rem (by omega) (by decide) (by decide), nI_toInt (by omega)]
    omega
  refine ⟨fun _ => hend _ _ hF, fun _ => ⟨hf, fun _ => s9_putDown _ _ _ e4 _ _ (fun w S3 _ hF3 => ⟨fun _ => hend _ _ (fr_tr hF hF3), fun _ => hend _ _ (fr_tr hF hF3)⟩), fun _ => s9_putDown _ _ _ e4 _ _ (fun w S3 _ hF3 => ⟨fun _ => hend _ _ (fr_tr hF hF3), fun _ => hend _ _ (fr_tr hF hF3)⟩)⟩⟩
