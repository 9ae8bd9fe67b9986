/-! ===== pure: what a write leaves as it was ===== -/
def Sm (k : Nat) (S S' : MS) : Prop := fI S' k = fI S k ∧ fJ S' k = fJ S k ∧ aI S' k = aI S k ∧ aJ S' k = aJ S k
def Fr (ks : List Nat) (S S' : MS) : Prop := ∀ k, k ∉ ks → Sm k S S'
theorem fr_rf {ks : List Nat} {S : MS} : Fr ks S S := fun _ _ => ⟨rfl, rfl, rfl, rfl⟩
theorem fr_tr {ks : List Nat} {S S1 S2 : MS} (h1 : Fr ks S S1) (h2 : Fr ks S1 S2) : Fr ks S S2 := fun k hk =>
  ⟨(h2 k hk).1.trans (h1 k hk).1, (h2 k hk).2.1.trans (h1 k hk).2.1, (h2 k hk).2.2.1.trans (h1 k hk).2.2.1, (h2 k hk).2.2.2.trans (h1 k hk).2.2.2⟩
theorem fr_mono {ks ks' : List Nat} {S S1 : MS} (h : Fr ks S S1) (hs : ∀ k ∈ ks, k ∈ ks') : Fr ks' S S1 := fun k hk => h k (fun q => hk (hs k q))
theorem fr_sI {ks : List Nat} {S : MS} {j : Nat} {v : Int32} (hj : j ∈ ks) : Fr ks S (sI S j v) := fun k hk => by
  have e : k ≠ j := fun e => hk (e ▸ hj)
  exact ⟨va_up_ne _ _ e, rfl, rfl, rfl⟩
theorem fr_sJ {ks : List Nat} {S : MS} {j : Nat} {v : Int64} (hj : j ∈ ks) : Fr ks S (sJ S j v) := fun k hk => by
  have e : k ≠ j := fun e => hk (e ▸ hj)
  exact ⟨rfl, va_up_ne _ _ e, rfl, rfl⟩
theorem fr_pA {ks : List Nat} {S : MS} {j : Nat} {f : Nat → Int32} (hj : j ∈ ks) : Fr ks S (pA S j f) := fun k hk => by
  have e : k ≠ j := fun e => hk (e ▸ hj)
  exact ⟨rfl, rfl, va_up_ne _ _ e, rfl⟩
theorem fr_sA {ks : List Nat} {S : MS} {j : Nat} {i v : Int32} (hj : j ∈ ks) : Fr ks S (sA S j i v) := fr_pA hj
theorem fr_sL {ks : List Nat} {S : MS} {j : Nat} {i : Int32} {v : Int64} (hj : j ∈ ks) : Fr ks S (sL S j i v) := fun k hk => by
  have e : k ≠ j := fun e => hk (e ▸ hj)
  exact ⟨rfl, rfl, rfl, va_up_ne _ _ e⟩
/-- reads behind writes -/
theorem rd_fI (S : MS) (k : Nat) (v : Int32) : fI (sI S k v) k = v := va_up_self _ _ _
theorem rd_fJ (S : MS) (k : Nat) (v : Int64) : fJ (sJ S k v) k = v := va_up_self _ _ _
theorem rd_aI (S : MS) (k : Nat) (f : Nat → Int32) : aI (pA S k f) k = f := va_up_self _ _ _
theorem rd_A (S : MS) (k : Nat) (i v : Int32) : aI (sA S k i v) k = upd (aI S k) i.toNatClampNeg v := va_up_self _ _ _
theorem rd_L (S : MS) (k : Nat) (i : Int32) (v : Int64) : aJ (sL S k i v) k = vp_updL (aJ S k) i.toNatClampNeg v := va_up_self _ _ _
