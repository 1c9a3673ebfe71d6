-- THE RELATION between the class's state and the reference's
def Snap (N : Nat) (pl bg sp rm : Nat → Int32) (ve bo tu ni ho : Int32) (md : Nat → Int32) : Prop :=
  (∃ P W : Nat → Nat, (∀ i, i < N → pl i = nI (P i) ∧ P i < N ∧ W (P i) = i) ∧ ∀ p, p < N → md p = nI (W p) ∧ W p < N ∧ P (W p) = p) ∧
  (∀ i, i < N → md (5 + i) = bg i ∧ md (15 + i) = sp i ∧ md (20 + i) = rm i) ∧
  (md 10 = ve ∧ (ve = 0 ∨ ve = 1)) ∧ (md 11 = bo ∧ ∃ k, bo = nI k ∧ (k < N ∨ (N = 0 ∧ k = 0))) ∧ (md 12 = tu ∧ ∃ k, k < 256 ∧ tu = nI k) ∧ (md 13 = ni ∧ ∃ k, k ≤ 9 ∧ ni = nI k) ∧ (md 14 = ho ∧ ∃ k, k ≤ 8 ∧ ho = nI k)
def PastR (t b N H : Nat) (σ : St) : Prop := ∀ h, h < H → Snap N (fun i => σ.1 14 t (25 * h + 5 + i)) (fun i => σ.1 14 t (25 * h + 10 + i)) (fun i => σ.1 14 t (25 * h + 15 + i)) (fun i => σ.1 14 t (25 * h + 20 + i)) (σ.1 14 t (25 * h + 2)) (σ.1 14 t (25 * h + 3)) (σ.1 14 t (25 * h + 4)) (σ.1 14 t (25 * h + 1)) (σ.1 14 t (25 * h)) (fun k => σ.1 31 0 (b + 26 + 25 * h + k))
def CampR (t b N : Nat) (σ : St) : Prop := σ.1 4 t 10 = nI N ∧ (∃ H, H ≤ 40 ∧ σ.1 4 t 16 = nI H ∧ σ.1 31 0 b = nI H ∧ (N = 0 → H = 0) ∧ PastR t b N H σ) ∧
  Snap N (σ.1 9 t) (σ.1 8 t) (σ.1 11 t) (σ.1 12 t) (σ.1 4 t 11) (σ.1 4 t 12) (σ.1 4 t 13) (σ.1 4 t 15) (σ.1 4 t 14) (fun k => σ.1 31 0 (b + 1 + k)) ∧
  ∀ p, p < N → σ.1 10 t p = σ.1 31 0 (b + 1 + p)
def StatR (t N : Nat) (σ : St) : Prop := (∀ i, i < N → σ.1 32 0 i = σ.1 6 t i ∧ σ.1 33 0 i = σ.1 7 t i) ∧ ∀ h, h < 8 → σ.1 34 0 h = σ.1 5 t h
def KeptR (k N : Nat) (σ : St) : Prop := (σ.1 4 (1 + k) 10 = 0 ∧ σ.1 31 0 (1026 * (1 + k)) = -1) ∨ (0 < N ∧ StatR (1 + k) N σ ∧ CampR (1 + k) (1026 * (1 + k)) N σ)
def Tnt (σ : St) : Prop := ∃ N, N ≤ 5 ∧ σ.1 30 0 1 = nI N ∧ StatR 0 N σ ∧ CampR 0 0 N σ ∧ (σ.1 30 0 24 = -9 ∧ σ.1 30 0 25 = -9) ∧ ∀ k, k < 3 → KeptR k N σ
def isB (x : Int32) : Prop := -128 ≤ x.toInt ∧ x.toInt ≤ 127
abbrev Rows (σ : St) : Prop := Shl 0 35 36 6 40 (fun _ => True) σ
abbrev Txts (σ : St) : Prop := Shl 1 37 38 4 60 isB σ
def RR (σ : St) : Prop := Rows σ ∧ Txts σ ∧ Tld σ ∧ Tnt σ
/-- what the tents hang on -/
def TF (σ σ' : St) : Prop := (∀ g t, 4 ≤ g → g ≤ 14 → t ≤ 3 → σ'.1 g t = σ.1 g t) ∧ σ'.1 31 0 = σ.1 31 0 ∧ σ'.1 32 0 = σ.1 32 0 ∧ σ'.1 33 0 = σ.1 33 0 ∧ σ'.1 34 0 = σ.1 34 0 ∧ σ'.1 30 0 1 = σ.1 30 0 1 ∧ σ'.1 30 0 24 = σ.1 30 0 24 ∧ σ'.1 30 0 25 = σ.1 30 0 25
theorem TF.tr {σ σ1 σ2 : St} (h1 : TF σ σ1) (h2 : TF σ1 σ2) : TF σ σ2 :=
  ⟨fun g t a b c => (h2.1 g t a b c).trans (h1.1 g t a b c), h2.2.1.trans h1.2.1, h2.2.2.1.trans h1.2.2.1, h2.2.2.2.1.trans h1.2.2.2.1, h2.2.2.2.2.1.trans h1.2.2.2.2.1, h2.2.2.2.2.2.1.trans h1.2.2.2.2.2.1, h2.2.2.2.2.2.2.1.trans h1.2.2.2.2.2.2.1, h2.2.2.2.2.2.2.2.trans h1.2.2.2.2.2.2.2⟩
theorem CampR.cg {t b N : Nat} {σ σ' : St} (h : CampR t b N σ) (h1 : ∀ g, 4 ≤ g → g ≤ 14 → σ'.1 g t = σ.1 g t) (h2 : σ'.1 31 0 = σ.1 31 0) : CampR t b N σ' := by
  unfold CampR PastR at *
  rw [h1 4 (by omega) (by omega), h1 8 (by omega) (by omega), h1 9 (by omega) (by omega), h1 10 (by omega) (by omega), h1 11 (by omega) (by omega), h1 12 (by omega) (by omega), h1 14 (by omega) (by omega), h2]
  exact h
theorem StatR.cg {t N : Nat} {σ σ' : St} (h : StatR t N σ) (h1 : ∀ g, 4 ≤ g → g ≤ 14 → σ'.1 g t = σ.1 g t) (h2 : σ'.1 32 0 = σ.1 32 0) (h3 : σ'.1 33 0 = σ.1 33 0) (h4 : σ'.1 34 0 = σ.1 34 0) : StatR t N σ' := by
  unfold StatR at *
  rw [h1 5 (by omega) (by omega), h1 6 (by omega) (by omega), h1 7 (by omega) (by omega), h2, h3, h4]
  exact h
theorem KeptR.cg {k N : Nat} {σ σ' : St} (h : KeptR k N σ) (h1 : ∀ g, 4 ≤ g → g ≤ 14 → σ'.1 g (1 + k) = σ.1 g (1 + k)) (h0 : σ'.1 31 0 = σ.1 31 0) (h2 : σ'.1 32 0 = σ.1 32 0) (h3 : σ'.1 33 0 = σ.1 33 0) (h4 : σ'.1 34 0 = σ.1 34 0) : KeptR k N σ' := by
  rcases h with ⟨a, b⟩ | ⟨a, b, c⟩
  · exact Or.inl ⟨by rw [h1 4 (by omega) (by omega)]; exact a, by rw [h0]; exact b⟩
  · exact Or.inr ⟨a, b.cg h1 h2 h3 h4, c.cg h1 h0⟩
theorem Tnt.cg {σ σ' : St} (h : Tnt σ) (f : TF σ σ') : Tnt σ' := by
  obtain ⟨N, hN, h1, h2, h3, h4, h5⟩ := h
  obtain ⟨f1, f2, f3, f4, f5, f6, f7, f8⟩ := f
  exact ⟨N, hN, by rw [f6]; exact h1, h2.cg (fun g a b => f1 g 0 a b (by omega)) f3 f4 f5, h3.cg (fun g a b => f1 g 0 a b (by omega)) f2, ⟨by rw [f7]; exact h4.1, by rw [f8]; exact h4.2⟩, fun k hk => (h5 k hk).cg (fun g a b => f1 g (1 + k) a b (by omega)) f2 f3 f4 f5⟩
theorem sm_TF {σ σ' : St} (h : ∀ g u, (4 ≤ g ∧ g ≤ 14) ∨ 30 ≤ g → sm σ σ' g u) : TF σ σ' :=
  ⟨fun g t a b _ => (h g t (by omega)).1, (h 31 0 (by omega)).1, (h 32 0 (by omega)).1, (h 33 0 (by omega)).1, (h 34 0 (by omega)).1, by rw [(h 30 0 (by omega)).1], by rw [(h 30 0 (by omega)).1], by rw [(h 30 0 (by omega)).1]⟩
theorem RR.found {k : Nat} {σ : St} (h : RR σ) (hk : k < 6) : RR (mF k (cF k σ)) := by
  obtain ⟨h1, h2, h3, h4⟩ := h
  have e : ∀ g u, ¬ (g = 0 ∧ u = 0) → ¬ (g = 27 ∧ u = 0) → ¬ (g = 30 ∧ u = 0) → ¬ (g = 39 ∧ u = 0) → (mF k (cF k σ)).1 g u = σ.1 g u := fun g u a b c d => by
    unfold mF cF
    rw [si_ne d, si_ne c, si_ne b, si_ne a]
  refine ⟨h1.cg (e _ _ (by omega) (by omega) (by omega) (by omega)) (e _ _ (by omega) (by omega) (by omega) (by omega)) (e _ _ (by omega) (by omega) (by omega) (by omega)) (e _ _ (by omega) (by omega) (by omega) (by omega)) (e _ _ (by omega) (by omega) (by omega) (by omega)), h2.cg (e _ _ (by omega) (by omega) (by omega) (by omega)) (e _ _ (by omega) (by omega) (by omega) (by omega)) (e _ _ (by omega) (by omega) (by omega) (by omega)) (e _ _ (by omega) (by omega) (by omega) (by omega)) (e _ _ (by omega) (by omega) (by omega) (by omega)), h3.found hk, h4.cg ⟨fun g t a b c => e g t (by omega) (by omega) (by omega) (by omega), e _ _ (by omega) (by omega) (by omega) (by omega), e _ _ (by omega) (by omega) (by omega) (by omega), e _ _ (by omega) (by omega) (by omega) (by omega), e _ _ (by omega) (by omega) (by omega) (by omega), ?_, ?_, ?_⟩⟩
  · simp [mF, cF, si_g]
  · simp [mF, cF, si_g]
  · simp [mF, cF, si_g]
