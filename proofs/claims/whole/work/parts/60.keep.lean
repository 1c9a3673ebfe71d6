theorem Snap.cg {N : Nat} {pl bg sp rm pl' bg' sp' rm' : Nat → Int32} {ve bo tu ni ho : Int32} {md md' : Nat → Int32} (h : Snap N pl bg sp rm ve bo tu ni ho md) (hN : N ≤ 5) (h1 : ∀ i, i < N → pl' i = pl i ∧ bg' i = bg i ∧ sp' i = sp i ∧ rm' i = rm i) (h2 : ∀ k, k < 25 → md' k = md k) : Snap N pl' bg' sp' rm' ve bo tu ni ho md' := by
  obtain ⟨⟨P, W, p1, p2⟩, s2, s3, s4, s5, s6, s7⟩ := h
  refine ⟨⟨P, W, fun i hi => ?_, fun p hp => ?_⟩, fun i hi => ?_, ⟨by rw [h2 10 (by omega)]; exact s3.1, s3.2⟩, ⟨by rw [h2 11 (by omega)]; exact s4.1, s4.2⟩, ⟨by rw [h2 12 (by omega)]; exact s5.1, s5.2⟩, ⟨by rw [h2 13 (by omega)]; exact s6.1, s6.2⟩, ⟨by rw [h2 14 (by omega)]; exact s7.1, s7.2⟩⟩
  · rw [(h1 i hi).1]; exact p1 i hi
  · rw [h2 p (by omega)]; exact p2 p hp
  · rw [h2 (5 + i) (by omega), h2 (15 + i) (by omega), h2 (20 + i) (by omega), (h1 i hi).2.1, (h1 i hi).2.2.1, (h1 i hi).2.2.2]
    exact s2 i hi
theorem CampR.copy {t t1 b b1 N : Nat} {σ σ' : St} (h : CampR t1 b1 N σ) (hN : N ≤ 5) (h4 : ∀ q, 10 ≤ q → q ≤ 16 → σ'.1 4 t q = σ.1 4 t1 q) (hg : ∀ g, 8 ≤ g → g ≤ 12 → ∀ q, q < 5 → σ'.1 g t q = σ.1 g t1 q) (h14 : ∀ q, q < 1000 → σ'.1 14 t q = σ.1 14 t1 q) (h31 : ∀ q, q < 1026 → σ'.1 31 0 (b + q) = σ.1 31 0 (b1 + q)) : CampR t b N σ' := by
  obtain ⟨c1, ⟨H, hH, c2, c3, c4, c5⟩, c6, c7⟩ := h
  have h31' : ∀ q, q < 1026 → ∀ j j1, j = b + q → j1 = b1 + q → σ'.1 31 0 j = σ.1 31 0 j1 := fun q hq j j1 e e1 => by rw [e, e1]; exact h31 q hq
  refine ⟨by rw [h4 10 (by omega) (by omega)]; exact c1, ⟨H, hH, by rw [h4 16 (by omega) (by omega)]; exact c2, by rw [h31' 0 (by omega) b b1 rfl rfl]; exact c3, c4, fun k hk => ?_⟩, ?_, fun p hp => ?_⟩
  · have := c5 k hk
    rw [h14 (25 * k) (by omega), h14 (25 * k + 1) (by omega), h14 (25 * k + 2) (by omega), h14 (25 * k + 3) (by omega), h14 (25 * k + 4) (by omega)]
    exact this.cg hN (fun i hi => ⟨h14 _ (by omega), h14 _ (by omega), h14 _ (by omega), h14 _ (by omega)⟩) (fun q hq => h31' (26 + 25 * k + q) (by omega) _ _ (by omega) (by omega))
  · rw [h4 11 (by omega) (by omega), h4 12 (by omega) (by omega), h4 13 (by omega) (by omega), h4 14 (by omega) (by omega), h4 15 (by omega) (by omega)]
    exact c6.cg hN (fun i hi => ⟨hg _ (by omega) (by omega) i (by omega), hg _ (by omega) (by omega) i (by omega), hg _ (by omega) (by omega) i (by omega), hg _ (by omega) (by omega) i (by omega)⟩) (fun q hq => h31' (1 + q) (by omega) _ _ (by omega) (by omega))
  · rw [hg 10 (by omega) (by omega) p (by omega), h31' (1 + p) (by omega) (b + 1 + p) (b1 + 1 + p) (by omega) (by omega)]
    exact c7 p hp
theorem KeptR.cgR {k N : Nat} {σ σ' : St} (h : KeptR k N σ) (hN : N ≤ 5) (h1 : ∀ g, 4 ≤ g → g ≤ 14 → σ'.1 g (1 + k) = σ.1 g (1 + k)) (h0 : ∀ q, q < 1026 → σ'.1 31 0 (1026 * (1 + k) + q) = σ.1 31 0 (1026 * (1 + k) + q)) (h2 : σ'.1 32 0 = σ.1 32 0) (h3 : σ'.1 33 0 = σ.1 33 0) (h4 : σ'.1 34 0 = σ.1 34 0) : KeptR k N σ' := by
  rcases h with ⟨a, b⟩ | ⟨a, b, c⟩
  · exact Or.inl ⟨by rw [h1 4 (by omega) (by omega)]; exact a, by have := h0 0 (by omega); rw [Nat.add_zero] at this; rw [this]; exact b⟩
  · exact Or.inr ⟨a, b.cg h1 h2 h3 h4, c.copy hN (fun q _ _ => by rw [h1 4 (by omega) (by omega)]) (fun g x1 x2 q _ => by rw [h1 g (by omega) (by omega)]) (fun q _ => by rw [h1 14 (by omega) (by omega)]) h0⟩
theorem RR.tnt {σ σ2 : St} (h : RR σ) (h0 : ∀ g u, (1 ≤ g ∧ g ≤ 3) ∨ g = 27 ∨ (35 ≤ g ∧ g ≤ 39) → σ2.1 g u = σ.1 g u) (h2 : σ2.2 = σ.2) (e9 : σ2.1 30 0 9 = σ2.1 0 0 10) (e0 : σ2.1 0 0 9 = σ.1 0 0 9) (e12 : σ2.1 30 0 12 = σ.1 30 0 12) (hT : Tnt σ2) : RR σ2 := by
  obtain ⟨a, b, ⟨c1, c2, c3, c4, c5⟩, -⟩ := h
  exact ⟨a.cg (h0 _ _ (by omega)) (h0 _ _ (by omega)) (h0 _ _ (by omega)) (h0 _ _ (by omega)) (h0 _ _ (by omega)), b.cg (h0 _ _ (by omega)) (h0 _ _ (by omega)) (h0 _ _ (by omega)) (h0 _ _ (by omega)) (h0 _ _ (by omega)), ⟨e9, by rw [h2]; exact c2, by rw [h2]; exact c3, by rw [e12, e0]; exact c4, fun q hq => by rw [h0 39 0 (by omega), h0 27 0 (by omega)]; exact c5 q hq⟩, hT⟩
def tkW (t t1 : Nat) (σ : St) : St := sa (si (tkP t t1 σ) 4 t 16 (σ.1 4 t1 16)) 14 t (fun j => if j < 1000 then σ.1 14 t1 j else σ.1 14 t j)
theorem takeW_eq {t t1 : Nat} {σ : St} (ht : t ≤ 3) (ht1 : t1 ≤ 3) (hne : t ≠ t1) : F_Camp_takeWhole t t1 σ = some (tkW t t1 σ) := by
  unfold F_Camp_takeWhole
  rw [take_eq]
  simp only [obind, b2_some, bs_eq]
  rw [len14 ht, len14 ht1, show mmin (nI 1000) (nI 1000) = nI 1000 by decide, show (0 : Int32) = nI 0 from rfl, acp_all (g := 14) (m := 1000) (len14 ht1) (len14 ht) (by omega)]
  simp only [obind, b2_some, bs_eq]
  unfold tkW
  rw [tkP_ne (g := 4) (u := t1) (by omega)]
  simp only [si_ne (show ¬ (14 = 4 ∧ t1 = t) by omega), si_ne (show ¬ (14 = 4 ∧ t = t) by omega), tkP_ne (g := 14) (show ¬ ((4 ≤ 14 ∧ 14 ≤ 12) ∧ t1 = t) by omega), tkP_ne (g := 14) (show ¬ ((4 ≤ 14 ∧ 14 ≤ 12) ∧ t = t) by omega)]
theorem tkW_ne {t t1 : Nat} {σ : St} {g u : Nat} (h : ¬ ((4 ≤ g ∧ g ≤ 14) ∧ u = t)) : (tkW t t1 σ).1 g u = σ.1 g u := by
  unfold tkW
  rw [sa_ne (by omega), si_ne (by omega), tkP_ne (by omega)]
theorem tkW_4 {t t1 : Nat} {σ : St} (hne : t ≠ t1) {q : Nat} (h1 : 10 ≤ q) (h2 : q ≤ 16) : (tkW t t1 σ).1 4 t q = σ.1 4 t1 q := by
  unfold tkW
  rw [sa_ne (by omega), si_g]
  by_cases e : q = 16
  · rw [if_pos (by omega), e]
  · rw [if_neg (by omega), tkP_4 hne, if_pos (by omega)]
theorem tkW_5 {t t1 : Nat} {σ : St} {q : Nat} (hq : q < 8) : (tkW t t1 σ).1 5 t q = σ.1 5 t1 q := by
  unfold tkW
  rw [sa_ne (by omega), si_ne (by omega), tkP_5 hq]
theorem tkW_g {t t1 : Nat} {σ : St} (hne : t ≠ t1) {g : Nat} (h1 : 6 ≤ g) (h2 : g ≤ 12) {q : Nat} (hq : q < 5) : (tkW t t1 σ).1 g t q = σ.1 g t1 q := by
  unfold tkW
  rw [sa_ne (by omega), si_ne (by omega), tkP_g hne h1 h2 hq]
theorem tkW_14 {t t1 : Nat} {σ : St} {q : Nat} (hq : q < 1000) : (tkW t t1 σ).1 14 t q = σ.1 14 t1 q := by
  unfold tkW
  rw [sa_at, if_pos hq]
theorem copyT_eq {n a b : Nat} {σ : St} (ha : a + 1026 ≤ 4104) (hb : b + 1026 ≤ 4104) (hd : a + 1026 ≤ b ∨ b + 1026 ≤ a) (hn : 1026 < n) : F_Mod_copyTent n (nI a) (nI b) σ = some (sa σ 31 0 (fun j => if b ≤ j ∧ j < b + 1026 then σ.1 31 0 (a + (j - b)) else σ.1 31 0 j)) := by
  unfold F_Mod_copyTent
  have key := fill_gen (fun k i s => F_Mod_copyTent_2 n k (nI a) (nI b) (nI i) s) some (fun s => ∀ q, q < 1026 → s.1 31 0 (a + q) = σ.1 31 0 (a + q)) 31 0 b 1026 (fun i => σ.1 31 0 (a + i)) (fun k s hs => by
    rw [F_Mod_copyTent_2, if_pos (by decide)]) (fun i s hi hs q hq => by
    rw [si_g, if_neg (by omega)]; exact hs q hq) (fun k i s hi hs => by
    rw [F_Mod_copyTent_2, if_neg (by rw [show (1026 : Int32) = nI 1026 from rfl]; simp (disch := omega) only [nI_leI]; omega), nI_add, nI_add, ald_31 (by omega), hs i hi]
    simp only [obind, b2_some, bs_eq]
    rw [ast_31 (by omega)]
    simp only [obind, b2_some, bs_eq, nI_1]) n 0 σ (by omega) (by omega) (fun _ _ => rfl)
  exact key
theorem StatR.copy {t t1 N : Nat} {σ σ' : St} (h : StatR t1 N σ) (hN : N ≤ 5) (h5 : ∀ q, q < 8 → σ'.1 5 t q = σ.1 5 t1 q) (hg : ∀ g, 6 ≤ g → g ≤ 7 → ∀ q, q < 5 → σ'.1 g t q = σ.1 g t1 q) (h2 : σ'.1 32 0 = σ.1 32 0) (h3 : σ'.1 33 0 = σ.1 33 0) (h4 : σ'.1 34 0 = σ.1 34 0) : StatR t N σ' := by
  refine ⟨fun i hi => ?_, fun k hk => ?_⟩
  · rw [h2, h3, hg 6 (by omega) (by omega) i (by omega), hg 7 (by omega) (by omega) i (by omega)]
    exact h.1 i hi
  · rw [h4, h5 k hk]
    exact h.2 k hk
theorem op_keep {n : Nat} {σ : St} (a1 : Int32) (hn : 2000 ≤ n) (h : RR σ) : ∃ r σ1 σ2, F_Tent_keep a1 σ = some (r, σ1) ∧ F_Mod_keep n a1 σ1 = some (r, σ2) ∧ RR σ2 := by
  obtain ⟨V, hc, hm⟩ := h.2.2.2.view
  obtain ⟨st, ca, ke⟩ := h.2.2.2.all hc
  have hN := hc.1.1
  have h1 := hc.2.1
  have m1 := hm.2.1
  unfold F_Tent_keep F_Mod_keep
  rw [show (2 : Int64) = (nI 3 - 1).toInt64 from rfl, in_place (by omega)]
  rcases ix_of 3 (by decide) a1 with g | ⟨k, hk, rfl⟩
  · refine ⟨-1, σ, σ, ?_, by rw [if_pos g]; rfl, h⟩
    by_cases g0 : a1 < 0
    · rw [if_pos g0]
    · rw [if_neg g0, if_neg]
      have g1 : nI 3 ≤ a1 := by rcases g with g | g; exact absurd g g0; exact g
      show ¬ a1 < nI 3
      rw [i32_lt]
      rw [i32_le] at g1
      omega
  · have gk : ¬ (nI k < 0 ∨ nI 3 ≤ nI k) := by
      simp (disch := omega) only [nI_leI]
      have := nI_nneg (z := k) (by omega)
      simp only [this, false_or]
      omega
    rw [if_neg (nI_nneg (by omega)), if_pos (by rw [show (3 : Int32) = nI 3 from rfl]; simp (disch := omega) only [nI_ltI]; omega), h1, if_neg gk]
    by_cases gN : vN V = 0
    · exact ⟨-4, σ, σ, by rw [if_pos (by rw [gN]; rfl)], by simp only [obind, b2_some, bs_eq, if_neg one_ne]; rw [m1, if_pos (by rw [gN]; rfl)], h⟩
    · have g0 : ¬ nI (vN V) = 0 := by rw [nI_z (by omega)]; exact gN
      obtain ⟨-, ⟨H, hH, c2, c3, -, -⟩, -, -⟩ := id ca
      have hne : 1 + k ≠ 0 := by omega
      generalize hX : tkW (1 + k) 0 σ = X
      have xo : ∀ g u, ¬ ((4 ≤ g ∧ g ≤ 14) ∧ u = 1 + k) → X.1 g u = σ.1 g u := fun g u a => by rw [← hX]; exact tkW_ne a
      have x2 : X.2 = σ.2 := by rw [← hX]; rfl
      refine ⟨nI H, X, sa X 31 0 (fun j => if 1026 * (1 + k) ≤ j ∧ j < 1026 * (1 + k) + 1026 then X.1 31 0 (0 + (j - 1026 * (1 + k))) else X.1 31 0 j), ?_, ?_, ?_⟩
      · rw [if_neg g0, kld_in hk]
        simp only [obind, b2_some, bs_eq]
        rw [takeW_eq (by omega) (by omega) hne, hX]
        simp only [obind, b2_some, bs_eq]
        rw [xo 4 0 (by omega), c2]
      · simp only [obind, b2_some, bs_eq, if_neg one_ne]
        rw [xo 30 0 (by omega), m1, if_neg g0, show (1026 : Int32) = nI 1026 from rfl, show (1 : Int32) = nI 1 from rfl, nI_add, pk_mul, show (0 : Int32) = nI 0 from rfl, copyT_eq (by omega) (by omega) (by omega) (by omega)]
        simp only [obind, b2_some, bs_eq]
        rw [ald_31 (by omega), sa_at, if_neg (by omega), xo 31 0 (by omega), c3]
        rfl
      · refine h.tnt (fun g u a => by rw [sa_ne (by omega), xo g u (by omega)]) (by rw [sa_2]; exact x2) (by rw [sa_ne (by omega), sa_ne (by omega), xo 30 0 (by omega), xo 0 0 (by omega)]; exact h.2.2.1.1) (by rw [sa_ne (by omega), xo 0 0 (by omega)]) (by rw [sa_ne (by omega), xo 30 0 (by omega)]) ?_
        have lo : ∀ g u, ¬ ((4 ≤ g ∧ g ≤ 14) ∧ u = 1 + k) → ¬ (g = 31 ∧ u = 0) → (sa X 31 0 (fun j => if 1026 * (1 + k) ≤ j ∧ j < 1026 * (1 + k) + 1026 then X.1 31 0 (0 + (j - 1026 * (1 + k))) else X.1 31 0 j)).1 g u = σ.1 g u := fun g u a b => by rw [sa_ne b, xo g u a]
        refine ⟨vN V, hN, by rw [lo 30 0 (by omega) (by omega)]; exact m1, st.cg (fun g x1 x2 => lo g 0 (by omega) (by omega)) (lo 32 0 (by omega) (by omega)) (lo 33 0 (by omega) (by omega)) (lo 34 0 (by omega) (by omega)), ca.copy hN (fun q _ _ => by rw [lo 4 0 (by omega) (by omega)]) (fun g x1 x2 q _ => by rw [lo g 0 (by omega) (by omega)]) (fun q _ => by rw [lo 14 0 (by omega) (by omega)]) (fun q hq => by rw [sa_at, if_neg (by omega), xo 31 0 (by omega)]), ⟨by rw [lo 30 0 (by omega) (by omega)]; exact hm.2.2.2.2.2.2.2.1, by rw [lo 30 0 (by omega) (by omega)]; exact hm.2.2.2.2.2.2.2.2⟩, fun q hq => ?_⟩
        by_cases e : q = k
        · subst e
          refine Or.inr ⟨by omega, st.copy hN (fun j hj => by rw [sa_ne (by omega), ← hX, tkW_5 hj]) (fun g x1 x2 j hj => by rw [sa_ne (by omega), ← hX, tkW_g hne (by omega) (by omega) hj]) (lo 32 0 (by omega) (by omega)) (lo 33 0 (by omega) (by omega)) (lo 34 0 (by omega) (by omega)), ca.copy hN (fun j x1 x2 => by rw [sa_ne (by omega), ← hX, tkW_4 hne x1 x2]) (fun g x1 x2 j hj => by rw [sa_ne (by omega), ← hX, tkW_g hne (by omega) (by omega) hj]) (fun j hj => by rw [sa_ne (by omega), ← hX, tkW_14 hj]) (fun j hj => by rw [sa_at, if_pos (by omega), xo 31 0 (by omega)]; exact congrArg (σ.1 31 0) (by omega))⟩
        · exact (ke q hq).cgR hN (fun g x1 x2 => lo g (1 + q) (by omega) (by omega)) (fun j hj => by rw [sa_at, if_neg (by omega), xo 31 0 (by omega)]) (lo 32 0 (by omega) (by omega)) (lo 33 0 (by omega) (by omega)) (lo 34 0 (by omega) (by omega))
theorem op_on {n : Nat} {σ : St} (a1 : Int32) (hn : 2000 ≤ n) (h : RR σ) : ∃ r σ1 σ2, F_Tent_on a1 σ = some (r, σ1) ∧ F_Mod_on n a1 σ1 = some (r, σ2) ∧ RR σ2 := by
  obtain ⟨V, hc, hm⟩ := h.2.2.2.view
  obtain ⟨st, ca, ke⟩ := h.2.2.2.all hc
  have hN := hc.1.1
  have h1 := hc.2.1
  have m1 := hm.2.1
  unfold F_Tent_on F_Mod_on
  rw [show (2 : Int64) = (nI 3 - 1).toInt64 from rfl, in_place (by omega)]
  rcases ix_of 3 (by decide) a1 with g | ⟨k, hk, rfl⟩
  · refine ⟨-1, σ, σ, ?_, by rw [if_pos g]; rfl, h⟩
    by_cases g0 : a1 < 0
    · rw [if_pos g0]
    · rw [if_neg g0, if_neg]
      have g1 : nI 3 ≤ a1 := by rcases g with g | g; exact absurd g g0; exact g
      show ¬ a1 < nI 3
      rw [i32_lt]
      rw [i32_le] at g1
      omega
  · have gk : ¬ (nI k < 0 ∨ nI 3 ≤ nI k) := by
      simp (disch := omega) only [nI_leI]
      have := nI_nneg (z := k) (by omega)
      simp only [this, false_or]
      omega
    rw [if_neg (nI_nneg (by omega)), if_pos (by rw [show (3 : Int32) = nI 3 from rfl]; simp (disch := omega) only [nI_ltI]; omega), if_neg gk]
    have ix : nI 1026 * (nI 1 + nI k) + nI 0 = nI (1026 * (1 + k)) := by rw [nI_add, pk_mul, nI_add, Nat.add_zero]
    rcases ke k hk with ⟨k1, k2⟩ | ⟨k1, k2, k3⟩
    · refine ⟨-3, cF 1 σ, mF 1 (cF 1 σ), ?_, ?_, h.found (by omega)⟩
      · unfold F_Tent_isKept
        rw [kld_in hk]
        simp only [obind, b2_some, bs_eq]
        rw [k1]
        simp only [Int32.le_refl, if_true, obind, b2_some, bs_eq]
        rw [show (1 : Int32) = nI 1 from rfl, found_eq (by omega)]
        rfl
      · simp only [obind, b2_some, bs_eq, if_neg one_ne]
        rw [show (1026 : Int32) = nI 1026 from rfl, show (1 : Int32) = nI 1 from rfl, show (0 : Int32) = nI 0 from rfl, ix, ald_31 (by omega)]
        unfold cF
        rw [si_ne (by omega), si_ne (by omega), k2]
        simp only [obind, b2_some, bs_eq]
        rw [if_neg (by decide), find_eq (by omega)]
        rfl
    · obtain ⟨d1, ⟨H, hH, c2, c3, -, -⟩, -, -⟩ := id k3
      have hne : 0 ≠ 1 + k := by omega
      generalize hX : tkW 0 (1 + k) σ = X
      have xo : ∀ g u, ¬ ((4 ≤ g ∧ g ≤ 14) ∧ u = 0) → X.1 g u = σ.1 g u := fun g u a => by rw [← hX]; exact tkW_ne a
      have x2 : X.2 = σ.2 := by rw [← hX]; rfl
      refine ⟨nI H, X, sa X 31 0 (fun j => if 0 ≤ j ∧ j < 0 + 1026 then X.1 31 0 (1026 * (1 + k) + (j - 0)) else X.1 31 0 j), ?_, ?_, ?_⟩
      · unfold F_Tent_isKept
        rw [kld_in hk]
        simp only [obind, b2_some, bs_eq]
        rw [d1, if_neg (by rw [show (0 : Int32) = nI 0 from rfl]; simp (disch := omega) only [nI_leI]; omega)]
        simp only [obind, b2_some, bs_eq, if_neg one_ne]
        rw [takeW_eq (by omega) (by omega) hne, hX]
        simp only [obind, b2_some, bs_eq]
        rw [← hX, tkW_4 hne (by omega) (by omega), c2]
      · simp only [obind, b2_some, bs_eq, if_neg one_ne]
        rw [show (1026 : Int32) = nI 1026 from rfl, show (1 : Int32) = nI 1 from rfl, show (0 : Int32) = nI 0 from rfl, ix, ald_31 (by omega), xo 31 0 (by omega), c3]
        simp only [obind, b2_some, bs_eq]
        rw [if_pos (by simp (disch := omega) only [nI_leI]; omega), nI_add, pk_mul, copyT_eq (by omega) (by omega) (by omega) (by omega)]
        simp only [obind, b2_some, bs_eq]
        rw [ald_31 (by omega), sa_at, if_pos (by omega), xo 31 0 (by omega), show 1026 * (1 + k) + (0 - 0) = 1026 * (1 + k) by omega, c3]
        rfl
      · refine h.tnt (fun g u a => by rw [sa_ne (by omega), xo g u (by omega)]) (by rw [sa_2]; exact x2) (by rw [sa_ne (by omega), sa_ne (by omega), xo 30 0 (by omega), xo 0 0 (by omega)]; exact h.2.2.1.1) (by rw [sa_ne (by omega), xo 0 0 (by omega)]) (by rw [sa_ne (by omega), xo 30 0 (by omega)]) ?_
        have lo : ∀ g u, ¬ ((4 ≤ g ∧ g ≤ 14) ∧ u = 0) → ¬ (g = 31 ∧ u = 0) → (sa X 31 0 (fun j => if 0 ≤ j ∧ j < 0 + 1026 then X.1 31 0 (1026 * (1 + k) + (j - 0)) else X.1 31 0 j)).1 g u = σ.1 g u := fun g u a b => by rw [sa_ne b, xo g u a]
        refine ⟨vN V, hN, by rw [lo 30 0 (by omega) (by omega)]; exact m1, k2.copy hN (fun j hj => by rw [sa_ne (by omega), ← hX, tkW_5 hj]) (fun g x1 x2 j hj => by rw [sa_ne (by omega), ← hX, tkW_g hne (by omega) (by omega) hj]) (lo 32 0 (by omega) (by omega)) (lo 33 0 (by omega) (by omega)) (lo 34 0 (by omega) (by omega)), k3.copy hN (fun j x1 x2 => by rw [sa_ne (by omega), ← hX, tkW_4 hne x1 x2]) (fun g x1 x2 j hj => by rw [sa_ne (by omega), ← hX, tkW_g hne (by omega) (by omega) hj]) (fun j hj => by rw [sa_ne (by omega), ← hX, tkW_14 hj]) (fun j hj => by rw [sa_at, if_pos (by omega), xo 31 0 (by omega)]; exact congrArg (σ.1 31 0) (by omega)), ⟨by rw [lo 30 0 (by omega) (by omega)]; exact hm.2.2.2.2.2.2.2.1, by rw [lo 30 0 (by omega) (by omega)]; exact hm.2.2.2.2.2.2.2.2⟩, fun q hq => ?_⟩
        exact (ke q hq).cgR hN (fun g x1 x2 => lo g (1 + q) (by omega) (by omega)) (fun j hj => by rw [sa_at, if_neg (by omega), xo 31 0 (by omega)]) (lo 32 0 (by omega) (by omega)) (lo 33 0 (by omega) (by omega)) (lo 34 0 (by omega) (by omega))
