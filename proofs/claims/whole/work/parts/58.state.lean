-- CALLS THAT CHANGE THE TENT
theorem CampR.cg' {t b N : Nat} {σ σ' : St} (h : CampR t b N σ) (h1 : ∀ g, 4 ≤ g → g ≤ 14 → σ'.1 g t = σ.1 g t) (h2 : ∀ j, b ≤ j → σ'.1 31 0 j = σ.1 31 0 j) : CampR t b N σ' := by
  have e1 : (fun k => σ'.1 31 0 (b + 1 + k)) = (fun k => σ.1 31 0 (b + 1 + k)) := funext (fun k => h2 _ (by omega))
  have e2 : ∀ h, (fun k => σ'.1 31 0 (b + 26 + 25 * h + k)) = (fun k => σ.1 31 0 (b + 26 + 25 * h + k)) := fun h => funext (fun k => h2 _ (by omega))
  have e3 : ∀ p, σ'.1 31 0 (b + 1 + p) = σ.1 31 0 (b + 1 + p) := fun p => h2 _ (by omega)
  unfold CampR PastR at *
  rw [h1 4 (by omega) (by omega), h1 8 (by omega) (by omega), h1 9 (by omega) (by omega), h1 10 (by omega) (by omega), h1 11 (by omega) (by omega), h1 12 (by omega) (by omega), h1 14 (by omega) (by omega), h2 b (by omega), e1]
  simp only [e2, e3]
  exact h
theorem KeptR.cg' {k N : Nat} {σ σ' : St} (h : KeptR k N σ) (h1 : ∀ g, 4 ≤ g → g ≤ 14 → σ'.1 g (1 + k) = σ.1 g (1 + k)) (h0 : ∀ j, 1026 * (1 + k) ≤ j → σ'.1 31 0 j = σ.1 31 0 j) (h2 : σ'.1 32 0 = σ.1 32 0) (h3 : σ'.1 33 0 = σ.1 33 0) (h4 : σ'.1 34 0 = σ.1 34 0) : KeptR k N σ' := by
  rcases h with ⟨a, b⟩ | ⟨a, b, c⟩
  · exact Or.inl ⟨by rw [h1 4 (by omega) (by omega)]; exact a, by rw [h0 _ (by omega)]; exact b⟩
  · exact Or.inr ⟨a, b.cg h1 h2 h3 h4, c.cg' h1 h0⟩
/-- what a change of the present tent leaves -/
def PF (σ σ2 : St) : Prop := (∀ g u, keepG g u → ¬ (u = 0 ∧ (g = 4 ∨ (8 ≤ g ∧ g ≤ 14))) → ¬ (g = 31 ∧ u = 0) → σ2.1 g u = σ.1 g u) ∧ (∀ j, 1026 ≤ j → σ2.1 31 0 j = σ.1 31 0 j) ∧ σ2.2 = σ.2 ∧ (σ2.1 30 0 9 = σ2.1 0 0 10 ∧ σ2.1 0 0 9 = σ.1 0 0 9 ∧ σ2.1 30 0 12 = σ.1 30 0 12) ∧ σ2.1 30 0 1 = σ.1 30 0 1 ∧ σ2.1 30 0 24 = σ.1 30 0 24 ∧ σ2.1 30 0 25 = σ.1 30 0 25
theorem RR.camp {N : Nat} {σ σ2 : St} (h : RR σ) (hN : N ≤ 5) (m1 : σ.1 30 0 1 = nI N) (f : PF σ σ2) (hC : CampR 0 0 N σ2) : RR σ2 := by
  obtain ⟨f1, f2, f3, ⟨f4, f5, f6⟩, f7, f8, f9⟩ := f
  obtain ⟨a, b, ⟨c1, c2, c3, c4, c5⟩, ⟨N', hN', d1, d2, d3, d4, d5⟩⟩ := h
  have e : N' = N := by
    have e1 : nI N' = nI N := d1.symm.trans m1
    simp (disch := omega) only [nI_eq] at e1
    exact e1
  subst e
  have g : ∀ g u, keepG g u → u ≠ 0 ∨ (g ≠ 4 ∧ ¬ (8 ≤ g ∧ g ≤ 14) ∧ g ≠ 31) → σ2.1 g u = σ.1 g u := fun g u k z => f1 g u k (by omega) (by omega)
  unfold keepG at g
  refine ⟨a.cg (g _ _ (by omega) (by omega)) (g _ _ (by omega) (by omega)) (g _ _ (by omega) (by omega)) (g _ _ (by omega) (by omega)) (g _ _ (by omega) (by omega)), b.cg (g _ _ (by omega) (by omega)) (g _ _ (by omega) (by omega)) (g _ _ (by omega) (by omega)) (g _ _ (by omega) (by omega)) (g _ _ (by omega) (by omega)), ⟨f4, by rw [f3]; exact c2, by rw [f3]; exact c3, by rw [f6, f5]; exact c4, fun q hq => by rw [g 39 0 (by omega) (by omega), g 27 0 (by omega) (by omega)]; exact c5 q hq⟩, N', hN', f7.trans d1, ⟨fun i hi => ?_, fun k hk => ?_⟩, hC, ⟨f8.trans d4.1, f9.trans d4.2⟩, fun k hk => (d5 k hk).cg' (fun q x1 x2 => g _ _ (by omega) (by omega)) (fun j hj => f2 j (by omega)) (g _ _ (by omega) (by omega)) (g _ _ (by omega) (by omega)) (g _ _ (by omega) (by omega))⟩
  · rw [g 32 0 (by omega) (by omega), g 33 0 (by omega) (by omega), g 6 0 (by omega) (by omega), g 7 0 (by omega) (by omega)]
    exact d2.1 i hi
  · rw [g 34 0 (by omega) (by omega), g 5 0 (by omega) (by omega)]
    exact d2.2 k hk
theorem CampR.pres {N : Nat} {σ σ2 : St} (h : CampR 0 0 N σ) (e10 : σ2.1 4 0 10 = σ.1 4 0 10) (e16 : σ2.1 4 0 16 = σ.1 4 0 16) (e14 : σ2.1 14 0 = σ.1 14 0) (e0 : σ2.1 31 0 0 = σ.1 31 0 0) (e26 : ∀ j, 26 ≤ j → σ2.1 31 0 j = σ.1 31 0 j) (hS : Snap N (σ2.1 9 0) (σ2.1 8 0) (σ2.1 11 0) (σ2.1 12 0) (σ2.1 4 0 11) (σ2.1 4 0 12) (σ2.1 4 0 13) (σ2.1 4 0 15) (σ2.1 4 0 14) (fun k => σ2.1 31 0 (0 + 1 + k))) (hw : ∀ p, p < N → σ2.1 10 0 p = σ2.1 31 0 (0 + 1 + p)) : CampR 0 0 N σ2 := by
  obtain ⟨c1, ⟨H, hH, c2, c3, c4, c5⟩, -, -⟩ := h
  refine ⟨e10.trans c1, ⟨H, hH, e16.trans c2, e0.trans c3, c4, fun k hk => ?_⟩, hS, hw⟩
  have := c5 k hk
  have e2 : (fun q => σ2.1 31 0 (0 + 26 + 25 * k + q)) = (fun q => σ.1 31 0 (0 + 26 + 25 * k + q)) := funext (fun q => e26 _ (by omega))
  rw [e2, e14]
  exact this
theorem RR.N {V : Vw} {σ : St} (h : RR σ) (hc : CV 0 V σ) : CampR 0 0 (vN V) σ := (h.2.2.2.all hc).2.1
theorem PF.mk2 {σ : St} {j j' : Nat} {v v' : Int32} (hR : RR σ) (hj' : j' < 1026) : PF σ (si (si σ 4 0 j v) 31 0 j' v') := by
  refine ⟨fun g u a b c => by rw [si_ne c, si_ne (by omega)], fun q hq => by rw [si_g, if_neg (by omega), si_ne (by omega)], rfl, ⟨by rw [si_ne (by omega), si_ne (by omega), si_ne (by omega), si_ne (by omega)]; exact hR.2.2.1.1, by rw [si_ne (by omega), si_ne (by omega)], by rw [si_ne (by omega), si_ne (by omega)]⟩, by rw [si_ne (by omega), si_ne (by omega)], by rw [si_ne (by omega), si_ne (by omega)], by rw [si_ne (by omega), si_ne (by omega)]⟩
/-- one slot of the tent is set -/
theorem slot_set {N s m : Nat} {σ : St} {v : Int32} (h : CampR 0 0 N σ) (hN : N ≤ 5) (hs : (s = 11 ∧ m = 11 ∧ (v = 0 ∨ v = 1)) ∨ (s = 12 ∧ m = 12 ∧ ∃ k, v = nI k ∧ k < N) ∨ (s = 13 ∧ m = 13 ∧ ∃ k, k < 256 ∧ v = nI k) ∨ (s = 15 ∧ m = 14 ∧ ∃ k, k ≤ 9 ∧ v = nI k) ∨ (s = 14 ∧ m = 15 ∧ ∃ k, k ≤ 8 ∧ v = nI k)) : CampR 0 0 N (si (si σ 4 0 s v) 31 0 m v) := by
  have hs' : 11 ≤ s ∧ s ≤ 15 ∧ 11 ≤ m ∧ m ≤ 15 := by omega
  have e31 : ∀ j, (si (si σ 4 0 s v) 31 0 m v).1 31 0 j = if j = m then v else σ.1 31 0 j := by
    intro j
    rw [si_g, si_ne (by omega)]
    by_cases e : j = m
    · rw [if_pos ⟨⟨rfl, rfl⟩, e⟩, if_pos e]
    · rw [if_neg (fun z => e z.2), if_neg e]
  have e4 : ∀ j, (si (si σ 4 0 s v) 31 0 m v).1 4 0 j = if j = s then v else σ.1 4 0 j := by
    intro j
    rw [si_ne (by omega), si_g]
    by_cases e : j = s
    · rw [if_pos ⟨⟨rfl, rfl⟩, e⟩, if_pos e]
    · rw [if_neg (fun z => e z.2), if_neg e]
  have eo : ∀ g, g ≠ 4 → g ≠ 31 → (si (si σ 4 0 s v) 31 0 m v).1 g 0 = σ.1 g 0 := fun g a b => by rw [si_ne (by omega), si_ne (by omega)]
  refine h.pres (by rw [e4, if_neg (by omega)]) (by rw [e4, if_neg (by omega)]) (eo 14 (by omega) (by omega)) (by rw [e31, if_neg (by omega)]) (fun j hj => by rw [e31, if_neg (by omega)]) ?_ ?_
  · obtain ⟨-, -, ⟨⟨P, W, p1, p2⟩, s2, s3, s4, s5, s6, s7⟩, -⟩ := h
    rw [eo 8 (by omega) (by omega), eo 9 (by omega) (by omega), eo 11 (by omega) (by omega), eo 12 (by omega) (by omega)]
    simp only [e31, e4]
    refine ⟨⟨P, W, p1, fun p hp => ?_⟩, fun i hi => ?_, ?_, ?_, ?_, ?_, ?_⟩
    · have := p2 p hp
      simp only [if_neg (show ¬ 0 + 1 + p = m by omega)]
      exact this
    · have := s2 i hi
      simp only [if_neg (show ¬ 0 + 1 + (5 + i) = m by omega), if_neg (show ¬ 0 + 1 + (15 + i) = m by omega), if_neg (show ¬ 0 + 1 + (20 + i) = m by omega)]
      exact this
    · rcases hs with ⟨a, b, c⟩ | ⟨a, b, c⟩ | ⟨a, b, c⟩ | ⟨a, b, c⟩ | ⟨a, b, c⟩ <;> subst a <;> subst b <;> simp (decide := true) only [if_true, if_false]
      · exact ⟨trivial, c⟩
      all_goals exact s3
    · rcases hs with ⟨a, b, c⟩ | ⟨a, b, k, c, d⟩ | ⟨a, b, c⟩ | ⟨a, b, c⟩ | ⟨a, b, c⟩ <;> subst a <;> subst b <;> simp (decide := true) only [if_true, if_false]
      · exact s4
      · exact ⟨trivial, k, c, Or.inl d⟩
      all_goals exact s4
    · rcases hs with ⟨a, b, c⟩ | ⟨a, b, c⟩ | ⟨a, b, c⟩ | ⟨a, b, c⟩ | ⟨a, b, c⟩ <;> subst a <;> subst b <;> simp (decide := true) only [if_true, if_false]
      · exact s5
      · exact s5
      · exact ⟨trivial, c⟩
      all_goals exact s5
    · rcases hs with ⟨a, b, c⟩ | ⟨a, b, c⟩ | ⟨a, b, c⟩ | ⟨a, b, c⟩ | ⟨a, b, c⟩ <;> subst a <;> subst b <;> simp (decide := true) only [if_true, if_false]
      · exact s6
      · exact s6
      · exact s6
      · exact ⟨trivial, c⟩
      · exact s6
    · rcases hs with ⟨a, b, c⟩ | ⟨a, b, c⟩ | ⟨a, b, c⟩ | ⟨a, b, c⟩ | ⟨a, b, c⟩ <;> subst a <;> subst b <;> simp (decide := true) only [if_true, if_false]
      · exact s7
      · exact s7
      · exact s7
      · exact s7
      · exact ⟨trivial, c⟩
  · intro p hp
    rw [eo 10 (by omega) (by omega), e31, if_neg (by omega)]
    exact h.2.2.2 p hp
theorem op_vent {σ : St} (a1 : Int32) (h : RR σ) : ∃ r σ1 σ2, F_Tent_vent a1 σ = some (r, σ1) ∧ F_Mod_vent a1 σ1 = some (r, σ2) ∧ RR σ2 := by
  obtain ⟨V, hc, hm⟩ := h.2.2.2.view
  have hN := hc.1.1
  have h1 := hc.2.1
  have m1 := hm.2.1
  unfold F_Tent_vent F_Mod_vent F_Tent_vent_11
  have e1 : (1 : Int64) = (1 : Int32).toInt64 := rfl
  have e0 : (0 : Int64) = (0 : Int32).toInt64 := rfl
  rw [e1, e0, in_I]
  by_cases g : a1 = 0 ∨ a1 = 1
  · have g2 : 0 ≤ a1 ∧ a1 ≤ 1 := by rcases g with g | g <;> subst g <;> decide
    have ec : ∀ z : Option (Int32 × St), (if a1 = 0 then z else if a1 = 1 then z else some (-1, σ)) = z := by
      intro z
      by_cases x0 : a1 = 0
      · rw [if_pos x0]
      · rw [if_neg x0, if_pos (by rcases g with g | g; exact absurd g x0; exact g)]
    rw [ec, h1, if_pos g2]
    by_cases gN : vN V = 0
    · exact ⟨-4, σ, σ, by rw [if_pos (by rw [gN]; rfl)], by simp only [obind, b2_some, bs_eq, if_neg one_ne]; rw [m1, if_pos (by rw [gN]; rfl)], h⟩
    · have g0 : ¬ nI (vN V) = 0 := by rw [nI_z (by omega)]; exact gN
      refine ⟨σ.1 4 0 11, si σ 4 0 11 a1, si (si σ 4 0 11 a1) 31 0 11 a1, by rw [if_neg g0]; rfl, ?_, h.camp hN m1 (PF.mk2 h (by omega)) (slot_set (h.N hc) hN (Or.inl ⟨rfl, rfl, g⟩))⟩
      simp only [obind, b2_some, bs_eq, if_neg one_ne]
      rw [si_ne (by omega), m1, if_neg g0, show (11 : Int32) = nI 11 from rfl, ald_31 (by omega), ast_31 (by omega), si_ne (by omega)]
      simp only [obind, b2_some, bs_eq]
      rw [show σ.1 31 0 11 = σ.1 4 0 11 from (h.N hc).2.2.1.2.2.1.1]
  · refine ⟨-1, σ, σ, ?_, ?_, h⟩
    · rw [if_neg (fun z => g (Or.inl z)), if_neg (fun z => g (Or.inr z))]
    · rw [if_neg]
      · rfl
      · intro z
        obtain ⟨k, k1, k2, rfl⟩ := in_lo_hi (lo := 0) (hi := 1) (by omega) (by omega) z
        have : k = 0 ∨ k = 1 := by omega
        rcases this with r | r
        · subst r; exact g (Or.inl rfl)
        · subst r; exact g (Or.inr rfl)
theorem op_bottle {σ : St} (a1 : Int32) (h : RR σ) : ∃ r σ1 σ2, F_Tent_bottle a1 σ = some (r, σ1) ∧ F_Mod_bottle a1 σ1 = some (r, σ2) ∧ RR σ2 := by
  obtain ⟨V, hc, hm⟩ := h.2.2.2.view
  have hN := hc.1.1
  have h1 := hc.2.1
  have m1 := hm.2.1
  unfold F_Tent_bottle F_Mod_bottle
  rcases ix_of (vN V) (by omega) a1 with g | ⟨i, hi, rfl⟩
  · exact ⟨-1, σ, σ, by simp only [isSl_out h1 g, obind, b2_some, bs_eq, if_true], by rw [m1, in_place (by omega), if_pos g]; rfl, h⟩
  · refine ⟨σ.1 4 0 12, si σ 4 0 12 (nI i), si (si σ 4 0 12 (nI i)) 31 0 12 (nI i), by simp only [isSl_in h1 hN hi, obind, b2_some, bs_eq, if_neg one_ne], ?_, h.camp hN m1 (PF.mk2 h (by omega)) (slot_set (h.N hc) hN (Or.inr (Or.inl ⟨rfl, rfl, i, rfl, hi⟩)))⟩
    rw [si_ne (by omega), m1, in_place (by omega), if_neg]
    · simp only [obind, b2_some, bs_eq, if_neg one_ne]
      rw [show (12 : Int32) = nI 12 from rfl, ald_31 (by omega), ast_31 (by omega), si_ne (by omega)]
      simp only [obind, b2_some, bs_eq]
      rw [show σ.1 31 0 12 = σ.1 4 0 12 from (h.N hc).2.2.1.2.2.2.1.1]
    · simp (disch := omega) only [nI_leI]
      have := nI_nneg (z := i) (by omega)
      simp only [this, false_or]
      omega
theorem op_turns {σ : St} (a1 : Int32) (h : RR σ) : ∃ r σ1 σ2, F_Tent_turns a1 σ = some (r, σ1) ∧ F_Mod_turns a1 σ1 = some (r, σ2) ∧ RR σ2 := by
  obtain ⟨V, hc, hm⟩ := h.2.2.2.view
  have hN := hc.1.1
  have h1 := hc.2.1
  have m1 := hm.2.1
  unfold F_Tent_turns F_Mod_turns
  rw [show (255 : Int64) = (nI 256 - 1).toInt64 from rfl, in_place (by omega)]
  rcases ix_of 256 (by decide) a1 with g | ⟨k, hk, rfl⟩
  · refine ⟨-1, σ, σ, ?_, by rw [if_pos g]; rfl, h⟩
    by_cases g0 : a1 < 0
    · rw [if_pos g0]
    · rw [if_neg g0, if_neg]
      have g1 : nI 256 ≤ a1 := by rcases g with g | g; exact absurd g g0; exact g
      show ¬ a1 < nI 256
      rw [i32_lt]
      rw [i32_le] at g1
      omega
  · have gk : ¬ (nI k < 0 ∨ nI 256 ≤ nI k) := by
      simp (disch := omega) only [nI_leI]
      have := nI_nneg (z := k) (by omega)
      simp only [this, false_or]
      omega
    rw [if_neg (nI_nneg (by omega)), if_pos (by rw [show (256 : Int32) = nI 256 from rfl]; simp (disch := omega) only [nI_ltI]; omega), h1, if_neg gk]
    by_cases gN : vN V = 0
    · exact ⟨-4, σ, σ, by rw [if_pos (by rw [gN]; rfl)], by simp only [obind, b2_some, bs_eq, if_neg one_ne]; rw [m1, if_pos (by rw [gN]; rfl)], h⟩
    · have g0 : ¬ nI (vN V) = 0 := by rw [nI_z (by omega)]; exact gN
      refine ⟨σ.1 4 0 13, si σ 4 0 13 (nI k), si (si σ 4 0 13 (nI k)) 31 0 13 (nI k), by rw [if_neg g0]; rfl, ?_, h.camp hN m1 (PF.mk2 h (by omega)) (slot_set (h.N hc) hN (Or.inr (Or.inr (Or.inl ⟨rfl, rfl, k, hk, rfl⟩))))⟩
      simp only [obind, b2_some, bs_eq, if_neg one_ne]
      rw [si_ne (by omega), m1, if_neg g0, show (13 : Int32) = nI 13 from rfl, ald_31 (by omega), ast_31 (by omega), si_ne (by omega)]
      simp only [obind, b2_some, bs_eq]
      rw [show σ.1 31 0 13 = σ.1 4 0 13 from (h.N hc).2.2.1.2.2.2.2.1.1]
theorem op_now {σ : St} (h : RR σ) : ∃ r σ1 σ2, F_Tent_now σ = some (r, σ1) ∧ F_Mod_now σ1 = some (r, σ2) ∧ RR σ2 := by
  obtain ⟨V, hc, hm⟩ := h.2.2.2.view
  have hN := hc.1.1
  have h1 := hc.2.1
  have m1 := hm.2.1
  unfold F_Tent_now F_Mod_now
  rw [h1]
  by_cases gN : vN V = 0
  · exact ⟨-4, σ, σ, by rw [if_pos (by rw [gN]; rfl)], by rw [m1, if_pos (by rw [gN]; rfl)], h⟩
  · have g0 : ¬ nI (vN V) = 0 := by rw [nI_z (by omega)]; exact gN
    have e14 : σ.1 31 0 14 = σ.1 4 0 15 := (h.N hc).2.2.1.2.2.2.2.2.1.1
    have e15 : σ.1 31 0 15 = σ.1 4 0 14 := (h.N hc).2.2.1.2.2.2.2.2.2.1
    refine ⟨σ.1 4 0 14, si σ 0 0 10 (σ.1 4 0 15), si (si σ 0 0 10 (σ.1 4 0 15)) 30 0 9 (σ.1 4 0 15), ?_, ?_, h.tell _⟩
    · rw [if_neg g0]
      simp only [obind, b2_some, bs_eq]
      rw [si_ne (by omega)]
    · rw [si_ne (by omega), m1, if_neg g0, show (14 : Int32) = nI 14 from rfl, ald_31 (by omega), si_ne (by omega), e14]
      simp only [obind, b2_some, bs_eq]
      rw [show (15 : Int32) = nI 15 from rfl, ald_31 (by omega), si_ne (by omega), si_ne (by omega), e15]
      rfl
theorem op_night {σ : St} (h : RR σ) : ∃ r σ1 σ2, F_Tent_night σ = some (r, σ1) ∧ F_Mod_night σ1 = some (r, σ2) ∧ RR σ2 := by
  obtain ⟨V, hc, hm⟩ := h.2.2.2.view
  have hN := hc.1.1
  have h1 := hc.2.1
  have m1 := hm.2.1
  unfold F_Tent_night F_Mod_night
  rw [h1]
  by_cases gN : vN V = 0
  · exact ⟨-4, σ, σ, by rw [if_pos (by rw [gN]; rfl)], by rw [m1, if_pos (by rw [gN]; rfl)], h⟩
  · have g0 : ¬ nI (vN V) = 0 := by rw [nI_z (by omega)]; exact gN
    obtain ⟨e14, k, hk, ek⟩ := (h.N hc).2.2.1.2.2.2.2.2.1
    have e14 : σ.1 31 0 14 = σ.1 4 0 15 := e14
    have ek : σ.1 4 0 15 = nI k := ek
    rw [if_neg g0, ek]
    by_cases g9 : k = 9
    · subst g9
      refine ⟨-2, σ, σ, by rw [if_neg (by decide)], ?_, h⟩
      rw [m1, if_neg g0, show (14 : Int32) = nI 14 from rfl, ald_31 (by omega), e14, ek]
      rfl
    · have a1 := slot_set (s := 15) (m := 14) (v := nI (k + 1)) (h.N hc) hN (Or.inr (Or.inr (Or.inr (Or.inl ⟨rfl, rfl, k + 1, by omega, rfl⟩))))
      have R1 := h.camp hN m1 (PF.mk2 (j := 15) (j' := 14) (v := nI (k + 1)) (v' := nI (k + 1)) h (by omega)) a1
      have a2 := slot_set (s := 14) (m := 15) (v := 0) a1 hN (Or.inr (Or.inr (Or.inr (Or.inr ⟨rfl, rfl, 0, by omega, rfl⟩))))
      have R2 := R1.camp hN (by rw [si_ne (by omega), si_ne (by omega)]; exact m1) (PF.mk2 (j := 14) (j' := 15) (v := 0) (v' := 0) R1 (by omega)) a2
      have comm : ∀ (s : St) (a b c d : Nat) (x1 x2 : Int32), si (si s 31 0 a x1) 4 0 b x2 = si (si s 4 0 b x2) 31 0 a x1 := by
        intro s a b _ _ x1 x2
        rw [si_sa, si_sa, si_sa (si s 4 0 b x2), si_sa, sa_ne (by omega), sa_ne (by omega)]
        unfold sa
        congr 1
        funext g t
        simp only []
        by_cases z1 : g = 4 ∧ t = 0
        · rw [if_pos z1, if_neg (by omega), if_pos z1]
        · rw [if_neg z1, if_neg z1]
      rw [comm _ _ _ 0 0] at R2
      refine ⟨nI (k + 1), si (si σ 4 0 15 (nI (k + 1))) 4 0 14 0, si (si (si (si σ 4 0 15 (nI (k + 1))) 4 0 14 0) 31 0 14 (nI (k + 1))) 31 0 15 0, ?_, ?_, R2⟩
      · rw [if_pos (by rw [show (9 : Int32) = nI 9 from rfl]; simp (disch := omega) only [nI_ltI]; omega), nI_1]
        simp only [obind, b2_some, bs_eq]
        rw [si_g, if_neg (by omega), si_g, if_pos (by omega)]
      · rw [si_ne (by omega), si_ne (by omega), m1, if_neg g0, show (14 : Int32) = nI 14 from rfl, ald_31 (by omega), si_ne (by omega), si_ne (by omega), e14, ek]
        simp only [obind, b2_some, bs_eq]
        rw [if_neg (by rw [show (9 : Int32) = nI 9 from rfl]; simp (disch := omega) only [nI_eq]; omega), nI_1, ast_31 (by omega)]
        simp only [obind, b2_some, bs_eq]
        rw [show (15 : Int32) = nI 15 from rfl, ast_31 (by omega)]
        simp only [obind, b2_some, bs_eq]
        rw [ald_31 (by omega), si_g, if_neg (by omega), si_g, if_pos (by omega)]
        rfl
