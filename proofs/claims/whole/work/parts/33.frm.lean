theorem f_Mod_kinds_54 (n : Nat) (w : (Int32 × St)) (g u : Nat) (hg : ¬ ((g = 30 ∧ u = 0) ∨ ((42 ≤ g ∧ g ≤ 43) ∧ u = 0))) (K24 : Int32 → Int32 → Int32 → St → Option (Int32 × St)) (hK24 : ∀ (l2 : Int32) (l3 : Int32) (l4 : Int32) (σ : St), K24 l2 l3 l4 σ = some w → sm σ w.2 g u) (l2 : Int32) (l4 : Int32) (s0 : Int32) (s1 : Int32) (σ : St) (hF : F_Mod_kinds_54 n K24 l2 l4 s0 s1 σ = some w) : sm σ w.2 g u := by
  rw [F_Mod_kinds_54] at hF
  exact hK24 _ _ _ _ hF
theorem f_Mod_kinds_24 (n : Nat) (w : (Int32 × St)) (g u : Nat) (hg : ¬ ((g = 30 ∧ u = 0) ∨ ((42 ≤ g ∧ g ≤ 43) ∧ u = 0))) : ∀ (k : Nat) (l2 : Int32) (l3 : Int32) (l4 : Int32) (σ : St), F_Mod_kinds_24 n k l2 l3 l4 σ = some w → sm σ w.2 g u := by
  intro k
  induction k with
  | zero => intro l2 l3 l4 σ hF; exact no_s hF
  | succ k ih =>
    intro l2 l3 l4 σ hF
    rw [F_Mod_kinds_24] at hF
    rcases ite_v hF with hF | hF
    · obtain ⟨σ4, h1, hF⟩ := bs_v hF
      refine sm.tr (sm_si h1 (by omega)) ?_
      exact sm_ri hF
    · obtain ⟨σ5, h1, hF⟩ := bs_v hF
      refine sm.tr (sm_si h1 (by omega)) ?_
      obtain ⟨v6, -, hF⟩ := bind_v hF
      exact f_Mod_kinds_54 n w g u hg (F_Mod_kinds_24 n k) ih _ _ _ _ _ hF
theorem fr_Mod_kinds (n : Nat) (a1 : Int32) (a2 : Int32) (σ : St) (w : (Int32 × St)) (hF : F_Mod_kinds n a1 a2 σ = some w) (g u : Nat) (hg : ¬ ((g = 30 ∧ u = 0) ∨ ((42 ≤ g ∧ g ≤ 43) ∧ u = 0))) : sm σ w.2 g u := by
  rw [F_Mod_kinds] at hF
  obtain ⟨v1, -, hF⟩ := bind_v hF
  rcases ite_v hF with hF | hF
  · exact sm_ri hF
  · obtain ⟨σ2, h1, hF⟩ := bind_v hF
    refine sm.tr (fr_Mod_layNow n _ σ2 h1 g u (by omega)) ?_
    obtain ⟨σ3, h1, hF⟩ := bs_v hF
    refine sm.tr (sm_si h1 (by omega)) ?_
    exact f_Mod_kinds_24 n w g u hg n _ _ _ _ hF
theorem f_Mod_odds_83 (n : Nat) (w : (Int32 × St)) (g u : Nat) (hg : ¬ ((g = 30 ∧ u = 0) ∨ ((42 ≤ g ∧ g ≤ 43) ∧ u = 0))) : ∀ (k : Nat) (l3 : Int32) (l4 : Int32) (l5 : Int64) (l7 : Int64) (l9 : Int32) (σ : St), F_Mod_odds_83 n k l3 l4 l5 l7 l9 σ = some w → sm σ w.2 g u := by
  intro k
  induction k with
  | zero => intro l3 l4 l5 l7 l9 σ hF; exact no_s hF
  | succ k ih =>
    intro l3 l4 l5 l7 l9 σ hF
    rw [F_Mod_odds_83] at hF
    rcases ite_v hF with hF | hF
    · obtain ⟨v8, -, hF⟩ := bind_v hF
      obtain ⟨v9, -, hF⟩ := bind_v hF
      obtain ⟨σ10, h1, hF⟩ := bs_v hF
      refine sm.tr (sm_sl h1 (by omega)) ?_
      obtain ⟨v11, -, hF⟩ := bind_v hF
      obtain ⟨σ12, h1, hF⟩ := bs_v hF
      refine sm.tr (sm_sl h1 (by omega)) ?_
      exact sm_ri hF
    · exact ih _ _ _ _ _ _ hF
theorem f_Mod_odds_75 (n : Nat) (w : (Int32 × St)) (g u : Nat) (hg : ¬ ((g = 30 ∧ u = 0) ∨ ((42 ≤ g ∧ g ≤ 43) ∧ u = 0))) (l3 : Int32) (l4 : Int32) (s0 : Int64) (σ : St) (hF : F_Mod_odds_75 n l3 l4 s0 σ = some w) : sm σ w.2 g u := by
  rw [F_Mod_odds_75] at hF
  exact f_Mod_odds_83 n w g u hg n _ _ _ _ _ _ hF
theorem f_Mod_odds_59 (n : Nat) (w : (Int32 × St)) (g u : Nat) (hg : ¬ ((g = 30 ∧ u = 0) ∨ ((42 ≤ g ∧ g ≤ 43) ∧ u = 0))) (l1 : Int32) (l2 : Int32) (l3 : Int32) (s0 : Int32) (σ : St) (hF : F_Mod_odds_59 n l1 l2 l3 s0 σ = some w) : sm σ w.2 g u := by
  rw [F_Mod_odds_59] at hF
  obtain ⟨v7, -, hF⟩ := bind_v hF
  exact f_Mod_odds_75 n w g u hg _ _ _ _ hF
theorem fr_Mod_odds (n : Nat) (a1 : Int32) (a2 : Int32) (a3 : Int32) (σ : St) (w : (Int32 × St)) (hF : F_Mod_odds n a1 a2 a3 σ = some w) (g u : Nat) (hg : ¬ ((g = 30 ∧ u = 0) ∨ ((42 ≤ g ∧ g ≤ 43) ∧ u = 0))) : sm σ w.2 g u := by
  rw [F_Mod_odds] at hF
  obtain ⟨v1, -, hF⟩ := bind_v hF
  rcases ite_v hF with hF | hF
  · exact sm_ri hF
  · obtain ⟨v2, -, hF⟩ := bind_v hF
    rcases ite_v hF with hF | hF
    · exact sm_ri hF
    · obtain ⟨v3, -, hF⟩ := bind_v hF
      rcases ite_v hF with hF | hF
      · exact sm_ri hF
      · obtain ⟨σ4, h1, hF⟩ := bind_v hF
        refine sm.tr (fr_Mod_layNow n _ σ4 h1 g u (by omega)) ?_
        obtain ⟨v5, -, hF⟩ := bind_v hF
        rcases ite_v hF with hF | hF
        · exact f_Mod_odds_59 n w g u hg _ _ _ _ _ hF
        · obtain ⟨v6, -, hF⟩ := bind_v hF
          exact f_Mod_odds_59 n w g u hg _ _ _ _ _ hF
theorem f_Mod_lots_90 (n : Nat) (w : (Int32 × St)) (g u : Nat) (hg : ¬ (((30 ≤ g ∧ g ≤ 31) ∧ u = 0) ∨ ((42 ≤ g ∧ g ≤ 43) ∧ u = 0))) (K40 : Int64 → Int32 → Int32 → St → Option (Int32 × St)) (hK40 : ∀ (l2 : Int64) (l4 : Int32) (l5 : Int32) (σ : St), K40 l2 l4 l5 σ = some w → sm σ w.2 g u) (K75 : Int64 → Int32 → Int32 → Int32 → Int32 → St → Option (Int32 × St)) (hK75 : ∀ (l2 : Int64) (l4 : Int32) (l5 : Int32) (l6 : Int32) (l7 : Int32) (σ : St), K75 l2 l4 l5 l6 l7 σ = some w → sm σ w.2 g u) (l2 : Int64) (l4 : Int32) (l5 : Int32) (l6 : Int32) (l7 : Int32) (σ : St) (hF : F_Mod_lots_90 n K40 K75 l2 l4 l5 l6 l7 σ = some w) : sm σ w.2 g u := by
  rw [F_Mod_lots_90] at hF
  exact hK75 _ _ _ _ _ _ hF
theorem f_Mod_lots_75 (n : Nat) (w : (Int32 × St)) (g u : Nat) (hg : ¬ (((30 ≤ g ∧ g ≤ 31) ∧ u = 0) ∨ ((42 ≤ g ∧ g ≤ 43) ∧ u = 0))) (K40 : Int64 → Int32 → Int32 → St → Option (Int32 × St)) (hK40 : ∀ (l2 : Int64) (l4 : Int32) (l5 : Int32) (σ : St), K40 l2 l4 l5 σ = some w → sm σ w.2 g u) : ∀ (k : Nat) (l2 : Int64) (l4 : Int32) (l5 : Int32) (l6 : Int32) (l7 : Int32) (σ : St), F_Mod_lots_75 n K40 k l2 l4 l5 l6 l7 σ = some w → sm σ w.2 g u := by
  intro k
  induction k with
  | zero => intro l2 l4 l5 l6 l7 σ hF; exact no_s hF
  | succ k ih =>
    intro l2 l4 l5 l6 l7 σ hF
    rw [F_Mod_lots_75] at hF
    obtain ⟨v6, -, hF⟩ := bind_v hF
    rcases ite_v hF with hF | hF
    · exact f_Mod_lots_90 n w g u hg K40 hK40 (F_Mod_lots_75 n K40 k) ih _ _ _ _ _ _ hF
    · rcases ite_v hF with hF | hF
      · obtain ⟨σ7, h1, hF⟩ := bind_v hF
        refine sm.tr (sm_ast h1 (by omega)) ?_
        exact hK40 _ _ _ _ hF
      · exact f_Mod_lots_90 n w g u hg K40 hK40 (F_Mod_lots_75 n K40 k) ih _ _ _ _ _ _ hF
theorem f_Mod_lots_40 (n : Nat) (w : (Int32 × St)) (g u : Nat) (hg : ¬ (((30 ≤ g ∧ g ≤ 31) ∧ u = 0) ∨ ((42 ≤ g ∧ g ≤ 43) ∧ u = 0))) : ∀ (k : Nat) (l2 : Int64) (l4 : Int32) (l5 : Int32) (σ : St), F_Mod_lots_40 n k l2 l4 l5 σ = some w → sm σ w.2 g u := by
  intro k
  induction k with
  | zero => intro l2 l4 l5 σ hF; exact no_s hF
  | succ k ih =>
    intro l2 l4 l5 σ hF
    rw [F_Mod_lots_40] at hF
    rcases ite_v hF with hF | hF
    · obtain ⟨σ2, h1, hF⟩ := bind_v hF
      refine sm.tr (fr_Mod_layNow n _ σ2 h1 g u (by omega)) ?_
      obtain ⟨v3, -, hF⟩ := bind_v hF
      exact sm_ri hF
    · obtain ⟨v4, -, hF⟩ := bind_v hF
      obtain ⟨v5, -, hF⟩ := bind_v hF
      exact f_Mod_lots_75 n w g u hg (F_Mod_lots_40 n k) ih n _ _ _ _ _ _ hF
theorem fr_Mod_lots (n : Nat) (a1 : Int32) (σ : St) (w : (Int32 × St)) (hF : F_Mod_lots n a1 σ = some w) (g u : Nat) (hg : ¬ (((30 ≤ g ∧ g ≤ 31) ∧ u = 0) ∨ ((42 ≤ g ∧ g ≤ 43) ∧ u = 0))) : sm σ w.2 g u := by
  rw [F_Mod_lots] at hF
  obtain ⟨v1, -, hF⟩ := bind_v hF
  rcases ite_v hF with hF | hF
  · exact sm_ri hF
  · rcases ite_v hF with hF | hF
    · exact sm_ri hF
    · exact f_Mod_lots_40 n w g u hg n _ _ _ _ hF
theorem f_Mod_digest_210 (n : Nat) (w : (Int64 × St)) (g u : Nat) (hg : ¬ ((g = 30 ∧ u = 0) ∨ ((42 ≤ g ∧ g ≤ 43) ∧ u = 0))) (K188 : Int64 → Int32 → St → Option (Int64 × St)) (hK188 : ∀ (l1 : Int64) (l3 : Int32) (σ : St), K188 l1 l3 σ = some w → sm σ w.2 g u) : ∀ (k : Nat) (l1 : Int64) (l3 : Int32) (l4 : Int32) (σ : St), F_Mod_digest_210 n K188 k l1 l3 l4 σ = some w → sm σ w.2 g u := by
  intro k
  induction k with
  | zero => intro l1 l3 l4 σ hF; exact no_s hF
  | succ k ih =>
    intro l1 l3 l4 σ hF
    rw [F_Mod_digest_210] at hF
    obtain ⟨v3, -, hF⟩ := bind_v hF
    rcases ite_v hF with hF | hF
    · exact hK188 _ _ _ hF
    · obtain ⟨v4, -, hF⟩ := bind_v hF
      exact ih _ _ _ _ hF
theorem f_Mod_digest_188 (n : Nat) (w : (Int64 × St)) (g u : Nat) (hg : ¬ ((g = 30 ∧ u = 0) ∨ ((42 ≤ g ∧ g ≤ 43) ∧ u = 0))) : ∀ (k : Nat) (l1 : Int64) (l3 : Int32) (σ : St), F_Mod_digest_188 n k l1 l3 σ = some w → sm σ w.2 g u := by
  intro k
  induction k with
  | zero => intro l1 l3 σ hF; exact no_s hF
  | succ k ih =>
    intro l1 l3 σ hF
    rw [F_Mod_digest_188] at hF
    rcases ite_v hF with hF | hF
    · exact sm_ri hF
    · obtain ⟨v2, -, hF⟩ := bind_v hF
      exact f_Mod_digest_210 n w g u hg (F_Mod_digest_188 n k) ih n _ _ _ _ hF
theorem f_Mod_digest_143 (n : Nat) (w : (Int64 × St)) (g u : Nat) (hg : ¬ ((g = 30 ∧ u = 0) ∨ ((42 ≤ g ∧ g ≤ 43) ∧ u = 0))) (K120 : Int64 → Int32 → St → Option (Int64 × St)) (hK120 : ∀ (l1 : Int64) (l3 : Int32) (σ : St), K120 l1 l3 σ = some w → sm σ w.2 g u) : ∀ (k : Nat) (l1 : Int64) (l3 : Int32) (l4 : Int32) (σ : St), F_Mod_digest_143 n K120 k l1 l3 l4 σ = some w → sm σ w.2 g u := by
  intro k
  induction k with
  | zero => intro l1 l3 l4 σ hF; exact no_s hF
  | succ k ih =>
    intro l1 l3 l4 σ hF
    rw [F_Mod_digest_143] at hF
    obtain ⟨v6, -, hF⟩ := bind_v hF
    rcases ite_v hF with hF | hF
    · exact hK120 _ _ _ hF
    · obtain ⟨v7, -, hF⟩ := bind_v hF
      exact ih _ _ _ _ hF
theorem f_Mod_digest_120 (n : Nat) (w : (Int64 × St)) (g u : Nat) (hg : ¬ ((g = 30 ∧ u = 0) ∨ ((42 ≤ g ∧ g ≤ 43) ∧ u = 0))) : ∀ (k : Nat) (l1 : Int64) (l3 : Int32) (σ : St), F_Mod_digest_120 n k l1 l3 σ = some w → sm σ w.2 g u := by
  intro k
  induction k with
  | zero => intro l1 l3 σ hF; exact no_s hF
  | succ k ih =>
    intro l1 l3 σ hF
    rw [F_Mod_digest_120] at hF
    rcases ite_v hF with hF | hF
    · exact f_Mod_digest_188 n w g u hg n _ _ _ hF
    · obtain ⟨v5, -, hF⟩ := bind_v hF
      exact f_Mod_digest_143 n w g u hg (F_Mod_digest_120 n k) ih n _ _ _ _ hF
theorem f_Mod_digest_87 (n : Nat) (w : (Int64 × St)) (g u : Nat) (hg : ¬ ((g = 30 ∧ u = 0) ∨ ((42 ≤ g ∧ g ≤ 43) ∧ u = 0))) : ∀ (k : Nat) (l1 : Int64) (l3 : Int32) (σ : St), F_Mod_digest_87 n k l1 l3 σ = some w → sm σ w.2 g u := by
  intro k
  induction k with
  | zero => intro l1 l3 σ hF; exact no_s hF
  | succ k ih =>
    intro l1 l3 σ hF
    rw [F_Mod_digest_87] at hF
    rcases ite_v hF with hF | hF
    · exact f_Mod_digest_120 n w g u hg n _ _ _ hF
    · obtain ⟨v8, -, hF⟩ := bind_v hF
      exact ih _ _ _ hF
theorem f_Mod_digest_48 (n : Nat) (w : (Int64 × St)) (g u : Nat) (hg : ¬ ((g = 30 ∧ u = 0) ∨ ((42 ≤ g ∧ g ≤ 43) ∧ u = 0))) : ∀ (k : Nat) (l1 : Int64) (l3 : Int32) (σ : St), F_Mod_digest_48 n k l1 l3 σ = some w → sm σ w.2 g u := by
  intro k
  induction k with
  | zero => intro l1 l3 σ hF; exact no_s hF
  | succ k ih =>
    intro l1 l3 σ hF
    rw [F_Mod_digest_48] at hF
    rcases ite_v hF with hF | hF
    · exact f_Mod_digest_87 n w g u hg n _ _ _ hF
    · obtain ⟨v9, -, hF⟩ := bind_v hF
      obtain ⟨v10, -, hF⟩ := bind_v hF
      obtain ⟨v11, σ12, h1, hF⟩ := b2_v hF
      refine sm.tr (fr_Mod_toldOf n _ _ _ (v11, σ12) h1 g u (by omega)) ?_
      exact ih _ _ _ hF
theorem f_Mod_digest_6 (n : Nat) (w : (Int64 × St)) (g u : Nat) (hg : ¬ ((g = 30 ∧ u = 0) ∨ ((42 ≤ g ∧ g ≤ 43) ∧ u = 0))) : ∀ (k : Nat) (l1 : Int64) (l3 : Int32) (σ : St), F_Mod_digest_6 n k l1 l3 σ = some w → sm σ w.2 g u := by
  intro k
  induction k with
  | zero => intro l1 l3 σ hF; exact no_s hF
  | succ k ih =>
    intro l1 l3 σ hF
    rw [F_Mod_digest_6] at hF
    rcases ite_v hF with hF | hF
    · obtain ⟨v1, -, hF⟩ := bind_v hF
      exact f_Mod_digest_48 n w g u hg n _ _ _ hF
    · obtain ⟨v13, -, hF⟩ := bind_v hF
      exact ih _ _ _ hF
theorem fr_Mod_digest (n : Nat) (σ : St) (w : (Int64 × St)) (hF : F_Mod_digest n σ = some w) (g u : Nat) (hg : ¬ ((g = 30 ∧ u = 0) ∨ ((42 ≤ g ∧ g ≤ 43) ∧ u = 0))) : sm σ w.2 g u := by
  rw [F_Mod_digest] at hF
  exact f_Mod_digest_6 n w g u hg n _ _ _ hF
