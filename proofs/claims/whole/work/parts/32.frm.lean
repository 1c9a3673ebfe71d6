theorem fr_Tent_lots (n : Nat) (a1 : Int32) (σ : St) (w : (Int32 × St)) (hF : F_Tent_lots n a1 σ = some w) (g u : Nat) (hg : ¬ (((9 ≤ g ∧ g ≤ 10) ∧ u = 0) ∨ ((18 ≤ g ∧ g ≤ 19) ∧ u = 0))) : sm σ w.2 g u := by
  rw [F_Tent_lots] at hF
  rcases ite_v hF with hF | hF
  · exact sm_ri hF
  · rcases ite_v hF with hF | hF
    · rcases ite_v hF with hF | hF
      · exact sm_ri hF
      · obtain ⟨σ1, h1, hF⟩ := bind_v hF
        refine sm.tr (fr_Orders_draw n _ _ _ σ1 h1 g u (by omega)) ?_
        obtain ⟨σ2, h1, hF⟩ := bind_v hF
        refine sm.tr (fr_Camp_layBy n _ _ _ _ σ2 h1 g u (by omega)) ?_
        obtain ⟨v3, -, hF⟩ := bind_v hF
        exact sm_ri hF
    · exact sm_ri hF
theorem fr_Mod_find (a1 : Int32) (σ : St) (w : (Int32 × St)) (hF : F_Mod_find a1 σ = some w) (g u : Nat) (hg : ¬ ((g = 30 ∧ u = 0) ∨ (g = 39 ∧ u = 0))) : sm σ w.2 g u := by
  rw [F_Mod_find] at hF
  obtain ⟨σ1, h1, hF⟩ := bs_v hF
  refine sm.tr (sm_si h1 (by omega)) ?_
  obtain ⟨v2, -, hF⟩ := bind_v hF
  obtain ⟨σ3, h1, hF⟩ := bind_v hF
  refine sm.tr (sm_ast h1 (by omega)) ?_
  exact sm_ri hF
theorem f_Mod_makeRow_9 (n : Nat) (w : St) (g u : Nat) (hg : ¬ (((35 ≤ g ∧ g ≤ 36) ∧ u = 0))) : ∀ (k : Nat) (l1 : Int32) (l3 : Int32) (σ : St), F_Mod_makeRow_9 n k l1 l3 σ = some w → sm σ w g u := by
  intro k
  induction k with
  | zero => intro l1 l3 σ hF; exact no_s hF
  | succ k ih =>
    intro l1 l3 σ hF
    rw [F_Mod_makeRow_9] at hF
    rcases ite_v hF with hF | hF
    · exact sm_rv hF
    · obtain ⟨σ2, h1, hF⟩ := bind_v hF
      refine sm.tr (sm_ast h1 (by omega)) ?_
      exact ih _ _ _ hF
theorem fr_Mod_makeRow (n : Nat) (a1 : Int32) (a2 : Int32) (σ : St) (w : St) (hF : F_Mod_makeRow n a1 a2 σ = some w) (g u : Nat) (hg : ¬ (((35 ≤ g ∧ g ≤ 36) ∧ u = 0))) : sm σ w g u := by
  rw [F_Mod_makeRow] at hF
  obtain ⟨σ1, h1, hF⟩ := bind_v hF
  refine sm.tr (sm_ast h1 (by omega)) ?_
  exact f_Mod_makeRow_9 n w g u hg n _ _ _ hF
theorem fr_Mod_row (n : Nat) (a1 : Int32) (a2 : Int32) (σ : St) (w : (Int32 × St)) (hF : F_Mod_row n a1 a2 σ = some w) (g u : Nat) (hg : ¬ ((g = 30 ∧ u = 0) ∨ ((35 ≤ g ∧ g ≤ 36) ∧ u = 0) ∨ (g = 39 ∧ u = 0))) : sm σ w.2 g u := by
  rw [F_Mod_row] at hF
  obtain ⟨v1, -, hF⟩ := bind_v hF
  rcases ite_v hF with hF | hF
  · exact sm_ri hF
  · rcases ite_v hF with hF | hF
    · rcases ite_v hF with hF | hF
      · obtain ⟨σ2, h1, hF⟩ := bind_v hF
        refine sm.tr (fr_Mod_makeRow n _ _ _ σ2 h1 g u (by omega)) ?_
        exact sm_ri hF
      · obtain ⟨v3, σ4, h1, hF⟩ := b2_v hF
        refine sm.tr (fr_Mod_find _ _ (v3, σ4) h1 g u (by omega)) ?_
        exact sm_ri hF
    · exact sm_ri hF
theorem fr_Mod_refused (a1 : Int32) (a2 : Int32) (σ : St) (w : (Int32 × St)) (hF : F_Mod_refused a1 a2 σ = some w) (g u : Nat) (hg : ¬ ((g = 30 ∧ u = 0) ∨ (g = 39 ∧ u = 0))) : sm σ w.2 g u := by
  rw [F_Mod_refused] at hF
  obtain ⟨v1, -, hF⟩ := bind_v hF
  rcases ite_v hF with hF | hF
  · exact sm_ri hF
  · obtain ⟨v2, -, hF⟩ := bind_v hF
    rcases ite_v hF with hF | hF
    · obtain ⟨v3, -, hF⟩ := bind_v hF
      obtain ⟨v4, -, hF⟩ := bind_v hF
      rcases ite_v hF with hF | hF
      · obtain ⟨v5, σ6, h1, hF⟩ := b2_v hF
        refine sm.tr (fr_Mod_find _ _ (v5, σ6) h1 g u (by omega)) ?_
        exact sm_ri hF
      · exact sm_ri hF
    · obtain ⟨v7, σ8, h1, hF⟩ := b2_v hF
      refine sm.tr (fr_Mod_find _ _ (v7, σ8) h1 g u (by omega)) ?_
      exact sm_ri hF
theorem fr_Mod_tell (a1 : Int32) (σ : St) (w : (Int32 × St)) (hF : F_Mod_tell a1 σ = some w) (g u : Nat) (hg : ¬ ((g = 30 ∧ u = 0))) : sm σ w.2 g u := by
  rw [F_Mod_tell] at hF
  obtain ⟨σ1, h1, hF⟩ := bs_v hF
  refine sm.tr (sm_si h1 (by omega)) ?_
  exact sm_ri hF
theorem fr_Mod_lay (a1 : Int32) (a2 : Int32) (a3 : Int32) (σ : St) (w : (Int32 × St)) (hF : F_Mod_lay a1 a2 a3 σ = some w) (g u : Nat) (hg : ¬ ((g = 30 ∧ u = 0) ∨ (g = 36 ∧ u = 0) ∨ (g = 39 ∧ u = 0))) : sm σ w.2 g u := by
  rw [F_Mod_lay] at hF
  obtain ⟨v1, σ2, h1, hF⟩ := b2_v hF
  refine sm.tr (fr_Mod_refused _ _ _ (v1, σ2) h1 g u (by omega)) ?_
  rcases ite_v hF with hF | hF
  · obtain ⟨v3, -, hF⟩ := bind_v hF
    obtain ⟨σ4, h1, hF⟩ := bind_v hF
    refine sm.tr (sm_ast h1 (by omega)) ?_
    obtain ⟨v5, σ6, h1, hF⟩ := b2_v hF
    refine sm.tr (fr_Mod_tell _ _ (v5, σ6) h1 g u (by omega)) ?_
    exact sm_ri hF
  · exact sm_ri hF
theorem fr_Mod_at (a1 : Int32) (a2 : Int32) (σ : St) (w : (Int32 × St)) (hF : F_Mod_at a1 a2 σ = some w) (g u : Nat) (hg : ¬ ((g = 30 ∧ u = 0) ∨ (g = 39 ∧ u = 0))) : sm σ w.2 g u := by
  rw [F_Mod_at] at hF
  obtain ⟨v1, σ2, h1, hF⟩ := b2_v hF
  refine sm.tr (fr_Mod_refused _ _ _ (v1, σ2) h1 g u (by omega)) ?_
  rcases ite_v hF with hF | hF
  · obtain ⟨v3, -, hF⟩ := bind_v hF
    obtain ⟨v4, σ5, h1, hF⟩ := b2_v hF
    refine sm.tr (fr_Mod_tell _ _ (v4, σ5) h1 g u (by omega)) ?_
    exact sm_ri hF
  · exact sm_ri hF
theorem fr_Mod_tear (a1 : Int32) (σ : St) (w : (Int32 × St)) (hF : F_Mod_tear a1 σ = some w) (g u : Nat) (hg : ¬ ((g = 30 ∧ u = 0) ∨ (g = 35 ∧ u = 0) ∨ (g = 39 ∧ u = 0))) : sm σ w.2 g u := by
  rw [F_Mod_tear] at hF
  obtain ⟨v1, -, hF⟩ := bind_v hF
  rcases ite_v hF with hF | hF
  · exact sm_ri hF
  · obtain ⟨v2, -, hF⟩ := bind_v hF
    rcases ite_v hF with hF | hF
    · obtain ⟨σ3, h1, hF⟩ := bind_v hF
      refine sm.tr (sm_ast h1 (by omega)) ?_
      exact sm_ri hF
    · obtain ⟨v4, σ5, h1, hF⟩ := b2_v hF
      refine sm.tr (fr_Mod_find _ _ (v4, σ5) h1 g u (by omega)) ?_
      exact sm_ri hF
theorem f_Mod_copy_45 (n : Nat) (w : (Int32 × St)) (g u : Nat) (hg : ¬ ((g = 30 ∧ u = 0) ∨ (g = 36 ∧ u = 0) ∨ (g = 39 ∧ u = 0))) (σ : St) (hF : F_Mod_copy_45 n σ = some w) : sm σ w.2 g u := by
  rw [F_Mod_copy_45] at hF
  obtain ⟨v4, σ5, h1, hF⟩ := b2_v hF
  refine sm.tr (fr_Mod_find _ _ (v4, σ5) h1 g u (by omega)) ?_
  exact sm_ri hF
theorem f_Mod_copy_74 (n : Nat) (w : (Int32 × St)) (g u : Nat) (hg : ¬ ((g = 30 ∧ u = 0) ∨ (g = 36 ∧ u = 0) ∨ (g = 39 ∧ u = 0))) (σ : St) (hF : F_Mod_copy_74 n σ = some w) : sm σ w.2 g u := by
  rw [F_Mod_copy_74] at hF
  obtain ⟨v8, σ9, h1, hF⟩ := b2_v hF
  refine sm.tr (fr_Mod_find _ _ (v8, σ9) h1 g u (by omega)) ?_
  exact sm_ri hF
theorem f_Mod_copy_120 (n : Nat) (w : (Int32 × St)) (g u : Nat) (hg : ¬ ((g = 30 ∧ u = 0) ∨ (g = 36 ∧ u = 0) ∨ (g = 39 ∧ u = 0))) (K96 : Int32 → Int32 → Int32 → Int32 → Int32 → Int32 → Int32 → St → Option (Int32 × St)) (hK96 : ∀ (l1 : Int32) (l2 : Int32) (l3 : Int32) (l4 : Int32) (l5 : Int32) (l6 : Int32) (l7 : Int32) (σ : St), K96 l1 l2 l3 l4 l5 l6 l7 σ = some w → sm σ w.2 g u) (l1 : Int32) (l2 : Int32) (l3 : Int32) (l4 : Int32) (l5 : Int32) (l6 : Int32) (l7 : Int32) (s0 : Int32) (σ : St) (hF : F_Mod_copy_120 n K96 l1 l2 l3 l4 l5 l6 l7 s0 σ = some w) : sm σ w.2 g u := by
  rw [F_Mod_copy_120] at hF
  obtain ⟨v11, -, hF⟩ := bind_v hF
  obtain ⟨σ12, h1, hF⟩ := bind_v hF
  refine sm.tr (sm_ast h1 (by omega)) ?_
  exact hK96 _ _ _ _ _ _ _ _ hF
theorem f_Mod_copy_96 (n : Nat) (w : (Int32 × St)) (g u : Nat) (hg : ¬ ((g = 30 ∧ u = 0) ∨ (g = 36 ∧ u = 0) ∨ (g = 39 ∧ u = 0))) : ∀ (k : Nat) (l1 : Int32) (l2 : Int32) (l3 : Int32) (l4 : Int32) (l5 : Int32) (l6 : Int32) (l7 : Int32) (σ : St), F_Mod_copy_96 n k l1 l2 l3 l4 l5 l6 l7 σ = some w → sm σ w.2 g u := by
  intro k
  induction k with
  | zero => intro l1 l2 l3 l4 l5 l6 l7 σ hF; exact no_s hF
  | succ k ih =>
    intro l1 l2 l3 l4 l5 l6 l7 σ hF
    rw [F_Mod_copy_96] at hF
    rcases ite_v hF with hF | hF
    · exact sm_ri hF
    · exact f_Mod_copy_120 n w g u hg (F_Mod_copy_96 n k) ih _ _ _ _ _ _ _ _ _ hF
theorem f_Mod_copy_91 (n : Nat) (w : (Int32 × St)) (g u : Nat) (hg : ¬ ((g = 30 ∧ u = 0) ∨ (g = 36 ∧ u = 0) ∨ (g = 39 ∧ u = 0))) (l1 : Int32) (l2 : Int32) (l3 : Int32) (l4 : Int32) (l5 : Int32) (s0 : Int32) (σ : St) (hF : F_Mod_copy_91 n l1 l2 l3 l4 l5 s0 σ = some w) : sm σ w.2 g u := by
  rw [F_Mod_copy_91] at hF
  exact f_Mod_copy_96 n w g u hg n _ _ _ _ _ _ _ _ hF
theorem fr_Mod_copy (n : Nat) (a1 : Int32) (a2 : Int32) (a3 : Int32) (a4 : Int32) (a5 : Int32) (σ : St) (w : (Int32 × St)) (hF : F_Mod_copy n a1 a2 a3 a4 a5 σ = some w) (g u : Nat) (hg : ¬ ((g = 30 ∧ u = 0) ∨ (g = 36 ∧ u = 0) ∨ (g = 39 ∧ u = 0))) : sm σ w.2 g u := by
  rw [F_Mod_copy] at hF
  obtain ⟨v1, -, hF⟩ := bind_v hF
  rcases ite_v hF with hF | hF
  · exact sm_ri hF
  · obtain ⟨v2, -, hF⟩ := bind_v hF
    rcases ite_v hF with hF | hF
    · exact sm_ri hF
    · rcases ite_v hF with hF | hF
      · obtain ⟨v3, -, hF⟩ := bind_v hF
        rcases ite_v hF with hF | hF
        · exact f_Mod_copy_45 n w g u hg _ hF
        · obtain ⟨v6, -, hF⟩ := bind_v hF
          rcases ite_v hF with hF | hF
          · obtain ⟨v7, -, hF⟩ := bind_v hF
            rcases ite_v hF with hF | hF
            · exact f_Mod_copy_74 n w g u hg _ hF
            · obtain ⟨v10, -, hF⟩ := bind_v hF
              rcases ite_v hF with hF | hF
              · exact f_Mod_copy_74 n w g u hg _ hF
              · exact f_Mod_copy_91 n w g u hg _ _ _ _ _ _ _ hF
          · exact f_Mod_copy_45 n w g u hg _ hF
      · obtain ⟨v13, σ14, h1, hF⟩ := b2_v hF
        refine sm.tr (fr_Mod_find _ _ (v13, σ14) h1 g u (by omega)) ?_
        exact sm_ri hF
theorem f_Mod_mean_44 (n : Nat) (w : (Int32 × St)) (g u : Nat) (hg : ¬ ((g = 30 ∧ u = 0) ∨ (g = 39 ∧ u = 0))) : ∀ (k : Nat) (l1 : Int32) (l2 : Int64) (l4 : Int32) (σ : St), F_Mod_mean_44 n k l1 l2 l4 σ = some w → sm σ w.2 g u := by
  intro k
  induction k with
  | zero => intro l1 l2 l4 σ hF; exact no_s hF
  | succ k ih =>
    intro l1 l2 l4 σ hF
    rw [F_Mod_mean_44] at hF
    obtain ⟨v4, -, hF⟩ := bind_v hF
    rcases ite_v hF with hF | hF
    · obtain ⟨v5, -, hF⟩ := bind_v hF
      obtain ⟨v6, -, hF⟩ := bind_v hF
      obtain ⟨v7, σ8, h1, hF⟩ := b2_v hF
      refine sm.tr (fr_Mod_tell _ _ (v7, σ8) h1 g u (by omega)) ?_
      exact sm_ri hF
    · obtain ⟨v9, -, hF⟩ := bind_v hF
      exact ih _ _ _ _ hF
theorem fr_Mod_mean (n : Nat) (a1 : Int32) (σ : St) (w : (Int32 × St)) (hF : F_Mod_mean n a1 σ = some w) (g u : Nat) (hg : ¬ ((g = 30 ∧ u = 0) ∨ (g = 39 ∧ u = 0))) : sm σ w.2 g u := by
  rw [F_Mod_mean] at hF
  obtain ⟨v1, -, hF⟩ := bind_v hF
  rcases ite_v hF with hF | hF
  · exact sm_ri hF
  · obtain ⟨v2, -, hF⟩ := bind_v hF
    rcases ite_v hF with hF | hF
    · obtain ⟨v3, -, hF⟩ := bind_v hF
      rcases ite_v hF with hF | hF
      · obtain ⟨v10, σ11, h1, hF⟩ := b2_v hF
        refine sm.tr (fr_Mod_find _ _ (v10, σ11) h1 g u (by omega)) ?_
        exact sm_ri hF
      · exact f_Mod_mean_44 n w g u hg n _ _ _ _ hF
    · obtain ⟨v12, σ13, h1, hF⟩ := b2_v hF
      refine sm.tr (fr_Mod_find _ _ (v12, σ13) h1 g u (by omega)) ?_
      exact sm_ri hF
theorem f_Mod_text_34 (n : Nat) (w : (Int32 × St)) (g u : Nat) (hg : ¬ ((g = 30 ∧ u = 0) ∨ ((37 ≤ g ∧ g ≤ 39) ∧ u = 0))) : ∀ (k : Nat) (l1 : Int32) (l2 : Int32) (l3 : Int32) (σ : St), F_Mod_text_34 n k l1 l2 l3 σ = some w → sm σ w.2 g u := by
  intro k
  induction k with
  | zero => intro l1 l2 l3 σ hF; exact no_s hF
  | succ k ih =>
    intro l1 l2 l3 σ hF
    rw [F_Mod_text_34] at hF
    rcases ite_v hF with hF | hF
    · exact sm_ri hF
    · obtain ⟨σ3, h1, hF⟩ := bind_v hF
      refine sm.tr (sm_ast h1 (by omega)) ?_
      exact ih _ _ _ _ hF
theorem fr_Mod_text (n : Nat) (a1 : Int32) (a2 : Int32) (σ : St) (w : (Int32 × St)) (hF : F_Mod_text n a1 a2 σ = some w) (g u : Nat) (hg : ¬ ((g = 30 ∧ u = 0) ∨ ((37 ≤ g ∧ g ≤ 39) ∧ u = 0))) : sm σ w.2 g u := by
  rw [F_Mod_text] at hF
  obtain ⟨v1, -, hF⟩ := bind_v hF
  rcases ite_v hF with hF | hF
  · exact sm_ri hF
  · rcases ite_v hF with hF | hF
    · rcases ite_v hF with hF | hF
      · obtain ⟨σ2, h1, hF⟩ := bind_v hF
        refine sm.tr (sm_ast h1 (by omega)) ?_
        exact f_Mod_text_34 n w g u hg n _ _ _ _ hF
      · obtain ⟨v4, σ5, h1, hF⟩ := b2_v hF
        refine sm.tr (fr_Mod_find _ _ (v4, σ5) h1 g u (by omega)) ?_
        exact sm_ri hF
    · exact sm_ri hF
theorem fr_Mod_put (a1 : Int32) (a2 : Int32) (a3 : Int32) (σ : St) (w : (Int32 × St)) (hF : F_Mod_put a1 a2 a3 σ = some w) (g u : Nat) (hg : ¬ ((g = 30 ∧ u = 0) ∨ ((38 ≤ g ∧ g ≤ 39) ∧ u = 0))) : sm σ w.2 g u := by
  rw [F_Mod_put] at hF
  obtain ⟨v1, -, hF⟩ := bind_v hF
  rcases ite_v hF with hF | hF
  · exact sm_ri hF
  · obtain ⟨v2, -, hF⟩ := bind_v hF
    rcases ite_v hF with hF | hF
    · obtain ⟨v3, -, hF⟩ := bind_v hF
      obtain ⟨v4, -, hF⟩ := bind_v hF
      rcases ite_v hF with hF | hF
      · obtain ⟨v7, σ8, h1, hF⟩ := b2_v hF
        refine sm.tr (fr_Mod_find _ _ (v7, σ8) h1 g u (by omega)) ?_
        exact sm_ri hF
      · obtain ⟨v5, -, hF⟩ := bind_v hF
        obtain ⟨σ6, h1, hF⟩ := bind_v hF
        refine sm.tr (sm_ast h1 (by omega)) ?_
        exact sm_ri hF
    · obtain ⟨v9, σ10, h1, hF⟩ := b2_v hF
      refine sm.tr (fr_Mod_find _ _ (v9, σ10) h1 g u (by omega)) ?_
      exact sm_ri hF
theorem fr_Mod_figure (a1 : Int32) (σ : St) (w : (Int32 × St)) (hF : F_Mod_figure a1 σ = some w) (g u : Nat) (hg : ¬ ((g = 30 ∧ u = 0))) : sm σ w.2 g u := by
  rw [F_Mod_figure] at hF
  rcases ite_v hF with hF | hF
  · exact sm_ri hF
  · obtain ⟨v1, -, hF⟩ := bind_v hF
    obtain ⟨v2, -, hF⟩ := bind_v hF
    rcases ite_v hF with hF | hF
    · exact sm_ri hF
    · obtain ⟨σ3, h1, hF⟩ := bs_v hF
      refine sm.tr (sm_si h1 (by omega)) ?_
      obtain ⟨v4, -, hF⟩ := bind_v hF
      exact sm_ri hF
theorem f_Mod_skip_0 (n : Nat) (w : St) (g u : Nat) (hg : ¬ ((g = 30 ∧ u = 0))) : ∀ (k : Nat) (σ : St), F_Mod_skip_0 n k σ = some w → sm σ w g u := by
  intro k
  induction k with
  | zero => intro σ hF; exact no_s hF
  | succ k ih =>
    intro σ hF
    rw [F_Mod_skip_0] at hF
    rcases ite_v hF with hF | hF
    · exact sm_rv hF
    · obtain ⟨v1, -, hF⟩ := bind_v hF
      rcases ite_v hF with hF | hF
      · obtain ⟨σ2, h1, hF⟩ := bs_v hF
        refine sm.tr (sm_si h1 (by omega)) ?_
        exact ih _ hF
      · exact sm_rv hF
theorem fr_Mod_skip (n : Nat) (σ : St) (w : St) (hF : F_Mod_skip n σ = some w) (g u : Nat) (hg : ¬ ((g = 30 ∧ u = 0))) : sm σ w g u := by
  rw [F_Mod_skip] at hF
  exact f_Mod_skip_0 n w g u hg n _ hF
theorem f_Mod_readsCold_38 (n : Nat) (w : (Int32 × St)) (g u : Nat) (hg : ¬ ((g = 30 ∧ u = 0) ∨ (g = 40 ∧ u = 0))) : ∀ (k : Nat) (l1 : Int32) (σ : St), F_Mod_readsCold_38 n k l1 σ = some w → sm σ w.2 g u := by
  intro k
  induction k with
  | zero => intro l1 σ hF; exact no_s hF
  | succ k ih =>
    intro l1 σ hF
    rw [F_Mod_readsCold_38] at hF
    rcases ite_v hF with hF | hF
    · exact sm_ri hF
    · obtain ⟨v4, σ5, h1, hF⟩ := b2_v hF
      refine sm.tr (fr_Mod_figure _ _ (v4, σ5) h1 g u (by omega)) ?_
      obtain ⟨σ6, h1, hF⟩ := bind_v hF
      refine sm.tr (sm_ast h1 (by omega)) ?_
      obtain ⟨v7, -, hF⟩ := bind_v hF
      rcases ite_v hF with hF | hF
      · exact sm_ri hF
      · exact ih _ _ hF
theorem fr_Mod_readsCold (n : Nat) (σ : St) (w : (Int32 × St)) (hF : F_Mod_readsCold n σ = some w) (g u : Nat) (hg : ¬ ((g = 30 ∧ u = 0) ∨ (g = 40 ∧ u = 0))) : sm σ w.2 g u := by
  rw [F_Mod_readsCold] at hF
  obtain ⟨σ1, h1, hF⟩ := bind_v hF
  refine sm.tr (fr_Mod_skip n _ σ1 h1 g u (by omega)) ?_
  rcases ite_v hF with hF | hF
  · exact sm_ri hF
  · obtain ⟨v2, -, hF⟩ := bind_v hF
    rcases ite_v hF with hF | hF
    · obtain ⟨σ3, h1, hF⟩ := bs_v hF
      refine sm.tr (sm_si h1 (by omega)) ?_
      exact f_Mod_readsCold_38 n w g u hg n _ _ hF
    · exact sm_ri hF
theorem fr_Mod_readsSleeper (n : Nat) (σ : St) (w : (Int32 × St)) (hF : F_Mod_readsSleeper n σ = some w) (g u : Nat) (hg : ¬ ((g = 30 ∧ u = 0) ∨ (g = 41 ∧ u = 0))) : sm σ w.2 g u := by
  rw [F_Mod_readsSleeper] at hF
  obtain ⟨v1, -, hF⟩ := bind_v hF
  rcases ite_v hF with hF | hF
  · exact sm_ri hF
  · rcases ite_v hF with hF | hF
    · exact sm_ri hF
    · obtain ⟨σ2, h1, hF⟩ := bs_v hF
      refine sm.tr (sm_si h1 (by omega)) ?_
      obtain ⟨v3, σ4, h1, hF⟩ := b2_v hF
      refine sm.tr (fr_Mod_figure _ _ (v3, σ4) h1 g u (by omega)) ?_
      rcases ite_v hF with hF | hF
      · exact sm_ri hF
      · obtain ⟨v5, σ6, h1, hF⟩ := b2_v hF
        refine sm.tr (fr_Mod_figure _ _ (v5, σ6) h1 g u (by omega)) ?_
        rcases ite_v hF with hF | hF
        · exact sm_ri hF
        · obtain ⟨σ7, h1, hF⟩ := bind_v hF
          refine sm.tr (sm_ast h1 (by omega)) ?_
          obtain ⟨σ8, h1, hF⟩ := bind_v hF
          refine sm.tr (sm_ast h1 (by omega)) ?_
          obtain ⟨σ9, h1, hF⟩ := bind_v hF
          refine sm.tr (sm_ast h1 (by omega)) ?_
          obtain ⟨σ10, h1, hF⟩ := bs_v hF
          refine sm.tr (sm_si h1 (by omega)) ?_
          obtain ⟨σ11, h1, hF⟩ := bind_v hF
          refine sm.tr (fr_Mod_skip n _ σ11 h1 g u (by omega)) ?_
          exact sm_ri hF
theorem f_Mod_faultOf_64 (n : Nat) (w : (Int32 × St)) (g u : Nat) (hg : ¬ ((g = 30 ∧ u = 0) ∨ ((40 ≤ g ∧ g ≤ 41) ∧ u = 0))) (l2 : Int32) (σ : St) (hF : F_Mod_faultOf_64 n l2 σ = some w) : sm σ w.2 g u := by
  rw [F_Mod_faultOf_64] at hF
  rcases ite_v hF with hF | hF
  · exact sm_ri hF
  · rcases ite_v hF with hF | hF
    · exact sm_ri hF
    · exact sm_ri hF
theorem f_Mod_faultOf_41 (n : Nat) (w : (Int32 × St)) (g u : Nat) (hg : ¬ ((g = 30 ∧ u = 0) ∨ ((40 ≤ g ∧ g ≤ 41) ∧ u = 0))) : ∀ (k : Nat) (l2 : Int32) (σ : St), F_Mod_faultOf_41 n k l2 σ = some w → sm σ w.2 g u := by
  intro k
  induction k with
  | zero => intro l2 σ hF; exact no_s hF
  | succ k ih =>
    intro l2 σ hF
    rw [F_Mod_faultOf_41] at hF
    rcases ite_v hF with hF | hF
    · exact f_Mod_faultOf_64 n w g u hg _ _ hF
    · rcases ite_v hF with hF | hF
      · exact f_Mod_faultOf_64 n w g u hg _ _ hF
      · obtain ⟨v8, σ9, h1, hF⟩ := b2_v hF
        refine sm.tr (fr_Mod_readsSleeper n _ (v8, σ9) h1 g u (by omega)) ?_
        exact ih _ _ hF
theorem fr_Mod_faultOf (n : Nat) (a1 : Int32) (σ : St) (w : (Int32 × St)) (hF : F_Mod_faultOf n a1 σ = some w) (g u : Nat) (hg : ¬ ((g = 30 ∧ u = 0) ∨ ((40 ≤ g ∧ g ≤ 41) ∧ u = 0))) : sm σ w.2 g u := by
  rw [F_Mod_faultOf] at hF
  obtain ⟨σ1, h1, hF⟩ := bs_v hF
  refine sm.tr (sm_si h1 (by omega)) ?_
  obtain ⟨σ2, h1, hF⟩ := bs_v hF
  refine sm.tr (sm_si h1 (by omega)) ?_
  obtain ⟨v3, -, hF⟩ := bind_v hF
  obtain ⟨σ4, h1, hF⟩ := bs_v hF
  refine sm.tr (sm_si h1 (by omega)) ?_
  obtain ⟨σ5, h1, hF⟩ := bs_v hF
  refine sm.tr (sm_si h1 (by omega)) ?_
  obtain ⟨v6, σ7, h1, hF⟩ := b2_v hF
  refine sm.tr (fr_Mod_readsCold n _ (v6, σ7) h1 g u (by omega)) ?_
  rcases ite_v hF with hF | hF
  · exact f_Mod_faultOf_41 n w g u hg n _ _ hF
  · obtain ⟨σ10, h1, hF⟩ := bind_v hF
    refine sm.tr (fr_Mod_skip n _ σ10 h1 g u (by omega)) ?_
    exact f_Mod_faultOf_41 n w g u hg n _ _ hF
theorem fr_Mod_fault (n : Nat) (a1 : Int32) (σ : St) (w : (Int32 × St)) (hF : F_Mod_fault n a1 σ = some w) (g u : Nat) (hg : ¬ ((g = 30 ∧ u = 0) ∨ ((39 ≤ g ∧ g ≤ 41) ∧ u = 0))) : sm σ w.2 g u := by
  rw [F_Mod_fault] at hF
  obtain ⟨v1, -, hF⟩ := bind_v hF
  rcases ite_v hF with hF | hF
  · exact sm_ri hF
  · obtain ⟨v2, -, hF⟩ := bind_v hF
    rcases ite_v hF with hF | hF
    · obtain ⟨v3, σ4, h1, hF⟩ := b2_v hF
      refine sm.tr (fr_Mod_faultOf n _ _ (v3, σ4) h1 g u (by omega)) ?_
      exact sm_ri hF
    · obtain ⟨v5, σ6, h1, hF⟩ := b2_v hF
      refine sm.tr (fr_Mod_find _ _ (v5, σ6) h1 g u (by omega)) ?_
      exact sm_ri hF
theorem f_Mod_tent_169 (n : Nat) (w : (Int32 × St)) (g u : Nat) (hg : ¬ (((30 ≤ g ∧ g ≤ 34) ∧ u = 0) ∨ ((39 ≤ g ∧ g ≤ 41) ∧ u = 0))) : ∀ (k : Nat) (l2 : Int32) (σ : St), F_Mod_tent_169 n k l2 σ = some w → sm σ w.2 g u := by
  intro k
  induction k with
  | zero => intro l2 σ hF; exact no_s hF
  | succ k ih =>
    intro l2 σ hF
    rw [F_Mod_tent_169] at hF
    rcases ite_v hF with hF | hF
    · exact sm_ri hF
    · obtain ⟨σ6, h1, hF⟩ := bind_v hF
      refine sm.tr (sm_ast h1 (by omega)) ?_
      exact ih _ _ hF
theorem f_Mod_tent_95 (n : Nat) (w : (Int32 × St)) (g u : Nat) (hg : ¬ (((30 ≤ g ∧ g ≤ 34) ∧ u = 0) ∨ ((39 ≤ g ∧ g ≤ 41) ∧ u = 0))) : ∀ (k : Nat) (l2 : Int32) (σ : St), F_Mod_tent_95 n k l2 σ = some w → sm σ w.2 g u := by
  intro k
  induction k with
  | zero => intro l2 σ hF; exact no_s hF
  | succ k ih =>
    intro l2 σ hF
    rw [F_Mod_tent_95] at hF
    rcases ite_v hF with hF | hF
    · exact f_Mod_tent_169 n w g u hg n _ _ hF
    · obtain ⟨v7, -, hF⟩ := bind_v hF
      obtain ⟨σ8, h1, hF⟩ := bind_v hF
      refine sm.tr (sm_ast h1 (by omega)) ?_
      obtain ⟨v9, -, hF⟩ := bind_v hF
      obtain ⟨σ10, h1, hF⟩ := bind_v hF
      refine sm.tr (sm_ast h1 (by omega)) ?_
      obtain ⟨v11, -, hF⟩ := bind_v hF
      obtain ⟨σ12, h1, hF⟩ := bind_v hF
      refine sm.tr (sm_ast h1 (by omega)) ?_
      obtain ⟨σ13, h1, hF⟩ := bind_v hF
      refine sm.tr (sm_ast h1 (by omega)) ?_
      exact ih _ _ hF
theorem f_Mod_tent_73 (n : Nat) (w : (Int32 × St)) (g u : Nat) (hg : ¬ (((30 ≤ g ∧ g ≤ 34) ∧ u = 0) ∨ ((39 ≤ g ∧ g ≤ 41) ∧ u = 0))) : ∀ (k : Nat) (l2 : Int32) (σ : St), F_Mod_tent_73 n k l2 σ = some w → sm σ w.2 g u := by
  intro k
  induction k with
  | zero => intro l2 σ hF; exact no_s hF
  | succ k ih =>
    intro l2 σ hF
    rw [F_Mod_tent_73] at hF
    rcases ite_v hF with hF | hF
    · exact f_Mod_tent_95 n w g u hg n _ _ hF
    · obtain ⟨σ14, h1, hF⟩ := bind_v hF
      refine sm.tr (sm_ast h1 (by omega)) ?_
      exact ih _ _ hF
theorem f_Mod_tent_47 (n : Nat) (w : (Int32 × St)) (g u : Nat) (hg : ¬ (((30 ≤ g ∧ g ≤ 34) ∧ u = 0) ∨ ((39 ≤ g ∧ g ≤ 41) ∧ u = 0))) : ∀ (k : Nat) (l2 : Int32) (σ : St), F_Mod_tent_47 n k l2 σ = some w → sm σ w.2 g u := by
  intro k
  induction k with
  | zero => intro l2 σ hF; exact no_s hF
  | succ k ih =>
    intro l2 σ hF
    rw [F_Mod_tent_47] at hF
    rcases ite_v hF with hF | hF
    · exact f_Mod_tent_73 n w g u hg n _ _ hF
    · obtain ⟨v15, -, hF⟩ := bind_v hF
      obtain ⟨σ16, h1, hF⟩ := bind_v hF
      refine sm.tr (sm_ast h1 (by omega)) ?_
      exact ih _ _ hF
theorem fr_Mod_tent (n : Nat) (a1 : Int32) (σ : St) (w : (Int32 × St)) (hF : F_Mod_tent n a1 σ = some w) (g u : Nat) (hg : ¬ (((30 ≤ g ∧ g ≤ 34) ∧ u = 0) ∨ ((39 ≤ g ∧ g ≤ 41) ∧ u = 0))) : sm σ w.2 g u := by
  rw [F_Mod_tent] at hF
  obtain ⟨v1, -, hF⟩ := bind_v hF
  rcases ite_v hF with hF | hF
  · exact sm_ri hF
  · obtain ⟨v2, -, hF⟩ := bind_v hF
    rcases ite_v hF with hF | hF
    · obtain ⟨v3, σ4, h1, hF⟩ := b2_v hF
      refine sm.tr (fr_Mod_faultOf n _ _ (v3, σ4) h1 g u (by omega)) ?_
      rcases ite_v hF with hF | hF
      · obtain ⟨σ5, h1, hF⟩ := bs_v hF
        refine sm.tr (sm_si h1 (by omega)) ?_
        exact f_Mod_tent_47 n w g u hg n _ _ hF
      · exact sm_ri hF
    · obtain ⟨v17, σ18, h1, hF⟩ := b2_v hF
      refine sm.tr (fr_Mod_find _ _ (v17, σ18) h1 g u (by omega)) ?_
      exact sm_ri hF
theorem f_Mod_layNow_2 (n : Nat) (w : St) (g u : Nat) (hg : ¬ ((g = 30 ∧ u = 0) ∨ ((42 ≤ g ∧ g ≤ 43) ∧ u = 0))) : ∀ (k : Nat) (l1 : Int32) (σ : St), F_Mod_layNow_2 n k l1 σ = some w → sm σ w g u := by
  intro k
  induction k with
  | zero => intro l1 σ hF; exact no_s hF
  | succ k ih =>
    intro l1 σ hF
    rw [F_Mod_layNow_2] at hF
    rcases ite_v hF with hF | hF
    · obtain ⟨v1, -, hF⟩ := bind_v hF
      obtain ⟨σ2, h1, hF⟩ := bs_v hF
      refine sm.tr (sm_si h1 (by omega)) ?_
      obtain ⟨v3, -, hF⟩ := bind_v hF
      obtain ⟨σ4, h1, hF⟩ := bs_v hF
      refine sm.tr (sm_si h1 (by omega)) ?_
      exact sm_rv hF
    · obtain ⟨v5, -, hF⟩ := bind_v hF
      obtain ⟨σ6, h1, hF⟩ := bind_v hF
      refine sm.tr (sm_ast h1 (by omega)) ?_
      obtain ⟨v7, -, hF⟩ := bind_v hF
      obtain ⟨σ8, h1, hF⟩ := bind_v hF
      refine sm.tr (sm_ast h1 (by omega)) ?_
      exact ih _ _ hF
theorem fr_Mod_layNow (n : Nat) (σ : St) (w : St) (hF : F_Mod_layNow n σ = some w) (g u : Nat) (hg : ¬ ((g = 30 ∧ u = 0) ∨ ((42 ≤ g ∧ g ≤ 43) ∧ u = 0))) : sm σ w g u := by
  rw [F_Mod_layNow] at hF
  exact f_Mod_layNow_2 n w g u hg n _ _ hF
theorem fr_Mod_toldOf (n : Nat) (a1 : Int32) (a2 : Int32) (σ : St) (w : (Int32 × St)) (hF : F_Mod_toldOf n a1 a2 σ = some w) (g u : Nat) (hg : ¬ ((g = 30 ∧ u = 0) ∨ ((42 ≤ g ∧ g ≤ 43) ∧ u = 0))) : sm σ w.2 g u := by
  rw [F_Mod_toldOf] at hF
  obtain ⟨σ1, h1, hF⟩ := bind_v hF
  refine sm.tr (fr_Mod_layNow n _ σ1 h1 g u (by omega)) ?_
  rcases ite_v hF with hF | hF
  · obtain ⟨v2, -, hF⟩ := bind_v hF
    exact sm_ri hF
  rcases ite_v hF with hF | hF
  · obtain ⟨v3, -, hF⟩ := bind_v hF
    exact sm_ri hF
  rcases ite_v hF with hF | hF
  · obtain ⟨v4, -, hF⟩ := bind_v hF
    exact sm_ri hF
  rcases ite_v hF with hF | hF
  · obtain ⟨v5, -, hF⟩ := bind_v hF
    exact sm_ri hF
  rcases ite_v hF with hF | hF
  · obtain ⟨v6, -, hF⟩ := bind_v hF
    exact sm_ri hF
  obtain ⟨v7, -, hF⟩ := bind_v hF
  exact sm_ri hF
theorem fr_Mod_sleeper (n : Nat) (a1 : Int32) (a2 : Int32) (σ : St) (w : (Int32 × St)) (hF : F_Mod_sleeper n a1 a2 σ = some w) (g u : Nat) (hg : ¬ ((g = 30 ∧ u = 0) ∨ ((42 ≤ g ∧ g ≤ 43) ∧ u = 0))) : sm σ w.2 g u := by
  rw [F_Mod_sleeper] at hF
  obtain ⟨v1, -, hF⟩ := bind_v hF
  rcases ite_v hF with hF | hF
  · exact sm_ri hF
  · obtain ⟨v2, -, hF⟩ := bind_v hF
    rcases ite_v hF with hF | hF
    · exact sm_ri hF
    · obtain ⟨v3, σ4, h1, hF⟩ := b2_v hF
      refine sm.tr (fr_Mod_toldOf n _ _ _ (v3, σ4) h1 g u (by omega)) ?_
      obtain ⟨v5, σ6, h1, hF⟩ := b2_v hF
      refine sm.tr (fr_Mod_tell _ _ (v5, σ6) h1 g u (by omega)) ?_
      exact sm_ri hF
theorem fr_Mod_mark (n : Nat) (a1 : Int32) (a2 : Int32) (σ : St) (w : (Int32 × St)) (hF : F_Mod_mark n a1 a2 σ = some w) (g u : Nat) (hg : ¬ ((g = 30 ∧ u = 0) ∨ (g = 39 ∧ u = 0) ∨ ((42 ≤ g ∧ g ≤ 43) ∧ u = 0))) : sm σ w.2 g u := by
  rw [F_Mod_mark] at hF
  obtain ⟨v1, -, hF⟩ := bind_v hF
  rcases ite_v hF with hF | hF
  · exact sm_ri hF
  · obtain ⟨v2, -, hF⟩ := bind_v hF
    rcases ite_v hF with hF | hF
    · exact sm_ri hF
    · obtain ⟨v3, -, hF⟩ := bind_v hF
      rcases ite_v hF with hF | hF
      · obtain ⟨v11, σ12, h1, hF⟩ := b2_v hF
        refine sm.tr (fr_Mod_find _ _ (v11, σ12) h1 g u (by omega)) ?_
        exact sm_ri hF
      · obtain ⟨σ4, h1, hF⟩ := bind_v hF
        refine sm.tr (fr_Mod_layNow n _ σ4 h1 g u (by omega)) ?_
        rcases ite_v hF with hF | hF
        · obtain ⟨v5, -, hF⟩ := bind_v hF
          exact sm_ri hF
        rcases ite_v hF with hF | hF
        · obtain ⟨v6, -, hF⟩ := bind_v hF
          exact sm_ri hF
        rcases ite_v hF with hF | hF
        · obtain ⟨v7, -, hF⟩ := bind_v hF
          obtain ⟨v8, -, hF⟩ := bind_v hF
          exact sm_ri hF
        rcases ite_v hF with hF | hF
        · obtain ⟨v9, -, hF⟩ := bind_v hF
          exact sm_ri hF
        obtain ⟨v10, -, hF⟩ := bind_v hF
        exact sm_ri hF
theorem fr_Mod_vent (a1 : Int32) (σ : St) (w : (Int32 × St)) (hF : F_Mod_vent a1 σ = some w) (g u : Nat) (hg : ¬ ((g = 31 ∧ u = 0))) : sm σ w.2 g u := by
  rw [F_Mod_vent] at hF
  obtain ⟨v1, -, hF⟩ := bind_v hF
  rcases ite_v hF with hF | hF
  · exact sm_ri hF
  · rcases ite_v hF with hF | hF
    · exact sm_ri hF
    · obtain ⟨v2, -, hF⟩ := bind_v hF
      obtain ⟨σ3, h1, hF⟩ := bind_v hF
      refine sm.tr (sm_ast h1 (by omega)) ?_
      exact sm_ri hF
theorem fr_Mod_bottle (a1 : Int32) (σ : St) (w : (Int32 × St)) (hF : F_Mod_bottle a1 σ = some w) (g u : Nat) (hg : ¬ ((g = 31 ∧ u = 0))) : sm σ w.2 g u := by
  rw [F_Mod_bottle] at hF
  obtain ⟨v1, -, hF⟩ := bind_v hF
  rcases ite_v hF with hF | hF
  · exact sm_ri hF
  · obtain ⟨v2, -, hF⟩ := bind_v hF
    obtain ⟨σ3, h1, hF⟩ := bind_v hF
    refine sm.tr (sm_ast h1 (by omega)) ?_
    exact sm_ri hF
theorem fr_Mod_turns (a1 : Int32) (σ : St) (w : (Int32 × St)) (hF : F_Mod_turns a1 σ = some w) (g u : Nat) (hg : ¬ ((g = 31 ∧ u = 0))) : sm σ w.2 g u := by
  rw [F_Mod_turns] at hF
  obtain ⟨v1, -, hF⟩ := bind_v hF
  rcases ite_v hF with hF | hF
  · exact sm_ri hF
  · rcases ite_v hF with hF | hF
    · exact sm_ri hF
    · obtain ⟨v2, -, hF⟩ := bind_v hF
      obtain ⟨σ3, h1, hF⟩ := bind_v hF
      refine sm.tr (sm_ast h1 (by omega)) ?_
      exact sm_ri hF
theorem fr_Mod_swap (a1 : Int32) (a2 : Int32) (σ : St) (w : St) (hF : F_Mod_swap a1 a2 σ = some w) (g u : Nat) (hg : ¬ ((g = 31 ∧ u = 0))) : sm σ w g u := by
  rw [F_Mod_swap] at hF
  obtain ⟨v1, -, hF⟩ := bind_v hF
  obtain ⟨v2, -, hF⟩ := bind_v hF
  obtain ⟨σ3, h1, hF⟩ := bind_v hF
  refine sm.tr (sm_ast h1 (by omega)) ?_
  obtain ⟨σ4, h1, hF⟩ := bind_v hF
  refine sm.tr (sm_ast h1 (by omega)) ?_
  exact sm_rv hF
theorem fr_Mod_change (n : Nat) (a1 : Int32) (a2 : Int32) (σ : St) (w : (Int32 × St)) (hF : F_Mod_change n a1 a2 σ = some w) (g u : Nat) (hg : ¬ (((30 ≤ g ∧ g ≤ 31) ∧ u = 0) ∨ ((42 ≤ g ∧ g ≤ 43) ∧ u = 0))) : sm σ w.2 g u := by
  rw [F_Mod_change] at hF
  obtain ⟨v1, -, hF⟩ := bind_v hF
  rcases ite_v hF with hF | hF
  · exact sm_ri hF
  · obtain ⟨v2, -, hF⟩ := bind_v hF
    rcases ite_v hF with hF | hF
    · exact sm_ri hF
    · obtain ⟨σ3, h1, hF⟩ := bind_v hF
      refine sm.tr (fr_Mod_layNow n _ σ3 h1 g u (by omega)) ?_
      obtain ⟨v4, -, hF⟩ := bind_v hF
      obtain ⟨v5, -, hF⟩ := bind_v hF
      obtain ⟨σ6, h1, hF⟩ := bind_v hF
      refine sm.tr (fr_Mod_swap _ _ _ σ6 h1 g u (by omega)) ?_
      exact sm_ri hF
theorem fr_Mod_bags (a1 : Int32) (a2 : Int32) (σ : St) (w : (Int32 × St)) (hF : F_Mod_bags a1 a2 σ = some w) (g u : Nat) (hg : ¬ ((g = 31 ∧ u = 0))) : sm σ w.2 g u := by
  rw [F_Mod_bags] at hF
  obtain ⟨v1, -, hF⟩ := bind_v hF
  rcases ite_v hF with hF | hF
  · exact sm_ri hF
  · obtain ⟨v2, -, hF⟩ := bind_v hF
    rcases ite_v hF with hF | hF
    · exact sm_ri hF
    · obtain ⟨σ3, h1, hF⟩ := bind_v hF
      refine sm.tr (fr_Mod_swap _ _ _ σ3 h1 g u (by omega)) ?_
      obtain ⟨v4, -, hF⟩ := bind_v hF
      exact sm_ri hF
theorem f_Mod_lie_69 (n : Nat) (w : (Int32 × St)) (g u : Nat) (hg : ¬ (((30 ≤ g ∧ g ≤ 31) ∧ u = 0) ∨ (g = 39 ∧ u = 0))) : ∀ (k : Nat) (l1 : Int32) (l2 : Int32) (σ : St), F_Mod_lie_69 n k l1 l2 σ = some w → sm σ w.2 g u := by
  intro k
  induction k with
  | zero => intro l1 l2 σ hF; exact no_s hF
  | succ k ih =>
    intro l1 l2 σ hF
    rw [F_Mod_lie_69] at hF
    rcases ite_v hF with hF | hF
    · exact sm_ri hF
    · obtain ⟨v5, -, hF⟩ := bind_v hF
      obtain ⟨σ6, h1, hF⟩ := bind_v hF
      refine sm.tr (sm_ast h1 (by omega)) ?_
      exact ih _ _ _ hF
theorem fr_Mod_lie (n : Nat) (a1 : Int32) (σ : St) (w : (Int32 × St)) (hF : F_Mod_lie n a1 σ = some w) (g u : Nat) (hg : ¬ (((30 ≤ g ∧ g ≤ 31) ∧ u = 0) ∨ (g = 39 ∧ u = 0))) : sm σ w.2 g u := by
  rw [F_Mod_lie] at hF
  obtain ⟨v1, -, hF⟩ := bind_v hF
  rcases ite_v hF with hF | hF
  · exact sm_ri hF
  · rcases ite_v hF with hF | hF
    · exact sm_ri hF
    · obtain ⟨v2, -, hF⟩ := bind_v hF
      rcases ite_v hF with hF | hF
      · obtain ⟨v3, -, hF⟩ := bind_v hF
        rcases ite_v hF with hF | hF
        · obtain ⟨v4, -, hF⟩ := bind_v hF
          rcases ite_v hF with hF | hF
          · obtain ⟨v7, σ8, h1, hF⟩ := b2_v hF
            refine sm.tr (fr_Mod_find _ _ (v7, σ8) h1 g u (by omega)) ?_
            exact sm_ri hF
          · exact f_Mod_lie_69 n w g u hg n _ _ _ hF
        · obtain ⟨v9, σ10, h1, hF⟩ := b2_v hF
          refine sm.tr (fr_Mod_find _ _ (v9, σ10) h1 g u (by omega)) ?_
          exact sm_ri hF
      · obtain ⟨v11, σ12, h1, hF⟩ := b2_v hF
        refine sm.tr (fr_Mod_find _ _ (v11, σ12) h1 g u (by omega)) ?_
        exact sm_ri hF
theorem f_Mod_hour_147 (n : Nat) (w : (Int32 × St)) (g u : Nat) (hg : ¬ (((30 ≤ g ∧ g ≤ 31) ∧ u = 0) ∨ ((42 ≤ g ∧ g ≤ 43) ∧ u = 0))) (K95 : Int32 → Int32 → St → Option (Int32 × St)) (hK95 : ∀ (l1 : Int32) (l2 : Int32) (σ : St), K95 l1 l2 σ = some w → sm σ w.2 g u) (l1 : Int32) (l2 : Int32) (s1 : Int32) (s2 : Int32) (s3 : Int32) (σ : St) (hF : F_Mod_hour_147 n K95 l1 l2 s1 s2 s3 σ = some w) : sm σ w.2 g u := by
  rw [F_Mod_hour_147] at hF
  obtain ⟨σ15, h1, hF⟩ := bind_v hF
  refine sm.tr (sm_ast h1 (by omega)) ?_
  exact hK95 _ _ _ hF
theorem f_Mod_hour_95 (n : Nat) (w : (Int32 × St)) (g u : Nat) (hg : ¬ (((30 ≤ g ∧ g ≤ 31) ∧ u = 0) ∨ ((42 ≤ g ∧ g ≤ 43) ∧ u = 0))) : ∀ (k : Nat) (l1 : Int32) (l2 : Int32) (σ : St), F_Mod_hour_95 n k l1 l2 σ = some w → sm σ w.2 g u := by
  intro k
  induction k with
  | zero => intro l1 l2 σ hF; exact no_s hF
  | succ k ih =>
    intro l1 l2 σ hF
    rw [F_Mod_hour_95] at hF
    rcases ite_v hF with hF | hF
    · obtain ⟨v6, -, hF⟩ := bind_v hF
      obtain ⟨σ7, h1, hF⟩ := bind_v hF
      refine sm.tr (sm_ast h1 (by omega)) ?_
      obtain ⟨v8, -, hF⟩ := bind_v hF
      obtain ⟨σ9, h1, hF⟩ := bind_v hF
      refine sm.tr (sm_ast h1 (by omega)) ?_
      exact sm_ri hF
    · obtain ⟨v10, -, hF⟩ := bind_v hF
      obtain ⟨σ11, h1, hF⟩ := bind_v hF
      refine sm.tr (sm_ast h1 (by omega)) ?_
      obtain ⟨v12, -, hF⟩ := bind_v hF
      obtain ⟨v13, -, hF⟩ := bind_v hF
      obtain ⟨v14, -, hF⟩ := bind_v hF
      exact f_Mod_hour_147 n w g u hg (F_Mod_hour_95 n k) ih _ _ _ _ _ _ hF
theorem f_Mod_hour_38 (n : Nat) (w : (Int32 × St)) (g u : Nat) (hg : ¬ (((30 ≤ g ∧ g ≤ 31) ∧ u = 0) ∨ ((42 ≤ g ∧ g ≤ 43) ∧ u = 0))) : ∀ (k : Nat) (l1 : Int32) (σ : St), F_Mod_hour_38 n k l1 σ = some w → sm σ w.2 g u := by
  intro k
  induction k with
  | zero => intro l1 σ hF; exact no_s hF
  | succ k ih =>
    intro l1 σ hF
    rw [F_Mod_hour_38] at hF
    rcases ite_v hF with hF | hF
    · obtain ⟨σ3, h1, hF⟩ := bind_v hF
      refine sm.tr (fr_Mod_layNow n _ σ3 h1 g u (by omega)) ?_
      obtain ⟨v4, -, hF⟩ := bind_v hF
      obtain ⟨v5, -, hF⟩ := bind_v hF
      exact f_Mod_hour_95 n w g u hg n _ _ _ hF
    · obtain ⟨v16, -, hF⟩ := bind_v hF
      obtain ⟨v17, -, hF⟩ := bind_v hF
      obtain ⟨σ18, h1, hF⟩ := bind_v hF
      refine sm.tr (sm_ast h1 (by omega)) ?_
      exact ih _ _ hF
theorem fr_Mod_hour (n : Nat) (σ : St) (w : (Int32 × St)) (hF : F_Mod_hour n σ = some w) (g u : Nat) (hg : ¬ (((30 ≤ g ∧ g ≤ 31) ∧ u = 0) ∨ ((42 ≤ g ∧ g ≤ 43) ∧ u = 0))) : sm σ w.2 g u := by
  rw [F_Mod_hour] at hF
  rcases ite_v hF with hF | hF
  · exact sm_ri hF
  · obtain ⟨v1, -, hF⟩ := bind_v hF
    rcases ite_v hF with hF | hF
    · exact sm_ri hF
    · obtain ⟨v2, -, hF⟩ := bind_v hF
      rcases ite_v hF with hF | hF
      · exact sm_ri hF
      · exact f_Mod_hour_38 n w g u hg n _ _ hF
theorem fr_Mod_night (σ : St) (w : (Int32 × St)) (hF : F_Mod_night σ = some w) (g u : Nat) (hg : ¬ ((g = 31 ∧ u = 0))) : sm σ w.2 g u := by
  rw [F_Mod_night] at hF
  rcases ite_v hF with hF | hF
  · exact sm_ri hF
  · obtain ⟨v1, -, hF⟩ := bind_v hF
    rcases ite_v hF with hF | hF
    · exact sm_ri hF
    · obtain ⟨v2, -, hF⟩ := bind_v hF
      obtain ⟨σ3, h1, hF⟩ := bind_v hF
      refine sm.tr (sm_ast h1 (by omega)) ?_
      obtain ⟨σ4, h1, hF⟩ := bind_v hF
      refine sm.tr (sm_ast h1 (by omega)) ?_
      obtain ⟨v5, -, hF⟩ := bind_v hF
      exact sm_ri hF
theorem f_Mod_undo_67 (n : Nat) (w : (Int32 × St)) (g u : Nat) (hg : ¬ ((g = 31 ∧ u = 0))) (l1 : Int32) (l2 : Int32) (σ : St) (hF : F_Mod_undo_67 n l1 l2 σ = some w) : sm σ w.2 g u := by
  rw [F_Mod_undo_67] at hF
  obtain ⟨σ4, h1, hF⟩ := bind_v hF
  refine sm.tr (sm_ast h1 (by omega)) ?_
  exact sm_ri hF
theorem f_Mod_undo_29 (n : Nat) (w : (Int32 × St)) (g u : Nat) (hg : ¬ ((g = 31 ∧ u = 0))) : ∀ (k : Nat) (l1 : Int32) (l2 : Int32) (l3 : Int32) (σ : St), F_Mod_undo_29 n k l1 l2 l3 σ = some w → sm σ w.2 g u := by
  intro k
  induction k with
  | zero => intro l1 l2 l3 σ hF; exact no_s hF
  | succ k ih =>
    intro l1 l2 l3 σ hF
    rw [F_Mod_undo_29] at hF
    rcases ite_v hF with hF | hF
    · exact f_Mod_undo_67 n w g u hg _ _ _ hF
    · rcases ite_v hF with hF | hF
      · exact f_Mod_undo_67 n w g u hg _ _ _ hF
      · obtain ⟨v5, -, hF⟩ := bind_v hF
        obtain ⟨σ6, h1, hF⟩ := bind_v hF
        refine sm.tr (sm_ast h1 (by omega)) ?_
        exact ih _ _ _ _ hF
theorem fr_Mod_undo (n : Nat) (a1 : Int32) (σ : St) (w : (Int32 × St)) (hF : F_Mod_undo n a1 σ = some w) (g u : Nat) (hg : ¬ ((g = 31 ∧ u = 0))) : sm σ w.2 g u := by
  rw [F_Mod_undo] at hF
  obtain ⟨v1, -, hF⟩ := bind_v hF
  obtain ⟨v2, -, hF⟩ := bind_v hF
  rcases ite_v hF with hF | hF
  · exact sm_ri hF
  · obtain ⟨v3, -, hF⟩ := bind_v hF
    exact f_Mod_undo_29 n w g u hg n _ _ _ _ hF
theorem fr_Mod_now (σ : St) (w : (Int32 × St)) (hF : F_Mod_now σ = some w) (g u : Nat) (hg : ¬ ((g = 30 ∧ u = 0))) : sm σ w.2 g u := by
  rw [F_Mod_now] at hF
  rcases ite_v hF with hF | hF
  · exact sm_ri hF
  · obtain ⟨v1, -, hF⟩ := bind_v hF
    obtain ⟨σ2, h1, hF⟩ := bs_v hF
    refine sm.tr (sm_si h1 (by omega)) ?_
    obtain ⟨v3, -, hF⟩ := bind_v hF
    exact sm_ri hF
theorem f_Mod_copyTent_2 (n : Nat) (w : St) (g u : Nat) (hg : ¬ ((g = 31 ∧ u = 0))) : ∀ (k : Nat) (l1 : Int32) (l2 : Int32) (l3 : Int32) (σ : St), F_Mod_copyTent_2 n k l1 l2 l3 σ = some w → sm σ w g u := by
  intro k
  induction k with
  | zero => intro l1 l2 l3 σ hF; exact no_s hF
  | succ k ih =>
    intro l1 l2 l3 σ hF
    rw [F_Mod_copyTent_2] at hF
    rcases ite_v hF with hF | hF
    · exact sm_rv hF
    · obtain ⟨v1, -, hF⟩ := bind_v hF
      obtain ⟨σ2, h1, hF⟩ := bind_v hF
      refine sm.tr (sm_ast h1 (by omega)) ?_
      exact ih _ _ _ _ hF
theorem fr_Mod_copyTent (n : Nat) (a1 : Int32) (a2 : Int32) (σ : St) (w : St) (hF : F_Mod_copyTent n a1 a2 σ = some w) (g u : Nat) (hg : ¬ ((g = 31 ∧ u = 0))) : sm σ w g u := by
  rw [F_Mod_copyTent] at hF
  exact f_Mod_copyTent_2 n w g u hg n _ _ _ _ hF
theorem fr_Mod_keep (n : Nat) (a1 : Int32) (σ : St) (w : (Int32 × St)) (hF : F_Mod_keep n a1 σ = some w) (g u : Nat) (hg : ¬ ((g = 31 ∧ u = 0))) : sm σ w.2 g u := by
  rw [F_Mod_keep] at hF
  obtain ⟨v1, -, hF⟩ := bind_v hF
  rcases ite_v hF with hF | hF
  · exact sm_ri hF
  · rcases ite_v hF with hF | hF
    · exact sm_ri hF
    · obtain ⟨σ2, h1, hF⟩ := bind_v hF
      refine sm.tr (fr_Mod_copyTent n _ _ _ σ2 h1 g u (by omega)) ?_
      obtain ⟨v3, -, hF⟩ := bind_v hF
      exact sm_ri hF
theorem fr_Mod_on (n : Nat) (a1 : Int32) (σ : St) (w : (Int32 × St)) (hF : F_Mod_on n a1 σ = some w) (g u : Nat) (hg : ¬ (((30 ≤ g ∧ g ≤ 31) ∧ u = 0) ∨ (g = 39 ∧ u = 0))) : sm σ w.2 g u := by
  rw [F_Mod_on] at hF
  obtain ⟨v1, -, hF⟩ := bind_v hF
  rcases ite_v hF with hF | hF
  · exact sm_ri hF
  · obtain ⟨v2, -, hF⟩ := bind_v hF
    rcases ite_v hF with hF | hF
    · obtain ⟨σ3, h1, hF⟩ := bind_v hF
      refine sm.tr (fr_Mod_copyTent n _ _ _ σ3 h1 g u (by omega)) ?_
      obtain ⟨v4, -, hF⟩ := bind_v hF
      exact sm_ri hF
    · obtain ⟨v5, σ6, h1, hF⟩ := b2_v hF
      refine sm.tr (fr_Mod_find _ _ (v5, σ6) h1 g u (by omega)) ?_
      exact sm_ri hF
theorem fr_Mod_feels (n : Nat) (a1 : Int32) (a2 : Int32) (σ : St) (w : (Int32 × St)) (hF : F_Mod_feels n a1 a2 σ = some w) (g u : Nat) (hg : ¬ ((g = 30 ∧ u = 0) ∨ ((42 ≤ g ∧ g ≤ 43) ∧ u = 0))) : sm σ w.2 g u := by
  rw [F_Mod_feels] at hF
  obtain ⟨v1, -, hF⟩ := bind_v hF
  rcases ite_v hF with hF | hF
  · exact sm_ri hF
  · obtain ⟨v2, -, hF⟩ := bind_v hF
    rcases ite_v hF with hF | hF
    · exact sm_ri hF
    · obtain ⟨σ3, h1, hF⟩ := bind_v hF
      refine sm.tr (fr_Mod_layNow n _ σ3 h1 g u (by omega)) ?_
      obtain ⟨v4, -, hF⟩ := bind_v hF
      obtain ⟨v5, σ6, h1, hF⟩ := b2_v hF
      refine sm.tr (fr_Mod_tell _ _ (v5, σ6) h1 g u (by omega)) ?_
      exact sm_ri hF
theorem fr_Mod_why (n : Nat) (a1 : Int32) (a2 : Int32) (σ : St) (w : (Int32 × St)) (hF : F_Mod_why n a1 a2 σ = some w) (g u : Nat) (hg : ¬ ((g = 30 ∧ u = 0) ∨ ((42 ≤ g ∧ g ≤ 43) ∧ u = 0))) : sm σ w.2 g u := by
  rw [F_Mod_why] at hF
  obtain ⟨v1, -, hF⟩ := bind_v hF
  rcases ite_v hF with hF | hF
  · exact sm_ri hF
  · obtain ⟨v2, -, hF⟩ := bind_v hF
    rcases ite_v hF with hF | hF
    · exact sm_ri hF
    · obtain ⟨σ3, h1, hF⟩ := bind_v hF
      refine sm.tr (fr_Mod_layNow n _ σ3 h1 g u (by omega)) ?_
      obtain ⟨v4, -, hF⟩ := bind_v hF
      exact sm_ri hF
theorem f_Mod_sleeps_49 (n : Nat) (w : (Int32 × St)) (g u : Nat) (hg : ¬ ((g = 30 ∧ u = 0) ∨ ((42 ≤ g ∧ g ≤ 43) ∧ u = 0))) (K20 : Int32 → Int32 → St → Option (Int32 × St)) (hK20 : ∀ (l1 : Int32) (l2 : Int32) (σ : St), K20 l1 l2 σ = some w → sm σ w.2 g u) (l1 : Int32) (l2 : Int32) (s1 : Int32) (s2 : Int32) (σ : St) (hF : F_Mod_sleeps_49 n K20 l1 l2 s1 s2 σ = some w) : sm σ w.2 g u := by
  rw [F_Mod_sleeps_49] at hF
  obtain ⟨σ6, h1, hF⟩ := bs_v hF
  refine sm.tr (sm_si h1 (by omega)) ?_
  exact hK20 _ _ _ hF
theorem f_Mod_sleeps_20 (n : Nat) (w : (Int32 × St)) (g u : Nat) (hg : ¬ ((g = 30 ∧ u = 0) ∨ ((42 ≤ g ∧ g ≤ 43) ∧ u = 0))) : ∀ (k : Nat) (l1 : Int32) (l2 : Int32) (σ : St), F_Mod_sleeps_20 n k l1 l2 σ = some w → sm σ w.2 g u := by
  intro k
  induction k with
  | zero => intro l1 l2 σ hF; exact no_s hF
  | succ k ih =>
    intro l1 l2 σ hF
    rw [F_Mod_sleeps_20] at hF
    rcases ite_v hF with hF | hF
    · obtain ⟨v4, -, hF⟩ := bind_v hF
      exact sm_ri hF
    · obtain ⟨v5, -, hF⟩ := bind_v hF
      exact f_Mod_sleeps_49 n w g u hg (F_Mod_sleeps_20 n k) ih _ _ _ _ _ hF
theorem fr_Mod_sleeps (n : Nat) (a1 : Int32) (σ : St) (w : (Int32 × St)) (hF : F_Mod_sleeps n a1 σ = some w) (g u : Nat) (hg : ¬ ((g = 30 ∧ u = 0) ∨ ((42 ≤ g ∧ g ≤ 43) ∧ u = 0))) : sm σ w.2 g u := by
  rw [F_Mod_sleeps] at hF
  obtain ⟨v1, -, hF⟩ := bind_v hF
  rcases ite_v hF with hF | hF
  · exact sm_ri hF
  · obtain ⟨σ2, h1, hF⟩ := bind_v hF
    refine sm.tr (fr_Mod_layNow n _ σ2 h1 g u (by omega)) ?_
    obtain ⟨σ3, h1, hF⟩ := bs_v hF
    refine sm.tr (sm_si h1 (by omega)) ?_
    exact f_Mod_sleeps_20 n w g u hg n _ _ _ hF
theorem fr_Mod_slept (n : Nat) (a1 : Int32) (σ : St) (w : (Int32 × St)) (hF : F_Mod_slept n a1 σ = some w) (g u : Nat) (hg : ¬ ((g = 30 ∧ u = 0) ∨ ((42 ≤ g ∧ g ≤ 43) ∧ u = 0))) : sm σ w.2 g u := by
  rw [F_Mod_slept] at hF
  obtain ⟨v1, -, hF⟩ := bind_v hF
  rcases ite_v hF with hF | hF
  · exact sm_ri hF
  · obtain ⟨σ2, h1, hF⟩ := bind_v hF
    refine sm.tr (fr_Mod_layNow n _ σ2 h1 g u (by omega)) ?_
    obtain ⟨v3, -, hF⟩ := bind_v hF
    exact sm_ri hF
theorem f_Mod_coldest_83 (n : Nat) (w : (Int32 × St)) (g u : Nat) (hg : ¬ ((g = 30 ∧ u = 0) ∨ ((42 ≤ g ∧ g ≤ 43) ∧ u = 0))) (K20 : Int32 → Int32 → Int32 → St → Option (Int32 × St)) (hK20 : ∀ (l1 : Int32) (l2 : Int32) (l3 : Int32) (σ : St), K20 l1 l2 l3 σ = some w → sm σ w.2 g u) (K31 : Int32 → Int32 → Int32 → Int32 → St → Option (Int32 × St)) (hK31 : ∀ (l1 : Int32) (l2 : Int32) (l3 : Int32) (l4 : Int32) (σ : St), K31 l1 l2 l3 l4 σ = some w → sm σ w.2 g u) (l1 : Int32) (l3 : Int32) (l4 : Int32) (s0 : Int32) (σ : St) (hF : F_Mod_coldest_83 n K20 K31 l1 l3 l4 s0 σ = some w) : sm σ w.2 g u := by
  rw [F_Mod_coldest_83] at hF
  exact hK31 _ _ _ _ _ hF
theorem f_Mod_coldest_71 (n : Nat) (w : (Int32 × St)) (g u : Nat) (hg : ¬ ((g = 30 ∧ u = 0) ∨ ((42 ≤ g ∧ g ≤ 43) ∧ u = 0))) (K20 : Int32 → Int32 → Int32 → St → Option (Int32 × St)) (hK20 : ∀ (l1 : Int32) (l2 : Int32) (l3 : Int32) (σ : St), K20 l1 l2 l3 σ = some w → sm σ w.2 g u) (K31 : Int32 → Int32 → Int32 → Int32 → St → Option (Int32 × St)) (hK31 : ∀ (l1 : Int32) (l2 : Int32) (l3 : Int32) (l4 : Int32) (σ : St), K31 l1 l2 l3 l4 σ = some w → sm σ w.2 g u) (l2 : Int32) (l3 : Int32) (l4 : Int32) (l5 : Int32) (s0 : Int32) (σ : St) (hF : F_Mod_coldest_71 n K20 K31 l2 l3 l4 l5 s0 σ = some w) : sm σ w.2 g u := by
  rw [F_Mod_coldest_71] at hF
  exact f_Mod_coldest_83 n w g u hg K20 hK20 K31 hK31 _ _ _ _ _ hF
theorem f_Mod_coldest_59 (n : Nat) (w : (Int32 × St)) (g u : Nat) (hg : ¬ ((g = 30 ∧ u = 0) ∨ ((42 ≤ g ∧ g ≤ 43) ∧ u = 0))) (K20 : Int32 → Int32 → Int32 → St → Option (Int32 × St)) (hK20 : ∀ (l1 : Int32) (l2 : Int32) (l3 : Int32) (σ : St), K20 l1 l2 l3 σ = some w → sm σ w.2 g u) (K31 : Int32 → Int32 → Int32 → Int32 → St → Option (Int32 × St)) (hK31 : ∀ (l1 : Int32) (l2 : Int32) (l3 : Int32) (l4 : Int32) (σ : St), K31 l1 l2 l3 l4 σ = some w → sm σ w.2 g u) (l1 : Int32) (l2 : Int32) (l3 : Int32) (l4 : Int32) (s0 : Int32) (σ : St) (hF : F_Mod_coldest_59 n K20 K31 l1 l2 l3 l4 s0 σ = some w) : sm σ w.2 g u := by
  rw [F_Mod_coldest_59] at hF
  exact f_Mod_coldest_71 n w g u hg K20 hK20 K31 hK31 _ _ _ _ _ _ hF
theorem f_Mod_coldest_31 (n : Nat) (w : (Int32 × St)) (g u : Nat) (hg : ¬ ((g = 30 ∧ u = 0) ∨ ((42 ≤ g ∧ g ≤ 43) ∧ u = 0))) (K20 : Int32 → Int32 → Int32 → St → Option (Int32 × St)) (hK20 : ∀ (l1 : Int32) (l2 : Int32) (l3 : Int32) (σ : St), K20 l1 l2 l3 σ = some w → sm σ w.2 g u) : ∀ (k : Nat) (l1 : Int32) (l2 : Int32) (l3 : Int32) (l4 : Int32) (σ : St), F_Mod_coldest_31 n K20 k l1 l2 l3 l4 σ = some w → sm σ w.2 g u := by
  intro k
  induction k with
  | zero => intro l1 l2 l3 l4 σ hF; exact no_s hF
  | succ k ih =>
    intro l1 l2 l3 l4 σ hF
    rw [F_Mod_coldest_31] at hF
    rcases ite_v hF with hF | hF
    · exact hK20 _ _ _ _ hF
    · obtain ⟨v3, -, hF⟩ := bind_v hF
      obtain ⟨v4, -, hF⟩ := bind_v hF
      exact f_Mod_coldest_59 n w g u hg K20 hK20 (F_Mod_coldest_31 n K20 k) ih _ _ _ _ _ _ hF
theorem f_Mod_coldest_20 (n : Nat) (w : (Int32 × St)) (g u : Nat) (hg : ¬ ((g = 30 ∧ u = 0) ∨ ((42 ≤ g ∧ g ≤ 43) ∧ u = 0))) : ∀ (k : Nat) (l1 : Int32) (l2 : Int32) (l3 : Int32) (σ : St), F_Mod_coldest_20 n k l1 l2 l3 σ = some w → sm σ w.2 g u := by
  intro k
  induction k with
  | zero => intro l1 l2 l3 σ hF; exact no_s hF
  | succ k ih =>
    intro l1 l2 l3 σ hF
    rw [F_Mod_coldest_20] at hF
    rcases ite_v hF with hF | hF
    · obtain ⟨σ2, h1, hF⟩ := bs_v hF
      refine sm.tr (sm_si h1 (by omega)) ?_
      exact sm_ri hF
    · exact f_Mod_coldest_31 n w g u hg (F_Mod_coldest_20 n k) ih n _ _ _ _ _ hF
theorem fr_Mod_coldest (n : Nat) (σ : St) (w : (Int32 × St)) (hF : F_Mod_coldest n σ = some w) (g u : Nat) (hg : ¬ ((g = 30 ∧ u = 0) ∨ ((42 ≤ g ∧ g ≤ 43) ∧ u = 0))) : sm σ w.2 g u := by
  rw [F_Mod_coldest] at hF
  rcases ite_v hF with hF | hF
  · exact sm_ri hF
  · obtain ⟨σ1, h1, hF⟩ := bind_v hF
    refine sm.tr (fr_Mod_layNow n _ σ1 h1 g u (by omega)) ?_
    exact f_Mod_coldest_20 n w g u hg n _ _ _ _ hF
theorem fr_Mod_good (n : Nat) (a1 : Int32) (σ : St) (w : (Int32 × St)) (hF : F_Mod_good n a1 σ = some w) (g u : Nat) (hg : ¬ ((g = 30 ∧ u = 0) ∨ ((42 ≤ g ∧ g ≤ 43) ∧ u = 0))) : sm σ w.2 g u := by
  rw [F_Mod_good] at hF
  obtain ⟨v1, -, hF⟩ := bind_v hF
  rcases ite_v hF with hF | hF
  · exact sm_ri hF
  · obtain ⟨σ2, h1, hF⟩ := bind_v hF
    refine sm.tr (fr_Mod_layNow n _ σ2 h1 g u (by omega)) ?_
    obtain ⟨v3, -, hF⟩ := bind_v hF
    obtain ⟨v4, -, hF⟩ := bind_v hF
    obtain ⟨σ5, h1, hF⟩ := bs_v hF
    refine sm.tr (sm_si h1 (by omega)) ?_
    obtain ⟨v6, -, hF⟩ := bind_v hF
    obtain ⟨v7, -, hF⟩ := bind_v hF
    obtain ⟨σ8, h1, hF⟩ := bs_v hF
    refine sm.tr (sm_si h1 (by omega)) ?_
    obtain ⟨v9, σ10, h1, hF⟩ := b2_v hF
    refine sm.tr (fr_Mod_tell _ _ (v9, σ10) h1 g u (by omega)) ?_
    exact sm_ri hF
theorem fr_Mod_worth (n : Nat) (σ : St) (w : (Int32 × St)) (hF : F_Mod_worth n σ = some w) (g u : Nat) (hg : ¬ ((g = 30 ∧ u = 0) ∨ ((42 ≤ g ∧ g ≤ 43) ∧ u = 0))) : sm σ w.2 g u := by
  rw [F_Mod_worth] at hF
  rcases ite_v hF with hF | hF
  · exact sm_ri hF
  · obtain ⟨σ1, h1, hF⟩ := bind_v hF
    refine sm.tr (fr_Mod_layNow n _ σ1 h1 g u (by omega)) ?_
    obtain ⟨v2, -, hF⟩ := bind_v hF
    obtain ⟨σ3, h1, hF⟩ := bs_v hF
    refine sm.tr (sm_si h1 (by omega)) ?_
    obtain ⟨v4, -, hF⟩ := bind_v hF
    exact sm_ri hF
theorem f_Mod_layOrder_66 (n : Nat) (w : St) (g u : Nat) (hg : ¬ ((g = 44 ∧ u = 0))) (K20 : Int32 → Int32 → Int32 → Int32 → St → Option St) (hK20 : ∀ (l2 : Int32) (l3 : Int32) (l4 : Int32) (l5 : Int32) (σ : St), K20 l2 l3 l4 l5 σ = some w → sm σ w g u) (K51 : Int32 → Int32 → Int32 → Int32 → Int32 → Int32 → St → Option St) (hK51 : ∀ (l2 : Int32) (l3 : Int32) (l4 : Int32) (l5 : Int32) (l6 : Int32) (l7 : Int32) (σ : St), K51 l2 l3 l4 l5 l6 l7 σ = some w → sm σ w g u) (l2 : Int32) (l3 : Int32) (l4 : Int32) (l5 : Int32) (l6 : Int32) (l7 : Int32) (σ : St) (hF : F_Mod_layOrder_66 n K20 K51 l2 l3 l4 l5 l6 l7 σ = some w) : sm σ w g u := by
  rw [F_Mod_layOrder_66] at hF
  exact hK51 _ _ _ _ _ _ _ hF
theorem f_Mod_layOrder_51 (n : Nat) (w : St) (g u : Nat) (hg : ¬ ((g = 44 ∧ u = 0))) (K20 : Int32 → Int32 → Int32 → Int32 → St → Option St) (hK20 : ∀ (l2 : Int32) (l3 : Int32) (l4 : Int32) (l5 : Int32) (σ : St), K20 l2 l3 l4 l5 σ = some w → sm σ w g u) : ∀ (k : Nat) (l2 : Int32) (l3 : Int32) (l4 : Int32) (l5 : Int32) (l6 : Int32) (l7 : Int32) (σ : St), F_Mod_layOrder_51 n K20 k l2 l3 l4 l5 l6 l7 σ = some w → sm σ w g u := by
  intro k
  induction k with
  | zero => intro l2 l3 l4 l5 l6 l7 σ hF; exact no_s hF
  | succ k ih =>
    intro l2 l3 l4 l5 l6 l7 σ hF
    rw [F_Mod_layOrder_51] at hF
    obtain ⟨v5, -, hF⟩ := bind_v hF
    rcases ite_v hF with hF | hF
    · exact f_Mod_layOrder_66 n w g u hg K20 hK20 (F_Mod_layOrder_51 n K20 k) ih _ _ _ _ _ _ _ hF
    · rcases ite_v hF with hF | hF
      · obtain ⟨σ6, h1, hF⟩ := bind_v hF
        refine sm.tr (sm_ast h1 (by omega)) ?_
        exact hK20 _ _ _ _ _ hF
      · exact f_Mod_layOrder_66 n w g u hg K20 hK20 (F_Mod_layOrder_51 n K20 k) ih _ _ _ _ _ _ _ hF
theorem f_Mod_layOrder_20 (n : Nat) (w : St) (g u : Nat) (hg : ¬ ((g = 44 ∧ u = 0))) : ∀ (k : Nat) (l2 : Int32) (l3 : Int32) (l4 : Int32) (l5 : Int32) (σ : St), F_Mod_layOrder_20 n k l2 l3 l4 l5 σ = some w → sm σ w g u := by
  intro k
  induction k with
  | zero => intro l2 l3 l4 l5 σ hF; exact no_s hF
  | succ k ih =>
    intro l2 l3 l4 l5 σ hF
    rw [F_Mod_layOrder_20] at hF
    rcases ite_v hF with hF | hF
    · exact sm_rv hF
    · obtain ⟨v2, -, hF⟩ := bind_v hF
      obtain ⟨v3, -, hF⟩ := bind_v hF
      obtain ⟨v4, -, hF⟩ := bind_v hF
      exact f_Mod_layOrder_51 n w g u hg (F_Mod_layOrder_20 n k) ih n _ _ _ _ _ _ _ hF
theorem fr_Mod_layOrder (n : Nat) (a1 : Int32) (σ : St) (w : St) (hF : F_Mod_layOrder n a1 σ = some w) (g u : Nat) (hg : ¬ ((g = 44 ∧ u = 0))) : sm σ w g u := by
  rw [F_Mod_layOrder] at hF
  obtain ⟨v1, -, hF⟩ := bind_v hF
  exact f_Mod_layOrder_20 n w g u hg n _ _ _ _ _ hF
theorem f_Mod_lieBy_7 (n : Nat) (w : St) (g u : Nat) (hg : ¬ ((g = 42 ∧ u = 0) ∨ (g = 44 ∧ u = 0))) : ∀ (k : Nat) (l2 : Int32) (σ : St), F_Mod_lieBy_7 n k l2 σ = some w → sm σ w g u := by
  intro k
  induction k with
  | zero => intro l2 σ hF; exact no_s hF
  | succ k ih =>
    intro l2 σ hF
    rw [F_Mod_lieBy_7] at hF
    rcases ite_v hF with hF | hF
    · exact sm_rv hF
    · obtain ⟨v2, -, hF⟩ := bind_v hF
      obtain ⟨σ3, h1, hF⟩ := bind_v hF
      refine sm.tr (sm_ast h1 (by omega)) ?_
      exact ih _ _ hF
theorem fr_Mod_lieBy (n : Nat) (a1 : Int32) (σ : St) (w : St) (hF : F_Mod_lieBy n a1 σ = some w) (g u : Nat) (hg : ¬ ((g = 42 ∧ u = 0) ∨ (g = 44 ∧ u = 0))) : sm σ w g u := by
  rw [F_Mod_lieBy] at hF
  obtain ⟨σ1, h1, hF⟩ := bind_v hF
  refine sm.tr (fr_Mod_layOrder n _ _ σ1 h1 g u (by omega)) ?_
  exact f_Mod_lieBy_7 n w g u hg n _ _ hF
theorem f_Mod_orderTo_16 (n : Nat) (w : St) (g u : Nat) (hg : ¬ (((35 ≤ g ∧ g ≤ 36) ∧ u = 0) ∨ (g = 44 ∧ u = 0))) : ∀ (k : Nat) (l1 : Int32) (l3 : Int32) (σ : St), F_Mod_orderTo_16 n k l1 l3 σ = some w → sm σ w g u := by
  intro k
  induction k with
  | zero => intro l1 l3 σ hF; exact no_s hF
  | succ k ih =>
    intro l1 l3 σ hF
    rw [F_Mod_orderTo_16] at hF
    rcases ite_v hF with hF | hF
    · exact sm_rv hF
    · obtain ⟨v3, -, hF⟩ := bind_v hF
      obtain ⟨σ4, h1, hF⟩ := bind_v hF
      refine sm.tr (sm_ast h1 (by omega)) ?_
      exact ih _ _ _ hF
theorem fr_Mod_orderTo (n : Nat) (a1 : Int32) (a2 : Int32) (σ : St) (w : St) (hF : F_Mod_orderTo n a1 a2 σ = some w) (g u : Nat) (hg : ¬ (((35 ≤ g ∧ g ≤ 36) ∧ u = 0) ∨ (g = 44 ∧ u = 0))) : sm σ w g u := by
  rw [F_Mod_orderTo] at hF
  obtain ⟨σ1, h1, hF⟩ := bind_v hF
  refine sm.tr (fr_Mod_layOrder n _ _ σ1 h1 g u (by omega)) ?_
  obtain ⟨σ2, h1, hF⟩ := bind_v hF
  refine sm.tr (fr_Mod_makeRow n _ _ _ σ2 h1 g u (by omega)) ?_
  exact f_Mod_orderTo_16 n w g u hg n _ _ _ hF
theorem f_Mod_toBest_91 (n : Nat) (w : (Int32 × St)) (g u : Nat) (hg : ¬ ((g = 30 ∧ u = 0) ∨ ((35 ≤ g ∧ g ≤ 36) ∧ u = 0) ∨ ((42 ≤ g ∧ g ≤ 44) ∧ u = 0))) (K31 : Int32 → Int32 → Int32 → Int32 → Int32 → St → Option (Int32 × St)) (hK31 : ∀ (l1 : Int32) (l2 : Int32) (l3 : Int32) (l4 : Int32) (l5 : Int32) (σ : St), K31 l1 l2 l3 l4 l5 σ = some w → sm σ w.2 g u) (l1 : Int32) (l2 : Int32) (l3 : Int32) (l5 : Int32) (s0 : Int32) (σ : St) (hF : F_Mod_toBest_91 n K31 l1 l2 l3 l5 s0 σ = some w) : sm σ w.2 g u := by
  rw [F_Mod_toBest_91] at hF
  exact hK31 _ _ _ _ _ _ hF
theorem f_Mod_toBest_76 (n : Nat) (w : (Int32 × St)) (g u : Nat) (hg : ¬ ((g = 30 ∧ u = 0) ∨ ((35 ≤ g ∧ g ≤ 36) ∧ u = 0) ∨ ((42 ≤ g ∧ g ≤ 44) ∧ u = 0))) (K31 : Int32 → Int32 → Int32 → Int32 → Int32 → St → Option (Int32 × St)) (hK31 : ∀ (l1 : Int32) (l2 : Int32) (l3 : Int32) (l4 : Int32) (l5 : Int32) (σ : St), K31 l1 l2 l3 l4 l5 σ = some w → sm σ w.2 g u) (l1 : Int32) (l2 : Int32) (l4 : Int32) (l5 : Int32) (l6 : Int32) (s0 : Int32) (σ : St) (hF : F_Mod_toBest_76 n K31 l1 l2 l4 l5 l6 s0 σ = some w) : sm σ w.2 g u := by
  rw [F_Mod_toBest_76] at hF
  exact f_Mod_toBest_91 n w g u hg K31 hK31 _ _ _ _ _ _ hF
theorem f_Mod_toBest_61 (n : Nat) (w : (Int32 × St)) (g u : Nat) (hg : ¬ ((g = 30 ∧ u = 0) ∨ ((35 ≤ g ∧ g ≤ 36) ∧ u = 0) ∨ ((42 ≤ g ∧ g ≤ 44) ∧ u = 0))) (K31 : Int32 → Int32 → Int32 → Int32 → Int32 → St → Option (Int32 × St)) (hK31 : ∀ (l1 : Int32) (l2 : Int32) (l3 : Int32) (l4 : Int32) (l5 : Int32) (σ : St), K31 l1 l2 l3 l4 l5 σ = some w → sm σ w.2 g u) (l1 : Int32) (l2 : Int32) (l3 : Int32) (l4 : Int32) (l5 : Int32) (s0 : Int32) (σ : St) (hF : F_Mod_toBest_61 n K31 l1 l2 l3 l4 l5 s0 σ = some w) : sm σ w.2 g u := by
  rw [F_Mod_toBest_61] at hF
  exact f_Mod_toBest_76 n w g u hg K31 hK31 _ _ _ _ _ _ _ hF
theorem f_Mod_toBest_31 (n : Nat) (w : (Int32 × St)) (g u : Nat) (hg : ¬ ((g = 30 ∧ u = 0) ∨ ((35 ≤ g ∧ g ≤ 36) ∧ u = 0) ∨ ((42 ≤ g ∧ g ≤ 44) ∧ u = 0))) : ∀ (k : Nat) (l1 : Int32) (l2 : Int32) (l3 : Int32) (l4 : Int32) (l5 : Int32) (σ : St), F_Mod_toBest_31 n k l1 l2 l3 l4 l5 σ = some w → sm σ w.2 g u := by
  intro k
  induction k with
  | zero => intro l1 l2 l3 l4 l5 σ hF; exact no_s hF
  | succ k ih =>
    intro l1 l2 l3 l4 l5 σ hF
    rw [F_Mod_toBest_31] at hF
    obtain ⟨v3, -, hF⟩ := bind_v hF
    rcases ite_v hF with hF | hF
    · obtain ⟨σ4, h1, hF⟩ := bind_v hF
      refine sm.tr (fr_Mod_orderTo n _ _ _ σ4 h1 g u (by omega)) ?_
      exact sm_ri hF
    · obtain ⟨σ5, h1, hF⟩ := bind_v hF
      refine sm.tr (fr_Mod_lieBy n _ _ σ5 h1 g u (by omega)) ?_
      rcases ite_v hF with hF | hF
      · obtain ⟨v6, -, hF⟩ := bind_v hF
        exact f_Mod_toBest_61 n w g u hg (F_Mod_toBest_31 n k) ih _ _ _ _ _ _ _ hF
      · obtain ⟨v7, -, hF⟩ := bind_v hF
        exact f_Mod_toBest_61 n w g u hg (F_Mod_toBest_31 n k) ih _ _ _ _ _ _ _ hF
theorem fr_Mod_toBest (n : Nat) (a1 : Int32) (a2 : Int32) (σ : St) (w : (Int32 × St)) (hF : F_Mod_toBest n a1 a2 σ = some w) (g u : Nat) (hg : ¬ ((g = 30 ∧ u = 0) ∨ ((35 ≤ g ∧ g ≤ 36) ∧ u = 0) ∨ ((42 ≤ g ∧ g ≤ 44) ∧ u = 0))) : sm σ w.2 g u := by
  rw [F_Mod_toBest] at hF
  obtain ⟨v1, -, hF⟩ := bind_v hF
  rcases ite_v hF with hF | hF
  · exact sm_ri hF
  · rcases ite_v hF with hF | hF
    · exact sm_ri hF
    · obtain ⟨σ2, h1, hF⟩ := bind_v hF
      refine sm.tr (fr_Mod_layNow n _ σ2 h1 g u (by omega)) ?_
      exact f_Mod_toBest_31 n w g u hg n _ _ _ _ _ _ hF
theorem fr_Mod_best (n : Nat) (a1 : Int32) (σ : St) (w : (Int32 × St)) (hF : F_Mod_best n a1 σ = some w) (g u : Nat) (hg : ¬ ((g = 30 ∧ u = 0) ∨ ((35 ≤ g ∧ g ≤ 36) ∧ u = 0) ∨ ((42 ≤ g ∧ g ≤ 44) ∧ u = 0))) : sm σ w.2 g u := by
  rw [F_Mod_best] at hF
  obtain ⟨v1, σ2, h1, hF⟩ := b2_v hF
  refine sm.tr (fr_Mod_toBest n _ _ _ (v1, σ2) h1 g u (by omega)) ?_
  exact sm_ri hF
theorem fr_Mod_fair (n : Nat) (a1 : Int32) (σ : St) (w : (Int32 × St)) (hF : F_Mod_fair n a1 σ = some w) (g u : Nat) (hg : ¬ ((g = 30 ∧ u = 0) ∨ ((35 ≤ g ∧ g ≤ 36) ∧ u = 0) ∨ ((42 ≤ g ∧ g ≤ 44) ∧ u = 0))) : sm σ w.2 g u := by
  rw [F_Mod_fair] at hF
  obtain ⟨v1, σ2, h1, hF⟩ := b2_v hF
  refine sm.tr (fr_Mod_toBest n _ _ _ (v1, σ2) h1 g u (by omega)) ?_
  exact sm_ri hF
theorem f_Mod_turning_62 (n : Nat) (w : (Int32 × St)) (g u : Nat) (hg : ¬ ((g = 30 ∧ u = 0) ∨ ((42 ≤ g ∧ g ≤ 43) ∧ u = 0))) (K20 : Int32 → Int32 → Int32 → St → Option (Int32 × St)) (hK20 : ∀ (l1 : Int32) (l2 : Int32) (l3 : Int32) (σ : St), K20 l1 l2 l3 σ = some w → sm σ w.2 g u) (l1 : Int32) (l3 : Int32) (s0 : Int32) (σ : St) (hF : F_Mod_turning_62 n K20 l1 l3 s0 σ = some w) : sm σ w.2 g u := by
  rw [F_Mod_turning_62] at hF
  exact hK20 _ _ _ _ hF
theorem f_Mod_turning_49 (n : Nat) (w : (Int32 × St)) (g u : Nat) (hg : ¬ ((g = 30 ∧ u = 0) ∨ ((42 ≤ g ∧ g ≤ 43) ∧ u = 0))) (K20 : Int32 → Int32 → Int32 → St → Option (Int32 × St)) (hK20 : ∀ (l1 : Int32) (l2 : Int32) (l3 : Int32) (σ : St), K20 l1 l2 l3 σ = some w → sm σ w.2 g u) (l2 : Int32) (l3 : Int32) (l4 : Int32) (s0 : Int32) (σ : St) (hF : F_Mod_turning_49 n K20 l2 l3 l4 s0 σ = some w) : sm σ w.2 g u := by
  rw [F_Mod_turning_49] at hF
  exact f_Mod_turning_62 n w g u hg K20 hK20 _ _ _ _ hF
theorem f_Mod_turning_20 (n : Nat) (w : (Int32 × St)) (g u : Nat) (hg : ¬ ((g = 30 ∧ u = 0) ∨ ((42 ≤ g ∧ g ≤ 43) ∧ u = 0))) : ∀ (k : Nat) (l1 : Int32) (l2 : Int32) (l3 : Int32) (σ : St), F_Mod_turning_20 n k l1 l2 l3 σ = some w → sm σ w.2 g u := by
  intro k
  induction k with
  | zero => intro l1 l2 l3 σ hF; exact no_s hF
  | succ k ih =>
    intro l1 l2 l3 σ hF
    rw [F_Mod_turning_20] at hF
    rcases ite_v hF with hF | hF
    · obtain ⟨σ2, h1, hF⟩ := bs_v hF
      refine sm.tr (sm_si h1 (by omega)) ?_
      exact sm_ri hF
    · obtain ⟨σ3, h1, hF⟩ := bs_v hF
      refine sm.tr (sm_si h1 (by omega)) ?_
      obtain ⟨v4, -, hF⟩ := bind_v hF
      exact f_Mod_turning_49 n w g u hg (F_Mod_turning_20 n k) ih _ _ _ _ _ hF
theorem fr_Mod_turning (n : Nat) (σ : St) (w : (Int32 × St)) (hF : F_Mod_turning n σ = some w) (g u : Nat) (hg : ¬ ((g = 30 ∧ u = 0) ∨ ((42 ≤ g ∧ g ≤ 43) ∧ u = 0))) : sm σ w.2 g u := by
  rw [F_Mod_turning] at hF
  rcases ite_v hF with hF | hF
  · exact sm_ri hF
  · obtain ⟨σ1, h1, hF⟩ := bind_v hF
    refine sm.tr (fr_Mod_layNow n _ σ1 h1 g u (by omega)) ?_
    exact f_Mod_turning_20 n w g u hg n _ _ _ _ hF
theorem f_Mod_warm_63 (n : Nat) (w : (Int32 × St)) (g u : Nat) (hg : ¬ ((g = 30 ∧ u = 0) ∨ ((42 ≤ g ∧ g ≤ 43) ∧ u = 0))) (K20 : Int32 → Int32 → Int32 → St → Option (Int32 × St)) (hK20 : ∀ (l1 : Int32) (l2 : Int32) (l3 : Int32) (σ : St), K20 l1 l2 l3 σ = some w → sm σ w.2 g u) (l1 : Int32) (l3 : Int32) (s0 : Int32) (σ : St) (hF : F_Mod_warm_63 n K20 l1 l3 s0 σ = some w) : sm σ w.2 g u := by
  rw [F_Mod_warm_63] at hF
  exact hK20 _ _ _ _ hF
theorem f_Mod_warm_50 (n : Nat) (w : (Int32 × St)) (g u : Nat) (hg : ¬ ((g = 30 ∧ u = 0) ∨ ((42 ≤ g ∧ g ≤ 43) ∧ u = 0))) (K20 : Int32 → Int32 → Int32 → St → Option (Int32 × St)) (hK20 : ∀ (l1 : Int32) (l2 : Int32) (l3 : Int32) (σ : St), K20 l1 l2 l3 σ = some w → sm σ w.2 g u) (l2 : Int32) (l3 : Int32) (l4 : Int32) (s0 : Int32) (σ : St) (hF : F_Mod_warm_50 n K20 l2 l3 l4 s0 σ = some w) : sm σ w.2 g u := by
  rw [F_Mod_warm_50] at hF
  exact f_Mod_warm_63 n w g u hg K20 hK20 _ _ _ _ hF
theorem f_Mod_warm_20 (n : Nat) (w : (Int32 × St)) (g u : Nat) (hg : ¬ ((g = 30 ∧ u = 0) ∨ ((42 ≤ g ∧ g ≤ 43) ∧ u = 0))) : ∀ (k : Nat) (l1 : Int32) (l2 : Int32) (l3 : Int32) (σ : St), F_Mod_warm_20 n k l1 l2 l3 σ = some w → sm σ w.2 g u := by
  intro k
  induction k with
  | zero => intro l1 l2 l3 σ hF; exact no_s hF
  | succ k ih =>
    intro l1 l2 l3 σ hF
    rw [F_Mod_warm_20] at hF
    rcases ite_v hF with hF | hF
    · obtain ⟨σ2, h1, hF⟩ := bs_v hF
      refine sm.tr (sm_si h1 (by omega)) ?_
      exact sm_ri hF
    · obtain ⟨σ3, h1, hF⟩ := bs_v hF
      refine sm.tr (sm_si h1 (by omega)) ?_
      obtain ⟨v4, -, hF⟩ := bind_v hF
      exact f_Mod_warm_50 n w g u hg (F_Mod_warm_20 n k) ih _ _ _ _ _ hF
theorem fr_Mod_warm (n : Nat) (σ : St) (w : (Int32 × St)) (hF : F_Mod_warm n σ = some w) (g u : Nat) (hg : ¬ ((g = 30 ∧ u = 0) ∨ ((42 ≤ g ∧ g ≤ 43) ∧ u = 0))) : sm σ w.2 g u := by
  rw [F_Mod_warm] at hF
  rcases ite_v hF with hF | hF
  · exact sm_ri hF
  · obtain ⟨σ1, h1, hF⟩ := bind_v hF
    refine sm.tr (fr_Mod_layNow n _ σ1 h1 g u (by omega)) ?_
    exact f_Mod_warm_20 n w g u hg n _ _ _ _ hF
theorem f_Mod_thin_116 (n : Nat) (w : (Int32 × St)) (g u : Nat) (hg : ¬ ((g = 30 ∧ u = 0) ∨ ((35 ≤ g ∧ g ≤ 36) ∧ u = 0) ∨ ((42 ≤ g ∧ g ≤ 44) ∧ u = 0))) (K30 : Int32 → Int32 → Int32 → Int32 → St → Option (Int32 × St)) (hK30 : ∀ (l1 : Int32) (l2 : Int32) (l3 : Int32) (l4 : Int32) (σ : St), K30 l1 l2 l3 l4 σ = some w → sm σ w.2 g u) (l1 : Int32) (l2 : Int32) (l4 : Int32) (s0 : Int32) (σ : St) (hF : F_Mod_thin_116 n K30 l1 l2 l4 s0 σ = some w) : sm σ w.2 g u := by
  rw [F_Mod_thin_116] at hF
  exact hK30 _ _ _ _ _ hF
theorem f_Mod_thin_103 (n : Nat) (w : (Int32 × St)) (g u : Nat) (hg : ¬ ((g = 30 ∧ u = 0) ∨ ((35 ≤ g ∧ g ≤ 36) ∧ u = 0) ∨ ((42 ≤ g ∧ g ≤ 44) ∧ u = 0))) (K30 : Int32 → Int32 → Int32 → Int32 → St → Option (Int32 × St)) (hK30 : ∀ (l1 : Int32) (l2 : Int32) (l3 : Int32) (l4 : Int32) (σ : St), K30 l1 l2 l3 l4 σ = some w → sm σ w.2 g u) (l1 : Int32) (l3 : Int32) (l4 : Int32) (l5 : Int32) (s0 : Int32) (σ : St) (hF : F_Mod_thin_103 n K30 l1 l3 l4 l5 s0 σ = some w) : sm σ w.2 g u := by
  rw [F_Mod_thin_103] at hF
  exact f_Mod_thin_116 n w g u hg K30 hK30 _ _ _ _ _ hF
theorem f_Mod_thin_48 (n : Nat) (w : (Int32 × St)) (g u : Nat) (hg : ¬ ((g = 30 ∧ u = 0) ∨ ((35 ≤ g ∧ g ≤ 36) ∧ u = 0) ∨ ((42 ≤ g ∧ g ≤ 44) ∧ u = 0))) (K30 : Int32 → Int32 → Int32 → Int32 → St → Option (Int32 × St)) (hK30 : ∀ (l1 : Int32) (l2 : Int32) (l3 : Int32) (l4 : Int32) (σ : St), K30 l1 l2 l3 l4 σ = some w → sm σ w.2 g u) : ∀ (k : Nat) (l1 : Int32) (l2 : Int32) (l3 : Int32) (l4 : Int32) (l5 : Int32) (σ : St), F_Mod_thin_48 n K30 k l1 l2 l3 l4 l5 σ = some w → sm σ w.2 g u := by
  intro k
  induction k with
  | zero => intro l1 l2 l3 l4 l5 σ hF; exact no_s hF
  | succ k ih =>
    intro l1 l2 l3 l4 l5 σ hF
    rw [F_Mod_thin_48] at hF
    rcases ite_v hF with hF | hF
    · obtain ⟨v6, -, hF⟩ := bind_v hF
      exact f_Mod_thin_103 n w g u hg K30 hK30 _ _ _ _ _ _ hF
    · obtain ⟨v7, -, hF⟩ := bind_v hF
      obtain ⟨v8, -, hF⟩ := bind_v hF
      obtain ⟨σ9, h1, hF⟩ := bind_v hF
      refine sm.tr (sm_ast h1 (by omega)) ?_
      exact ih _ _ _ _ _ _ hF
theorem f_Mod_thin_30 (n : Nat) (w : (Int32 × St)) (g u : Nat) (hg : ¬ ((g = 30 ∧ u = 0) ∨ ((35 ≤ g ∧ g ≤ 36) ∧ u = 0) ∨ ((42 ≤ g ∧ g ≤ 44) ∧ u = 0))) : ∀ (k : Nat) (l1 : Int32) (l2 : Int32) (l3 : Int32) (l4 : Int32) (σ : St), F_Mod_thin_30 n k l1 l2 l3 l4 σ = some w → sm σ w.2 g u := by
  intro k
  induction k with
  | zero => intro l1 l2 l3 l4 σ hF; exact no_s hF
  | succ k ih =>
    intro l1 l2 l3 l4 σ hF
    rw [F_Mod_thin_30] at hF
    obtain ⟨v3, -, hF⟩ := bind_v hF
    rcases ite_v hF with hF | hF
    · obtain ⟨σ4, h1, hF⟩ := bind_v hF
      refine sm.tr (fr_Mod_orderTo n _ _ _ σ4 h1 g u (by omega)) ?_
      exact sm_ri hF
    · obtain ⟨σ5, h1, hF⟩ := bind_v hF
      refine sm.tr (fr_Mod_layOrder n _ _ σ5 h1 g u (by omega)) ?_
      exact f_Mod_thin_48 n w g u hg (F_Mod_thin_30 n k) ih n _ _ _ _ _ _ hF
theorem fr_Mod_thin (n : Nat) (a1 : Int32) (σ : St) (w : (Int32 × St)) (hF : F_Mod_thin n a1 σ = some w) (g u : Nat) (hg : ¬ ((g = 30 ∧ u = 0) ∨ ((35 ≤ g ∧ g ≤ 36) ∧ u = 0) ∨ ((42 ≤ g ∧ g ≤ 44) ∧ u = 0))) : sm σ w.2 g u := by
  rw [F_Mod_thin] at hF
  obtain ⟨v1, -, hF⟩ := bind_v hF
  rcases ite_v hF with hF | hF
  · exact sm_ri hF
  · rcases ite_v hF with hF | hF
    · exact sm_ri hF
    · obtain ⟨σ2, h1, hF⟩ := bind_v hF
      refine sm.tr (fr_Mod_layNow n _ σ2 h1 g u (by omega)) ?_
      exact f_Mod_thin_30 n w g u hg n _ _ _ _ _ hF
theorem f_Mod_nights_249 (n : Nat) (w : (Int32 × St)) (g u : Nat) (hg : ¬ ((g = 30 ∧ u = 0) ∨ ((35 ≤ g ∧ g ≤ 36) ∧ u = 0) ∨ ((42 ≤ g ∧ g ≤ 45) ∧ u = 0))) (K109 : Int32 → Int32 → Int32 → Int32 → Int32 → St → Option (Int32 × St)) (hK109 : ∀ (l1 : Int32) (l2 : Int32) (l3 : Int32) (l4 : Int32) (l5 : Int32) (σ : St), K109 l1 l2 l3 l4 l5 σ = some w → sm σ w.2 g u) (K128 : Int32 → Int32 → Int32 → Int32 → Int32 → Int32 → St → Option (Int32 × St)) (hK128 : ∀ (l1 : Int32) (l2 : Int32) (l3 : Int32) (l4 : Int32) (l5 : Int32) (l6 : Int32) (σ : St), K128 l1 l2 l3 l4 l5 l6 σ = some w → sm σ w.2 g u) (K156 : Int32 → Int32 → Int32 → Int32 → Int32 → Int32 → Int32 → St → Option (Int32 × St)) (hK156 : ∀ (l1 : Int32) (l2 : Int32) (l3 : Int32) (l4 : Int32) (l5 : Int32) (l6 : Int32) (l7 : Int32) (σ : St), K156 l1 l2 l3 l4 l5 l6 l7 σ = some w → sm σ w.2 g u) (l1 : Int32) (l2 : Int32) (l3 : Int32) (l4 : Int32) (l5 : Int32) (l6 : Int32) (l7 : Int32) (σ : St) (hF : F_Mod_nights_249 n K109 K128 K156 l1 l2 l3 l4 l5 l6 l7 σ = some w) : sm σ w.2 g u := by
  rw [F_Mod_nights_249] at hF
  exact hK156 _ _ _ _ _ _ _ _ hF
theorem f_Mod_nights_248 (n : Nat) (w : (Int32 × St)) (g u : Nat) (hg : ¬ ((g = 30 ∧ u = 0) ∨ ((35 ≤ g ∧ g ≤ 36) ∧ u = 0) ∨ ((42 ≤ g ∧ g ≤ 45) ∧ u = 0))) (K109 : Int32 → Int32 → Int32 → Int32 → Int32 → St → Option (Int32 × St)) (hK109 : ∀ (l1 : Int32) (l2 : Int32) (l3 : Int32) (l4 : Int32) (l5 : Int32) (σ : St), K109 l1 l2 l3 l4 l5 σ = some w → sm σ w.2 g u) (K128 : Int32 → Int32 → Int32 → Int32 → Int32 → Int32 → St → Option (Int32 × St)) (hK128 : ∀ (l1 : Int32) (l2 : Int32) (l3 : Int32) (l4 : Int32) (l5 : Int32) (l6 : Int32) (σ : St), K128 l1 l2 l3 l4 l5 l6 σ = some w → sm σ w.2 g u) (K156 : Int32 → Int32 → Int32 → Int32 → Int32 → Int32 → Int32 → St → Option (Int32 × St)) (hK156 : ∀ (l1 : Int32) (l2 : Int32) (l3 : Int32) (l4 : Int32) (l5 : Int32) (l6 : Int32) (l7 : Int32) (σ : St), K156 l1 l2 l3 l4 l5 l6 l7 σ = some w → sm σ w.2 g u) (l1 : Int32) (l2 : Int32) (l3 : Int32) (l4 : Int32) (l5 : Int32) (l6 : Int32) (l7 : Int32) (s1 : Int32) (s2 : Int32) (σ : St) (hF : F_Mod_nights_248 n K109 K128 K156 l1 l2 l3 l4 l5 l6 l7 s1 s2 σ = some w) : sm σ w.2 g u := by
  rw [F_Mod_nights_248] at hF
  obtain ⟨σ9, h1, hF⟩ := bind_v hF
  refine sm.tr (sm_ast h1 (by omega)) ?_
  exact f_Mod_nights_249 n w g u hg K109 hK109 K128 hK128 K156 hK156 _ _ _ _ _ _ _ _ hF
theorem f_Mod_nights_226 (n : Nat) (w : (Int32 × St)) (g u : Nat) (hg : ¬ ((g = 30 ∧ u = 0) ∨ ((35 ≤ g ∧ g ≤ 36) ∧ u = 0) ∨ ((42 ≤ g ∧ g ≤ 45) ∧ u = 0))) (K109 : Int32 → Int32 → Int32 → Int32 → Int32 → St → Option (Int32 × St)) (hK109 : ∀ (l1 : Int32) (l2 : Int32) (l3 : Int32) (l4 : Int32) (l5 : Int32) (σ : St), K109 l1 l2 l3 l4 l5 σ = some w → sm σ w.2 g u) (K128 : Int32 → Int32 → Int32 → Int32 → Int32 → Int32 → St → Option (Int32 × St)) (hK128 : ∀ (l1 : Int32) (l2 : Int32) (l3 : Int32) (l4 : Int32) (l5 : Int32) (l6 : Int32) (σ : St), K128 l1 l2 l3 l4 l5 l6 σ = some w → sm σ w.2 g u) (K156 : Int32 → Int32 → Int32 → Int32 → Int32 → Int32 → Int32 → St → Option (Int32 × St)) (hK156 : ∀ (l1 : Int32) (l2 : Int32) (l3 : Int32) (l4 : Int32) (l5 : Int32) (l6 : Int32) (l7 : Int32) (σ : St), K156 l1 l2 l3 l4 l5 l6 l7 σ = some w → sm σ w.2 g u) (l1 : Int32) (l2 : Int32) (l3 : Int32) (l4 : Int32) (l5 : Int32) (l6 : Int32) (l7 : Int32) (s1 : Int32) (s2 : Int32) (σ : St) (hF : F_Mod_nights_226 n K109 K128 K156 l1 l2 l3 l4 l5 l6 l7 s1 s2 σ = some w) : sm σ w.2 g u := by
  rw [F_Mod_nights_226] at hF
  obtain ⟨σ8, h1, hF⟩ := bind_v hF
  refine sm.tr (sm_ast h1 (by omega)) ?_
  exact f_Mod_nights_248 n w g u hg K109 hK109 K128 hK128 K156 hK156 _ _ _ _ _ _ _ _ _ _ hF
theorem f_Mod_nights_168 (n : Nat) (w : (Int32 × St)) (g u : Nat) (hg : ¬ ((g = 30 ∧ u = 0) ∨ ((35 ≤ g ∧ g ≤ 36) ∧ u = 0) ∨ ((42 ≤ g ∧ g ≤ 45) ∧ u = 0))) (K109 : Int32 → Int32 → Int32 → Int32 → Int32 → St → Option (Int32 × St)) (hK109 : ∀ (l1 : Int32) (l2 : Int32) (l3 : Int32) (l4 : Int32) (l5 : Int32) (σ : St), K109 l1 l2 l3 l4 l5 σ = some w → sm σ w.2 g u) (K128 : Int32 → Int32 → Int32 → Int32 → Int32 → Int32 → St → Option (Int32 × St)) (hK128 : ∀ (l1 : Int32) (l2 : Int32) (l3 : Int32) (l4 : Int32) (l5 : Int32) (l6 : Int32) (σ : St), K128 l1 l2 l3 l4 l5 l6 σ = some w → sm σ w.2 g u) (K156 : Int32 → Int32 → Int32 → Int32 → Int32 → Int32 → Int32 → St → Option (Int32 × St)) (hK156 : ∀ (l1 : Int32) (l2 : Int32) (l3 : Int32) (l4 : Int32) (l5 : Int32) (l6 : Int32) (l7 : Int32) (σ : St), K156 l1 l2 l3 l4 l5 l6 l7 σ = some w → sm σ w.2 g u) (l1 : Int32) (l2 : Int32) (l3 : Int32) (l4 : Int32) (l5 : Int32) (l6 : Int32) (l7 : Int32) (s0 : Int32) (s1 : Int32) (σ : St) (hF : F_Mod_nights_168 n K109 K128 K156 l1 l2 l3 l4 l5 l6 l7 s0 s1 σ = some w) : sm σ w.2 g u := by
  rw [F_Mod_nights_168] at hF
  rcases ite_v hF with hF | hF
  · exact hK128 _ _ _ _ _ _ _ hF
  · obtain ⟨v6, -, hF⟩ := bind_v hF
    rcases ite_v hF with hF | hF
    · exact f_Mod_nights_249 n w g u hg K109 hK109 K128 hK128 K156 hK156 _ _ _ _ _ _ _ _ hF
    · obtain ⟨σ7, h1, hF⟩ := bind_v hF
      refine sm.tr (sm_ast h1 (by omega)) ?_
      exact f_Mod_nights_226 n w g u hg K109 hK109 K128 hK128 K156 hK156 _ _ _ _ _ _ _ _ _ _ hF
theorem f_Mod_nights_156 (n : Nat) (w : (Int32 × St)) (g u : Nat) (hg : ¬ ((g = 30 ∧ u = 0) ∨ ((35 ≤ g ∧ g ≤ 36) ∧ u = 0) ∨ ((42 ≤ g ∧ g ≤ 45) ∧ u = 0))) (K109 : Int32 → Int32 → Int32 → Int32 → Int32 → St → Option (Int32 × St)) (hK109 : ∀ (l1 : Int32) (l2 : Int32) (l3 : Int32) (l4 : Int32) (l5 : Int32) (σ : St), K109 l1 l2 l3 l4 l5 σ = some w → sm σ w.2 g u) (K128 : Int32 → Int32 → Int32 → Int32 → Int32 → Int32 → St → Option (Int32 × St)) (hK128 : ∀ (l1 : Int32) (l2 : Int32) (l3 : Int32) (l4 : Int32) (l5 : Int32) (l6 : Int32) (σ : St), K128 l1 l2 l3 l4 l5 l6 σ = some w → sm σ w.2 g u) : ∀ (k : Nat) (l1 : Int32) (l2 : Int32) (l3 : Int32) (l4 : Int32) (l5 : Int32) (l6 : Int32) (l7 : Int32) (σ : St), F_Mod_nights_156 n K109 K128 k l1 l2 l3 l4 l5 l6 l7 σ = some w → sm σ w.2 g u := by
  intro k
  induction k with
  | zero => intro l1 l2 l3 l4 l5 l6 l7 σ hF; exact no_s hF
  | succ k ih =>
    intro l1 l2 l3 l4 l5 l6 l7 σ hF
    rw [F_Mod_nights_156] at hF
    exact f_Mod_nights_168 n w g u hg K109 hK109 K128 hK128 (F_Mod_nights_156 n K109 K128 k) ih _ _ _ _ _ _ _ _ _ _ hF
theorem f_Mod_nights_154 (n : Nat) (w : (Int32 × St)) (g u : Nat) (hg : ¬ ((g = 30 ∧ u = 0) ∨ ((35 ≤ g ∧ g ≤ 36) ∧ u = 0) ∨ ((42 ≤ g ∧ g ≤ 45) ∧ u = 0))) (K109 : Int32 → Int32 → Int32 → Int32 → Int32 → St → Option (Int32 × St)) (hK109 : ∀ (l1 : Int32) (l2 : Int32) (l3 : Int32) (l4 : Int32) (l5 : Int32) (σ : St), K109 l1 l2 l3 l4 l5 σ = some w → sm σ w.2 g u) (K128 : Int32 → Int32 → Int32 → Int32 → Int32 → Int32 → St → Option (Int32 × St)) (hK128 : ∀ (l1 : Int32) (l2 : Int32) (l3 : Int32) (l4 : Int32) (l5 : Int32) (l6 : Int32) (σ : St), K128 l1 l2 l3 l4 l5 l6 σ = some w → sm σ w.2 g u) (l1 : Int32) (l2 : Int32) (l3 : Int32) (l4 : Int32) (l5 : Int32) (l6 : Int32) (s0 : Int32) (σ : St) (hF : F_Mod_nights_154 n K109 K128 l1 l2 l3 l4 l5 l6 s0 σ = some w) : sm σ w.2 g u := by
  rw [F_Mod_nights_154] at hF
  exact f_Mod_nights_156 n w g u hg K109 hK109 K128 hK128 n _ _ _ _ _ _ _ _ hF
theorem f_Mod_nights_140 (n : Nat) (w : (Int32 × St)) (g u : Nat) (hg : ¬ ((g = 30 ∧ u = 0) ∨ ((35 ≤ g ∧ g ≤ 36) ∧ u = 0) ∨ ((42 ≤ g ∧ g ≤ 45) ∧ u = 0))) (K109 : Int32 → Int32 → Int32 → Int32 → Int32 → St → Option (Int32 × St)) (hK109 : ∀ (l1 : Int32) (l2 : Int32) (l3 : Int32) (l4 : Int32) (l5 : Int32) (σ : St), K109 l1 l2 l3 l4 l5 σ = some w → sm σ w.2 g u) (K128 : Int32 → Int32 → Int32 → Int32 → Int32 → Int32 → St → Option (Int32 × St)) (hK128 : ∀ (l1 : Int32) (l2 : Int32) (l3 : Int32) (l4 : Int32) (l5 : Int32) (l6 : Int32) (σ : St), K128 l1 l2 l3 l4 l5 l6 σ = some w → sm σ w.2 g u) (l1 : Int32) (l2 : Int32) (l3 : Int32) (l4 : Int32) (l5 : Int32) (l6 : Int32) (s0 : Int32) (s1 : Int32) (σ : St) (hF : F_Mod_nights_140 n K109 K128 l1 l2 l3 l4 l5 l6 s0 s1 σ = some w) : sm σ w.2 g u := by
  rw [F_Mod_nights_140] at hF
  rcases ite_v hF with hF | hF
  · exact hK109 _ _ _ _ _ _ hF
  · exact f_Mod_nights_154 n w g u hg K109 hK109 K128 hK128 _ _ _ _ _ _ _ _ hF
theorem f_Mod_nights_128 (n : Nat) (w : (Int32 × St)) (g u : Nat) (hg : ¬ ((g = 30 ∧ u = 0) ∨ ((35 ≤ g ∧ g ≤ 36) ∧ u = 0) ∨ ((42 ≤ g ∧ g ≤ 45) ∧ u = 0))) (K109 : Int32 → Int32 → Int32 → Int32 → Int32 → St → Option (Int32 × St)) (hK109 : ∀ (l1 : Int32) (l2 : Int32) (l3 : Int32) (l4 : Int32) (l5 : Int32) (σ : St), K109 l1 l2 l3 l4 l5 σ = some w → sm σ w.2 g u) : ∀ (k : Nat) (l1 : Int32) (l2 : Int32) (l3 : Int32) (l4 : Int32) (l5 : Int32) (l6 : Int32) (σ : St), F_Mod_nights_128 n K109 k l1 l2 l3 l4 l5 l6 σ = some w → sm σ w.2 g u := by
  intro k
  induction k with
  | zero => intro l1 l2 l3 l4 l5 l6 σ hF; exact no_s hF
  | succ k ih =>
    intro l1 l2 l3 l4 l5 l6 σ hF
    rw [F_Mod_nights_128] at hF
    exact f_Mod_nights_140 n w g u hg K109 hK109 (F_Mod_nights_128 n K109 k) ih _ _ _ _ _ _ _ _ _ hF
theorem f_Mod_nights_126 (n : Nat) (w : (Int32 × St)) (g u : Nat) (hg : ¬ ((g = 30 ∧ u = 0) ∨ ((35 ≤ g ∧ g ≤ 36) ∧ u = 0) ∨ ((42 ≤ g ∧ g ≤ 45) ∧ u = 0))) (K109 : Int32 → Int32 → Int32 → Int32 → Int32 → St → Option (Int32 × St)) (hK109 : ∀ (l1 : Int32) (l2 : Int32) (l3 : Int32) (l4 : Int32) (l5 : Int32) (σ : St), K109 l1 l2 l3 l4 l5 σ = some w → sm σ w.2 g u) (l1 : Int32) (l2 : Int32) (l3 : Int32) (l4 : Int32) (l5 : Int32) (s0 : Int32) (σ : St) (hF : F_Mod_nights_126 n K109 l1 l2 l3 l4 l5 s0 σ = some w) : sm σ w.2 g u := by
  rw [F_Mod_nights_126] at hF
  exact f_Mod_nights_128 n w g u hg K109 hK109 n _ _ _ _ _ _ _ hF
theorem f_Mod_nights_109 (n : Nat) (w : (Int32 × St)) (g u : Nat) (hg : ¬ ((g = 30 ∧ u = 0) ∨ ((35 ≤ g ∧ g ≤ 36) ∧ u = 0) ∨ ((42 ≤ g ∧ g ≤ 45) ∧ u = 0))) : ∀ (k : Nat) (l1 : Int32) (l2 : Int32) (l3 : Int32) (l4 : Int32) (l5 : Int32) (σ : St), F_Mod_nights_109 n k l1 l2 l3 l4 l5 σ = some w → sm σ w.2 g u := by
  intro k
  induction k with
  | zero => intro l1 l2 l3 l4 l5 σ hF; exact no_s hF
  | succ k ih =>
    intro l1 l2 l3 l4 l5 σ hF
    rw [F_Mod_nights_109] at hF
    rcases ite_v hF with hF | hF
    · exact sm_ri hF
    · exact f_Mod_nights_126 n w g u hg (F_Mod_nights_109 n k) ih _ _ _ _ _ _ _ hF
theorem f_Mod_nights_58 (n : Nat) (w : (Int32 × St)) (g u : Nat) (hg : ¬ ((g = 30 ∧ u = 0) ∨ ((35 ≤ g ∧ g ≤ 36) ∧ u = 0) ∨ ((42 ≤ g ∧ g ≤ 45) ∧ u = 0))) (K43 : Int32 → Int32 → Int32 → Int32 → St → Option (Int32 × St)) (hK43 : ∀ (l1 : Int32) (l2 : Int32) (l3 : Int32) (l4 : Int32) (σ : St), K43 l1 l2 l3 l4 σ = some w → sm σ w.2 g u) : ∀ (k : Nat) (l1 : Int32) (l2 : Int32) (l3 : Int32) (l4 : Int32) (l5 : Int32) (σ : St), F_Mod_nights_58 n K43 k l1 l2 l3 l4 l5 σ = some w → sm σ w.2 g u := by
  intro k
  induction k with
  | zero => intro l1 l2 l3 l4 l5 σ hF; exact no_s hF
  | succ k ih =>
    intro l1 l2 l3 l4 l5 σ hF
    rw [F_Mod_nights_58] at hF
    rcases ite_v hF with hF | hF
    · exact hK43 _ _ _ _ _ hF
    · obtain ⟨v11, -, hF⟩ := bind_v hF
      obtain ⟨σ12, h1, hF⟩ := bind_v hF
      refine sm.tr (sm_ast h1 (by omega)) ?_
      exact ih _ _ _ _ _ _ hF
theorem f_Mod_nights_43 (n : Nat) (w : (Int32 × St)) (g u : Nat) (hg : ¬ ((g = 30 ∧ u = 0) ∨ ((35 ≤ g ∧ g ≤ 36) ∧ u = 0) ∨ ((42 ≤ g ∧ g ≤ 45) ∧ u = 0))) : ∀ (k : Nat) (l1 : Int32) (l2 : Int32) (l3 : Int32) (l4 : Int32) (σ : St), F_Mod_nights_43 n k l1 l2 l3 l4 σ = some w → sm σ w.2 g u := by
  intro k
  induction k with
  | zero => intro l1 l2 l3 l4 σ hF; exact no_s hF
  | succ k ih =>
    intro l1 l2 l3 l4 σ hF
    rw [F_Mod_nights_43] at hF
    rcases ite_v hF with hF | hF
    · obtain ⟨σ5, h1, hF⟩ := bind_v hF
      refine sm.tr (fr_Mod_makeRow n _ _ _ σ5 h1 g u (by omega)) ?_
      exact f_Mod_nights_109 n w g u hg n _ _ _ _ _ _ hF
    · obtain ⟨σ10, h1, hF⟩ := bind_v hF
      refine sm.tr (fr_Mod_lieBy n _ _ σ10 h1 g u (by omega)) ?_
      exact f_Mod_nights_58 n w g u hg (F_Mod_nights_43 n k) ih n _ _ _ _ _ _ hF
theorem fr_Mod_nights (n : Nat) (a1 : Int32) (a2 : Int32) (σ : St) (w : (Int32 × St)) (hF : F_Mod_nights n a1 a2 σ = some w) (g u : Nat) (hg : ¬ ((g = 30 ∧ u = 0) ∨ ((35 ≤ g ∧ g ≤ 36) ∧ u = 0) ∨ ((42 ≤ g ∧ g ≤ 45) ∧ u = 0))) : sm σ w.2 g u := by
  rw [F_Mod_nights] at hF
  obtain ⟨v1, -, hF⟩ := bind_v hF
  rcases ite_v hF with hF | hF
  · exact sm_ri hF
  · obtain ⟨v2, -, hF⟩ := bind_v hF
    rcases ite_v hF with hF | hF
    · exact sm_ri hF
    · rcases ite_v hF with hF | hF
      · exact sm_ri hF
      · obtain ⟨σ3, h1, hF⟩ := bind_v hF
        refine sm.tr (fr_Mod_layNow n _ σ3 h1 g u (by omega)) ?_
        obtain ⟨v4, -, hF⟩ := bind_v hF
        exact f_Mod_nights_43 n w g u hg n _ _ _ _ _ hF
theorem fr_Mod_nth (n : Nat) (a1 : Int32) (a2 : Int32) (σ : St) (w : (Int32 × St)) (hF : F_Mod_nth n a1 a2 σ = some w) (g u : Nat) (hg : ¬ ((g = 30 ∧ u = 0) ∨ ((35 ≤ g ∧ g ≤ 36) ∧ u = 0) ∨ (g = 39 ∧ u = 0) ∨ (g = 44 ∧ u = 0))) : sm σ w.2 g u := by
  rw [F_Mod_nth] at hF
  rcases ite_v hF with hF | hF
  · exact sm_ri hF
  · obtain ⟨v1, -, hF⟩ := bind_v hF
    rcases ite_v hF with hF | hF
    · exact sm_ri hF
    · rcases ite_v hF with hF | hF
      · exact sm_ri hF
      · obtain ⟨v2, -, hF⟩ := bind_v hF
        rcases ite_v hF with hF | hF
        · obtain ⟨σ3, h1, hF⟩ := bind_v hF
          refine sm.tr (fr_Mod_orderTo n _ _ _ σ3 h1 g u (by omega)) ?_
          exact sm_ri hF
        · obtain ⟨v4, σ5, h1, hF⟩ := b2_v hF
          refine sm.tr (fr_Mod_find _ _ (v4, σ5) h1 g u (by omega)) ?_
          exact sm_ri hF
theorem f_Mod_out_64 (n : Nat) (w : (Int32 × St)) (g u : Nat) (hg : ¬ ((g = 30 ∧ u = 0) ∨ ((42 ≤ g ∧ g ≤ 43) ∧ u = 0))) (K27 : Int32 → Int32 → St → Option (Int32 × St)) (hK27 : ∀ (l2 : Int32) (l3 : Int32) (σ : St), K27 l2 l3 σ = some w → sm σ w.2 g u) (l2 : Int32) (l3 : Int32) (s1 : Int32) (s2 : Int32) (σ : St) (hF : F_Mod_out_64 n K27 l2 l3 s1 s2 σ = some w) : sm σ w.2 g u := by
  rw [F_Mod_out_64] at hF
  obtain ⟨σ8, h1, hF⟩ := bs_v hF
  refine sm.tr (sm_si h1 (by omega)) ?_
  exact hK27 _ _ _ hF
theorem f_Mod_out_27 (n : Nat) (w : (Int32 × St)) (g u : Nat) (hg : ¬ ((g = 30 ∧ u = 0) ∨ ((42 ≤ g ∧ g ≤ 43) ∧ u = 0))) : ∀ (k : Nat) (l2 : Int32) (l3 : Int32) (σ : St), F_Mod_out_27 n k l2 l3 σ = some w → sm σ w.2 g u := by
  intro k
  induction k with
  | zero => intro l2 l3 σ hF; exact no_s hF
  | succ k ih =>
    intro l2 l3 σ hF
    rw [F_Mod_out_27] at hF
    rcases ite_v hF with hF | hF
    · exact sm_ri hF
    · obtain ⟨v5, -, hF⟩ := bind_v hF
      obtain ⟨v6, -, hF⟩ := bind_v hF
      rcases ite_v hF with hF | hF
      · exact f_Mod_out_64 n w g u hg (F_Mod_out_27 n k) ih _ _ _ _ _ hF
      · obtain ⟨v7, -, hF⟩ := bind_v hF
        exact f_Mod_out_64 n w g u hg (F_Mod_out_27 n k) ih _ _ _ _ _ hF
theorem fr_Mod_out (n : Nat) (a1 : Int32) (σ : St) (w : (Int32 × St)) (hF : F_Mod_out n a1 σ = some w) (g u : Nat) (hg : ¬ ((g = 30 ∧ u = 0) ∨ ((42 ≤ g ∧ g ≤ 43) ∧ u = 0))) : sm σ w.2 g u := by
  rw [F_Mod_out] at hF
  obtain ⟨v1, -, hF⟩ := bind_v hF
  rcases ite_v hF with hF | hF
  · exact sm_ri hF
  · obtain ⟨σ2, h1, hF⟩ := bind_v hF
    refine sm.tr (fr_Mod_layNow n _ σ2 h1 g u (by omega)) ?_
    obtain ⟨v3, -, hF⟩ := bind_v hF
    obtain ⟨σ4, h1, hF⟩ := bs_v hF
    refine sm.tr (sm_si h1 (by omega)) ?_
    exact f_Mod_out_27 n w g u hg n _ _ _ hF
theorem f_Mod_whose_130 (n : Nat) (w : (Int32 × St)) (g u : Nat) (hg : ¬ ((g = 30 ∧ u = 0) ∨ (g = 39 ∧ u = 0) ∨ ((42 ≤ g ∧ g ≤ 43) ∧ u = 0))) (K80 : Int32 → Int32 → Int32 → St → Option (Int32 × St)) (hK80 : ∀ (l1 : Int32) (l2 : Int32) (l3 : Int32) (σ : St), K80 l1 l2 l3 σ = some w → sm σ w.2 g u) (l1 : Int32) (l2 : Int32) (l3 : Int32) (s1 : Int32) (s2 : Int32) (σ : St) (hF : F_Mod_whose_130 n K80 l1 l2 l3 s1 s2 σ = some w) : sm σ w.2 g u := by
  rw [F_Mod_whose_130] at hF
  obtain ⟨σ9, h1, hF⟩ := bs_v hF
  refine sm.tr (sm_si h1 (by omega)) ?_
  exact hK80 _ _ _ _ hF
theorem f_Mod_whose_106 (n : Nat) (w : (Int32 × St)) (g u : Nat) (hg : ¬ ((g = 30 ∧ u = 0) ∨ (g = 39 ∧ u = 0) ∨ ((42 ≤ g ∧ g ≤ 43) ∧ u = 0))) (K80 : Int32 → Int32 → Int32 → St → Option (Int32 × St)) (hK80 : ∀ (l1 : Int32) (l2 : Int32) (l3 : Int32) (σ : St), K80 l1 l2 l3 σ = some w → sm σ w.2 g u) (l1 : Int32) (l3 : Int32) (s0 : Int32) (s1 : Int32) (σ : St) (hF : F_Mod_whose_106 n K80 l1 l3 s0 s1 σ = some w) : sm σ w.2 g u := by
  rw [F_Mod_whose_106] at hF
  obtain ⟨v8, -, hF⟩ := bind_v hF
  exact f_Mod_whose_130 n w g u hg K80 hK80 _ _ _ _ _ _ hF
theorem f_Mod_whose_80 (n : Nat) (w : (Int32 × St)) (g u : Nat) (hg : ¬ ((g = 30 ∧ u = 0) ∨ (g = 39 ∧ u = 0) ∨ ((42 ≤ g ∧ g ≤ 43) ∧ u = 0))) : ∀ (k : Nat) (l1 : Int32) (l2 : Int32) (l3 : Int32) (σ : St), F_Mod_whose_80 n k l1 l2 l3 σ = some w → sm σ w.2 g u := by
  intro k
  induction k with
  | zero => intro l1 l2 l3 σ hF; exact no_s hF
  | succ k ih =>
    intro l1 l2 l3 σ hF
    rw [F_Mod_whose_80] at hF
    rcases ite_v hF with hF | hF
    · exact sm_ri hF
    · obtain ⟨v7, -, hF⟩ := bind_v hF
      exact f_Mod_whose_106 n w g u hg (F_Mod_whose_80 n k) ih _ _ _ _ _ hF
theorem fr_Mod_whose (n : Nat) (a1 : Int32) (σ : St) (w : (Int32 × St)) (hF : F_Mod_whose n a1 σ = some w) (g u : Nat) (hg : ¬ ((g = 30 ∧ u = 0) ∨ (g = 39 ∧ u = 0) ∨ ((42 ≤ g ∧ g ≤ 43) ∧ u = 0))) : sm σ w.2 g u := by
  rw [F_Mod_whose] at hF
  obtain ⟨v1, -, hF⟩ := bind_v hF
  rcases ite_v hF with hF | hF
  · exact sm_ri hF
  · rcases ite_v hF with hF | hF
    · exact sm_ri hF
    · obtain ⟨v2, -, hF⟩ := bind_v hF
      rcases ite_v hF with hF | hF
      · obtain ⟨v3, -, hF⟩ := bind_v hF
        rcases ite_v hF with hF | hF
        · obtain ⟨v4, -, hF⟩ := bind_v hF
          rcases ite_v hF with hF | hF
          · obtain ⟨v10, σ11, h1, hF⟩ := b2_v hF
            refine sm.tr (fr_Mod_find _ _ (v10, σ11) h1 g u (by omega)) ?_
            exact sm_ri hF
          · obtain ⟨σ5, h1, hF⟩ := bind_v hF
            refine sm.tr (fr_Mod_layNow n _ σ5 h1 g u (by omega)) ?_
            obtain ⟨σ6, h1, hF⟩ := bs_v hF
            refine sm.tr (sm_si h1 (by omega)) ?_
            exact f_Mod_whose_80 n w g u hg n _ _ _ _ hF
        · obtain ⟨v12, σ13, h1, hF⟩ := b2_v hF
          refine sm.tr (fr_Mod_find _ _ (v12, σ13) h1 g u (by omega)) ?_
          exact sm_ri hF
      · obtain ⟨v14, σ15, h1, hF⟩ := b2_v hF
        refine sm.tr (fr_Mod_find _ _ (v14, σ15) h1 g u (by omega)) ?_
        exact sm_ri hF
