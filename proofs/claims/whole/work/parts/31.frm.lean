theorem f_Arrays_fill2_5 (n : Nat) (g1 : Nat) (u1 : Nat) (w : St) (g u : Nat) (hg : ¬ ((g = g1 ∧ u = u1))) : ∀ (k : Nat) (l1 : Int32) (l2 : Int32) (l3 : Int32) (σ : St), F_Arrays_fill2_5 n g1 u1 k l1 l2 l3 σ = some w → sm σ w g u := by
  intro k
  induction k with
  | zero => intro l1 l2 l3 σ hF; exact no_s hF
  | succ k ih =>
    intro l1 l2 l3 σ hF
    rw [F_Arrays_fill2_5] at hF
    rcases ite_v hF with hF | hF
    · exact sm_rv hF
    · obtain ⟨σ1, h1, hF⟩ := bind_v hF
      refine sm.tr (sm_ast h1 (by omega)) ?_
      exact ih _ _ _ _ hF
theorem fr_Arrays_fill2 (n : Nat) (g1 : Nat) (u1 : Nat) (a2 : Int32) (σ : St) (w : St) (hF : F_Arrays_fill2 n g1 u1 a2 σ = some w) (g u : Nat) (hg : ¬ ((g = g1 ∧ u = u1))) : sm σ w g u := by
  rw [F_Arrays_fill2] at hF
  exact f_Arrays_fill2_5 n g1 u1 w g u hg n _ _ _ _ hF
theorem fr_Tent_found (a1 : Int32) (σ : St) (w : (Int32 × St)) (hF : F_Tent_found a1 σ = some w) (g u : Nat) (hg : ¬ ((g = 0 ∧ u = 0) ∨ (g = 27 ∧ u = 0))) : sm σ w.2 g u := by
  rw [F_Tent_found] at hF
  obtain ⟨σ1, h1, hF⟩ := bs_v hF
  refine sm.tr (sm_si h1 (by omega)) ?_
  obtain ⟨v2, -, hF⟩ := bind_v hF
  obtain ⟨σ3, h1, hF⟩ := bind_v hF
  refine sm.tr (sm_ast h1 (by omega)) ?_
  exact sm_ri hF
theorem f_Arrays_fill4_10 (n : Nat) (g1 : Nat) (u1 : Nat) (w : St) (g u : Nat) (hg : ¬ ((g = g1 ∧ u = u1))) : ∀ (k : Nat) (l2 : Int32) (l3 : Int32) (l4 : Int32) (σ : St), F_Arrays_fill4_10 n g1 u1 k l2 l3 l4 σ = some w → sm σ w g u := by
  intro k
  induction k with
  | zero => intro l2 l3 l4 σ hF; exact no_s hF
  | succ k ih =>
    intro l2 l3 l4 σ hF
    rw [F_Arrays_fill4_10] at hF
    rcases ite_v hF with hF | hF
    · exact sm_rv hF
    · obtain ⟨σ2, h1, hF⟩ := bind_v hF
      refine sm.tr (sm_ast h1 (by omega)) ?_
      exact ih _ _ _ _ hF
theorem fr_Arrays_fill4 (n : Nat) (g1 : Nat) (u1 : Nat) (a2 : Int32) (a3 : Int32) (a4 : Int32) (σ : St) (w : St) (hF : F_Arrays_fill4 n g1 u1 a2 a3 a4 σ = some w) (g u : Nat) (hg : ¬ ((g = g1 ∧ u = u1))) : sm σ w g u := by
  rw [F_Arrays_fill4] at hF
  obtain ⟨z1, -, hF⟩ := bind_v hF
  exact f_Arrays_fill4_10 n g1 u1 w g u hg n _ _ _ _ hF
theorem fr_Shelf_make (n : Nat) (t : Nat) (a1 : Int32) (a2 : Int32) (a3 : Int32) (σ : St) (w : St) (hF : F_Shelf_make n t a1 a2 a3 σ = some w) (g u : Nat) (hg : ¬ (((2 ≤ g ∧ g ≤ 3) ∧ u = t))) : sm σ w g u := by
  rw [F_Shelf_make] at hF
  obtain ⟨v1, -, hF⟩ := bind_v hF
  rcases ite_v hF with hF | hF
  · exact sm_rv hF
  · rcases ite_v hF with hF | hF
    · exact sm_rv hF
    · rcases ite_v hF with hF | hF
      · exact sm_rv hF
      · obtain ⟨σ2, h1, hF⟩ := bind_v hF
        refine sm.tr (sm_ast h1 (by omega)) ?_
        obtain ⟨σ3, h1, hF⟩ := bind_v hF
        refine sm.tr (fr_Arrays_fill4 n _ _ _ _ _ _ σ3 h1 g u (by omega)) ?_
        exact sm_rv hF
theorem fr_Tent_makeIn (n : Nat) (t1 : Nat) (a2 : Int32) (a3 : Int32) (a4 : Int32) (σ : St) (w : (Int32 × St)) (hF : F_Tent_makeIn n t1 a2 a3 a4 σ = some w) (g u : Nat) (hg : ¬ ((g = 0 ∧ u = 0) ∨ (g = 27 ∧ u = 0) ∨ ((2 ≤ g ∧ g ≤ 3) ∧ u = t1))) : sm σ w.2 g u := by
  rw [F_Tent_makeIn] at hF
  obtain ⟨v1, -, hF⟩ := bind_v hF
  rcases ite_v hF with hF | hF
  · exact sm_ri hF
  · rcases ite_v hF with hF | hF
    · rcases ite_v hF with hF | hF
      · obtain ⟨σ2, h1, hF⟩ := bind_v hF
        refine sm.tr (fr_Shelf_make n _ _ _ _ _ σ2 h1 g u (by omega)) ?_
        exact sm_ri hF
      · obtain ⟨v3, σ4, h1, hF⟩ := b2_v hF
        refine sm.tr (fr_Tent_found _ _ (v3, σ4) h1 g u (by omega)) ?_
        exact sm_ri hF
    · exact sm_ri hF
theorem fr_Tent_row (n : Nat) (a1 : Int32) (a2 : Int32) (σ : St) (w : (Int32 × St)) (hF : F_Tent_row n a1 a2 σ = some w) (g u : Nat) (hg : ¬ ((g = 0 ∧ u = 0) ∨ ((2 ≤ g ∧ g ≤ 3) ∧ u = 0) ∨ (g = 27 ∧ u = 0))) : sm σ w.2 g u := by
  rw [F_Tent_row] at hF
  obtain ⟨v1, σ2, h1, hF⟩ := b2_v hF
  refine sm.tr (fr_Tent_makeIn n _ _ _ _ _ (v1, σ2) h1 g u (by omega)) ?_
  exact sm_ri hF
theorem fr_Tent_refuseMissing (t1 : Nat) (a2 : Int32) (σ : St) (w : (Int32 × St)) (hF : F_Tent_refuseMissing t1 a2 σ = some w) (g u : Nat) (hg : ¬ ((g = 0 ∧ u = 0) ∨ (g = 27 ∧ u = 0))) : sm σ w.2 g u := by
  rw [F_Tent_refuseMissing] at hF
  obtain ⟨v1, -, hF⟩ := bind_v hF
  rcases ite_v hF with hF | hF
  · exact sm_ri hF
  · obtain ⟨v2, -, hF⟩ := bind_v hF
    rcases ite_v hF with hF | hF
    · obtain ⟨v3, σ4, h1, hF⟩ := b2_v hF
      refine sm.tr (fr_Tent_found _ _ (v3, σ4) h1 g u (by omega)) ?_
      exact sm_ri hF
    · exact sm_ri hF
theorem fr_Tent_refusePlace (t1 : Nat) (a2 : Int32) (a3 : Int32) (σ : St) (w : (Int32 × St)) (hF : F_Tent_refusePlace t1 a2 a3 σ = some w) (g u : Nat) (hg : ¬ ((g = 0 ∧ u = 0) ∨ (g = 27 ∧ u = 0))) : sm σ w.2 g u := by
  rw [F_Tent_refusePlace] at hF
  obtain ⟨v1, σ2, h1, hF⟩ := b2_v hF
  refine sm.tr (fr_Tent_refuseMissing _ _ _ (v1, σ2) h1 g u (by omega)) ?_
  rcases ite_v hF with hF | hF
  · obtain ⟨v3, -, hF⟩ := bind_v hF
    rcases ite_v hF with hF | hF
    · obtain ⟨v4, σ5, h1, hF⟩ := b2_v hF
      refine sm.tr (fr_Tent_found _ _ (v4, σ5) h1 g u (by omega)) ?_
      exact sm_ri hF
    · exact sm_ri hF
  · exact sm_ri hF
theorem fr_Shelf_set (t : Nat) (a1 : Int32) (a2 : Int32) (a3 : Int32) (σ : St) (w : St) (hF : F_Shelf_set t a1 a2 a3 σ = some w) (g u : Nat) (hg : ¬ ((g = 3 ∧ u = t))) : sm σ w g u := by
  rw [F_Shelf_set] at hF
  obtain ⟨v1, -, hF⟩ := bind_v hF
  rcases ite_v hF with hF | hF
  · exact sm_rv hF
  · obtain ⟨σ2, h1, hF⟩ := bind_v hF
    refine sm.tr (sm_ast h1 (by omega)) ?_
    exact sm_rv hF
theorem fr_Tent_lay (a1 : Int32) (a2 : Int32) (a3 : Int32) (σ : St) (w : (Int32 × St)) (hF : F_Tent_lay a1 a2 a3 σ = some w) (g u : Nat) (hg : ¬ ((g = 0 ∧ u = 0) ∨ (g = 3 ∧ u = 0) ∨ (g = 27 ∧ u = 0))) : sm σ w.2 g u := by
  rw [F_Tent_lay] at hF
  obtain ⟨v1, σ2, h1, hF⟩ := b2_v hF
  refine sm.tr (fr_Tent_refusePlace _ _ _ _ (v1, σ2) h1 g u (by omega)) ?_
  rcases ite_v hF with hF | hF
  · obtain ⟨v3, -, hF⟩ := bind_v hF
    obtain ⟨σ4, h1, hF⟩ := bs_v hF
    refine sm.tr (sm_si h1 (by omega)) ?_
    obtain ⟨σ5, h1, hF⟩ := bind_v hF
    refine sm.tr (fr_Shelf_set _ _ _ _ _ σ5 h1 g u (by omega)) ?_
    exact sm_ri hF
  · exact sm_ri hF
theorem fr_Tent_at (a1 : Int32) (a2 : Int32) (σ : St) (w : (Int32 × St)) (hF : F_Tent_at a1 a2 σ = some w) (g u : Nat) (hg : ¬ ((g = 0 ∧ u = 0) ∨ (g = 27 ∧ u = 0))) : sm σ w.2 g u := by
  rw [F_Tent_at] at hF
  obtain ⟨v1, σ2, h1, hF⟩ := b2_v hF
  refine sm.tr (fr_Tent_refusePlace _ _ _ _ (v1, σ2) h1 g u (by omega)) ?_
  rcases ite_v hF with hF | hF
  · obtain ⟨v3, -, hF⟩ := bind_v hF
    obtain ⟨σ4, h1, hF⟩ := bs_v hF
    refine sm.tr (sm_si h1 (by omega)) ?_
    exact sm_ri hF
  · exact sm_ri hF
theorem fr_Shelf_remove (t : Nat) (a1 : Int32) (σ : St) (w : St) (hF : F_Shelf_remove t a1 σ = some w) (g u : Nat) (hg : ¬ ((g = 2 ∧ u = t))) : sm σ w g u := by
  rw [F_Shelf_remove] at hF
  obtain ⟨v1, -, hF⟩ := bind_v hF
  rcases ite_v hF with hF | hF
  · exact sm_rv hF
  · obtain ⟨σ2, h1, hF⟩ := bind_v hF
    refine sm.tr (sm_ast h1 (by omega)) ?_
    exact sm_rv hF
theorem fr_Tent_tear (a1 : Int32) (σ : St) (w : (Int32 × St)) (hF : F_Tent_tear a1 σ = some w) (g u : Nat) (hg : ¬ ((g = 0 ∧ u = 0) ∨ (g = 2 ∧ u = 0) ∨ (g = 27 ∧ u = 0))) : sm σ w.2 g u := by
  rw [F_Tent_tear] at hF
  obtain ⟨v1, σ2, h1, hF⟩ := b2_v hF
  refine sm.tr (fr_Tent_refuseMissing _ _ _ (v1, σ2) h1 g u (by omega)) ?_
  rcases ite_v hF with hF | hF
  · obtain ⟨σ3, h1, hF⟩ := bind_v hF
    refine sm.tr (fr_Shelf_remove _ _ _ σ3 h1 g u (by omega)) ?_
    exact sm_ri hF
  · exact sm_ri hF
theorem fr_Shelf_move (t : Nat) (a1 : Int32) (a2 : Int32) (a3 : Int32) (a4 : Int32) (a5 : Int32) (σ : St) (w : St) (hF : F_Shelf_move t a1 a2 a3 a4 a5 σ = some w) (g u : Nat) (hg : ¬ ((g = 3 ∧ u = t))) : sm σ w g u := by
  rw [F_Shelf_move] at hF
  obtain ⟨v1, -, hF⟩ := bind_v hF
  rcases ite_v hF with hF | hF
  · exact sm_rv hF
  · obtain ⟨v2, -, hF⟩ := bind_v hF
    rcases ite_v hF with hF | hF
    · exact sm_rv hF
    · obtain ⟨σ3, h1, hF⟩ := bind_v hF
      refine sm.tr (sm_acp h1 (by omega)) ?_
      exact sm_rv hF
theorem f_Tent_copy_57 (w : (Int32 × St)) (g u : Nat) (hg : ¬ ((g = 0 ∧ u = 0) ∨ (g = 3 ∧ u = 0) ∨ (g = 27 ∧ u = 0))) (σ : St) (hF : F_Tent_copy_57 σ = some w) : sm σ w.2 g u := by
  rw [F_Tent_copy_57] at hF
  obtain ⟨v4, σ5, h1, hF⟩ := b2_v hF
  refine sm.tr (fr_Tent_found _ _ (v4, σ5) h1 g u (by omega)) ?_
  exact sm_ri hF
theorem f_Tent_copy_92 (w : (Int32 × St)) (g u : Nat) (hg : ¬ ((g = 0 ∧ u = 0) ∨ (g = 3 ∧ u = 0) ∨ (g = 27 ∧ u = 0))) (σ : St) (hF : F_Tent_copy_92 σ = some w) : sm σ w.2 g u := by
  rw [F_Tent_copy_92] at hF
  obtain ⟨v8, σ9, h1, hF⟩ := b2_v hF
  refine sm.tr (fr_Tent_found _ _ (v8, σ9) h1 g u (by omega)) ?_
  exact sm_ri hF
theorem fr_Tent_copy (a1 : Int32) (a2 : Int32) (a3 : Int32) (a4 : Int32) (a5 : Int32) (σ : St) (w : (Int32 × St)) (hF : F_Tent_copy a1 a2 a3 a4 a5 σ = some w) (g u : Nat) (hg : ¬ ((g = 0 ∧ u = 0) ∨ (g = 3 ∧ u = 0) ∨ (g = 27 ∧ u = 0))) : sm σ w.2 g u := by
  rw [F_Tent_copy] at hF
  obtain ⟨v1, -, hF⟩ := bind_v hF
  rcases ite_v hF with hF | hF
  · exact sm_ri hF
  · obtain ⟨v2, -, hF⟩ := bind_v hF
    rcases ite_v hF with hF | hF
    · exact sm_ri hF
    · rcases ite_v hF with hF | hF
      · obtain ⟨v3, -, hF⟩ := bind_v hF
        rcases ite_v hF with hF | hF
        · exact f_Tent_copy_57 w g u hg _ hF
        · obtain ⟨v6, -, hF⟩ := bind_v hF
          rcases ite_v hF with hF | hF
          · exact f_Tent_copy_57 w g u hg _ hF
          · obtain ⟨v7, -, hF⟩ := bind_v hF
            rcases ite_v hF with hF | hF
            · exact f_Tent_copy_92 w g u hg _ hF
            · obtain ⟨v10, -, hF⟩ := bind_v hF
              rcases ite_v hF with hF | hF
              · exact f_Tent_copy_92 w g u hg _ hF
              · obtain ⟨σ11, h1, hF⟩ := bind_v hF
                refine sm.tr (fr_Shelf_move _ _ _ _ _ _ _ σ11 h1 g u (by omega)) ?_
                exact sm_ri hF
      · obtain ⟨v12, σ13, h1, hF⟩ := b2_v hF
        refine sm.tr (fr_Tent_found _ _ (v12, σ13) h1 g u (by omega)) ?_
        exact sm_ri hF
theorem fr_Tent_mean (n : Nat) (a1 : Int32) (σ : St) (w : (Int32 × St)) (hF : F_Tent_mean n a1 σ = some w) (g u : Nat) (hg : ¬ ((g = 0 ∧ u = 0) ∨ (g = 27 ∧ u = 0))) : sm σ w.2 g u := by
  rw [F_Tent_mean] at hF
  obtain ⟨v1, σ2, h1, hF⟩ := b2_v hF
  refine sm.tr (fr_Tent_refuseMissing _ _ _ (v1, σ2) h1 g u (by omega)) ?_
  rcases ite_v hF with hF | hF
  · obtain ⟨v3, -, hF⟩ := bind_v hF
    rcases ite_v hF with hF | hF
    · obtain ⟨v4, -, hF⟩ := bind_v hF
      obtain ⟨v5, -, hF⟩ := bind_v hF
      obtain ⟨σ6, h1, hF⟩ := bs_v hF
      refine sm.tr (sm_si h1 (by omega)) ?_
      exact sm_ri hF
    · obtain ⟨v7, σ8, h1, hF⟩ := b2_v hF
      refine sm.tr (fr_Tent_found _ _ (v7, σ8) h1 g u (by omega)) ?_
      exact sm_ri hF
  · exact sm_ri hF
theorem fr_Tent_text (n : Nat) (a1 : Int32) (a2 : Int32) (σ : St) (w : (Int32 × St)) (hF : F_Tent_text n a1 a2 σ = some w) (g u : Nat) (hg : ¬ ((g = 0 ∧ u = 0) ∨ (g = 27 ∧ u = 0) ∨ ((2 ≤ g ∧ g ≤ 3) ∧ u = 1))) : sm σ w.2 g u := by
  rw [F_Tent_text] at hF
  obtain ⟨v1, σ2, h1, hF⟩ := b2_v hF
  refine sm.tr (fr_Tent_makeIn n _ _ _ _ _ (v1, σ2) h1 g u (by omega)) ?_
  exact sm_ri hF
theorem fr_Tent_put (a1 : Int32) (a2 : Int32) (a3 : Int32) (σ : St) (w : (Int32 × St)) (hF : F_Tent_put a1 a2 a3 σ = some w) (g u : Nat) (hg : ¬ ((g = 0 ∧ u = 0) ∨ (g = 27 ∧ u = 0) ∨ (g = 3 ∧ u = 1))) : sm σ w.2 g u := by
  rw [F_Tent_put] at hF
  obtain ⟨v1, σ2, h1, hF⟩ := b2_v hF
  refine sm.tr (fr_Tent_refusePlace _ _ _ _ (v1, σ2) h1 g u (by omega)) ?_
  rcases ite_v hF with hF | hF
  · obtain ⟨v3, -, hF⟩ := bind_v hF
    obtain ⟨σ4, h1, hF⟩ := bind_v hF
    refine sm.tr (fr_Shelf_set _ _ _ _ _ σ4 h1 g u (by omega)) ?_
    exact sm_ri hF
  · exact sm_ri hF
theorem fr_Camp_begin (t : Nat) (σ : St) (w : St) (hF : F_Camp_begin t σ = some w) (g u : Nat) (hg : ¬ ((g = 4 ∧ u = t))) : sm σ w g u := by
  rw [F_Camp_begin] at hF
  obtain ⟨σ1, h1, hF⟩ := bs_v hF
  refine sm.tr (sm_si h1 (by omega)) ?_
  obtain ⟨σ2, h1, hF⟩ := bs_v hF
  refine sm.tr (sm_si h1 (by omega)) ?_
  obtain ⟨σ3, h1, hF⟩ := bs_v hF
  refine sm.tr (sm_si h1 (by omega)) ?_
  obtain ⟨σ4, h1, hF⟩ := bs_v hF
  refine sm.tr (sm_si h1 (by omega)) ?_
  obtain ⟨σ5, h1, hF⟩ := bs_v hF
  refine sm.tr (sm_si h1 (by omega)) ?_
  obtain ⟨σ6, h1, hF⟩ := bs_v hF
  refine sm.tr (sm_si h1 (by omega)) ?_
  obtain ⟨σ7, h1, hF⟩ := bs_v hF
  refine sm.tr (sm_si h1 (by omega)) ?_
  exact sm_rv hF
theorem fr_Reader_readFigure (a1 : Int32) (σ : St) (w : (Int32 × St)) (hF : F_Reader_readFigure a1 σ = some w) (g u : Nat) (hg : ¬ ((g = 16 ∧ u = 0))) : sm σ w.2 g u := by
  rw [F_Reader_readFigure] at hF
  obtain ⟨v1, -, hF⟩ := bind_v hF
  rcases ite_v hF with hF | hF
  · exact sm_ri hF
  · rcases ite_v hF with hF | hF
    · obtain ⟨σ2, h1, hF⟩ := bs_v hF
      refine sm.tr (sm_si h1 (by omega)) ?_
      exact sm_ri hF
    · exact sm_ri hF
theorem f_Reader_skipBlanks_0 (n : Nat) (w : St) (g u : Nat) (hg : ¬ ((g = 16 ∧ u = 0))) : ∀ (k : Nat) (σ : St), F_Reader_skipBlanks_0 n k σ = some w → sm σ w g u := by
  intro k
  induction k with
  | zero => intro σ hF; exact no_s hF
  | succ k ih =>
    intro σ hF
    rw [F_Reader_skipBlanks_0] at hF
    rcases ite_v hF with hF | hF
    · exact sm_rv hF
    · obtain ⟨v1, -, hF⟩ := bind_v hF
      rcases ite_v hF with hF | hF
      · obtain ⟨σ2, h1, hF⟩ := bs_v hF
        refine sm.tr (sm_si h1 (by omega)) ?_
        exact ih _ hF
      · exact sm_rv hF
theorem fr_Reader_skipBlanks (n : Nat) (σ : St) (w : St) (hF : F_Reader_skipBlanks n σ = some w) (g u : Nat) (hg : ¬ ((g = 16 ∧ u = 0))) : sm σ w g u := by
  rw [F_Reader_skipBlanks] at hF
  exact f_Reader_skipBlanks_0 n w g u hg n _ hF
theorem f_Reader_readCold_27 (n : Nat) (w : (Int32 × St)) (g u : Nat) (hg : ¬ ((g = 16 ∧ u = 0) ∨ (g = 5 ∧ u = 5))) : ∀ (k : Nat) (l1 : Int32) (σ : St), F_Reader_readCold_27 n k l1 σ = some w → sm σ w.2 g u := by
  intro k
  induction k with
  | zero => intro l1 σ hF; exact no_s hF
  | succ k ih =>
    intro l1 σ hF
    rw [F_Reader_readCold_27] at hF
    rcases ite_v hF with hF | hF
    · exact sm_ri hF
    · obtain ⟨v4, σ5, h1, hF⟩ := b2_v hF
      refine sm.tr (fr_Reader_readFigure _ _ (v4, σ5) h1 g u (by omega)) ?_
      rcases ite_v hF with hF | hF
      · exact sm_ri hF
      · obtain ⟨σ6, h1, hF⟩ := bind_v hF
        refine sm.tr (sm_ast h1 (by omega)) ?_
        exact ih _ _ hF
theorem fr_Reader_readCold (n : Nat) (σ : St) (w : (Int32 × St)) (hF : F_Reader_readCold n σ = some w) (g u : Nat) (hg : ¬ ((g = 16 ∧ u = 0) ∨ (g = 5 ∧ u = 5))) : sm σ w.2 g u := by
  rw [F_Reader_readCold] at hF
  obtain ⟨σ1, h1, hF⟩ := bind_v hF
  refine sm.tr (fr_Reader_skipBlanks n _ σ1 h1 g u (by omega)) ?_
  obtain ⟨v2, -, hF⟩ := bind_v hF
  rcases ite_v hF with hF | hF
  · obtain ⟨σ3, h1, hF⟩ := bs_v hF
    refine sm.tr (sm_si h1 (by omega)) ?_
    exact f_Reader_readCold_27 n w g u hg n _ _ hF
  · exact sm_ri hF
theorem fr_Camp_add (t : Nat) (a1 : Int32) (a2 : Int32) (a3 : Int32) (σ : St) (w : St) (hF : F_Camp_add t a1 a2 a3 σ = some w) (g u : Nat) (hg : ¬ ((g = 4 ∧ u = t) ∨ ((6 ≤ g ∧ g ≤ 12) ∧ u = t))) : sm σ w g u := by
  rw [F_Camp_add] at hF
  rcases ite_v hF with hF | hF
  · exact sm_rv hF
  · obtain ⟨σ1, h1, hF⟩ := bind_v hF
    refine sm.tr (sm_ast h1 (by omega)) ?_
    obtain ⟨σ2, h1, hF⟩ := bind_v hF
    refine sm.tr (sm_ast h1 (by omega)) ?_
    obtain ⟨σ3, h1, hF⟩ := bind_v hF
    refine sm.tr (sm_ast h1 (by omega)) ?_
    obtain ⟨σ4, h1, hF⟩ := bind_v hF
    refine sm.tr (sm_ast h1 (by omega)) ?_
    obtain ⟨σ5, h1, hF⟩ := bind_v hF
    refine sm.tr (sm_ast h1 (by omega)) ?_
    obtain ⟨σ6, h1, hF⟩ := bind_v hF
    refine sm.tr (sm_ast h1 (by omega)) ?_
    obtain ⟨σ7, h1, hF⟩ := bind_v hF
    refine sm.tr (sm_ast h1 (by omega)) ?_
    obtain ⟨σ8, h1, hF⟩ := bs_v hF
    refine sm.tr (sm_si h1 (by omega)) ?_
    exact sm_rv hF
theorem fr_Reader_readSleeper (σ : St) (w : (Int32 × St)) (hF : F_Reader_readSleeper σ = some w) (g u : Nat) (hg : ¬ ((g = 16 ∧ u = 0) ∨ (g = 4 ∧ u = 5) ∨ ((6 ≤ g ∧ g ≤ 12) ∧ u = 5))) : sm σ w.2 g u := by
  rw [F_Reader_readSleeper] at hF
  obtain ⟨v1, -, hF⟩ := bind_v hF
  obtain ⟨v2, -, hF⟩ := bind_v hF
  rcases ite_v hF with hF | hF
  · exact sm_ri hF
  · obtain ⟨σ3, h1, hF⟩ := bs_v hF
    refine sm.tr (sm_si h1 (by omega)) ?_
    obtain ⟨v4, σ5, h1, hF⟩ := b2_v hF
    refine sm.tr (fr_Reader_readFigure _ _ (v4, σ5) h1 g u (by omega)) ?_
    rcases ite_v hF with hF | hF
    · exact sm_ri hF
    · obtain ⟨v6, σ7, h1, hF⟩ := b2_v hF
      refine sm.tr (fr_Reader_readFigure _ _ (v6, σ7) h1 g u (by omega)) ?_
      rcases ite_v hF with hF | hF
      · exact sm_ri hF
      · obtain ⟨σ8, h1, hF⟩ := bind_v hF
        refine sm.tr (fr_Camp_add _ _ _ _ _ σ8 h1 g u (by omega)) ?_
        exact sm_ri hF
theorem f_Reader_take_21 (n : Nat) (t1 : Nat) (w : St) (g u : Nat) (hg : ¬ (((16 ≤ g ∧ g ≤ 17) ∧ u = 0))) : ∀ (k : Nat) (l2 : Int32) (l3 : Int32) (σ : St), F_Reader_take_21 n t1 k l2 l3 σ = some w → sm σ w g u := by
  intro k
  induction k with
  | zero => intro l2 l3 σ hF; exact no_s hF
  | succ k ih =>
    intro l2 l3 σ hF
    rw [F_Reader_take_21] at hF
    rcases ite_v hF with hF | hF
    · exact sm_rv hF
    · obtain ⟨v4, -, hF⟩ := bind_v hF
      obtain ⟨σ5, h1, hF⟩ := bind_v hF
      refine sm.tr (sm_ast h1 (by omega)) ?_
      exact ih _ _ _ hF
theorem fr_Reader_take (n : Nat) (t1 : Nat) (a2 : Int32) (σ : St) (w : St) (hF : F_Reader_take n t1 a2 σ = some w) (g u : Nat) (hg : ¬ (((16 ≤ g ∧ g ≤ 17) ∧ u = 0))) : sm σ w g u := by
  rw [F_Reader_take] at hF
  obtain ⟨v1, -, hF⟩ := bind_v hF
  obtain ⟨σ2, h1, hF⟩ := bs_v hF
  refine sm.tr (sm_si h1 (by omega)) ?_
  obtain ⟨σ3, h1, hF⟩ := bs_v hF
  refine sm.tr (sm_si h1 (by omega)) ?_
  exact f_Reader_take_21 n t1 w g u hg n _ _ _ hF
theorem f_Reader_read_53 (n : Nat) (t1 : Nat) (w : (Int32 × St)) (g u : Nat) (hg : ¬ (((16 ≤ g ∧ g ≤ 17) ∧ u = 0) ∨ ((4 ≤ g ∧ g ≤ 12) ∧ u = 5))) (K27 : Int32 → St → Option (Int32 × St)) (hK27 : ∀ (l3 : Int32) (σ : St), K27 l3 σ = some w → sm σ w.2 g u) (l3 : Int32) (σ : St) (hF : F_Reader_read_53 n t1 K27 l3 σ = some w) : sm σ w.2 g u := by
  rw [F_Reader_read_53] at hF
  obtain ⟨v8, σ9, h1, hF⟩ := b2_v hF
  refine sm.tr (fr_Reader_readSleeper _ (v8, σ9) h1 g u (by omega)) ?_
  rcases ite_v hF with hF | hF
  · exact sm_ri hF
  · exact hK27 _ _ hF
theorem f_Reader_read_27 (n : Nat) (t1 : Nat) (w : (Int32 × St)) (g u : Nat) (hg : ¬ (((16 ≤ g ∧ g ≤ 17) ∧ u = 0) ∨ ((4 ≤ g ∧ g ≤ 12) ∧ u = 5))) : ∀ (k : Nat) (l3 : Int32) (σ : St), F_Reader_read_27 n t1 k l3 σ = some w → sm σ w.2 g u := by
  intro k
  induction k with
  | zero => intro l3 σ hF; exact no_s hF
  | succ k ih =>
    intro l3 σ hF
    rw [F_Reader_read_27] at hF
    rcases ite_v hF with hF | hF
    · obtain ⟨σ5, h1, hF⟩ := bind_v hF
      refine sm.tr (fr_Reader_skipBlanks n _ σ5 h1 g u (by omega)) ?_
      obtain ⟨v6, -, hF⟩ := bind_v hF
      rcases ite_v hF with hF | hF
      · exact sm_ri hF
      · exact sm_ri hF
    · obtain ⟨σ7, h1, hF⟩ := bind_v hF
      refine sm.tr (fr_Reader_skipBlanks n _ σ7 h1 g u (by omega)) ?_
      rcases ite_v hF with hF | hF
      · exact f_Reader_read_53 n t1 w g u hg (F_Reader_read_27 n t1 k) ih _ _ hF
      · obtain ⟨v10, -, hF⟩ := bind_v hF
        rcases ite_v hF with hF | hF
        · exact sm_ri hF
        · exact f_Reader_read_53 n t1 w g u hg (F_Reader_read_27 n t1 k) ih _ _ hF
theorem fr_Reader_read (n : Nat) (t1 : Nat) (a2 : Int32) (σ : St) (w : (Int32 × St)) (hF : F_Reader_read n t1 a2 σ = some w) (g u : Nat) (hg : ¬ (((16 ≤ g ∧ g ≤ 17) ∧ u = 0) ∨ ((4 ≤ g ∧ g ≤ 12) ∧ u = 5))) : sm σ w.2 g u := by
  rw [F_Reader_read] at hF
  obtain ⟨σ1, h1, hF⟩ := bind_v hF
  refine sm.tr (fr_Reader_take n _ _ _ σ1 h1 g u (by omega)) ?_
  obtain ⟨σ2, h1, hF⟩ := bind_v hF
  refine sm.tr (fr_Camp_begin _ _ σ2 h1 g u (by omega)) ?_
  obtain ⟨v3, σ4, h1, hF⟩ := b2_v hF
  refine sm.tr (fr_Reader_readCold n _ (v3, σ4) h1 g u (by omega)) ?_
  rcases ite_v hF with hF | hF
  · exact sm_ri hF
  · exact f_Reader_read_27 n t1 w g u hg n _ _ hF
theorem fr_Tent_fault (n : Nat) (a1 : Int32) (σ : St) (w : (Int32 × St)) (hF : F_Tent_fault n a1 σ = some w) (g u : Nat) (hg : ¬ ((g = 0 ∧ u = 0) ∨ ((16 ≤ g ∧ g ≤ 17) ∧ u = 0) ∨ (g = 27 ∧ u = 0) ∨ ((4 ≤ g ∧ g ≤ 12) ∧ u = 5))) : sm σ w.2 g u := by
  rw [F_Tent_fault] at hF
  obtain ⟨v1, σ2, h1, hF⟩ := b2_v hF
  refine sm.tr (fr_Tent_refuseMissing _ _ _ (v1, σ2) h1 g u (by omega)) ?_
  rcases ite_v hF with hF | hF
  · obtain ⟨v3, σ4, h1, hF⟩ := b2_v hF
    refine sm.tr (fr_Reader_read n _ _ _ (v3, σ4) h1 g u (by omega)) ?_
    exact sm_ri hF
  · exact sm_ri hF
theorem fr_Camp_takePresent (t : Nat) (t1 : Nat) (σ : St) (w : St) (hF : F_Camp_takePresent t t1 σ = some w) (g u : Nat) (hg : ¬ (((4 ≤ g ∧ g ≤ 12) ∧ u = t))) : sm σ w g u := by
  rw [F_Camp_takePresent] at hF
  obtain ⟨σ1, h1, hF⟩ := bind_v hF
  refine sm.tr (sm_acp h1 (by omega)) ?_
  obtain ⟨σ2, h1, hF⟩ := bind_v hF
  refine sm.tr (sm_acp h1 (by omega)) ?_
  obtain ⟨σ3, h1, hF⟩ := bind_v hF
  refine sm.tr (sm_acp h1 (by omega)) ?_
  obtain ⟨σ4, h1, hF⟩ := bind_v hF
  refine sm.tr (sm_acp h1 (by omega)) ?_
  obtain ⟨σ5, h1, hF⟩ := bind_v hF
  refine sm.tr (sm_acp h1 (by omega)) ?_
  obtain ⟨σ6, h1, hF⟩ := bind_v hF
  refine sm.tr (sm_acp h1 (by omega)) ?_
  obtain ⟨σ7, h1, hF⟩ := bind_v hF
  refine sm.tr (sm_acp h1 (by omega)) ?_
  obtain ⟨σ8, h1, hF⟩ := bind_v hF
  refine sm.tr (sm_acp h1 (by omega)) ?_
  obtain ⟨σ9, h1, hF⟩ := bs_v hF
  refine sm.tr (sm_si h1 (by omega)) ?_
  obtain ⟨σ10, h1, hF⟩ := bs_v hF
  refine sm.tr (sm_si h1 (by omega)) ?_
  obtain ⟨σ11, h1, hF⟩ := bs_v hF
  refine sm.tr (sm_si h1 (by omega)) ?_
  obtain ⟨σ12, h1, hF⟩ := bs_v hF
  refine sm.tr (sm_si h1 (by omega)) ?_
  obtain ⟨σ13, h1, hF⟩ := bs_v hF
  refine sm.tr (sm_si h1 (by omega)) ?_
  obtain ⟨σ14, h1, hF⟩ := bs_v hF
  refine sm.tr (sm_si h1 (by omega)) ?_
  exact sm_rv hF
theorem fr_Camp_takeWhole (t : Nat) (t1 : Nat) (σ : St) (w : St) (hF : F_Camp_takeWhole t t1 σ = some w) (g u : Nat) (hg : ¬ (((4 ≤ g ∧ g ≤ 12) ∧ u = t) ∨ (g = 14 ∧ u = t))) : sm σ w g u := by
  rw [F_Camp_takeWhole] at hF
  obtain ⟨σ1, h1, hF⟩ := bind_v hF
  refine sm.tr (fr_Camp_takePresent _ _ _ σ1 h1 g u (by omega)) ?_
  obtain ⟨σ2, h1, hF⟩ := bs_v hF
  refine sm.tr (sm_si h1 (by omega)) ?_
  obtain ⟨σ3, h1, hF⟩ := bind_v hF
  refine sm.tr (sm_acp h1 (by omega)) ?_
  exact sm_rv hF
theorem f_Tent_tent_52 (n : Nat) (w : (Int32 × St)) (g u : Nat) (hg : ¬ ((g = 0 ∧ u = 0) ∨ ((4 ≤ g ∧ g ≤ 12) ∧ u = 0) ∨ (g = 14 ∧ u = 0) ∨ ((16 ≤ g ∧ g ≤ 17) ∧ u = 0) ∨ (g = 27 ∧ u = 0) ∨ ((4 ≤ g ∧ g ≤ 12) ∧ u = 5) ∨ (g = 4 ∧ (1 ≤ u ∧ u ≤ 3)))) : ∀ (k : Nat) (l3 : Int32) (σ : St), F_Tent_tent_52 n k l3 σ = some w → sm σ w.2 g u := by
  intro k
  induction k with
  | zero => intro l3 σ hF; exact no_s hF
  | succ k ih =>
    intro l3 σ hF
    rw [F_Tent_tent_52] at hF
    rcases ite_v hF with hF | hF
    · exact sm_ri hF
    · obtain ⟨q6, hq, hF⟩ := bind_v hF
      have hq := kld_v hq
      obtain ⟨σ7, h1, hF⟩ := bind_v hF
      refine sm.tr (fr_Camp_begin _ _ σ7 h1 g u (by omega)) ?_
      exact ih _ _ hF
theorem fr_Tent_tent (n : Nat) (a1 : Int32) (σ : St) (w : (Int32 × St)) (hF : F_Tent_tent n a1 σ = some w) (g u : Nat) (hg : ¬ ((g = 0 ∧ u = 0) ∨ ((4 ≤ g ∧ g ≤ 12) ∧ u = 0) ∨ (g = 14 ∧ u = 0) ∨ ((16 ≤ g ∧ g ≤ 17) ∧ u = 0) ∨ (g = 27 ∧ u = 0) ∨ ((4 ≤ g ∧ g ≤ 12) ∧ u = 5) ∨ (g = 4 ∧ (1 ≤ u ∧ u ≤ 3)))) : sm σ w.2 g u := by
  rw [F_Tent_tent] at hF
  obtain ⟨v1, σ2, h1, hF⟩ := b2_v hF
  refine sm.tr (fr_Tent_refuseMissing _ _ _ (v1, σ2) h1 g u (by omega)) ?_
  rcases ite_v hF with hF | hF
  · obtain ⟨v3, σ4, h1, hF⟩ := b2_v hF
    refine sm.tr (fr_Reader_read n _ _ _ (v3, σ4) h1 g u (by omega)) ?_
    rcases ite_v hF with hF | hF
    · obtain ⟨σ5, h1, hF⟩ := bind_v hF
      refine sm.tr (fr_Camp_takeWhole _ _ _ σ5 h1 g u (by omega)) ?_
      exact f_Tent_tent_52 n w g u hg n _ _ hF
    · exact sm_ri hF
  · exact sm_ri hF
theorem fr_Tent_sleeper (a1 : Int32) (a2 : Int32) (σ : St) (w : (Int32 × St)) (hF : F_Tent_sleeper a1 a2 σ = some w) (g u : Nat) (hg : ¬ ((g = 0 ∧ u = 0))) : sm σ w.2 g u := by
  rw [F_Tent_sleeper] at hF
  obtain ⟨v1, -, hF⟩ := bind_v hF
  rcases ite_v hF with hF | hF
  · exact sm_ri hF
  · rcases ite_v hF with hF | hF
    · exact sm_ri hF
    · rcases ite_v hF with hF | hF
      · obtain ⟨v2, -, hF⟩ := bind_v hF
        obtain ⟨σ3, h1, hF⟩ := bs_v hF
        refine sm.tr (sm_si h1 (by omega)) ?_
        exact sm_ri hF
      · exact sm_ri hF
theorem fr_Tent_mark (n : Nat) (a1 : Int32) (a2 : Int32) (σ : St) (w : (Int32 × St)) (hF : F_Tent_mark n a1 a2 σ = some w) (g u : Nat) (hg : ¬ ((g = 0 ∧ u = 0) ∨ (g = 27 ∧ u = 0))) : sm σ w.2 g u := by
  rw [F_Tent_mark] at hF
  obtain ⟨v1, -, hF⟩ := bind_v hF
  rcases ite_v hF with hF | hF
  · exact sm_ri hF
  · rcases ite_v hF with hF | hF
    · exact sm_ri hF
    · rcases ite_v hF with hF | hF
      · obtain ⟨v2, -, hF⟩ := bind_v hF
        obtain ⟨v3, -, hF⟩ := bind_v hF
        rcases ite_v hF with hF | hF
        · obtain ⟨v9, σ10, h1, hF⟩ := b2_v hF
          refine sm.tr (fr_Tent_found _ _ (v9, σ10) h1 g u (by omega)) ?_
          exact sm_ri hF
        · rcases ite_v hF with hF | hF
          · obtain ⟨v4, -, hF⟩ := bind_v hF
            exact sm_ri hF
          rcases ite_v hF with hF | hF
          · obtain ⟨v5, -, hF⟩ := bind_v hF
            exact sm_ri hF
          rcases ite_v hF with hF | hF
          · obtain ⟨v6, -, hF⟩ := bind_v hF
            exact sm_ri hF
          rcases ite_v hF with hF | hF
          · obtain ⟨v7, -, hF⟩ := bind_v hF
            exact sm_ri hF
          obtain ⟨v8, -, hF⟩ := bind_v hF
          exact sm_ri hF
      · exact sm_ri hF
theorem f_Tent_vent_11 (w : (Int32 × St)) (g u : Nat) (hg : ¬ ((g = 4 ∧ u = 0))) (l1 : Int32) (σ : St) (hF : F_Tent_vent_11 l1 σ = some w) : sm σ w.2 g u := by
  rw [F_Tent_vent_11] at hF
  rcases ite_v hF with hF | hF
  · exact sm_ri hF
  · obtain ⟨σ1, h1, hF⟩ := bs_v hF
    refine sm.tr (sm_si h1 (by omega)) ?_
    exact sm_ri hF
theorem fr_Tent_vent (a1 : Int32) (σ : St) (w : (Int32 × St)) (hF : F_Tent_vent a1 σ = some w) (g u : Nat) (hg : ¬ ((g = 4 ∧ u = 0))) : sm σ w.2 g u := by
  rw [F_Tent_vent] at hF
  rcases ite_v hF with hF | hF
  · exact f_Tent_vent_11 w g u hg _ _ hF
  · rcases ite_v hF with hF | hF
    · exact f_Tent_vent_11 w g u hg _ _ hF
    · exact sm_ri hF
theorem fr_Tent_bottle (a1 : Int32) (σ : St) (w : (Int32 × St)) (hF : F_Tent_bottle a1 σ = some w) (g u : Nat) (hg : ¬ ((g = 4 ∧ u = 0))) : sm σ w.2 g u := by
  rw [F_Tent_bottle] at hF
  obtain ⟨v1, -, hF⟩ := bind_v hF
  rcases ite_v hF with hF | hF
  · exact sm_ri hF
  · obtain ⟨σ2, h1, hF⟩ := bs_v hF
    refine sm.tr (sm_si h1 (by omega)) ?_
    exact sm_ri hF
theorem fr_Tent_turns (a1 : Int32) (σ : St) (w : (Int32 × St)) (hF : F_Tent_turns a1 σ = some w) (g u : Nat) (hg : ¬ ((g = 4 ∧ u = 0))) : sm σ w.2 g u := by
  rw [F_Tent_turns] at hF
  rcases ite_v hF with hF | hF
  · exact sm_ri hF
  · rcases ite_v hF with hF | hF
    · rcases ite_v hF with hF | hF
      · exact sm_ri hF
      · obtain ⟨σ1, h1, hF⟩ := bs_v hF
        refine sm.tr (sm_si h1 (by omega)) ?_
        exact sm_ri hF
    · exact sm_ri hF
theorem fr_Tent_swap (g1 : Nat) (u1 : Nat) (a2 : Int32) (a3 : Int32) (σ : St) (w : St) (hF : F_Tent_swap g1 u1 a2 a3 σ = some w) (g u : Nat) (hg : ¬ ((g = g1 ∧ u = u1))) : sm σ w g u := by
  rw [F_Tent_swap] at hF
  obtain ⟨v1, -, hF⟩ := bind_v hF
  obtain ⟨v2, -, hF⟩ := bind_v hF
  obtain ⟨σ3, h1, hF⟩ := bind_v hF
  refine sm.tr (sm_ast h1 (by omega)) ?_
  obtain ⟨σ4, h1, hF⟩ := bind_v hF
  refine sm.tr (sm_ast h1 (by omega)) ?_
  exact sm_rv hF
theorem f_Camp_fillPlaces_2 (n : Nat) (t : Nat) (w : St) (g u : Nat) (hg : ¬ ((g = 10 ∧ u = t))) : ∀ (k : Nat) (l1 : Int32) (σ : St), F_Camp_fillPlaces_2 n t k l1 σ = some w → sm σ w g u := by
  intro k
  induction k with
  | zero => intro l1 σ hF; exact no_s hF
  | succ k ih =>
    intro l1 σ hF
    rw [F_Camp_fillPlaces_2] at hF
    rcases ite_v hF with hF | hF
    · exact sm_rv hF
    · obtain ⟨v1, -, hF⟩ := bind_v hF
      obtain ⟨σ2, h1, hF⟩ := bind_v hF
      refine sm.tr (sm_ast h1 (by omega)) ?_
      exact ih _ _ hF
theorem fr_Camp_fillPlaces (n : Nat) (t : Nat) (σ : St) (w : St) (hF : F_Camp_fillPlaces n t σ = some w) (g u : Nat) (hg : ¬ ((g = 10 ∧ u = t))) : sm σ w g u := by
  rw [F_Camp_fillPlaces] at hF
  exact f_Camp_fillPlaces_2 n t w g u hg n _ _ hF
theorem fr_Tent_change (n : Nat) (a1 : Int32) (a2 : Int32) (σ : St) (w : (Int32 × St)) (hF : F_Tent_change n a1 a2 σ = some w) (g u : Nat) (hg : ¬ (((9 ≤ g ∧ g ≤ 10) ∧ u = 0))) : sm σ w.2 g u := by
  rw [F_Tent_change] at hF
  obtain ⟨v1, -, hF⟩ := bind_v hF
  rcases ite_v hF with hF | hF
  · exact sm_ri hF
  · obtain ⟨v2, -, hF⟩ := bind_v hF
    rcases ite_v hF with hF | hF
    · exact sm_ri hF
    · obtain ⟨σ3, h1, hF⟩ := bind_v hF
      refine sm.tr (fr_Tent_swap _ _ _ _ _ σ3 h1 g u (by omega)) ?_
      obtain ⟨σ4, h1, hF⟩ := bind_v hF
      refine sm.tr (fr_Camp_fillPlaces n _ _ σ4 h1 g u (by omega)) ?_
      obtain ⟨v5, -, hF⟩ := bind_v hF
      exact sm_ri hF
theorem fr_Tent_bags (a1 : Int32) (a2 : Int32) (σ : St) (w : (Int32 × St)) (hF : F_Tent_bags a1 a2 σ = some w) (g u : Nat) (hg : ¬ ((g = 8 ∧ u = 0))) : sm σ w.2 g u := by
  rw [F_Tent_bags] at hF
  obtain ⟨v1, -, hF⟩ := bind_v hF
  rcases ite_v hF with hF | hF
  · exact sm_ri hF
  · obtain ⟨v2, -, hF⟩ := bind_v hF
    rcases ite_v hF with hF | hF
    · exact sm_ri hF
    · obtain ⟨σ3, h1, hF⟩ := bind_v hF
      refine sm.tr (fr_Tent_swap _ _ _ _ _ σ3 h1 g u (by omega)) ?_
      obtain ⟨v4, -, hF⟩ := bind_v hF
      exact sm_ri hF
theorem fr_Tent_refuseRowForPlaces (a1 : Int32) (σ : St) (w : (Int32 × St)) (hF : F_Tent_refuseRowForPlaces a1 σ = some w) (g u : Nat) (hg : ¬ ((g = 0 ∧ u = 0) ∨ (g = 27 ∧ u = 0))) : sm σ w.2 g u := by
  rw [F_Tent_refuseRowForPlaces] at hF
  obtain ⟨v1, -, hF⟩ := bind_v hF
  rcases ite_v hF with hF | hF
  · obtain ⟨v2, -, hF⟩ := bind_v hF
    rcases ite_v hF with hF | hF
    · obtain ⟨v6, σ7, h1, hF⟩ := b2_v hF
      refine sm.tr (fr_Tent_found _ _ (v6, σ7) h1 g u (by omega)) ?_
      exact sm_ri hF
    · obtain ⟨v3, -, hF⟩ := bind_v hF
      rcases ite_v hF with hF | hF
      · exact sm_ri hF
      · obtain ⟨v4, σ5, h1, hF⟩ := b2_v hF
        refine sm.tr (fr_Tent_found _ _ (v4, σ5) h1 g u (by omega)) ?_
        exact sm_ri hF
  · exact sm_ri hF
theorem f_Camp_layBy_2 (n : Nat) (t : Nat) (g1 : Nat) (u1 : Nat) (w : St) (g u : Nat) (hg : ¬ (((9 ≤ g ∧ g ≤ 10) ∧ u = t))) : ∀ (k : Nat) (l2 : Int32) (σ : St), F_Camp_layBy_2 n t g1 u1 k l2 σ = some w → sm σ w g u := by
  intro k
  induction k with
  | zero => intro l2 σ hF; exact no_s hF
  | succ k ih =>
    intro l2 σ hF
    rw [F_Camp_layBy_2] at hF
    rcases ite_v hF with hF | hF
    · exact sm_rv hF
    · obtain ⟨v1, -, hF⟩ := bind_v hF
      obtain ⟨σ2, h1, hF⟩ := bind_v hF
      refine sm.tr (sm_ast h1 (by omega)) ?_
      obtain ⟨v3, -, hF⟩ := bind_v hF
      obtain ⟨σ4, h1, hF⟩ := bind_v hF
      refine sm.tr (sm_ast h1 (by omega)) ?_
      exact ih _ _ hF
theorem fr_Camp_layBy (n : Nat) (t : Nat) (g1 : Nat) (u1 : Nat) (σ : St) (w : St) (hF : F_Camp_layBy n t g1 u1 σ = some w) (g u : Nat) (hg : ¬ (((9 ≤ g ∧ g ≤ 10) ∧ u = t))) : sm σ w g u := by
  rw [F_Camp_layBy] at hF
  exact f_Camp_layBy_2 n t g1 u1 w g u hg n _ _ hF
theorem f_Orders_readFrom_12 (n : Nat) (t1 : Nat) (w : St) (g u : Nat) (hg : ¬ (((18 ≤ g ∧ g ≤ 19) ∧ u = 0))) : ∀ (k : Nat) (l2 : Int32) (l4 : Int32) (σ : St), F_Orders_readFrom_12 n t1 k l2 l4 σ = some w → sm σ w g u := by
  intro k
  induction k with
  | zero => intro l2 l4 σ hF; exact no_s hF
  | succ k ih =>
    intro l2 l4 σ hF
    rw [F_Orders_readFrom_12] at hF
    rcases ite_v hF with hF | hF
    · exact sm_rv hF
    · obtain ⟨v2, -, hF⟩ := bind_v hF
      obtain ⟨σ3, h1, hF⟩ := bind_v hF
      refine sm.tr (sm_ast h1 (by omega)) ?_
      exact ih _ _ _ hF
theorem fr_Orders_readFrom (n : Nat) (t1 : Nat) (a2 : Int32) (a3 : Int32) (σ : St) (w : St) (hF : F_Orders_readFrom n t1 a2 a3 σ = some w) (g u : Nat) (hg : ¬ (((18 ≤ g ∧ g ≤ 19) ∧ u = 0))) : sm σ w g u := by
  rw [F_Orders_readFrom] at hF
  obtain ⟨σ1, h1, hF⟩ := bs_v hF
  refine sm.tr (sm_si h1 (by omega)) ?_
  exact f_Orders_readFrom_12 n t1 w g u hg n _ _ _ hF
theorem fr_Tent_lie (n : Nat) (a1 : Int32) (σ : St) (w : (Int32 × St)) (hF : F_Tent_lie n a1 σ = some w) (g u : Nat) (hg : ¬ ((g = 0 ∧ u = 0) ∨ ((9 ≤ g ∧ g ≤ 10) ∧ u = 0) ∨ ((18 ≤ g ∧ g ≤ 19) ∧ u = 0) ∨ (g = 27 ∧ u = 0))) : sm σ w.2 g u := by
  rw [F_Tent_lie] at hF
  obtain ⟨v1, σ2, h1, hF⟩ := b2_v hF
  refine sm.tr (fr_Tent_refuseRowForPlaces _ _ (v1, σ2) h1 g u (by omega)) ?_
  rcases ite_v hF with hF | hF
  · obtain ⟨v3, -, hF⟩ := bind_v hF
    rcases ite_v hF with hF | hF
    · obtain ⟨v6, σ7, h1, hF⟩ := b2_v hF
      refine sm.tr (fr_Tent_found _ _ (v6, σ7) h1 g u (by omega)) ?_
      exact sm_ri hF
    · obtain ⟨σ4, h1, hF⟩ := bind_v hF
      refine sm.tr (fr_Orders_readFrom n _ _ _ _ σ4 h1 g u (by omega)) ?_
      obtain ⟨σ5, h1, hF⟩ := bind_v hF
      refine sm.tr (fr_Camp_layBy n _ _ _ _ σ5 h1 g u (by omega)) ?_
      exact sm_ri hF
  · exact sm_ri hF
theorem fr_Camp_remember (t : Nat) (σ : St) (w : St) (hF : F_Camp_remember t σ = some w) (g u : Nat) (hg : ¬ ((g = 14 ∧ u = t))) : sm σ w g u := by
  rw [F_Camp_remember] at hF
  rcases ite_v hF with hF | hF
  · exact sm_rv hF
  · rcases ite_v hF with hF | hF
    · obtain ⟨σ1, h1, hF⟩ := bind_v hF
      refine sm.tr (sm_ast h1 (by omega)) ?_
      obtain ⟨σ2, h1, hF⟩ := bind_v hF
      refine sm.tr (sm_ast h1 (by omega)) ?_
      obtain ⟨σ3, h1, hF⟩ := bind_v hF
      refine sm.tr (sm_ast h1 (by omega)) ?_
      obtain ⟨σ4, h1, hF⟩ := bind_v hF
      refine sm.tr (sm_ast h1 (by omega)) ?_
      obtain ⟨σ5, h1, hF⟩ := bind_v hF
      refine sm.tr (sm_ast h1 (by omega)) ?_
      obtain ⟨σ6, h1, hF⟩ := bind_v hF
      refine sm.tr (sm_acp h1 (by omega)) ?_
      obtain ⟨σ7, h1, hF⟩ := bind_v hF
      refine sm.tr (sm_acp h1 (by omega)) ?_
      obtain ⟨σ8, h1, hF⟩ := bind_v hF
      refine sm.tr (sm_acp h1 (by omega)) ?_
      obtain ⟨σ9, h1, hF⟩ := bind_v hF
      refine sm.tr (sm_acp h1 (by omega)) ?_
      exact sm_rv hF
    · exact sm_rv hF
theorem f_Camp_passHour_57 (n : Nat) (t : Nat) (w : (Int32 × St)) (g u : Nat) (hg : ¬ ((g = 4 ∧ u = t) ∨ ((11 ≤ g ∧ g ≤ 12) ∧ u = t) ∨ (g = 14 ∧ u = t))) (K15 : Int32 → Int32 → St → Option (Int32 × St)) (hK15 : ∀ (l1 : Int32) (l2 : Int32) (σ : St), K15 l1 l2 σ = some w → sm σ w.2 g u) (l1 : Int32) (l2 : Int32) (s1 : Int32) (s2 : Int32) (s3 : Int32) (σ : St) (hF : F_Camp_passHour_57 n t K15 l1 l2 s1 s2 s3 σ = some w) : sm σ w.2 g u := by
  rw [F_Camp_passHour_57] at hF
  obtain ⟨σ9, h1, hF⟩ := bind_v hF
  refine sm.tr (sm_ast h1 (by omega)) ?_
  exact hK15 _ _ _ hF
theorem f_Camp_passHour_15 (n : Nat) (t : Nat) (w : (Int32 × St)) (g u : Nat) (hg : ¬ ((g = 4 ∧ u = t) ∨ ((11 ≤ g ∧ g ≤ 12) ∧ u = t) ∨ (g = 14 ∧ u = t))) : ∀ (k : Nat) (l1 : Int32) (l2 : Int32) (σ : St), F_Camp_passHour_15 n t k l1 l2 σ = some w → sm σ w.2 g u := by
  intro k
  induction k with
  | zero => intro l1 l2 σ hF; exact no_s hF
  | succ k ih =>
    intro l1 l2 σ hF
    rw [F_Camp_passHour_15] at hF
    rcases ite_v hF with hF | hF
    · obtain ⟨σ3, h1, hF⟩ := bs_v hF
      refine sm.tr (sm_si h1 (by omega)) ?_
      obtain ⟨σ4, h1, hF⟩ := bs_v hF
      refine sm.tr (sm_si h1 (by omega)) ?_
      exact sm_ri hF
    · obtain ⟨v5, -, hF⟩ := bind_v hF
      obtain ⟨σ6, h1, hF⟩ := bind_v hF
      refine sm.tr (sm_ast h1 (by omega)) ?_
      obtain ⟨v7, -, hF⟩ := bind_v hF
      obtain ⟨v8, -, hF⟩ := bind_v hF
      exact f_Camp_passHour_57 n t w g u hg (F_Camp_passHour_15 n t k) ih _ _ _ _ _ _ hF
theorem fr_Camp_passHour (n : Nat) (t : Nat) (σ : St) (w : (Int32 × St)) (hF : F_Camp_passHour n t σ = some w) (g u : Nat) (hg : ¬ ((g = 4 ∧ u = t) ∨ ((11 ≤ g ∧ g ≤ 12) ∧ u = t) ∨ (g = 14 ∧ u = t))) : sm σ w.2 g u := by
  rw [F_Camp_passHour] at hF
  obtain ⟨v1, -, hF⟩ := bind_v hF
  obtain ⟨σ2, h1, hF⟩ := bind_v hF
  refine sm.tr (fr_Camp_remember _ _ σ2 h1 g u (by omega)) ?_
  exact f_Camp_passHour_15 n t w g u hg n _ _ _ hF
theorem fr_Tent_hour (n : Nat) (σ : St) (w : (Int32 × St)) (hF : F_Tent_hour n σ = some w) (g u : Nat) (hg : ¬ ((g = 4 ∧ u = 0) ∨ ((11 ≤ g ∧ g ≤ 12) ∧ u = 0) ∨ (g = 14 ∧ u = 0))) : sm σ w.2 g u := by
  rw [F_Tent_hour] at hF
  rcases ite_v hF with hF | hF
  · exact sm_ri hF
  · rcases ite_v hF with hF | hF
    · rcases ite_v hF with hF | hF
      · obtain ⟨v1, σ2, h1, hF⟩ := b2_v hF
        refine sm.tr (fr_Camp_passHour n _ _ (v1, σ2) h1 g u (by omega)) ?_
        exact sm_ri hF
      · exact sm_ri hF
    · exact sm_ri hF
theorem fr_Tent_night (σ : St) (w : (Int32 × St)) (hF : F_Tent_night σ = some w) (g u : Nat) (hg : ¬ ((g = 4 ∧ u = 0))) : sm σ w.2 g u := by
  rw [F_Tent_night] at hF
  rcases ite_v hF with hF | hF
  · exact sm_ri hF
  · rcases ite_v hF with hF | hF
    · obtain ⟨σ1, h1, hF⟩ := bs_v hF
      refine sm.tr (sm_si h1 (by omega)) ?_
      obtain ⟨σ2, h1, hF⟩ := bs_v hF
      refine sm.tr (sm_si h1 (by omega)) ?_
      exact sm_ri hF
    · exact sm_ri hF
theorem fr_Camp_recall (n : Nat) (t : Nat) (a1 : Int32) (σ : St) (w : St) (hF : F_Camp_recall n t a1 σ = some w) (g u : Nat) (hg : ¬ ((g = 4 ∧ u = t) ∨ ((8 ≤ g ∧ g ≤ 12) ∧ u = t))) : sm σ w g u := by
  rw [F_Camp_recall] at hF
  rcases ite_v hF with hF | hF
  · exact sm_rv hF
  · rcases ite_v hF with hF | hF
    · exact sm_rv hF
    · rcases ite_v hF with hF | hF
      · obtain ⟨σ1, h1, hF⟩ := bs_v hF
        refine sm.tr (sm_si h1 (by omega)) ?_
        obtain ⟨v2, -, hF⟩ := bind_v hF
        obtain ⟨σ3, h1, hF⟩ := bs_v hF
        refine sm.tr (sm_si h1 (by omega)) ?_
        obtain ⟨v4, -, hF⟩ := bind_v hF
        obtain ⟨σ5, h1, hF⟩ := bs_v hF
        refine sm.tr (sm_si h1 (by omega)) ?_
        obtain ⟨v6, -, hF⟩ := bind_v hF
        obtain ⟨σ7, h1, hF⟩ := bs_v hF
        refine sm.tr (sm_si h1 (by omega)) ?_
        obtain ⟨v8, -, hF⟩ := bind_v hF
        obtain ⟨σ9, h1, hF⟩ := bs_v hF
        refine sm.tr (sm_si h1 (by omega)) ?_
        obtain ⟨v10, -, hF⟩ := bind_v hF
        obtain ⟨σ11, h1, hF⟩ := bs_v hF
        refine sm.tr (sm_si h1 (by omega)) ?_
        obtain ⟨σ12, h1, hF⟩ := bind_v hF
        refine sm.tr (sm_acp h1 (by omega)) ?_
        obtain ⟨σ13, h1, hF⟩ := bind_v hF
        refine sm.tr (sm_acp h1 (by omega)) ?_
        obtain ⟨σ14, h1, hF⟩ := bind_v hF
        refine sm.tr (sm_acp h1 (by omega)) ?_
        obtain ⟨σ15, h1, hF⟩ := bind_v hF
        refine sm.tr (sm_acp h1 (by omega)) ?_
        obtain ⟨σ16, h1, hF⟩ := bind_v hF
        refine sm.tr (fr_Camp_fillPlaces n _ _ σ16 h1 g u (by omega)) ?_
        exact sm_rv hF
      · exact sm_rv hF
theorem fr_Tent_undo (n : Nat) (a1 : Int32) (σ : St) (w : (Int32 × St)) (hF : F_Tent_undo n a1 σ = some w) (g u : Nat) (hg : ¬ ((g = 4 ∧ u = 0) ∨ ((8 ≤ g ∧ g ≤ 12) ∧ u = 0))) : sm σ w.2 g u := by
  rw [F_Tent_undo] at hF
  rcases ite_v hF with hF | hF
  · exact sm_ri hF
  · rcases ite_v hF with hF | hF
    · rcases ite_v hF with hF | hF
      · exact sm_ri hF
      · obtain ⟨σ1, h1, hF⟩ := bind_v hF
        refine sm.tr (fr_Camp_recall n _ _ _ σ1 h1 g u (by omega)) ?_
        exact sm_ri hF
    · exact sm_ri hF
theorem fr_Tent_now (σ : St) (w : (Int32 × St)) (hF : F_Tent_now σ = some w) (g u : Nat) (hg : ¬ ((g = 0 ∧ u = 0))) : sm σ w.2 g u := by
  rw [F_Tent_now] at hF
  rcases ite_v hF with hF | hF
  · exact sm_ri hF
  · obtain ⟨σ1, h1, hF⟩ := bs_v hF
    refine sm.tr (sm_si h1 (by omega)) ?_
    exact sm_ri hF
theorem fr_Tent_keep (a1 : Int32) (σ : St) (w : (Int32 × St)) (hF : F_Tent_keep a1 σ = some w) (g u : Nat) (hg : ¬ (((4 ≤ g ∧ g ≤ 12) ∧ (1 ≤ u ∧ u ≤ 3)) ∨ (g = 14 ∧ (1 ≤ u ∧ u ≤ 3)))) : sm σ w.2 g u := by
  rw [F_Tent_keep] at hF
  rcases ite_v hF with hF | hF
  · exact sm_ri hF
  · rcases ite_v hF with hF | hF
    · rcases ite_v hF with hF | hF
      · exact sm_ri hF
      · obtain ⟨q1, hq, hF⟩ := bind_v hF
        have hq := kld_v hq
        obtain ⟨σ2, h1, hF⟩ := bind_v hF
        refine sm.tr (fr_Camp_takeWhole _ _ _ σ2 h1 g u (by omega)) ?_
        exact sm_ri hF
    · exact sm_ri hF
theorem fr_Tent_on (a1 : Int32) (σ : St) (w : (Int32 × St)) (hF : F_Tent_on a1 σ = some w) (g u : Nat) (hg : ¬ ((g = 0 ∧ u = 0) ∨ ((4 ≤ g ∧ g ≤ 12) ∧ u = 0) ∨ (g = 14 ∧ u = 0) ∨ (g = 27 ∧ u = 0))) : sm σ w.2 g u := by
  rw [F_Tent_on] at hF
  rcases ite_v hF with hF | hF
  · exact sm_ri hF
  · rcases ite_v hF with hF | hF
    · obtain ⟨v1, -, hF⟩ := bind_v hF
      rcases ite_v hF with hF | hF
      · obtain ⟨v4, σ5, h1, hF⟩ := b2_v hF
        refine sm.tr (fr_Tent_found _ _ (v4, σ5) h1 g u (by omega)) ?_
        exact sm_ri hF
      · obtain ⟨q2, hq, hF⟩ := bind_v hF
        have hq := kld_v hq
        obtain ⟨σ3, h1, hF⟩ := bind_v hF
        refine sm.tr (fr_Camp_takeWhole _ _ _ σ3 h1 g u (by omega)) ?_
        exact sm_ri hF
    · exact sm_ri hF
theorem fr_Tent_feels (a1 : Int32) (a2 : Int32) (σ : St) (w : (Int32 × St)) (hF : F_Tent_feels a1 a2 σ = some w) (g u : Nat) (hg : ¬ ((g = 0 ∧ u = 0))) : sm σ w.2 g u := by
  rw [F_Tent_feels] at hF
  obtain ⟨v1, -, hF⟩ := bind_v hF
  rcases ite_v hF with hF | hF
  · exact sm_ri hF
  · obtain ⟨v2, -, hF⟩ := bind_v hF
    rcases ite_v hF with hF | hF
    · exact sm_ri hF
    · obtain ⟨v3, -, hF⟩ := bind_v hF
      obtain ⟨σ4, h1, hF⟩ := bs_v hF
      refine sm.tr (sm_si h1 (by omega)) ?_
      exact sm_ri hF
theorem fr_Tent_sleeps (n : Nat) (a1 : Int32) (σ : St) (w : (Int32 × St)) (hF : F_Tent_sleeps n a1 σ = some w) (g u : Nat) (hg : ¬ ((g = 0 ∧ u = 0))) : sm σ w.2 g u := by
  rw [F_Tent_sleeps] at hF
  obtain ⟨v1, -, hF⟩ := bind_v hF
  rcases ite_v hF with hF | hF
  · exact sm_ri hF
  · obtain ⟨v2, -, hF⟩ := bind_v hF
    obtain ⟨σ3, h1, hF⟩ := bs_v hF
    refine sm.tr (sm_si h1 (by omega)) ?_
    obtain ⟨v4, -, hF⟩ := bind_v hF
    exact sm_ri hF
theorem f_Tent_coldest_67 (n : Nat) (w : (Int32 × St)) (g u : Nat) (hg : ¬ ((g = 0 ∧ u = 0))) (K19 : Int32 → Int32 → Int32 → St → Option (Int32 × St)) (hK19 : ∀ (l1 : Int32) (l2 : Int32) (l3 : Int32) (σ : St), K19 l1 l2 l3 σ = some w → sm σ w.2 g u) (K33 : Int32 → Int32 → Int32 → Int32 → St → Option (Int32 × St)) (hK33 : ∀ (l1 : Int32) (l2 : Int32) (l3 : Int32) (l4 : Int32) (σ : St), K33 l1 l2 l3 l4 σ = some w → sm σ w.2 g u) (l1 : Int32) (l2 : Int32) (l3 : Int32) (l4 : Int32) (σ : St) (hF : F_Tent_coldest_67 n K19 K33 l1 l2 l3 l4 σ = some w) : sm σ w.2 g u := by
  rw [F_Tent_coldest_67] at hF
  exact hK33 _ _ _ _ _ hF
theorem f_Tent_coldest_33 (n : Nat) (w : (Int32 × St)) (g u : Nat) (hg : ¬ ((g = 0 ∧ u = 0))) (K19 : Int32 → Int32 → Int32 → St → Option (Int32 × St)) (hK19 : ∀ (l1 : Int32) (l2 : Int32) (l3 : Int32) (σ : St), K19 l1 l2 l3 σ = some w → sm σ w.2 g u) : ∀ (k : Nat) (l1 : Int32) (l2 : Int32) (l3 : Int32) (l4 : Int32) (σ : St), F_Tent_coldest_33 n K19 k l1 l2 l3 l4 σ = some w → sm σ w.2 g u := by
  intro k
  induction k with
  | zero => intro l1 l2 l3 l4 σ hF; exact no_s hF
  | succ k ih =>
    intro l1 l2 l3 l4 σ hF
    rw [F_Tent_coldest_33] at hF
    rcases ite_v hF with hF | hF
    · exact hK19 _ _ _ _ hF
    · obtain ⟨v2, -, hF⟩ := bind_v hF
      obtain ⟨v3, -, hF⟩ := bind_v hF
      exact f_Tent_coldest_67 n w g u hg K19 hK19 (F_Tent_coldest_33 n K19 k) ih _ _ _ _ _ hF
theorem f_Tent_coldest_19 (n : Nat) (w : (Int32 × St)) (g u : Nat) (hg : ¬ ((g = 0 ∧ u = 0))) : ∀ (k : Nat) (l1 : Int32) (l2 : Int32) (l3 : Int32) (σ : St), F_Tent_coldest_19 n k l1 l2 l3 σ = some w → sm σ w.2 g u := by
  intro k
  induction k with
  | zero => intro l1 l2 l3 σ hF; exact no_s hF
  | succ k ih =>
    intro l1 l2 l3 σ hF
    rw [F_Tent_coldest_19] at hF
    rcases ite_v hF with hF | hF
    · obtain ⟨σ1, h1, hF⟩ := bs_v hF
      refine sm.tr (sm_si h1 (by omega)) ?_
      exact sm_ri hF
    · exact f_Tent_coldest_33 n w g u hg (F_Tent_coldest_19 n k) ih n _ _ _ _ _ hF
theorem fr_Tent_coldest (n : Nat) (σ : St) (w : (Int32 × St)) (hF : F_Tent_coldest n σ = some w) (g u : Nat) (hg : ¬ ((g = 0 ∧ u = 0))) : sm σ w.2 g u := by
  rw [F_Tent_coldest] at hF
  rcases ite_v hF with hF | hF
  · exact sm_ri hF
  · exact f_Tent_coldest_19 n w g u hg n _ _ _ _ hF
theorem fr_Tent_good (n : Nat) (a1 : Int32) (σ : St) (w : (Int32 × St)) (hF : F_Tent_good n a1 σ = some w) (g u : Nat) (hg : ¬ ((g = 0 ∧ u = 0) ∨ ((4 ≤ g ∧ g ≤ 12) ∧ u = 4))) : sm σ w.2 g u := by
  rw [F_Tent_good] at hF
  obtain ⟨v1, -, hF⟩ := bind_v hF
  rcases ite_v hF with hF | hF
  · exact sm_ri hF
  · obtain ⟨σ2, h1, hF⟩ := bind_v hF
    refine sm.tr (fr_Camp_takePresent _ _ _ σ2 h1 g u (by omega)) ?_
    obtain ⟨σ3, h1, hF⟩ := bind_v hF
    refine sm.tr (sm_ast h1 (by omega)) ?_
    obtain ⟨σ4, h1, hF⟩ := bind_v hF
    refine sm.tr (sm_ast h1 (by omega)) ?_
    obtain ⟨v5, -, hF⟩ := bind_v hF
    obtain ⟨v6, -, hF⟩ := bind_v hF
    obtain ⟨σ7, h1, hF⟩ := bs_v hF
    refine sm.tr (sm_si h1 (by omega)) ?_
    exact sm_ri hF
theorem fr_Tent_worth (n : Nat) (σ : St) (w : (Int32 × St)) (hF : F_Tent_worth n σ = some w) (g u : Nat) (hg : ¬ ((g = 0 ∧ u = 0))) : sm σ w.2 g u := by
  rw [F_Tent_worth] at hF
  rcases ite_v hF with hF | hF
  · exact sm_ri hF
  · obtain ⟨v1, -, hF⟩ := bind_v hF
    obtain ⟨σ2, h1, hF⟩ := bs_v hF
    refine sm.tr (sm_si h1 (by omega)) ?_
    obtain ⟨v3, -, hF⟩ := bind_v hF
    exact sm_ri hF
theorem f_Camp_takeBags_2 (n : Nat) (t : Nat) (t1 : Nat) (g2 : Nat) (u2 : Nat) (w : St) (g u : Nat) (hg : ¬ ((g = 8 ∧ u = t))) : ∀ (k : Nat) (l3 : Int32) (σ : St), F_Camp_takeBags_2 n t t1 g2 u2 k l3 σ = some w → sm σ w g u := by
  intro k
  induction k with
  | zero => intro l3 σ hF; exact no_s hF
  | succ k ih =>
    intro l3 σ hF
    rw [F_Camp_takeBags_2] at hF
    rcases ite_v hF with hF | hF
    · exact sm_rv hF
    · obtain ⟨v1, -, hF⟩ := bind_v hF
      obtain ⟨v2, -, hF⟩ := bind_v hF
      obtain ⟨σ3, h1, hF⟩ := bind_v hF
      refine sm.tr (sm_ast h1 (by omega)) ?_
      exact ih _ _ hF
theorem fr_Camp_takeBags (n : Nat) (t : Nat) (t1 : Nat) (g2 : Nat) (u2 : Nat) (σ : St) (w : St) (hF : F_Camp_takeBags n t t1 g2 u2 σ = some w) (g u : Nat) (hg : ¬ ((g = 8 ∧ u = t))) : sm σ w g u := by
  rw [F_Camp_takeBags] at hF
  exact f_Camp_takeBags_2 n t t1 g2 u2 w g u hg n _ _ hF
theorem f_Orders_advance_94 (n : Nat) (w : (Int32 × St)) (g u : Nat) (hg : ¬ ((g = 19 ∧ u = 0))) : ∀ (k : Nat) (l3 : Int32) (l4 : Int32) (σ : St), F_Orders_advance_94 n k l3 l4 σ = some w → sm σ w.2 g u := by
  intro k
  induction k with
  | zero => intro l3 l4 σ hF; exact no_s hF
  | succ k ih =>
    intro l3 l4 σ hF
    rw [F_Orders_advance_94] at hF
    rcases ite_v hF with hF | hF
    · exact sm_ri hF
    · obtain ⟨σ2, h1, hF⟩ := bind_v hF
      refine sm.tr (fr_Tent_swap _ _ _ _ _ σ2 h1 g u (by omega)) ?_
      exact ih _ _ _ hF
theorem f_Orders_advance_73 (n : Nat) (w : (Int32 × St)) (g u : Nat) (hg : ¬ ((g = 19 ∧ u = 0))) (l1 : Int32) (l2 : Int32) (σ : St) (hF : F_Orders_advance_73 n l1 l2 σ = some w) : sm σ w.2 g u := by
  rw [F_Orders_advance_73] at hF
  obtain ⟨σ1, h1, hF⟩ := bind_v hF
  refine sm.tr (fr_Tent_swap _ _ _ _ _ σ1 h1 g u (by omega)) ?_
  exact f_Orders_advance_94 n w g u hg n _ _ _ hF
theorem f_Orders_advance_47 (n : Nat) (w : (Int32 × St)) (g u : Nat) (hg : ¬ ((g = 19 ∧ u = 0))) : ∀ (k : Nat) (l1 : Int32) (l2 : Int32) (σ : St), F_Orders_advance_47 n k l1 l2 σ = some w → sm σ w.2 g u := by
  intro k
  induction k with
  | zero => intro l1 l2 σ hF; exact no_s hF
  | succ k ih =>
    intro l1 l2 σ hF
    rw [F_Orders_advance_47] at hF
    rcases ite_v hF with hF | hF
    · exact f_Orders_advance_73 n w g u hg _ _ _ hF
    · obtain ⟨v3, -, hF⟩ := bind_v hF
      obtain ⟨v4, -, hF⟩ := bind_v hF
      rcases ite_v hF with hF | hF
      · exact f_Orders_advance_73 n w g u hg _ _ _ hF
      · exact ih _ _ _ hF
theorem f_Orders_advance_34 (n : Nat) (w : (Int32 × St)) (g u : Nat) (hg : ¬ ((g = 19 ∧ u = 0))) (l1 : Int32) (σ : St) (hF : F_Orders_advance_34 n l1 σ = some w) : sm σ w.2 g u := by
  rw [F_Orders_advance_34] at hF
  rcases ite_v hF with hF | hF
  · exact f_Orders_advance_47 n w g u hg n _ _ _ hF
  · exact sm_ri hF
theorem f_Orders_advance_7 (n : Nat) (w : (Int32 × St)) (g u : Nat) (hg : ¬ ((g = 19 ∧ u = 0))) : ∀ (k : Nat) (l1 : Int32) (σ : St), F_Orders_advance_7 n k l1 σ = some w → sm σ w.2 g u := by
  intro k
  induction k with
  | zero => intro l1 σ hF; exact no_s hF
  | succ k ih =>
    intro l1 σ hF
    rw [F_Orders_advance_7] at hF
    rcases ite_v hF with hF | hF
    · exact f_Orders_advance_34 n w g u hg _ _ hF
    · obtain ⟨v5, -, hF⟩ := bind_v hF
      obtain ⟨v6, -, hF⟩ := bind_v hF
      rcases ite_v hF with hF | hF
      · exact f_Orders_advance_34 n w g u hg _ _ hF
      · exact ih _ _ hF
theorem fr_Orders_advance (n : Nat) (σ : St) (w : (Int32 × St)) (hF : F_Orders_advance n σ = some w) (g u : Nat) (hg : ¬ ((g = 19 ∧ u = 0))) : sm σ w.2 g u := by
  rw [F_Orders_advance] at hF
  exact f_Orders_advance_7 n w g u hg n _ _ hF
theorem f_Orders_begin_11 (n : Nat) (w : St) (g u : Nat) (hg : ¬ (((18 ≤ g ∧ g ≤ 19) ∧ u = 0))) : ∀ (k : Nat) (l2 : Int32) (σ : St), F_Orders_begin_11 n k l2 σ = some w → sm σ w g u := by
  intro k
  induction k with
  | zero => intro l2 σ hF; exact no_s hF
  | succ k ih =>
    intro l2 σ hF
    rw [F_Orders_begin_11] at hF
    rcases ite_v hF with hF | hF
    · exact sm_rv hF
    · obtain ⟨σ2, h1, hF⟩ := bind_v hF
      refine sm.tr (sm_ast h1 (by omega)) ?_
      exact ih _ _ hF
theorem fr_Orders_begin (n : Nat) (a1 : Int32) (σ : St) (w : St) (hF : F_Orders_begin n a1 σ = some w) (g u : Nat) (hg : ¬ (((18 ≤ g ∧ g ≤ 19) ∧ u = 0))) : sm σ w g u := by
  rw [F_Orders_begin] at hF
  obtain ⟨σ1, h1, hF⟩ := bs_v hF
  refine sm.tr (sm_si h1 (by omega)) ?_
  exact f_Orders_begin_11 n w g u hg n _ _ hF
theorem f_Orders_goTo_30 (n : Nat) (w : St) (g u : Nat) (hg : ¬ (((18 ≤ g ∧ g ≤ 19) ∧ u = 0))) : ∀ (k : Nat) (l2 : Int32) (l3 : Int32) (l4 : Int32) (l5 : Int32) (σ : St), F_Orders_goTo_30 n k l2 l3 l4 l5 σ = some w → sm σ w g u := by
  intro k
  induction k with
  | zero => intro l2 l3 l4 l5 σ hF; exact no_s hF
  | succ k ih =>
    intro l2 l3 l4 l5 σ hF
    rw [F_Orders_goTo_30] at hF
    rcases ite_v hF with hF | hF
    · exact sm_rv hF
    · obtain ⟨v3, -, hF⟩ := bind_v hF
      obtain ⟨v4, -, hF⟩ := bind_v hF
      obtain ⟨v5, -, hF⟩ := bind_v hF
      obtain ⟨v6, -, hF⟩ := bind_v hF
      obtain ⟨σ7, h1, hF⟩ := bind_v hF
      refine sm.tr (sm_ast h1 (by omega)) ?_
      obtain ⟨v8, -, hF⟩ := bind_v hF
      exact ih _ _ _ _ _ hF
theorem fr_Orders_goTo (n : Nat) (a1 : Int32) (a2 : Int32) (σ : St) (w : St) (hF : F_Orders_goTo n a1 a2 σ = some w) (g u : Nat) (hg : ¬ (((18 ≤ g ∧ g ≤ 19) ∧ u = 0))) : sm σ w g u := by
  rw [F_Orders_goTo] at hF
  obtain ⟨σ1, h1, hF⟩ := bs_v hF
  refine sm.tr (sm_si h1 (by omega)) ?_
  obtain ⟨v2, -, hF⟩ := bind_v hF
  exact f_Orders_goTo_30 n w g u hg n _ _ _ _ _ hF
theorem f_Orders_writeTo_12 (n : Nat) (t1 : Nat) (w : St) (g u : Nat) (hg : ¬ (((2 ≤ g ∧ g ≤ 3) ∧ u = t1))) : ∀ (k : Nat) (l2 : Int32) (l3 : Int32) (σ : St), F_Orders_writeTo_12 n t1 k l2 l3 σ = some w → sm σ w g u := by
  intro k
  induction k with
  | zero => intro l2 l3 σ hF; exact no_s hF
  | succ k ih =>
    intro l2 l3 σ hF
    rw [F_Orders_writeTo_12] at hF
    rcases ite_v hF with hF | hF
    · exact sm_rv hF
    · obtain ⟨v2, -, hF⟩ := bind_v hF
      obtain ⟨σ3, h1, hF⟩ := bind_v hF
      refine sm.tr (fr_Shelf_set _ _ _ _ _ σ3 h1 g u (by omega)) ?_
      exact ih _ _ _ hF
theorem fr_Orders_writeTo (n : Nat) (t1 : Nat) (a2 : Int32) (σ : St) (w : St) (hF : F_Orders_writeTo n t1 a2 σ = some w) (g u : Nat) (hg : ¬ (((2 ≤ g ∧ g ≤ 3) ∧ u = t1))) : sm σ w g u := by
  rw [F_Orders_writeTo] at hF
  obtain ⟨σ1, h1, hF⟩ := bind_v hF
  refine sm.tr (fr_Shelf_make n _ _ _ _ _ σ1 h1 g u (by omega)) ?_
  exact f_Orders_writeTo_12 n t1 w g u hg n _ _ _ hF
theorem f_Tent_seekOrder_151 (n : Nat) (w : (Int32 × St)) (g u : Nat) (hg : ¬ (((2 ≤ g ∧ g ≤ 3) ∧ u = 0) ∨ ((18 ≤ g ∧ g ≤ 19) ∧ u = 0) ∨ ((4 ≤ g ∧ g ≤ 12) ∧ u = 4))) (l1 : Int32) (l4 : Int32) (l5 : Int32) (σ : St) (hF : F_Tent_seekOrder_151 n l1 l4 l5 σ = some w) : sm σ w.2 g u := by
  rw [F_Tent_seekOrder_151] at hF
  obtain ⟨σ4, h1, hF⟩ := bind_v hF
  refine sm.tr (fr_Orders_goTo n _ _ _ σ4 h1 g u (by omega)) ?_
  obtain ⟨σ5, h1, hF⟩ := bind_v hF
  refine sm.tr (fr_Orders_writeTo n _ _ _ σ5 h1 g u (by omega)) ?_
  exact sm_ri hF
theorem f_Tent_seekOrder_132 (n : Nat) (w : (Int32 × St)) (g u : Nat) (hg : ¬ (((2 ≤ g ∧ g ≤ 3) ∧ u = 0) ∨ ((18 ≤ g ∧ g ≤ 19) ∧ u = 0) ∨ ((4 ≤ g ∧ g ≤ 12) ∧ u = 4))) (K46 : Int32 → Int32 → Int32 → Int32 → Int32 → St → Option (Int32 × St)) (hK46 : ∀ (l1 : Int32) (l2 : Int32) (l4 : Int32) (l5 : Int32) (l6 : Int32) (σ : St), K46 l1 l2 l4 l5 l6 σ = some w → sm σ w.2 g u) (l1 : Int32) (l2 : Int32) (l4 : Int32) (l5 : Int32) (l6 : Int32) (σ : St) (hF : F_Tent_seekOrder_132 n K46 l1 l2 l4 l5 l6 σ = some w) : sm σ w.2 g u := by
  rw [F_Tent_seekOrder_132] at hF
  obtain ⟨v8, σ9, h1, hF⟩ := b2_v hF
  refine sm.tr (fr_Orders_advance n _ (v8, σ9) h1 g u (by omega)) ?_
  rcases ite_v hF with hF | hF
  · exact f_Tent_seekOrder_151 n w g u hg _ _ _ _ hF
  · exact hK46 _ _ _ _ _ _ hF
theorem f_Tent_seekOrder_115 (n : Nat) (w : (Int32 × St)) (g u : Nat) (hg : ¬ (((2 ≤ g ∧ g ≤ 3) ∧ u = 0) ∨ ((18 ≤ g ∧ g ≤ 19) ∧ u = 0) ∨ ((4 ≤ g ∧ g ≤ 12) ∧ u = 4))) (K46 : Int32 → Int32 → Int32 → Int32 → Int32 → St → Option (Int32 × St)) (hK46 : ∀ (l1 : Int32) (l2 : Int32) (l4 : Int32) (l5 : Int32) (l6 : Int32) (σ : St), K46 l1 l2 l4 l5 l6 σ = some w → sm σ w.2 g u) (l1 : Int32) (l2 : Int32) (l4 : Int32) (l5 : Int32) (l6 : Int32) (s0 : Int32) (σ : St) (hF : F_Tent_seekOrder_115 n K46 l1 l2 l4 l5 l6 s0 σ = some w) : sm σ w.2 g u := by
  rw [F_Tent_seekOrder_115] at hF
  exact f_Tent_seekOrder_132 n w g u hg K46 hK46 _ _ _ _ _ _ hF
theorem f_Tent_seekOrder_93 (n : Nat) (w : (Int32 × St)) (g u : Nat) (hg : ¬ (((2 ≤ g ∧ g ≤ 3) ∧ u = 0) ∨ ((18 ≤ g ∧ g ≤ 19) ∧ u = 0) ∨ ((4 ≤ g ∧ g ≤ 12) ∧ u = 4))) (K46 : Int32 → Int32 → Int32 → Int32 → Int32 → St → Option (Int32 × St)) (hK46 : ∀ (l1 : Int32) (l2 : Int32) (l4 : Int32) (l5 : Int32) (l6 : Int32) (σ : St), K46 l1 l2 l4 l5 l6 σ = some w → sm σ w.2 g u) (l1 : Int32) (l2 : Int32) (l4 : Int32) (l5 : Int32) (l6 : Int32) (σ : St) (hF : F_Tent_seekOrder_93 n K46 l1 l2 l4 l5 l6 σ = some w) : sm σ w.2 g u := by
  rw [F_Tent_seekOrder_93] at hF
  rcases ite_v hF with hF | hF
  · obtain ⟨v10, -, hF⟩ := bind_v hF
    exact f_Tent_seekOrder_115 n w g u hg K46 hK46 _ _ _ _ _ _ _ hF
  · obtain ⟨v7, -, hF⟩ := bind_v hF
    exact f_Tent_seekOrder_115 n w g u hg K46 hK46 _ _ _ _ _ _ _ hF
theorem f_Tent_seekOrder_46 (n : Nat) (w : (Int32 × St)) (g u : Nat) (hg : ¬ (((2 ≤ g ∧ g ≤ 3) ∧ u = 0) ∨ ((18 ≤ g ∧ g ≤ 19) ∧ u = 0) ∨ ((4 ≤ g ∧ g ≤ 12) ∧ u = 4))) : ∀ (k : Nat) (l1 : Int32) (l2 : Int32) (l4 : Int32) (l5 : Int32) (l6 : Int32) (σ : St), F_Tent_seekOrder_46 n k l1 l2 l4 l5 l6 σ = some w → sm σ w.2 g u := by
  intro k
  induction k with
  | zero => intro l1 l2 l4 l5 l6 σ hF; exact no_s hF
  | succ k ih =>
    intro l1 l2 l4 l5 l6 σ hF
    rw [F_Tent_seekOrder_46] at hF
    rcases ite_v hF with hF | hF
    · exact f_Tent_seekOrder_151 n w g u hg _ _ _ _ hF
    · rcases ite_v hF with hF | hF
      · obtain ⟨σ11, h1, hF⟩ := bind_v hF
        refine sm.tr (fr_Camp_takeBags n _ _ _ _ _ σ11 h1 g u (by omega)) ?_
        exact f_Tent_seekOrder_93 n w g u hg (F_Tent_seekOrder_46 n k) ih _ _ _ _ _ _ hF
      · obtain ⟨σ6, h1, hF⟩ := bind_v hF
        refine sm.tr (fr_Camp_layBy n _ _ _ _ σ6 h1 g u (by omega)) ?_
        exact f_Tent_seekOrder_93 n w g u hg (F_Tent_seekOrder_46 n k) ih _ _ _ _ _ _ hF
theorem fr_Tent_seekOrder (n : Nat) (a1 : Int32) (a2 : Int32) (σ : St) (w : (Int32 × St)) (hF : F_Tent_seekOrder n a1 a2 σ = some w) (g u : Nat) (hg : ¬ (((2 ≤ g ∧ g ≤ 3) ∧ u = 0) ∨ ((18 ≤ g ∧ g ≤ 19) ∧ u = 0) ∨ ((4 ≤ g ∧ g ≤ 12) ∧ u = 4))) : sm σ w.2 g u := by
  rw [F_Tent_seekOrder] at hF
  obtain ⟨v1, -, hF⟩ := bind_v hF
  rcases ite_v hF with hF | hF
  · obtain ⟨σ2, h1, hF⟩ := bind_v hF
    refine sm.tr (fr_Camp_takePresent _ _ _ σ2 h1 g u (by omega)) ?_
    obtain ⟨σ3, h1, hF⟩ := bind_v hF
    refine sm.tr (fr_Orders_begin n _ _ σ3 h1 g u (by omega)) ?_
    exact f_Tent_seekOrder_46 n w g u hg n _ _ _ _ _ _ hF
  · exact sm_ri hF
theorem fr_Tent_best (n : Nat) (a1 : Int32) (σ : St) (w : (Int32 × St)) (hF : F_Tent_best n a1 σ = some w) (g u : Nat) (hg : ¬ (((2 ≤ g ∧ g ≤ 3) ∧ u = 0) ∨ ((18 ≤ g ∧ g ≤ 19) ∧ u = 0) ∨ ((4 ≤ g ∧ g ≤ 12) ∧ u = 4))) : sm σ w.2 g u := by
  rw [F_Tent_best] at hF
  obtain ⟨v1, σ2, h1, hF⟩ := b2_v hF
  refine sm.tr (fr_Tent_seekOrder n _ _ _ (v1, σ2) h1 g u (by omega)) ?_
  exact sm_ri hF
theorem fr_Tent_fair (n : Nat) (a1 : Int32) (σ : St) (w : (Int32 × St)) (hF : F_Tent_fair n a1 σ = some w) (g u : Nat) (hg : ¬ (((2 ≤ g ∧ g ≤ 3) ∧ u = 0) ∨ ((18 ≤ g ∧ g ≤ 19) ∧ u = 0) ∨ ((4 ≤ g ∧ g ≤ 12) ∧ u = 4))) : sm σ w.2 g u := by
  rw [F_Tent_fair] at hF
  obtain ⟨v1, σ2, h1, hF⟩ := b2_v hF
  refine sm.tr (fr_Tent_seekOrder n _ _ _ (v1, σ2) h1 g u (by omega)) ?_
  exact sm_ri hF
theorem f_Camp_noteCalm_2 (n : Nat) (t : Nat) (w : St) (g u : Nat) (hg : ¬ ((g = 13 ∧ u = t))) : ∀ (k : Nat) (l1 : Int32) (σ : St), F_Camp_noteCalm_2 n t k l1 σ = some w → sm σ w g u := by
  intro k
  induction k with
  | zero => intro l1 σ hF; exact no_s hF
  | succ k ih =>
    intro l1 σ hF
    rw [F_Camp_noteCalm_2] at hF
    rcases ite_v hF with hF | hF
    · exact sm_rv hF
    · obtain ⟨v1, -, hF⟩ := bind_v hF
      obtain ⟨σ2, h1, hF⟩ := bind_v hF
      refine sm.tr (sm_ast h1 (by omega)) ?_
      exact ih _ _ hF
theorem fr_Camp_noteCalm (n : Nat) (t : Nat) (σ : St) (w : St) (hF : F_Camp_noteCalm n t σ = some w) (g u : Nat) (hg : ¬ ((g = 13 ∧ u = t))) : sm σ w g u := by
  rw [F_Camp_noteCalm] at hF
  exact f_Camp_noteCalm_2 n t w g u hg n _ _ hF
theorem f_Tent_turning_72 (n : Nat) (w : (Int32 × St)) (g u : Nat) (hg : ¬ ((g = 0 ∧ u = 0) ∨ ((4 ≤ g ∧ g ≤ 13) ∧ u = 4))) (K37 : Int32 → Int32 → Int32 → St → Option (Int32 × St)) (hK37 : ∀ (l1 : Int32) (l2 : Int32) (l3 : Int32) (σ : St), K37 l1 l2 l3 σ = some w → sm σ w.2 g u) (l1 : Int32) (l2 : Int32) (l3 : Int32) (σ : St) (hF : F_Tent_turning_72 n K37 l1 l2 l3 σ = some w) : sm σ w.2 g u := by
  rw [F_Tent_turning_72] at hF
  exact hK37 _ _ _ _ hF
theorem f_Tent_turning_37 (n : Nat) (w : (Int32 × St)) (g u : Nat) (hg : ¬ ((g = 0 ∧ u = 0) ∨ ((4 ≤ g ∧ g ≤ 13) ∧ u = 4))) : ∀ (k : Nat) (l1 : Int32) (l2 : Int32) (l3 : Int32) (σ : St), F_Tent_turning_37 n k l1 l2 l3 σ = some w → sm σ w.2 g u := by
  intro k
  induction k with
  | zero => intro l1 l2 l3 σ hF; exact no_s hF
  | succ k ih =>
    intro l1 l2 l3 σ hF
    rw [F_Tent_turning_37] at hF
    rcases ite_v hF with hF | hF
    · obtain ⟨σ3, h1, hF⟩ := bs_v hF
      refine sm.tr (sm_si h1 (by omega)) ?_
      exact sm_ri hF
    · obtain ⟨σ4, h1, hF⟩ := bs_v hF
      refine sm.tr (sm_si h1 (by omega)) ?_
      obtain ⟨v5, -, hF⟩ := bind_v hF
      exact f_Tent_turning_72 n w g u hg (F_Tent_turning_37 n k) ih _ _ _ _ hF
theorem fr_Tent_turning (n : Nat) (σ : St) (w : (Int32 × St)) (hF : F_Tent_turning n σ = some w) (g u : Nat) (hg : ¬ ((g = 0 ∧ u = 0) ∨ ((4 ≤ g ∧ g ≤ 13) ∧ u = 4))) : sm σ w.2 g u := by
  rw [F_Tent_turning] at hF
  rcases ite_v hF with hF | hF
  · exact sm_ri hF
  · obtain ⟨σ1, h1, hF⟩ := bind_v hF
    refine sm.tr (fr_Camp_takePresent _ _ _ σ1 h1 g u (by omega)) ?_
    obtain ⟨σ2, h1, hF⟩ := bind_v hF
    refine sm.tr (fr_Camp_noteCalm n _ _ σ2 h1 g u (by omega)) ?_
    exact f_Tent_turning_37 n w g u hg n _ _ _ _ hF
theorem f_Tent_warm_69 (n : Nat) (w : (Int32 × St)) (g u : Nat) (hg : ¬ ((g = 0 ∧ u = 0) ∨ ((4 ≤ g ∧ g ≤ 12) ∧ u = 4))) (K30 : Int32 → Int32 → Int32 → St → Option (Int32 × St)) (hK30 : ∀ (l1 : Int32) (l2 : Int32) (l3 : Int32) (σ : St), K30 l1 l2 l3 σ = some w → sm σ w.2 g u) (l1 : Int32) (l2 : Int32) (l3 : Int32) (σ : St) (hF : F_Tent_warm_69 n K30 l1 l2 l3 σ = some w) : sm σ w.2 g u := by
  rw [F_Tent_warm_69] at hF
  exact hK30 _ _ _ _ hF
theorem f_Tent_warm_30 (n : Nat) (w : (Int32 × St)) (g u : Nat) (hg : ¬ ((g = 0 ∧ u = 0) ∨ ((4 ≤ g ∧ g ≤ 12) ∧ u = 4))) : ∀ (k : Nat) (l1 : Int32) (l2 : Int32) (l3 : Int32) (σ : St), F_Tent_warm_30 n k l1 l2 l3 σ = some w → sm σ w.2 g u := by
  intro k
  induction k with
  | zero => intro l1 l2 l3 σ hF; exact no_s hF
  | succ k ih =>
    intro l1 l2 l3 σ hF
    rw [F_Tent_warm_30] at hF
    rcases ite_v hF with hF | hF
    · obtain ⟨σ2, h1, hF⟩ := bs_v hF
      refine sm.tr (sm_si h1 (by omega)) ?_
      exact sm_ri hF
    · obtain ⟨σ3, h1, hF⟩ := bs_v hF
      refine sm.tr (sm_si h1 (by omega)) ?_
      obtain ⟨v4, -, hF⟩ := bind_v hF
      exact f_Tent_warm_69 n w g u hg (F_Tent_warm_30 n k) ih _ _ _ _ hF
theorem fr_Tent_warm (n : Nat) (σ : St) (w : (Int32 × St)) (hF : F_Tent_warm n σ = some w) (g u : Nat) (hg : ¬ ((g = 0 ∧ u = 0) ∨ ((4 ≤ g ∧ g ≤ 12) ∧ u = 4))) : sm σ w.2 g u := by
  rw [F_Tent_warm] at hF
  rcases ite_v hF with hF | hF
  · exact sm_ri hF
  · obtain ⟨σ1, h1, hF⟩ := bind_v hF
    refine sm.tr (fr_Camp_takePresent _ _ _ σ1 h1 g u (by omega)) ?_
    exact f_Tent_warm_30 n w g u hg n _ _ _ _ hF
theorem fr_Tent_thin (n : Nat) (a1 : Int32) (σ : St) (w : (Int32 × St)) (hF : F_Tent_thin n a1 σ = some w) (g u : Nat) (hg : ¬ (((2 ≤ g ∧ g ≤ 3) ∧ u = 0) ∨ ((18 ≤ g ∧ g ≤ 19) ∧ u = 0) ∨ ((4 ≤ g ∧ g ≤ 12) ∧ u = 4))) : sm σ w.2 g u := by
  rw [F_Tent_thin] at hF
  obtain ⟨v1, σ2, h1, hF⟩ := b2_v hF
  refine sm.tr (fr_Tent_seekOrder n _ _ _ (v1, σ2) h1 g u (by omega)) ?_
  exact sm_ri hF
theorem fr_Plan_begin (n : Nat) (a1 : Int32) (σ : St) (w : St) (hF : F_Plan_begin n a1 σ = some w) (g u : Nat) (hg : ¬ ((g = 20 ∧ u = 0) ∨ (g = 23 ∧ u = 0))) : sm σ w g u := by
  rw [F_Plan_begin] at hF
  obtain ⟨σ1, h1, hF⟩ := bs_v hF
  refine sm.tr (sm_si h1 (by omega)) ?_
  obtain ⟨σ2, h1, hF⟩ := bs_v hF
  refine sm.tr (sm_si h1 (by omega)) ?_
  obtain ⟨σ3, h1, hF⟩ := bind_v hF
  refine sm.tr (fr_Arrays_fill2 n _ _ _ _ σ3 h1 g u (by omega)) ?_
  exact sm_rv hF
theorem f_Plan_chooseFrom_64 (n : Nat) (dp : Nat) (FR : Int32 → Int32 → Int32 → St → Option St) (w : St) (g u : Nat) (hg : ¬ ((g = 20 ∧ u = 0) ∨ ((24 ≤ g ∧ g ≤ 26) ∧ u = 0))) (hFR : ∀ (a1 : Int32) (a2 : Int32) (a3 : Int32) (σ : St) (w : St), FR a1 a2 a3 σ = some w → sm σ w g u) (K52 : Int32 → Int32 → Int32 → Int32 → St → Option St) (hK52 : ∀ (l2 : Int32) (l3 : Int32) (l5 : Int32) (l6 : Int32) (σ : St), K52 l2 l3 l5 l6 σ = some w → sm σ w g u) : ∀ (k : Nat) (l2 : Int32) (l3 : Int32) (l5 : Int32) (l6 : Int32) (l7 : Int32) (σ : St), F_Plan_chooseFrom_64 n dp FR K52 k l2 l3 l5 l6 l7 σ = some w → sm σ w g u := by
  intro k
  induction k with
  | zero => intro l2 l3 l5 l6 l7 σ hF; exact no_s hF
  | succ k ih =>
    intro l2 l3 l5 l6 l7 σ hF
    rw [F_Plan_chooseFrom_64] at hF
    rcases ite_v hF with hF | hF
    · obtain ⟨σ2, h1, hF⟩ := bind_v hF
      refine sm.tr (sm_ast h1 (by omega)) ?_
      obtain ⟨σ3, h1, hF⟩ := bind_v hF
      refine sm.tr (hFR _ _ _ _ _ h1) ?_
      exact hK52 _ _ _ _ _ hF
    · obtain ⟨v4, -, hF⟩ := bind_v hF
      obtain ⟨v5, -, hF⟩ := bind_v hF
      obtain ⟨σ6, h1, hF⟩ := bind_v hF
      refine sm.tr (sm_ast h1 (by omega)) ?_
      exact ih _ _ _ _ _ _ hF
theorem f_Plan_chooseFrom_52 (n : Nat) (dp : Nat) (FR : Int32 → Int32 → Int32 → St → Option St) (w : St) (g u : Nat) (hg : ¬ ((g = 20 ∧ u = 0) ∨ ((24 ≤ g ∧ g ≤ 26) ∧ u = 0))) (hFR : ∀ (a1 : Int32) (a2 : Int32) (a3 : Int32) (σ : St) (w : St), FR a1 a2 a3 σ = some w → sm σ w g u) : ∀ (k : Nat) (l2 : Int32) (l3 : Int32) (l5 : Int32) (l6 : Int32) (σ : St), F_Plan_chooseFrom_52 n dp FR k l2 l3 l5 l6 σ = some w → sm σ w g u := by
  intro k
  induction k with
  | zero => intro l2 l3 l5 l6 σ hF; exact no_s hF
  | succ k ih =>
    intro l2 l3 l5 l6 σ hF
    rw [F_Plan_chooseFrom_52] at hF
    rcases ite_v hF with hF | hF
    · exact sm_rv hF
    · exact f_Plan_chooseFrom_64 n dp FR w g u hg hFR (F_Plan_chooseFrom_52 n dp FR k) ih n _ _ _ _ _ _ hF
theorem fr_Plan_chooseFrom_b (n : Nat) (dp : Nat) (FR : Int32 → Int32 → Int32 → St → Option St) (a1 : Int32) (a2 : Int32) (a3 : Int32) (σ : St) (w : St) (hF : F_Plan_chooseFrom_b n dp FR a1 a2 a3 σ = some w) (g u : Nat) (hg : ¬ ((g = 20 ∧ u = 0) ∨ ((24 ≤ g ∧ g ≤ 26) ∧ u = 0))) (hFR : ∀ (a1 : Int32) (a2 : Int32) (a3 : Int32) (σ : St) (w : St), FR a1 a2 a3 σ = some w → sm σ w g u) : sm σ w g u := by
  rw [F_Plan_chooseFrom_b] at hF
  obtain ⟨v1, -, hF⟩ := bind_v hF
  rcases ite_v hF with hF | hF
  · rcases ite_v hF with hF | hF
    · exact f_Plan_chooseFrom_52 n dp FR w g u hg hFR n _ _ _ _ _ hF
    · obtain ⟨σ7, h1, hF⟩ := bs_v hF
      refine sm.tr (sm_si h1 (by omega)) ?_
      obtain ⟨σ8, h1, hF⟩ := bind_v hF
      refine sm.tr (sm_acp h1 (by omega)) ?_
      exact sm_rv hF
  · exact sm_rv hF
theorem fr_Plan_chooseFrom (n : Nat) : ∀ (dp : Nat) (a1 : Int32) (a2 : Int32) (a3 : Int32) (σ : St) (w : St), F_Plan_chooseFrom n dp a1 a2 a3 σ = some w → ∀ g u : Nat, ¬ ((g = 20 ∧ u = 0) ∨ ((24 ≤ g ∧ g ≤ 26) ∧ u = 0)) → sm σ w g u := by
  intro dp
  induction dp with
  | zero => intro a1 a2 a3 σ w hF; exact no_s hF
  | succ dp ih =>
    intro a1 a2 a3 σ w hF g u hg
    exact fr_Plan_chooseFrom_b n dp (F_Plan_chooseFrom n dp) a1 a2 a3 σ w hF g u hg (fun a1 a2 a3 σ w h => ih a1 a2 a3 σ w h g u hg)
theorem fr_Plan_choose (n : Nat) (a1 : Int32) (σ : St) (w : (Int32 × St)) (hF : F_Plan_choose n a1 σ = some w) (g u : Nat) (hg : ¬ ((g = 20 ∧ u = 0) ∨ ((24 ≤ g ∧ g ≤ 26) ∧ u = 0))) : sm σ w.2 g u := by
  rw [F_Plan_choose] at hF
  obtain ⟨σ1, h1, hF⟩ := bs_v hF
  refine sm.tr (sm_si h1 (by omega)) ?_
  obtain ⟨σ2, h1, hF⟩ := bind_v hF
  refine sm.tr (fr_Arrays_fill2 n _ _ _ _ σ2 h1 g u (by omega)) ?_
  obtain ⟨σ3, h1, hF⟩ := bind_v hF
  refine sm.tr (fr_Plan_chooseFrom n 4 _ _ _ _ σ3 h1 g u (by omega)) ?_
  exact sm_ri hF
theorem f_Plan_offer_12 (n : Nat) (t2 : Nat) (w : St) (g u : Nat) (hg : ¬ (((20 ≤ g ∧ g ≤ 23) ∧ u = 0))) : ∀ (k : Nat) (l1 : Int32) (l3 : Int32) (σ : St), F_Plan_offer_12 n t2 k l1 l3 σ = some w → sm σ w g u := by
  intro k
  induction k with
  | zero => intro l1 l3 σ hF; exact no_s hF
  | succ k ih =>
    intro l1 l3 σ hF
    rw [F_Plan_offer_12] at hF
    rcases ite_v hF with hF | hF
    · obtain ⟨v1, -, hF⟩ := bind_v hF
      rcases ite_v hF with hF | hF
      · obtain ⟨σ2, h1, hF⟩ := bind_v hF
        refine sm.tr (sm_ast h1 (by omega)) ?_
        obtain ⟨σ3, h1, hF⟩ := bs_v hF
        refine sm.tr (sm_si h1 (by omega)) ?_
        exact sm_rv hF
      · exact sm_rv hF
    · obtain ⟨v4, -, hF⟩ := bind_v hF
      obtain ⟨σ5, h1, hF⟩ := bind_v hF
      refine sm.tr (sm_ast h1 (by omega)) ?_
      obtain ⟨v6, -, hF⟩ := bind_v hF
      obtain ⟨σ7, h1, hF⟩ := bind_v hF
      refine sm.tr (sm_ast h1 (by omega)) ?_
      exact ih _ _ _ hF
theorem fr_Plan_offer (n : Nat) (t2 : Nat) (a1 : Int32) (σ : St) (w : St) (hF : F_Plan_offer n t2 a1 σ = some w) (g u : Nat) (hg : ¬ (((20 ≤ g ∧ g ≤ 23) ∧ u = 0))) : sm σ w g u := by
  rw [F_Plan_offer] at hF
  rcases ite_v hF with hF | hF
  · exact f_Plan_offer_12 n t2 w g u hg n _ _ _ hF
  · exact sm_rv hF
theorem f_Plan_writeTo_10 (n : Nat) (t1 : Nat) (w : St) (g u : Nat) (hg : ¬ (((2 ≤ g ∧ g ≤ 3) ∧ u = t1))) : ∀ (k : Nat) (l2 : Int32) (l3 : Int32) (l4 : Int32) (σ : St), F_Plan_writeTo_10 n t1 k l2 l3 l4 σ = some w → sm σ w g u := by
  intro k
  induction k with
  | zero => intro l2 l3 l4 σ hF; exact no_s hF
  | succ k ih =>
    intro l2 l3 l4 σ hF
    rw [F_Plan_writeTo_10] at hF
    rcases ite_v hF with hF | hF
    · exact sm_rv hF
    · rcases ite_v hF with hF | hF
      · exact sm_rv hF
      · obtain ⟨v2, -, hF⟩ := bind_v hF
        obtain ⟨v3, -, hF⟩ := bind_v hF
        obtain ⟨σ4, h1, hF⟩ := bind_v hF
        refine sm.tr (fr_Shelf_set _ _ _ _ _ σ4 h1 g u (by omega)) ?_
        exact ih _ _ _ _ hF
theorem fr_Plan_writeTo (n : Nat) (t1 : Nat) (a2 : Int32) (a3 : Int32) (σ : St) (w : St) (hF : F_Plan_writeTo n t1 a2 a3 σ = some w) (g u : Nat) (hg : ¬ (((2 ≤ g ∧ g ≤ 3) ∧ u = t1))) : sm σ w g u := by
  rw [F_Plan_writeTo] at hF
  obtain ⟨σ1, h1, hF⟩ := bind_v hF
  refine sm.tr (fr_Shelf_make n _ _ _ _ _ σ1 h1 g u (by omega)) ?_
  exact f_Plan_writeTo_10 n t1 w g u hg n _ _ _ _ hF
theorem f_Tent_nights_119 (n : Nat) (w : (Int32 × St)) (g u : Nat) (hg : ¬ (((2 ≤ g ∧ g ≤ 3) ∧ u = 0) ∨ ((18 ≤ g ∧ g ≤ 26) ∧ u = 0) ∨ ((4 ≤ g ∧ g ≤ 12) ∧ u = 4))) (l1 : Int32) (l2 : Int32) (σ : St) (hF : F_Tent_nights_119 n l1 l2 σ = some w) : sm σ w.2 g u := by
  rw [F_Tent_nights_119] at hF
  obtain ⟨v5, σ6, h1, hF⟩ := b2_v hF
  refine sm.tr (fr_Plan_choose n _ _ (v5, σ6) h1 g u (by omega)) ?_
  obtain ⟨σ7, h1, hF⟩ := bind_v hF
  refine sm.tr (fr_Plan_writeTo n _ _ _ _ σ7 h1 g u (by omega)) ?_
  exact sm_ri hF
theorem f_Tent_nights_66 (n : Nat) (w : (Int32 × St)) (g u : Nat) (hg : ¬ (((2 ≤ g ∧ g ≤ 3) ∧ u = 0) ∨ ((18 ≤ g ∧ g ≤ 26) ∧ u = 0) ∨ ((4 ≤ g ∧ g ≤ 12) ∧ u = 4))) : ∀ (k : Nat) (l1 : Int32) (l2 : Int32) (l4 : Int32) (σ : St), F_Tent_nights_66 n k l1 l2 l4 σ = some w → sm σ w.2 g u := by
  intro k
  induction k with
  | zero => intro l1 l2 l4 σ hF; exact no_s hF
  | succ k ih =>
    intro l1 l2 l4 σ hF
    rw [F_Tent_nights_66] at hF
    rcases ite_v hF with hF | hF
    · exact f_Tent_nights_119 n w g u hg _ _ _ hF
    · obtain ⟨σ8, h1, hF⟩ := bind_v hF
      refine sm.tr (fr_Camp_layBy n _ _ _ _ σ8 h1 g u (by omega)) ?_
      obtain ⟨σ9, h1, hF⟩ := bind_v hF
      refine sm.tr (fr_Plan_offer n _ _ _ σ9 h1 g u (by omega)) ?_
      obtain ⟨v10, σ11, h1, hF⟩ := b2_v hF
      refine sm.tr (fr_Orders_advance n _ (v10, σ11) h1 g u (by omega)) ?_
      rcases ite_v hF with hF | hF
      · exact f_Tent_nights_119 n w g u hg _ _ _ hF
      · exact ih _ _ _ _ hF
theorem fr_Tent_nights (n : Nat) (a1 : Int32) (a2 : Int32) (σ : St) (w : (Int32 × St)) (hF : F_Tent_nights n a1 a2 σ = some w) (g u : Nat) (hg : ¬ (((2 ≤ g ∧ g ≤ 3) ∧ u = 0) ∨ ((18 ≤ g ∧ g ≤ 26) ∧ u = 0) ∨ ((4 ≤ g ∧ g ≤ 12) ∧ u = 4))) : sm σ w.2 g u := by
  rw [F_Tent_nights] at hF
  rcases ite_v hF with hF | hF
  · exact sm_ri hF
  · rcases ite_v hF with hF | hF
    · obtain ⟨v1, -, hF⟩ := bind_v hF
      rcases ite_v hF with hF | hF
      · obtain ⟨σ2, h1, hF⟩ := bind_v hF
        refine sm.tr (fr_Camp_takePresent _ _ _ σ2 h1 g u (by omega)) ?_
        obtain ⟨σ3, h1, hF⟩ := bind_v hF
        refine sm.tr (fr_Plan_begin n _ _ σ3 h1 g u (by omega)) ?_
        obtain ⟨σ4, h1, hF⟩ := bind_v hF
        refine sm.tr (fr_Orders_begin n _ _ σ4 h1 g u (by omega)) ?_
        exact f_Tent_nights_66 n w g u hg n _ _ _ _ hF
      · exact sm_ri hF
    · exact sm_ri hF
theorem fr_Tent_nth (n : Nat) (a1 : Int32) (a2 : Int32) (σ : St) (w : (Int32 × St)) (hF : F_Tent_nth n a1 a2 σ = some w) (g u : Nat) (hg : ¬ ((g = 0 ∧ u = 0) ∨ ((2 ≤ g ∧ g ≤ 3) ∧ u = 0) ∨ ((18 ≤ g ∧ g ≤ 19) ∧ u = 0) ∨ (g = 27 ∧ u = 0))) : sm σ w.2 g u := by
  rw [F_Tent_nth] at hF
  rcases ite_v hF with hF | hF
  · obtain ⟨v1, -, hF⟩ := bind_v hF
    rcases ite_v hF with hF | hF
    · obtain ⟨v2, -, hF⟩ := bind_v hF
      rcases ite_v hF with hF | hF
      · obtain ⟨σ3, h1, hF⟩ := bind_v hF
        refine sm.tr (fr_Orders_goTo n _ _ _ σ3 h1 g u (by omega)) ?_
        obtain ⟨σ4, h1, hF⟩ := bind_v hF
        refine sm.tr (fr_Orders_writeTo n _ _ _ σ4 h1 g u (by omega)) ?_
        exact sm_ri hF
      · obtain ⟨v5, σ6, h1, hF⟩ := b2_v hF
        refine sm.tr (fr_Tent_found _ _ (v5, σ6) h1 g u (by omega)) ?_
        exact sm_ri hF
    · exact sm_ri hF
  · exact sm_ri hF
theorem f_Tent_out_62 (n : Nat) (w : (Int32 × St)) (g u : Nat) (hg : ¬ ((g = 0 ∧ u = 0))) (K17 : Int32 → Int32 → Int32 → St → Option (Int32 × St)) (hK17 : ∀ (l1 : Int32) (l2 : Int32) (l3 : Int32) (σ : St), K17 l1 l2 l3 σ = some w → sm σ w.2 g u) (l1 : Int32) (l2 : Int32) (l3 : Int32) (σ : St) (hF : F_Tent_out_62 n K17 l1 l2 l3 σ = some w) : sm σ w.2 g u := by
  rw [F_Tent_out_62] at hF
  exact hK17 _ _ _ _ hF
theorem f_Tent_out_17 (n : Nat) (w : (Int32 × St)) (g u : Nat) (hg : ¬ ((g = 0 ∧ u = 0))) : ∀ (k : Nat) (l1 : Int32) (l2 : Int32) (l3 : Int32) (σ : St), F_Tent_out_17 n k l1 l2 l3 σ = some w → sm σ w.2 g u := by
  intro k
  induction k with
  | zero => intro l1 l2 l3 σ hF; exact no_s hF
  | succ k ih =>
    intro l1 l2 l3 σ hF
    rw [F_Tent_out_17] at hF
    obtain ⟨v2, -, hF⟩ := bind_v hF
    rcases ite_v hF with hF | hF
    · obtain ⟨σ3, h1, hF⟩ := bs_v hF
      refine sm.tr (sm_si h1 (by omega)) ?_
      obtain ⟨v4, -, hF⟩ := bind_v hF
      exact sm_ri hF
    · obtain ⟨v5, -, hF⟩ := bind_v hF
      obtain ⟨v6, -, hF⟩ := bind_v hF
      exact f_Tent_out_62 n w g u hg (F_Tent_out_17 n k) ih _ _ _ _ hF
theorem fr_Tent_out (n : Nat) (a1 : Int32) (σ : St) (w : (Int32 × St)) (hF : F_Tent_out n a1 σ = some w) (g u : Nat) (hg : ¬ ((g = 0 ∧ u = 0))) : sm σ w.2 g u := by
  rw [F_Tent_out] at hF
  obtain ⟨v1, -, hF⟩ := bind_v hF
  rcases ite_v hF with hF | hF
  · exact sm_ri hF
  · exact f_Tent_out_17 n w g u hg n _ _ _ _ hF
theorem f_Tent_whose_60 (n : Nat) (w : (Int32 × St)) (g u : Nat) (hg : ¬ ((g = 0 ∧ u = 0) ∨ (g = 27 ∧ u = 0))) (K14 : Int32 → Int32 → St → Option (Int32 × St)) (hK14 : ∀ (l1 : Int32) (l3 : Int32) (σ : St), K14 l1 l3 σ = some w → sm σ w.2 g u) (l1 : Int32) (l3 : Int32) (σ : St) (hF : F_Tent_whose_60 n K14 l1 l3 σ = some w) : sm σ w.2 g u := by
  rw [F_Tent_whose_60] at hF
  exact hK14 _ _ _ hF
theorem f_Tent_whose_14 (n : Nat) (w : (Int32 × St)) (g u : Nat) (hg : ¬ ((g = 0 ∧ u = 0) ∨ (g = 27 ∧ u = 0))) : ∀ (k : Nat) (l1 : Int32) (l3 : Int32) (σ : St), F_Tent_whose_14 n k l1 l3 σ = some w → sm σ w.2 g u := by
  intro k
  induction k with
  | zero => intro l1 l3 σ hF; exact no_s hF
  | succ k ih =>
    intro l1 l3 σ hF
    rw [F_Tent_whose_14] at hF
    rcases ite_v hF with hF | hF
    · obtain ⟨v3, -, hF⟩ := bind_v hF
      obtain ⟨v4, -, hF⟩ := bind_v hF
      obtain ⟨σ5, h1, hF⟩ := bs_v hF
      refine sm.tr (sm_si h1 (by omega)) ?_
      obtain ⟨v6, -, hF⟩ := bind_v hF
      obtain ⟨v7, -, hF⟩ := bind_v hF
      exact sm_ri hF
    · obtain ⟨v8, -, hF⟩ := bind_v hF
      rcases ite_v hF with hF | hF
      · exact f_Tent_whose_60 n w g u hg (F_Tent_whose_14 n k) ih _ _ _ hF
      · rcases ite_v hF with hF | hF
        · exact f_Tent_whose_60 n w g u hg (F_Tent_whose_14 n k) ih _ _ _ hF
        · rcases ite_v hF with hF | hF
          · exact f_Tent_whose_60 n w g u hg (F_Tent_whose_14 n k) ih _ _ _ hF
          · obtain ⟨v9, σ10, h1, hF⟩ := b2_v hF
            refine sm.tr (fr_Tent_found _ _ (v9, σ10) h1 g u (by omega)) ?_
            exact sm_ri hF
theorem fr_Tent_whose (n : Nat) (a1 : Int32) (σ : St) (w : (Int32 × St)) (hF : F_Tent_whose n a1 σ = some w) (g u : Nat) (hg : ¬ ((g = 0 ∧ u = 0) ∨ (g = 27 ∧ u = 0))) : sm σ w.2 g u := by
  rw [F_Tent_whose] at hF
  obtain ⟨v1, σ2, h1, hF⟩ := b2_v hF
  refine sm.tr (fr_Tent_refuseRowForPlaces _ _ (v1, σ2) h1 g u (by omega)) ?_
  rcases ite_v hF with hF | hF
  · exact f_Tent_whose_14 n w g u hg n _ _ _ hF
  · exact sm_ri hF
theorem f_Tent_kinds_65 (n : Nat) (w : (Int32 × St)) (g u : Nat) (hg : ¬ (((4 ≤ g ∧ g ≤ 12) ∧ u = 4))) (K29 : Int32 → Int32 → Int32 → Int32 → St → Option (Int32 × St)) (hK29 : ∀ (l1 : Int32) (l2 : Int32) (l3 : Int32) (l4 : Int32) (σ : St), K29 l1 l2 l3 l4 σ = some w → sm σ w.2 g u) (l1 : Int32) (l2 : Int32) (l3 : Int32) (l4 : Int32) (σ : St) (hF : F_Tent_kinds_65 n K29 l1 l2 l3 l4 σ = some w) : sm σ w.2 g u := by
  rw [F_Tent_kinds_65] at hF
  exact hK29 _ _ _ _ _ hF
theorem f_Tent_kinds_29 (n : Nat) (w : (Int32 × St)) (g u : Nat) (hg : ¬ (((4 ≤ g ∧ g ≤ 12) ∧ u = 4))) : ∀ (k : Nat) (l1 : Int32) (l2 : Int32) (l3 : Int32) (l4 : Int32) (σ : St), F_Tent_kinds_29 n k l1 l2 l3 l4 σ = some w → sm σ w.2 g u := by
  intro k
  induction k with
  | zero => intro l1 l2 l3 l4 σ hF; exact no_s hF
  | succ k ih =>
    intro l1 l2 l3 l4 σ hF
    rw [F_Tent_kinds_29] at hF
    rcases ite_v hF with hF | hF
    · exact sm_ri hF
    · obtain ⟨σ3, h1, hF⟩ := bind_v hF
      refine sm.tr (sm_ast h1 (by omega)) ?_
      obtain ⟨v4, -, hF⟩ := bind_v hF
      exact f_Tent_kinds_65 n w g u hg (F_Tent_kinds_29 n k) ih _ _ _ _ _ hF
theorem fr_Tent_kinds (n : Nat) (a1 : Int32) (a2 : Int32) (σ : St) (w : (Int32 × St)) (hF : F_Tent_kinds n a1 a2 σ = some w) (g u : Nat) (hg : ¬ (((4 ≤ g ∧ g ≤ 12) ∧ u = 4))) : sm σ w.2 g u := by
  rw [F_Tent_kinds] at hF
  obtain ⟨v1, -, hF⟩ := bind_v hF
  rcases ite_v hF with hF | hF
  · exact sm_ri hF
  · obtain ⟨σ2, h1, hF⟩ := bind_v hF
    refine sm.tr (fr_Camp_takePresent _ _ _ σ2 h1 g u (by omega)) ?_
    exact f_Tent_kinds_29 n w g u hg n _ _ _ _ _ hF
theorem f_Tent_tellPower_40 (n : Nat) (w : St) (g u : Nat) (hg : ¬ ((g = 0 ∧ u = 0))) : ∀ (k : Nat) (l1 : Int32) (l2 : Int32) (l3 : Int32) (l4 : Int32) (σ : St), F_Tent_tellPower_40 n k l1 l2 l3 l4 σ = some w → sm σ w g u := by
  intro k
  induction k with
  | zero => intro l1 l2 l3 l4 σ hF; exact no_s hF
  | succ k ih =>
    intro l1 l2 l3 l4 σ hF
    rw [F_Tent_tellPower_40] at hF
    rcases ite_v hF with hF | hF
    · exact sm_rv hF
    · obtain ⟨v3, -, hF⟩ := bind_v hF
      obtain ⟨σ4, h1, hF⟩ := bs_v hF
      refine sm.tr (sm_sl h1 (by omega)) ?_
      obtain ⟨v5, -, hF⟩ := bind_v hF
      obtain ⟨σ6, h1, hF⟩ := bs_v hF
      refine sm.tr (sm_sl h1 (by omega)) ?_
      exact ih _ _ _ _ _ hF
theorem f_Tent_tellPower_27 (n : Nat) (w : St) (g u : Nat) (hg : ¬ ((g = 0 ∧ u = 0))) (l1 : Int32) (l2 : Int32) (l3 : Int32) (σ : St) (hF : F_Tent_tellPower_27 n l1 l2 l3 σ = some w) : sm σ w g u := by
  rw [F_Tent_tellPower_27] at hF
  obtain ⟨σ1, h1, hF⟩ := bs_v hF
  refine sm.tr (sm_sl h1 (by omega)) ?_
  obtain ⟨σ2, h1, hF⟩ := bs_v hF
  refine sm.tr (sm_sl h1 (by omega)) ?_
  exact f_Tent_tellPower_40 n w g u hg n _ _ _ _ _ hF
theorem f_Tent_tellPower_21 (n : Nat) (w : St) (g u : Nat) (hg : ¬ ((g = 0 ∧ u = 0))) (K3 : Int32 → Int32 → Int32 → St → Option St) (hK3 : ∀ (l1 : Int32) (l2 : Int32) (l3 : Int32) (σ : St), K3 l1 l2 l3 σ = some w → sm σ w g u) (l1 : Int32) (l2 : Int32) (l3 : Int32) (σ : St) (hF : F_Tent_tellPower_21 n K3 l1 l2 l3 σ = some w) : sm σ w g u := by
  rw [F_Tent_tellPower_21] at hF
  exact hK3 _ _ _ _ hF
theorem f_Tent_tellPower_3 (n : Nat) (w : St) (g u : Nat) (hg : ¬ ((g = 0 ∧ u = 0))) : ∀ (k : Nat) (l1 : Int32) (l2 : Int32) (l3 : Int32) (σ : St), F_Tent_tellPower_3 n k l1 l2 l3 σ = some w → sm σ w g u := by
  intro k
  induction k with
  | zero => intro l1 l2 l3 σ hF; exact no_s hF
  | succ k ih =>
    intro l1 l2 l3 σ hF
    rw [F_Tent_tellPower_3] at hF
    rcases ite_v hF with hF | hF
    · exact f_Tent_tellPower_27 n w g u hg _ _ _ _ hF
    · obtain ⟨v7, -, hF⟩ := bind_v hF
      rcases ite_v hF with hF | hF
      · obtain ⟨v8, -, hF⟩ := bind_v hF
        rcases ite_v hF with hF | hF
        · exact f_Tent_tellPower_27 n w g u hg _ _ _ _ hF
        · exact f_Tent_tellPower_21 n w g u hg (F_Tent_tellPower_3 n k) ih _ _ _ _ hF
      · exact f_Tent_tellPower_21 n w g u hg (F_Tent_tellPower_3 n k) ih _ _ _ _ hF
theorem fr_Tent_tellPower (n : Nat) (a1 : Int32) (a2 : Int32) (σ : St) (w : St) (hF : F_Tent_tellPower n a1 a2 σ = some w) (g u : Nat) (hg : ¬ ((g = 0 ∧ u = 0))) : sm σ w g u := by
  rw [F_Tent_tellPower] at hF
  exact f_Tent_tellPower_3 n w g u hg n _ _ _ _ hF
theorem fr_Tent_odds (n : Nat) (a1 : Int32) (a2 : Int32) (a3 : Int32) (σ : St) (w : (Int32 × St)) (hF : F_Tent_odds n a1 a2 a3 σ = some w) (g u : Nat) (hg : ¬ ((g = 0 ∧ u = 0))) : sm σ w.2 g u := by
  rw [F_Tent_odds] at hF
  obtain ⟨v1, -, hF⟩ := bind_v hF
  rcases ite_v hF with hF | hF
  · exact sm_ri hF
  · obtain ⟨v2, -, hF⟩ := bind_v hF
    rcases ite_v hF with hF | hF
    · exact sm_ri hF
    · rcases ite_v hF with hF | hF
      · exact sm_ri hF
      · rcases ite_v hF with hF | hF
        · obtain ⟨v3, -, hF⟩ := bind_v hF
          rcases ite_v hF with hF | hF
          · obtain ⟨v4, -, hF⟩ := bind_v hF
            obtain ⟨σ5, h1, hF⟩ := bind_v hF
            refine sm.tr (fr_Tent_tellPower n _ _ _ σ5 h1 g u (by omega)) ?_
            exact sm_ri hF
          · obtain ⟨σ6, h1, hF⟩ := bind_v hF
            refine sm.tr (fr_Tent_tellPower n _ _ _ σ6 h1 g u (by omega)) ?_
            exact sm_ri hF
        · exact sm_ri hF
theorem f_Orders_draw_25 (n : Nat) (w : St) (g u : Nat) (hg : ¬ (((18 ≤ g ∧ g ≤ 19) ∧ u = 0))) : ∀ (k : Nat) (l3 : Int32) (l4 : Int64) (l6 : Int32) (σ : St), F_Orders_draw_25 n k l3 l4 l6 σ = some w → sm σ w g u := by
  intro k
  induction k with
  | zero => intro l3 l4 l6 σ hF; exact no_s hF
  | succ k ih =>
    intro l3 l4 l6 σ hF
    rw [F_Orders_draw_25] at hF
    rcases ite_v hF with hF | hF
    · exact sm_rv hF
    · obtain ⟨v2, -, hF⟩ := bind_v hF
      obtain ⟨v3, -, hF⟩ := bind_v hF
      obtain ⟨v4, -, hF⟩ := bind_v hF
      obtain ⟨σ5, h1, hF⟩ := bind_v hF
      refine sm.tr (sm_ast h1 (by omega)) ?_
      obtain ⟨v6, -, hF⟩ := bind_v hF
      exact ih _ _ _ _ hF
theorem fr_Orders_draw (n : Nat) (a1 : Int32) (a2 : Int32) (σ : St) (w : St) (hF : F_Orders_draw n a1 a2 σ = some w) (g u : Nat) (hg : ¬ (((18 ≤ g ∧ g ≤ 19) ∧ u = 0))) : sm σ w g u := by
  rw [F_Orders_draw] at hF
  obtain ⟨σ1, h1, hF⟩ := bs_v hF
  refine sm.tr (sm_si h1 (by omega)) ?_
  exact f_Orders_draw_25 n w g u hg n _ _ _ _ hF
