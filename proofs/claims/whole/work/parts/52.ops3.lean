theorem Tnt.all {σ : St} {V : Vw} (h : Tnt σ) (hc : CV 0 V σ) : StatR 0 (vN V) σ ∧ CampR 0 0 (vN V) σ ∧ ∀ k, k < 3 → KeptR k (vN V) σ := by
  obtain ⟨N, hN, h1, h2, h3, -, h5⟩ := h
  have e : N = vN V := by
    have e1 : nI N = nI (vN V) := h3.1.symm.trans hc.2.1
    have := hc.1.1
    simp (disch := omega) only [nI_eq] at e1
    exact e1
  subst e
  exact ⟨h2, h3, h5⟩
theorem note_eq {n t : Nat} {V : Vw} {σ : St} (h : CV t V σ) (hn : 10 < n) : ∃ w, F_Camp_noteCalm n t σ = some w ∧ (∀ g u, ¬ (g = 13 ∧ u = t) → w.1 g u = σ.1 g u) ∧ w.2 = σ.2 ∧ ∀ j, j < vN V → w.1 13 t j = nI (calmB V j) := by
  have hN := h.1.1
  unfold F_Camp_noteCalm
  refine loop_inv (fun q i (_ : Unit) s => F_Camp_noteCalm_2 n t q (nI i) s) (vN V) (fun _ => ()) (fun i s => (∀ g u, ¬ (g = 13 ∧ u = t) → s.1 g u = σ.1 g u) ∧ s.2 = σ.2 ∧ ∀ j, j < i → s.1 13 t j = nI (calmB V j)) (fun w => (∀ g u, ¬ (g = 13 ∧ u = t) → w.1 g u = σ.1 g u) ∧ w.2 = σ.2 ∧ ∀ j, j < vN V → w.1 13 t j = nI (calmB V j)) (fun q s hs => ?_) (fun q i s hi hs => ?_) n 0 σ (by omega) (by omega) ⟨fun _ _ _ => rfl, rfl, fun j hj => by omega⟩
  · refine ⟨s, ?_, hs⟩
    rw [F_Camp_noteCalm_2, hs.1 4 t (by omega), h.2.1, if_pos (by simp (disch := omega) only [nI_leI]; omega)]
  · have hs' : CV t V s := h.cg (fun g a b => hs.1 g t (by omega))
    refine ⟨si s 13 t i (nI (calmB V i)), ?_, fun g u a => by rw [si_ne a]; exact hs.1 g u a, by rw [si_2]; exact hs.2.1, fun j hj => ?_⟩
    · rw [F_Camp_noteCalm_2, hs'.2.1, if_neg (by simp (disch := omega) only [nI_leI]; omega), cv_calm hs' hi hn]
      simp only [obind, b2_some, bs_eq]
      rw [ast_13 (by omega)]
      simp only [obind, b2_some, bs_eq, nI_1]
    · rw [si_g]
      by_cases e : j = i
      · rw [if_pos ⟨⟨rfl, rfl⟩, e⟩, e]
      · rw [if_neg (fun z => e z.2)]
        exact hs.2.2 j (by omega)
theorem calm_eq {n t : Nat} {V : Vw} {σ : St} (h : CV t V σ) (h13 : ∀ j, j < vN V → σ.1 13 t j = nI (calmB V j)) (hn : 10 < n) : F_Camp_sleptOfCalm n t σ = some (nI (worthV V)) := by
  have hN := h.1.1
  have hT := h.1.2.2.2.2.2.1
  obtain ⟨B, hB, hs, hb⟩ := soS_ok (vT V) hT
  unfold F_Camp_sleptOfCalm
  rw [sore_eq h.2.2.2.2.2.2 hn, hs]
  simp only [obind, b2_some, bs_eq]
  refine loop_gen (fun q i (s : Nat) => F_Camp_sleptOfCalm_9 n t q (nI B) (nI s) (nI i) σ) (vN V) (fun i => sumf (sleptV V) i) _ (fun q => ?_) (fun q i hi => ?_) n 0 (by omega) (by omega)
  · rw [F_Camp_sleptOfCalm_9, h.2.1, if_pos (by simp (disch := omega) only [nI_leI]; omega)]; rfl
  · obtain ⟨C, hC, hw, hc⟩ := woken_mask V i hT
    rw [F_Camp_sleptOfCalm_9, h.2.1, if_neg (by simp (disch := omega) only [nI_leI]; omega), ald_13 (by omega), h13 i hi, cv_woken h hi, hw]
    simp only [obind, b2_some, bs_eq]
    rw [slept_bits hB hC hb hc]
    simp only [obind, b2_some, bs_eq, nI_1, nI_add]
    rfl
theorem op_turning {n : Nat} {σ : St} (hn : 2000 ≤ n) (h : RR σ) : ∃ r σ1 σ2, F_Tent_turning n σ = some (r, σ1) ∧ F_Mod_turning n σ1 = some (r, σ2) ∧ RR σ2 := by
  obtain ⟨V, hc, hm⟩ := h.2.2.2.view
  have hN := hc.1.1
  have h1 := hc.2.1
  have m1 := hm.2.1
  have hn' : 10 < n := by omega
  unfold F_Tent_turning
  by_cases g : vN V = 0
  · exact ⟨-4, σ, σ, by rw [h1, if_pos (by rw [g]; rfl)], by rw [F_Mod_turning, m1, if_pos (by rw [g]; rfl)], h⟩
  · have g0 : ¬ nI (vN V) = 0 := by rw [nI_z (by omega)]; exact g
    obtain ⟨K, k1, k2, k3, k4⟩ := note_eq (hc.take (t := 4) (by decide)) hn'
    have hK : CV 4 V K := (hc.take (t := 4) (by decide)).cg (fun g a b => k2 g 4 (by omega))
    have sK : SC σ K := (SC.rf σ).tk.tr ⟨fun g u a => k2 g u (by unfold keepG at a; omega), k3⟩
    generalize hf : (fun T => worthV (setT V T)) = f
    obtain ⟨M, hM⟩ : ∃ M, M = 256 := ⟨_, rfl⟩
    have hfv : ∀ i, worthV (setT V i) = f i := fun i => congrFun hf i
    obtain ⟨w, e1, e2, e3⟩ : ∃ w, (F_Tent_turning_37 n n (mxS f 0).1 (mxS f 0).2 (nI 0) K) = some w ∧ w.1 = (mxS f M).2 ∧ CW σ w.2 (mxS f M).1 := by
      refine loop_inv (fun q i (b : Int32 × Int32) s => F_Tent_turning_37 n q b.1 b.2 (nI i) s) M (mxS f) (fun _ s => SC σ s ∧ (∀ g, 5 ≤ g → g ≤ 13 → s.1 g 4 = K.1 g 4) ∧ ∀ j, j ≠ 13 → s.1 4 4 j = K.1 4 4 j) (fun w => w.1 = (mxS f M).2 ∧ CW σ w.2 (mxS f M).1) (fun q s hs => ?_) (fun q i s hi hs => ?_) n 0 K (by omega) (by omega) ⟨sK, fun _ _ _ => rfl, fun _ _ => rfl⟩
      · refine ⟨((mxS f M).2, si s 0 0 10 (mxS f M).1), ?_, rfl, hs.1.cw _⟩
        rw [F_Tent_turning_37, if_pos (by rw [show (256 : Int32) = nI M by rw [hM]; rfl]; simp (disch := omega) only [nI_leI]; omega)]
        rfl
      · have hs' : CV 4 (setT V i) (si s 4 4 13 (nI i)) := hK.setT (by omega) (fun g a b => by rw [si_ne (by omega)]; exact hs.2.1 g a (by omega)) (fun j => by
          rw [si_g]
          by_cases e : j = 13
          · rw [if_pos ⟨⟨rfl, rfl⟩, e⟩, if_pos e]
          · rw [if_neg (fun z => e z.2), if_neg e]; exact hs.2.2 j e)
        refine ⟨si s 4 4 13 (nI i), ?_, hs.1.si (by unfold keepG; omega), fun g a b => by rw [si_ne (by omega)]; exact hs.2.1 g a b, fun j a => by rw [si_g, if_neg (fun z => a z.2)]; exact hs.2.2 j a⟩
        rw [F_Tent_turning_37, if_neg (by rw [show (256 : Int32) = nI M by rw [hM]; rfl]; simp (disch := omega) only [nI_leI]; omega)]
        simp only [obind, b2_some, bs_eq]
        rw [calm_eq hs' (fun j hj => by rw [si_ne (by omega), hs.2.1 13 (by omega) (by omega)]; exact k4 j hj) hn', hfv]
        simp only [obind, b2_some, bs_eq, F_Tent_turning_72, nI_1, mx1 f i, mx2 f i]
    obtain ⟨w1, w2⟩ := w
    simp only at e2 e3
    have hm' := hm.cw e3
    have hL := hm'.ly
    obtain ⟨y, f1, f2, f3⟩ : ∃ y, (F_Mod_turning_20 n n (mxS f 0).2 (mxS f 0).1 (nI 0) (lay w2)) = some y ∧ y.1 = (mxS f M).2 ∧ MR w2 y.2 (mxS f M).1 := by
      refine loop_inv (fun q i (b : Int32 × Int32) s => F_Mod_turning_20 n q b.2 b.1 (nI i) s) M (mxS f) (fun _ s => MR w2 s (w2.1 30 0 9) ∧ (∀ g, (31 ≤ g ∧ g ≤ 34) ∨ g = 42 ∨ g = 43 → s.1 g 0 = (lay w2).1 g 0) ∧ ∀ j, j ≠ 22 → s.1 30 0 j = (lay w2).1 30 0 j) (fun y => y.1 = (mxS f M).2 ∧ MR w2 y.2 (mxS f M).1) (fun q s hs => ?_) (fun q i s hi hs => ?_) n 0 (lay w2) (by omega) (by omega) ⟨MR.ly w2, fun _ _ => rfl, fun _ _ => rfl⟩
      · refine ⟨((mxS f M).2, si s 30 0 9 (mxS f M).1), ?_, rfl, hs.1.st⟩
        rw [F_Mod_turning_20, if_pos (by rw [show (256 : Int32) = nI M by rw [hM]; rfl]; simp (disch := omega) only [nI_leI]; omega)]
        rfl
      · have hs' : MW (setT V i) (si s 30 0 22 (nI i)) := hL.setT (by omega) (fun g a => by rw [si_ne (by omega)]; exact hs.2.1 g a) (fun j a => by
          rw [si_g]
          by_cases e : j = 22
          · rw [if_pos ⟨⟨rfl, rfl⟩, e⟩, if_pos e]
          · rw [if_neg (fun z => e z.2), if_neg e]; exact hs.2.2 j e)
        refine ⟨si s 30 0 22 (nI i), ?_, hs.1.s0 (by omega), fun g a => by rw [si_ne (by omega)]; exact hs.2.1 g a, fun j a => by rw [si_g, if_neg (fun z => a z.2)]; exact hs.2.2 j a⟩
        rw [F_Mod_turning_20, if_neg (by rw [show (256 : Int32) = nI M by rw [hM]; rfl]; simp (disch := omega) only [nI_leI]; omega)]
        simp only [obind, b2_some, bs_eq]
        rw [mw_worth hs' hn', hfv]
        simp only [obind, b2_some, bs_eq, F_Mod_turning_49, F_Mod_turning_62, nI_1, mx1 f i, mx2 f i]
    obtain ⟨y1, y2⟩ := y
    simp only at f2 f3
    refine ⟨w1, w2, y2, ?_, ?_, h.both e3 f3⟩
    · rw [h1, if_neg g0, take_eq]
      simp only [obind, b2_some, bs_eq]
      rw [k1]
      exact e1
    · unfold F_Mod_turning
      rw [hm'.2.1, if_neg g0, layNow_eq hn', e2, ← f2]
      exact f1
theorem CV.setK {t : Nat} {V : Vw} {σ s : St} (h : CV t V σ) {i : Nat} {k gv : Int32} (hi : i < vN V) (h1 : ∀ g, 4 ≤ g → g ≤ 10 → g ≠ 6 → g ≠ 7 → s.1 g t = σ.1 g t) (h2 : ∀ j, j < vN V → s.1 6 t j = if j = i then k else σ.1 6 t j) (h3 : ∀ j, j < vN V → s.1 7 t j = if j = i then gv else σ.1 7 t j) : CV t (setK V i k gv) s := by
  obtain ⟨hw, c1, c2, c3, c4, c5, c6⟩ := h
  obtain ⟨w1, w2, w3, w4, w5, w6, w7⟩ := hw
  have e4 : s.1 4 t = σ.1 4 t := h1 4 (by omega) (by omega) (by omega) (by omega)
  refine ⟨⟨w1, w2, w3, w4, w5, w6, fun j hj => ?_⟩, by rw [e4]; exact c1, fun j hj => ?_, fun k hk => by rw [h1 5 (by omega) (by omega) (by omega) (by omega)]; exact c3 k hk, by rw [e4]; exact c4, by rw [e4]; exact c5, by rw [e4]; exact c6⟩
  · show up (vR V) i (kR k) j ≤ 2
    unfold up
    split
    · exact kR_le k
    · exact w7 j hj
  · obtain ⟨a1, a2, a3, a4, a5, a6, a7⟩ := c2 j hj
    rw [h2 j hj, h3 j hj, h1 8 (by omega) (by omega) (by omega) (by omega), h1 9 (by omega) (by omega) (by omega) (by omega), h1 10 (by omega) (by omega) (by omega) (by omega)]
    refine ⟨?_, ?_, ?_, ?_, a5, a6, a7⟩
    · show up (vG V) i (kG k gv) j = _
      unfold up
      split
      · rfl
      · exact a1
    · show up (vR V) i (kR k) j = _
      unfold up
      split
      · rfl
      · exact a2
    · show up (vD V) i (kD k) j = _
      unfold up
      split
      · rfl
      · exact a3
    · show up (vS V) i (kS k) j = _
      unfold up
      split
      · rfl
      · exact a4
theorem MW.setK {V : Vw} {σ s : St} (h : MW V σ) {i : Nat} {k : Int32} (hi : i < vN V) (h24 : σ.1 30 0 24 = -9) (h25 : σ.1 30 0 25 = -9) (h1 : ∀ g, (31 ≤ g ∧ g ≤ 34) ∨ g = 42 ∨ g = 43 → s.1 g 0 = σ.1 g 0) (h2 : ∀ j, j = 1 ∨ (22 ≤ j ∧ j ≤ 24) → s.1 30 0 j = σ.1 30 0 j) (h3 : s.1 30 0 25 = nI i) (h4 : s.1 30 0 26 = k) : MW (setK V i k (σ.1 33 0 i)) s := by
  obtain ⟨hw, c1, c2, c3, c4, c5, c6⟩ := h
  obtain ⟨w1, w2, w3, w4, w5, w6, w7⟩ := hw
  refine ⟨⟨w1, w2, w3, w4, w5, w6, fun j hj => ?_⟩, by rw [h2 1 (by omega)]; exact c1, fun j hj => ?_, fun k hk => by rw [h1 34 (by omega)]; exact c3 k hk, by rw [h1 31 (by omega)]; exact c4, by rw [h2 23 (by omega)]; exact c5, by rw [h2 22 (by omega)]; exact c6⟩
  · show up (vR V) i (kR k) j ≤ 2
    unfold up
    split
    · exact kR_le k
    · exact w7 j hj
  · have hj' : j < vN V := hj
    obtain ⟨a1, a2, a3, a4, a5, a6⟩ := c2 j hj
    have k1 : kd s j = if j = i then k else kd σ j := by
      unfold kd
      rw [h3, h4, h1 32 (by omega), h25, if_neg (nI_n9 (show j < 2 ^ 31 by omega))]
      simp (disch := omega) only [nI_eq]
    rw [h24, if_neg (nI_n9 (show j < 2 ^ 31 by omega))] at a1 a2
    rw [h2 24 (by omega), h24, if_neg (nI_n9 (show j < 2 ^ 31 by omega)), if_neg (nI_n9 (show j < 2 ^ 31 by omega)), k1, h1 33 (by omega), h1 43 (by omega), h1 42 (by omega)]
    refine ⟨?_, ?_, ?_, ?_, a5, a6⟩
    · show up (vG V) i (kG k (σ.1 33 0 i)) j = _
      unfold up
      by_cases e : j = i
      · rw [if_pos e, if_pos e, e]
      · rw [if_neg e, if_neg e]; exact a1
    · show up (vR V) i (kR k) j = _
      unfold up
      split
      · rfl
      · exact a2
    · show up (vD V) i (kD k) j = _
      unfold up
      split
      · rfl
      · exact a3
    · show up (vS V) i (kS k) j = _
      unfold up
      split
      · rfl
      · exact a4
theorem MW.setF {V : Vw} {σ s : St} (h : MW V σ) {i : Nat} (hi : i < vN V) (h24 : σ.1 30 0 24 = -9) (h1 : ∀ g, (31 ≤ g ∧ g ≤ 34) ∨ g = 42 ∨ g = 43 → s.1 g 0 = σ.1 g 0) (h2 : ∀ j, j = 1 ∨ (22 ≤ j ∧ j ≤ 26) → j ≠ 24 → s.1 30 0 j = σ.1 30 0 j) (h3 : s.1 30 0 24 = nI i) : MW (setF V i) s := by
  obtain ⟨hw, c1, c2, c3, c4, c5, c6⟩ := h
  obtain ⟨w1, w2, w3, w4, w5, w6, w7⟩ := hw
  refine ⟨⟨w1, w2, w3, w4, w5, w6, fun j hj => ?_⟩, by rw [h2 1 (by omega) (by omega)]; exact c1, fun j hj => ?_, fun k hk => by rw [h1 34 (by omega)]; exact c3 k hk, by rw [h1 31 (by omega)]; exact c4, by rw [h2 23 (by omega) (by omega)]; exact c5, by rw [h2 22 (by omega) (by omega)]; exact c6⟩
  · show up (vR V) i 0 j ≤ 2
    unfold up
    split
    · omega
    · exact w7 j hj
  · have hj' : j < vN V := hj
    obtain ⟨a1, a2, a3, a4, a5, a6⟩ := c2 j hj
    have k1 : kd s j = kd σ j := by
      unfold kd
      rw [h2 25 (by omega) (by omega), h2 26 (by omega) (by omega), h1 32 (by omega)]
    rw [h24, if_neg (nI_n9 (show j < 2 ^ 31 by omega))] at a1 a2
    rw [h3, k1, h1 33 (by omega), h1 43 (by omega), h1 42 (by omega)]
    refine ⟨?_, ?_, a3, a4, a5, a6⟩
    · show up (vG V) i 0 j = _
      unfold up
      simp (disch := omega) only [nI_eq]
      by_cases e : j = i
      · rw [if_pos e, if_pos e]
      · rw [if_neg e, if_neg e]; exact a1
    · show up (vR V) i 0 j = _
      unfold up
      simp (disch := omega) only [nI_eq]
      by_cases e : j = i
      · rw [if_pos e, if_pos e]
      · rw [if_neg e, if_neg e]; exact a2
theorem sum_but {f g : Nat → Nat} {i : Nat} (h : ∀ j, j ≠ i → f j = g j) : ∀ k, sumf f k + (if i < k then g i else 0) = sumf g k + (if i < k then f i else 0)
  | 0 => rfl
  | k + 1 => by
    have ih := sum_but h k
    simp only [sumf]
    by_cases e : k = i
    · subst e
      rw [if_neg (by omega), if_neg (by omega)] at ih
      rw [if_pos (by omega), if_pos (by omega)]
      omega
    · rw [h k e]
      by_cases e2 : i < k
      · rw [if_pos e2, if_pos e2] at ih
        rw [if_pos (by omega), if_pos (by omega)]
        omega
      · rw [if_neg e2, if_neg e2] at ih
        rw [if_neg (by omega), if_neg (by omega)]
        omega
theorem others_eq {V : Vw} {i : Nat} (hi : i < vN V) (hw : wfV V) : nI (worthV (setK V i 0 0)) - nI (sleptV (setK V i 0 0) i) = nI (worthV (setF V i)) - nI (sleptV (setF V i) i) := by
  have hs : ∀ j, j ≠ i → sleptV (setK V i 0 0) j = sleptV (setF V i) j := by
    intro j hj
    unfold sleptV
    refine cnt_cong (fun k _ => ?_)
    have e1 : feel (setK V i 0 0) j k = feel (setF V i) j k := rfl
    have e2 : nearB (setK V i 0 0) j = nearB (setF V i) j := rfl
    have e3 : vD (setK V i 0 0) j = vD (setF V i) j := by
      show up (vD V) i (kD 0) j = vD V j
      unfold up
      rw [if_neg hj]
    have e4 : vS (setK V i 0 0) j = vS (setF V i) j := by
      show up (vS V) i (kS 0) j = vS V j
      unfold up
      rw [if_neg hj]
    unfold slp hearsV wokenB
    rw [e1, e2, e3, e4]
    rfl
  have key := sum_but hs (vN V)
  rw [if_pos hi, if_pos hi] at key
  have k2 : nI (worthV (setK V i 0 0)) + nI (sleptV (setF V i) i) = nI (worthV (setF V i)) + nI (sleptV (setK V i 0 0) i) := by
    rw [nI_add, nI_add]
    exact congrArg nI key
  have k3 : ∀ a b c d : Int32, a + d = b + c → a - c = b - d := by
    intro a b c d h
    have e1 : a = b + c - d := by rw [← h, Int32.add_sub_cancel]
    rw [e1]
    simp only [Int32.sub_eq_add_neg]
    rw [Int32.add_assoc, Int32.add_assoc, Int32.add_comm (-d) (-c), ← Int32.add_assoc c, Int32.add_right_neg, Int32.zero_add]
  exact k3 _ _ _ _ k2
theorem op_good {n : Nat} {σ : St} (a1 : Int32) (hn : 2000 ≤ n) (h : RR σ) : ∃ r σ1 σ2, F_Tent_good n a1 σ = some (r, σ1) ∧ F_Mod_good n a1 σ1 = some (r, σ2) ∧ RR σ2 := by
  obtain ⟨V, hc, hm⟩ := h.2.2.2.view
  have hN := hc.1.1
  have h1 := hc.2.1
  have m1 := hm.2.1
  have hn' : 10 < n := by omega
  unfold F_Tent_good F_Mod_good
  rcases ix_of (vN V) (by omega) a1 with g | ⟨i, hi, rfl⟩
  · exact ⟨-1, σ, σ, by simp only [isSl_out h1 g, obind, b2_some, bs_eq, if_true], by simp only [mSl_out m1 hN g, obind, b2_some, bs_eq, if_true], h⟩
  · have hK : CV 4 V (tkP 4 0 σ) := hc.take (by decide)
    have s0 : SC σ (si (si (tkP 4 0 σ) 6 4 i 0) 7 4 i 0) := ((SC.rf σ).tk.si (by unfold keepG; omega)).si (by unfold keepG; omega)
    have c0 : CV 0 V (si (si (tkP 4 0 σ) 6 4 i 0) 7 4 i 0) := hc.cg (fun g a b => s0.1 g 0 (by unfold keepG; omega))
    have c4 : CV 4 (setK V i 0 0) (si (si (tkP 4 0 σ) 6 4 i 0) 7 4 i 0) := hK.setK hi (fun g a b c d => by rw [si_ne (by omega), si_ne (by omega)]) (fun j hj => by
        rw [si_ne (by omega), si_g]
        by_cases e : j = i
        · rw [if_pos ⟨⟨rfl, rfl⟩, e⟩, if_pos e]
        · rw [if_neg (fun z => e z.2), if_neg e]) (fun j hj => by
        rw [si_g, si_ne (by omega)]
        by_cases e : j = i
        · rw [if_pos ⟨⟨rfl, rfl⟩, e⟩, if_pos e]
        · rw [if_neg (fun z => e z.2), if_neg e])
    generalize hv : (nI (worthV V) - nI (sleptV V i)) - (nI (worthV (setF V i)) - nI (sleptV (setF V i) i)) = v
    have e3 := s0.cw v
    have hm' := hm.cw e3
    have hL := hm'.ly
    generalize hw2 : (si (si (si (tkP 4 0 σ) 6 4 i 0) 7 4 i 0) 0 0 10 v) = w2 at e3 hm' hL
    have hF : MW (setF V i) (si (lay w2) 30 0 24 (nI i)) := hL.setF hi (by rw [lay_30 (by decide) (by decide)]; exact hm'.2.2.2.2.2.2.2.1) (fun g a => si_ne (by omega)) (fun j a b => by rw [si_g, if_neg (fun z => b z.2)]) (by rw [si_g, if_pos (by omega)])
    refine ⟨1, w2, si (si (si (lay w2) 30 0 24 (nI i)) 30 0 24 (-9)) 30 0 9 v, ?_, ?_, h.both e3 ?_⟩
    · rw [isSl_in h1 hN hi, take_eq]
      simp only [obind, b2_some, bs_eq, if_neg one_ne]
      rw [ast_6 (by omega)]
      simp only [obind, b2_some, bs_eq]
      rw [ast_7 (by omega)]
      simp only [obind, b2_some, bs_eq, F_Camp_sleptByOthers, cv_worth c0 hn', cv_slept c0 hi hn', cv_worth c4 hn', cv_slept c4 (i := i) hi hn', others_eq hi hc.1, hv, hw2]
    · rw [mSl_in hm'.2.1 hN hi, layNow_eq hn']
      simp only [obind, b2_some, bs_eq, if_neg one_ne, mw_worth hL hn', mw_slept hL hi hn', mw_worth hF hn', mw_slept hF (i := i) hi hn', hv, tell_eq]
    · refine (MR.tr (MR.ly w2) (v' := w2.1 30 0 9) ?_).st
      refine ⟨fun g u a => by rw [si_ne (by unfold keepG at a; omega), si_ne (by unfold keepG at a; omega)], rfl, ?_, fun j a => ?_⟩
      · rw [si_g, if_neg (by omega), si_g, if_neg (by omega), lay_30 (by decide) (by decide)]
      · rw [si_g]
        by_cases e : j = 24
        · rw [if_pos (by omega), e, lay_30 (by decide) (by decide), hm'.2.2.2.2.2.2.2.1]
        · rw [if_neg (by omega), si_g, if_neg (by omega)]
theorem op_kinds {n : Nat} {σ : St} (a1 a2 : Int32) (hn : 2000 ≤ n) (h : RR σ) : ∃ r σ1 σ2, F_Tent_kinds n a1 a2 σ = some (r, σ1) ∧ F_Mod_kinds n a1 a2 σ1 = some (r, σ2) ∧ RR σ2 := by
  obtain ⟨V, hc, hm⟩ := h.2.2.2.view
  obtain ⟨st, -, -⟩ := h.2.2.2.all hc
  have hN := hc.1.1
  have h1 := hc.2.1
  have m1 := hm.2.1
  have hn' : 10 < n := by omega
  unfold F_Tent_kinds
  rcases ix_of (vN V) (by omega) a1 with g | ⟨i, hi, rfl⟩
  · exact ⟨-1, σ, σ, by simp only [isSl_out h1 g, obind, b2_some, bs_eq, if_true], by simp only [F_Mod_kinds, mSl_out m1 hN g, obind, b2_some, bs_eq, if_true], h⟩
  · have hK : CV 4 V (tkP 4 0 σ) := hc.take (by decide)
    have k7 : (tkP 4 0 σ).1 7 4 i = σ.1 7 0 i := tkP_g (by decide) (by omega) (by omega) (by omega)
    generalize hc' : (fun k : Nat => decide (nI (worthV (setK V i (nI k) (σ.1 7 0 i))) = a2)) = c
    have hcv : ∀ k : Nat, (nI (worthV (setK V i (nI k) (σ.1 7 0 i))) = a2) ↔ c k = true := fun k => by rw [← hc']; simp
    obtain ⟨w, e1, e2, e3⟩ : ∃ w, (F_Tent_kinds_29 n n (nI i) a2 (nI (msk c 0)) (nI 0) (tkP 4 0 σ)) = some w ∧ w.1 = nI (msk c 6) ∧ SC σ w.2 := by
      refine loop_inv (fun q k (b : Nat) s => F_Tent_kinds_29 n q (nI i) a2 (nI b) (nI k) s) 6 (msk c) (fun _ s => SC σ s ∧ (∀ g, 4 ≤ g → g ≤ 10 → g ≠ 6 → s.1 g 4 = (tkP 4 0 σ).1 g 4) ∧ ∀ j, j ≠ i → s.1 6 4 j = (tkP 4 0 σ).1 6 4 j) (fun w => w.1 = nI (msk c 6) ∧ SC σ w.2) (fun q s hs => ?_) (fun q k s hk hs => ?_) n 0 (tkP 4 0 σ) (by omega) (by omega) ⟨(SC.rf σ).tk, fun _ _ _ _ => rfl, fun _ _ => rfl⟩
      · refine ⟨(nI (msk c 6), s), ?_, rfl, hs.1⟩
        rw [F_Tent_kinds_29, if_pos (by decide)]
      · have hs' : CV 4 (setK V i (nI k) (σ.1 7 0 i)) (si s 6 4 i (nI k)) := hK.setK hi (fun g a b c d => by rw [si_ne (by omega)]; exact hs.2.1 g a b c) (fun j hj => by
          rw [si_g]
          by_cases e : j = i
          · rw [if_pos ⟨⟨rfl, rfl⟩, e⟩, if_pos e]
          · rw [if_neg (fun z => e z.2), if_neg e]; exact hs.2.2 j e) (fun j hj => by
          rw [si_ne (by omega), hs.2.1 7 (by omega) (by omega) (by omega)]
          by_cases e : j = i
          · rw [if_pos e, e, k7]
          · rw [if_neg e])
        refine ⟨si s 6 4 i (nI k), ?_, hs.1.si (by unfold keepG; omega), fun g a b c => by rw [si_ne (by omega)]; exact hs.2.1 g a b c, fun j a => by rw [si_g, if_neg (fun z => a z.2)]; exact hs.2.2 j a⟩
        rw [F_Tent_kinds_29, if_neg (by rw [show (6 : Int32) = nI 6 from rfl]; simp (disch := omega) only [nI_leI]; omega), ast_6 (by omega)]
        simp only [obind, b2_some, bs_eq]
        rw [cv_worth hs' hn']
        simp only [obind, b2_some, bs_eq, F_Tent_kinds_65, nI_1, hcv]
        rw [← msk_step c (h := k) (by omega)]
        congr 1
        split
        · rfl
        · rw [bit_or0]
    obtain ⟨w1, w2⟩ := w
    simp only at e2 e3
    have hm' := hm.cw e3.cw0
    have hL := hm'.ly
    have l24 : (lay w2).1 30 0 24 = -9 := by rw [lay_30 (by decide) (by decide)]; exact hm'.2.2.2.2.2.2.2.1
    have l25 : (lay w2).1 30 0 25 = -9 := by rw [lay_30 (by decide) (by decide)]; exact hm'.2.2.2.2.2.2.2.2
    have l33 : (lay w2).1 33 0 i = σ.1 7 0 i := by rw [lay_ne (by omega) (by omega) (by omega), e3.1 33 0 (by omega)]; exact (st.1 i hi).2
    have t9 : w2.1 30 0 9 = σ.1 0 0 10 := by rw [e3.1 30 0 (by omega)]; exact h.2.2.1.1
    obtain ⟨y, f1, f2, f3⟩ : ∃ y, (F_Mod_kinds_24 n n a2 (nI (msk c 0)) (nI 0) (si (lay w2) 30 0 25 (nI i))) = some y ∧ y.1 = nI (msk c 6) ∧ MR w2 y.2 (w2.1 30 0 9) := by
      refine loop_inv (fun q k (b : Nat) s => F_Mod_kinds_24 n q a2 (nI b) (nI k) s) 6 (msk c) (fun _ s => (∀ g u, ¬ (g = 30 ∧ u = 0) → s.1 g u = (lay w2).1 g u) ∧ s.2 = (lay w2).2 ∧ (∀ j, j ≠ 25 → j ≠ 26 → s.1 30 0 j = (lay w2).1 30 0 j) ∧ s.1 30 0 25 = nI i) (fun y => y.1 = nI (msk c 6) ∧ MR w2 y.2 (w2.1 30 0 9)) (fun q s hs => ?_) (fun q k s hk hs => ?_) n 0 _ (by omega) (by omega) ⟨fun g u a => si_ne a, si_2 _ _ _ _ _, fun j a b => by rw [si_g, if_neg (fun z => a z.2)], by rw [si_g, if_pos (by omega)]⟩
      · refine ⟨(nI (msk c 6), si s 30 0 25 (-9)), ?_, rfl, ?_⟩
        · rw [F_Mod_kinds_24, if_pos (by decide)]
          rfl
        · refine (MR.ly w2).tr ⟨fun g u a => by rw [si_ne (by unfold keepG at a; omega)]; exact hs.1 g u (by unfold keepG at a; omega), by rw [si_2]; exact hs.2.1, by rw [si_g, if_neg (by omega), hs.2.2.1 9 (by omega) (by omega), lay_30 (by decide) (by decide)], fun j a => ?_⟩
          rw [si_g]
          by_cases e : j = 25
          · rw [if_pos (by omega), e, l25]
          · rw [if_neg (by omega)]; exact hs.2.2.1 j e (by omega)
      · have hs' : MW (setK V i (nI k) (σ.1 7 0 i)) (si s 30 0 26 (nI k)) := by
          have := hL.setK (s := si s 30 0 26 (nI k)) (k := nI k) hi l24 l25 (fun g a => by rw [si_ne (by omega)]; exact hs.1 g 0 (by omega)) (fun j a => by rw [si_g, if_neg (by omega)]; exact hs.2.2.1 j (by omega) (by omega)) (by rw [si_g, if_neg (by omega)]; exact hs.2.2.2) (by rw [si_g, if_pos (by omega)])
          rw [l33] at this
          exact this
        refine ⟨si s 30 0 26 (nI k), ?_, fun g u a => by rw [si_ne a]; exact hs.1 g u a, by rw [si_2]; exact hs.2.1, fun j a b => by rw [si_g, if_neg (fun z => b z.2)]; exact hs.2.2.1 j a b, by rw [si_g, if_neg (by omega)]; exact hs.2.2.2⟩
        rw [F_Mod_kinds_24, if_neg (by rw [show (6 : Int32) = nI 6 from rfl]; simp (disch := omega) only [nI_leI]; omega)]
        simp only [obind, b2_some, bs_eq]
        rw [mw_worth hs' hn']
        simp only [obind, b2_some, bs_eq, F_Mod_kinds_54, nI_1, hcv]
        rw [msk_step c (h := k) (by omega)]
    obtain ⟨y1, y2⟩ := y
    simp only at f2 f3
    rw [t9] at f3
    refine ⟨w1, w2, y2, ?_, ?_, h.both e3.cw0 f3⟩
    · rw [isSl_in h1 hN hi, take_eq]
      simp only [obind, b2_some, bs_eq, if_neg one_ne]
      exact e1
    · unfold F_Mod_kinds
      rw [mSl_in hm'.2.1 hN hi, layNow_eq hn', e2, ← f2]
      simp only [obind, b2_some, bs_eq, if_neg one_ne]
      exact f1
