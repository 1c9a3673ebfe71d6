-- THE REFERENCE under the view
theorem n9_neg : (-9 : Int32) < 0 := by decide
theorem nI_n9 {k : Nat} (h : k < 2 ^ 31) : ¬ nI k = -9 := fun e => by
  have := (i32_eq _ _).mp e
  rw [nI_toInt h, n9_eq] at this
  omega
theorem mw_kind {σ : St} {i : Nat} (hi : i < 5) : F_Mod_kindOf (nI i) σ = some (kd σ i) := by
  unfold F_Mod_kindOf kd
  rw [ald_32 hi]
  split <;> rfl
section MOD
variable {n : Nat} {V : Vw} {σ : St}
theorem mw_gives (h : MW V σ) {i : Nat} (hi : i < vN V) : F_Mod_givesOf (nI i) σ = some (vG V i) := by
  obtain ⟨hw, h1, h2, -⟩ := h
  have hN := hw.1
  obtain ⟨e1, -⟩ := h2 i hi
  unfold F_Mod_givesOf
  rw [mw_kind (by omega), ald_33 (by omega), e1]
  simp only [obind, b2_some, bs_eq, kG]
  split
  · rfl
  · split <;> rfl
theorem mw_place (h : MW V σ) {i : Nat} (hi : i < vN V) (hn : 10 < n) : F_Mod_placeOf n (nI i) σ = some (nI (vP V i)) := by
  obtain ⟨hw, h1, h2, -⟩ := h
  have hN := hw.1
  obtain ⟨hp, hq⟩ := hw.2.1 i hi
  unfold F_Mod_placeOf
  have key : ∀ k p, p ≤ vP V i → vP V i < k + p → F_Mod_placeOf_2 n k (nI i) (nI p) σ = some (nI (vP V i)) := by
    intro k
    induction k with
    | zero => intro p a b; omega
    | succ k ih =>
      intro p a b
      obtain ⟨-, -, -, -, -, e6⟩ := h2 p (by omega)
      obtain ⟨a1, a2⟩ := hw.2.2.1 p (by omega)
      rw [F_Mod_placeOf_2, ald_42 (by omega), e6]
      simp only [obind, b2_some, bs_eq, nI_1]
      by_cases g : p = vP V i
      · rw [g, hq, if_pos rfl]
      · rw [if_neg, ih (p + 1) (by omega) (by omega)]
        simp (disch := omega) only [nI_eq]
        intro e
        rw [e] at a2
        exact g a2.symm
  exact key n 0 (by omega) (by omega)
theorem mw_rim (h : MW V σ) {i : Nat} (hi : i < vN V) : F_Mod_isRim (nI (vP V i)) σ = some (if rim V i = true then 1 else 0) := by
  obtain ⟨hw, h1, h2, -⟩ := h
  have hN := hw.1
  have hp := (hw.2.1 i hi).1
  unfold F_Mod_isRim rim
  rw [h1, pred_N (show 0 < vN V by omega), show (0 : Int32) = nI 0 from rfl]
  simp (disch := omega) only [nI_eq, Bool.or_eq_true, decide_eq_true_eq]
  by_cases g : vP V i = 0
  · simp [g]
  · by_cases g2 : vP V i = vN V - 1
    · rw [if_neg g, if_pos g2, if_pos (by omega)]
    · rw [if_neg g, if_neg g2, if_neg (by omega)]
theorem mw_feel (h : MW V σ) {i k : Nat} (hi : i < vN V) (hk : k < 8) (hn : 10 < n) : F_Mod_feelsIn n (nI i) (nI k) σ = some (feel V i k) := by
  have hc := h
  obtain ⟨hw, h1, h2, h3, h4, h5, h6⟩ := h
  have hN := hw.1
  have hp := (hw.2.1 i hi).1
  have ho := hw.2.2.2.2.1
  obtain ⟨-, -, -, -, e5, e6⟩ := h2 i hi
  have hm : (vO V + k) % vN V < vN V := Nat.mod_lt _ (by omega)
  have tail : ∀ s0 s1, F_Mod_feelsIn_74 n (nI k) (nI (vP V i)) s0 s1 σ = some (s0 + s1 + (if (vO V + k) % vN V = vP V i then 3 else 0) - (if rim V i = true then 2 else 0) - (if vV V = 1 then 2 else if rim V i = true then nI (k / 2) else 0)) := by
    intro s0 s1
    unfold F_Mod_feelsIn_74 F_Mod_feelsIn_99 F_Mod_feelsIn_117 F_Mod_feelsIn_136
    rw [h1, h5, nI_add, rem_N (by omega) (by omega) (by omega)]
    simp only [obind, b2_some, bs_eq, mw_rim hc hi, show ald σ 31 0 11 = some (vV V) by rw [show (11 : Int32) = nI 11 from rfl, ald_31 (by omega), h4], div2 hk, b10]
    simp (disch := omega) only [nI_eq]
    rcases hw.2.2.2.1 with hv | hv
    · rw [hv]
      simp only [show ¬ (0 : Int32) = 1 by decide, if_false, if_true]
      cases rim V i <;> simp
    · rw [hv]
      simp [one_ne]
  have mid : ∀ s0 s1, F_Mod_feelsIn_43 n (nI k) (nI (vP V i)) s0 s1 σ = some (s0 + s1 + givR V i + (if (vO V + k) % vN V = vP V i then 3 else 0) - (if rim V i = true then 2 else 0) - (if vV V = 1 then 2 else if rim V i = true then nI (k / 2) else 0)) := by
    intro s0 s1
    unfold F_Mod_feelsIn_43 givR
    rw [h1, pred_N (show 0 < vN V by omega), nI_1]
    by_cases g : vP V i + 1 < vN V
    · rw [if_neg (by simp (disch := omega) only [nI_leI]; omega), ald_42 (by omega), (h2 _ g).2.2.2.2.2]
      simp only [obind, b2_some, bs_eq]
      rw [mw_gives hc (hw.2.2.1 _ g).1, if_pos g]
      simp only [obind, b2_some, bs_eq]
      exact tail _ _
    · rw [if_pos (by simp (disch := omega) only [nI_leI]; omega), if_neg g]
      exact tail _ _
  unfold F_Mod_feelsIn
  rw [mw_place hc hi hn, ald_43 (by omega), ald_34 hk, ← h3 k hk, ← e5]
  simp only [obind, b2_some, bs_eq]
  have fin : ∀ L : Int32, L = givL V i → F_Mod_feelsIn_43 n (nI k) (nI (vP V i)) (vB V i - vC V k) L σ = some (feel V i k) := by
    intro L hL
    rw [mid, hL]
    congr 1
    unfold feel
    simp only [Int32.sub_eq_add_neg]
    ac_rfl
  unfold givL at fin
  by_cases g : vP V i = 0
  · rw [if_pos (by rw [g]; decide)]
    exact fin 0 (by simp [g])
  · rw [if_neg (by rw [show (0 : Int32) = nI 0 from rfl]; simp (disch := omega) only [nI_leI]; omega), pred_N (by omega), ald_42 (by omega), (h2 _ (show vP V i - 1 < vN V by omega)).2.2.2.2.2]
    simp only [obind, b2_some, bs_eq]
    rw [mw_gives hc (hw.2.2.1 _ (by omega)).1]
    simp only [obind, b2_some, bs_eq]
    exact fin _ (by rw [if_pos (by omega)])
theorem hearsNone_eq (k : Int32) : F_Mod_hearsNone k = some (if kD k = true then 1 else 0) := by
  unfold F_Mod_hearsNone kD
  by_cases h1 : k = 2
  · simp [h1]
  · by_cases h2 : k = 5
    · simp [h2]
    · simp [h1, h2]
theorem isSnoring_eq (k : Int32) : F_Mod_isSnoring k = some (if kR k = 0 then 0 else 1) := by
  unfold F_Mod_isSnoring kR
  by_cases h1 : k = 4
  · simp [h1]
  · by_cases h2 : k = 1
    · simp [h2]
    · simp [h1, h2]
theorem kR_ge (k : Int32) (h : ¬ kR k = 0) : (if k = 4 then (2 : Int32) else 1) = nI (kR k) := by
  unfold kR at *
  by_cases h1 : k = 4
  · simp [h1]; rfl
  · by_cases h2 : k = 1
    · simp [h2]; rfl
    · simp [h1, h2] at h
theorem in_nI (d : Int32) (r : Nat) (hr : r ≤ 2) : F_Mod_in d.toInt64 ((-(nI r)).toInt64) (nI r).toInt64 = some (if -(r : Int) ≤ d.toInt ∧ d.toInt ≤ r then 1 else 0) := by
  rw [in_I]
  have e : (-(nI r)).toInt = -(r : Int) := by
    rw [Int32.toInt_neg, nI_toInt (by omega), Int.bmod_def]
    split <;> omega
  simp only [i32_le, e, nI_toInt (show r < 2 ^ 31 by omega)]
theorem mw_reach (h : MW V σ) {i o : Nat} (hi : i < vN V) (ho : o < vN V) : F_Mod_reaches (nI o) (nI (vP V o) - nI (vP V i)) σ = some (if nearB V i o = true then 1 else 0) := by
  obtain ⟨hw, h1, h2, h3, h4, h5, h6⟩ := h
  have hN := hw.1
  have hp := (hw.2.1 i hi).1
  have hq := (hw.2.1 o ho).1
  obtain ⟨-, e2, -⟩ := h2 o ho
  unfold F_Mod_reaches F_Mod_reaches_14
  rw [mw_kind (by omega)]
  simp only [obind, b2_some, bs_eq, isSnoring_eq]
  have e1 : (nI (vP V o) - nI (vP V i)).toInt = (vP V o : Int) - vP V i := pk_sub_toInt (by omega) (by omega)
  unfold nearB
  by_cases g1 : nI o = σ.1 30 0 24
  · rw [if_pos g1] at e2
    rw [if_pos g1, if_neg]
    simp only [Bool.and_eq_true, decide_eq_true_eq, e2]
    omega
  · rw [if_neg g1] at e2
    rw [if_neg g1]
    by_cases g2 : kR (kd σ o) = 0
    · rw [if_pos g2, if_pos rfl, if_neg]
      simp only [Bool.and_eq_true, decide_eq_true_eq, e2, g2]
      omega
    · have hle := kR_le (kd σ o)
      rw [if_neg g2, if_neg one_ne, kR_ge _ g2, in_nI _ _ hle, e1, e2]
      simp only [i32_eq, e1, z0_t, obind, b2_some, bs_eq]
      by_cases g3 : (vP V o : Int) - vP V i = 0
      · rw [if_pos g3, if_neg]
        simp only [Bool.and_eq_true, decide_eq_true_eq]
        omega
      · rw [if_neg g3]
        by_cases g4 : -(kR (kd σ o) : Int) ≤ (vP V o : Int) - vP V i ∧ (vP V o : Int) - vP V i ≤ kR (kd σ o)
        · rw [if_pos g4, if_neg (by decide), if_pos]
          simp only [Bool.and_eq_true, decide_eq_true_eq]
          omega
        · rw [if_neg g4, if_pos (by decide), if_neg]
          simp only [Bool.and_eq_true, decide_eq_true_eq]
          omega
theorem b01 (b : Bool) : (if (if b = true then (1 : Int32) else 0) = 0 then (0 : Int32) else 1) = if b = true then 1 else 0 := by cases b <;> rfl
theorem cnt_step (c : Nat → Bool) (k : Nat) : nI (cnt c k) + (if c k = true then 1 else 0) = nI (cnt c (k + 1)) := by
  show _ = nI (cnt c k + (if c k = true then 1 else 0))
  cases c k
  · simp
  · simp [nI_1]
theorem mw_near (h : MW V σ) {i : Nat} (hi : i < vN V) (hn : 10 < n) : F_Mod_snorersNear n (nI i) σ = some (nI (cnt (nearB V i) (vN V))) := by
  have hN := h.1.1
  have h1 := h.2.1
  unfold F_Mod_snorersNear
  refine loop_gen (fun q o (s : Nat) => F_Mod_snorersNear_4 n q (nI i) (nI s) (nI o) σ) (vN V) (fun o => cnt (nearB V i) o) _ (fun q => ?_) (fun q o ho => ?_) n 0 (by omega) (by omega)
  · rw [F_Mod_snorersNear_4, h1, if_pos (by simp (disch := omega) only [nI_leI]; omega)]
  · rw [F_Mod_snorersNear_4, h1, if_neg (by simp (disch := omega) only [nI_leI]; omega), mw_place h ho hn, mw_place h hi hn]
    simp only [obind, b2_some, bs_eq, F_Mod_snorersNear_37, mw_reach h hi ho, nI_1, b01, cnt_step]
theorem cnt_any (c : Nat → Bool) : ∀ k, (0 < cnt c k ↔ anyB c k = true)
  | 0 => by simp [cnt, anyB]
  | k + 1 => by
    have := cnt_any c k
    simp only [cnt, anyB, Bool.or_eq_true, ← this]
    cases c k <;> simp
theorem mw_hears (h : MW V σ) {i : Nat} (hi : i < vN V) (hn : 10 < n) : F_Mod_hears n (nI i) σ = some (if hearsV V i = true then 1 else 0) := by
  have hN := h.1.1
  obtain ⟨-, -, e3, -⟩ := h.2.2.1 i hi
  unfold F_Mod_hears hearsV
  rw [mw_kind (by omega)]
  simp only [obind, b2_some, bs_eq, hearsNone_eq, ← e3, mw_near h hi hn]
  have hc := cnt_any (nearB V i) (vN V)
  have hl := cnt_le (nearB V i) (vN V)
  cases vD V i
  · simp only [Bool.false_eq_true, if_false, if_true, Bool.not_false, Bool.true_and, ← hc]
    rw [show (0 : Int32) = nI 0 from rfl]
    simp (disch := omega) only [nI_leI]
    by_cases g : 0 < cnt (nearB V i) (vN V)
    · rw [if_neg (by omega), if_pos g]
    · rw [if_pos (by omega), if_neg g]
  · simp [one_ne]
theorem has_eq {T h : Nat} (hT : T < 256) (hh : h < 8) : F_Mod_has (nI T) (nI h) = some (if T.testBit h = true then 1 else 0) := by
  unfold F_Mod_has
  simp only [bit_at T hT h hh]
  split <;> rfl
def sinceT (T h : Nat) : Nat → Nat
  | 0 => h
  | j + 1 => h - lastT T j
theorem lastT_le (T : Nat) : ∀ h, lastT T h ≤ h
  | 0 => Nat.le_refl _
  | h + 1 => by
    have := lastT_le T h
    simp only [lastT]
    split <;> omega
theorem mw_sore (h : MW V σ) {k : Nat} (hk : k < 8) (hn : 10 < n) : F_Mod_isSore n (nI k) σ = some (if soreB (vT V) k = true then 1 else 0) := by
  have h6 := h.2.2.2.2.2.2
  have hT := h.1.2.2.2.2.2.1
  unfold F_Mod_isSore
  refine loop_gen (fun q j (s : Nat) => F_Mod_isSore_4 n q (nI k) (nI s) (nI j) σ) (k + 1) (fun j => sinceT (vT V) k j) _ (fun q => ?_) (fun q j hj => ?_) n 0 (by omega) (by omega)
  · rw [F_Mod_isSore_4, if_pos (by simp (disch := omega) only [nI_ltI]; omega), show (3 : Int32) = nI 3 from rfl]
    have hl := lastT_le (vT V) k
    simp only [sinceT, soreB, decide_eq_true_eq]
    simp (disch := omega) only [nI_ltI]
    by_cases g : lastT (vT V) k + 3 ≤ k
    · rw [if_neg (by omega), if_pos g]
    · rw [if_pos (by omega), if_neg g]
  · rw [F_Mod_isSore_4, if_neg (by simp (disch := omega) only [nI_ltI]; omega), h6, has_eq hT (by omega)]
    simp only [obind, b2_some, bs_eq, F_Mod_isSore_27, nI_1]
    congr 1
    rw [show nI k - nI j = nI (k - j) by rw [i32_eq, pk_sub_toInt (by omega) (by omega), nI_toInt (by omega)]; omega]
    cases j with
    | zero => simp only [sinceT, lastT]; split <;> rfl
    | succ j =>
      simp only [sinceT, lastT]
      cases (vT V).testBit (j + 1)
      · simp
      · simp [one_ne]
theorem b04 (b : Bool) : (if (if b = true then (1 : Int32) else 0) = 0 then (0 : Int32) else 4) = if b = true then 4 else 0 := by cases b <;> rfl
theorem mw_why (h : MW V σ) {i k : Nat} (hi : i < vN V) (hk : k < 8) (hn : 10 < n) : F_Mod_whyNot n (nI i) (nI k) σ = some (whyV V i k) := by
  have hN := h.1.1
  have h6 := h.2.2.2.2.2.2
  have hT := h.1.2.2.2.2.2.1
  obtain ⟨-, -, -, e4, -⟩ := h.2.2.1 i hi
  unfold F_Mod_whyNot F_Mod_whyNot_14 F_Mod_whyNot_29 F_Mod_whyNot_45
  simp only [mw_feel h hi hk hn, mw_hears h hi hn, mw_sore h hk hn, mw_kind (show i < 5 by omega), h6, has_eq hT hk, obind, b2_some, bs_eq, b10, b04]
  have e1 : (if 0 ≤ feel V i k then (0 : Int32) else 1) = if feel V i k < 0 then 1 else 0 := by
    simp only [lt_le_n]
    by_cases g : feel V i k < 0 <;> simp [g]
  rw [e1]
  unfold whyV wokenB
  rw [e4]
  unfold kS
  cases (vT V).testBit k
  · simp
  · simp only [if_true, if_neg one_ne]
    by_cases g : kd σ i = 5 <;> simp [g]
theorem mw_sleeping (h : MW V σ) {k : Nat} (hk : k < 8) (hn : 10 < n) : F_Mod_sleepsIn n (nI k) σ = some (nI (msk (fun j => slp V j k) (vN V))) := by
  have hN := h.1.1
  have h1 := h.2.1
  unfold F_Mod_sleepsIn
  refine loop_gen (fun q i (s : Nat) => F_Mod_sleepsIn_4 n q (nI k) (nI s) (nI i) σ) (vN V) (fun i => msk (fun j => slp V j k) i) _ (fun q => ?_) (fun q i hi => ?_) n 0 (by omega) (by omega)
  · rw [F_Mod_sleepsIn_4, h1, if_pos (by simp (disch := omega) only [nI_leI]; omega)]
  · rw [F_Mod_sleepsIn_4, h1, if_neg (by simp (disch := omega) only [nI_leI]; omega), mw_why h hi hk hn]
    simp only [obind, b2_some, bs_eq, F_Mod_sleepsIn_29, nI_1, why_slp]
    rw [msk_step (fun j => slp V j k) (by omega)]
theorem mw_slept (h : MW V σ) {i : Nat} (hi : i < vN V) (hn : 10 < n) : F_Mod_sleptBy n (nI i) σ = some (nI (sleptV V i)) := by
  unfold F_Mod_sleptBy
  refine loop_gen (fun q k (s : Nat) => F_Mod_sleptBy_4 n q (nI i) (nI s) (nI k) σ) 8 (fun k => cnt (slp V i) k) _ (fun q => ?_) (fun q k hk => ?_) n 0 (by omega) (by omega)
  · rw [F_Mod_sleptBy_4, if_pos (by decide)]; rfl
  · rw [F_Mod_sleptBy_4, if_neg (by rw [show (8 : Int32) = nI 8 from rfl]; simp (disch := omega) only [nI_leI]; omega), mw_why h hi hk hn]
    simp only [obind, b2_some, bs_eq, F_Mod_sleptBy_25, nI_1, why_slp, cnt_step]
theorem mw_worth (h : MW V σ) (hn : 10 < n) : F_Mod_worthNow n σ = some (nI (worthV V)) := by
  have hN := h.1.1
  have h1 := h.2.1
  unfold F_Mod_worthNow
  refine loop_gen (fun q i (s : Nat) => F_Mod_worthNow_4 n q (nI s) (nI i) σ) (vN V) (fun i => sumf (sleptV V) i) _ (fun q => ?_) (fun q i hi => ?_) n 0 (by omega) (by omega)
  · rw [F_Mod_worthNow_4, h1, if_pos (by simp (disch := omega) only [nI_leI]; omega)]; rfl
  · rw [F_Mod_worthNow_4, h1, if_neg (by simp (disch := omega) only [nI_leI]; omega), mw_slept h hi hn]
    simp only [obind, b2_some, bs_eq, nI_1, nI_add]
    rfl
theorem mw_least (h : MW V σ) (hn : 10 < n) : F_Mod_leastNow n σ = some (nI (leastV V)) := by
  have hN := h.1.1
  have h1 := h.2.1
  unfold F_Mod_leastNow
  refine loop_gen (fun q i (s : Nat) => F_Mod_leastNow_5 n q (nI s) (nI i) σ) (vN V) (fun i => minf 8 (sleptV V) i) _ (fun q => ?_) (fun q i hi => ?_) n 0 (by omega) (by omega)
  · rw [F_Mod_leastNow_5, h1, if_pos (by simp (disch := omega) only [nI_leI]; omega)]; rfl
  · rw [F_Mod_leastNow_5, h1, if_neg (by simp (disch := omega) only [nI_leI]; omega), mw_slept h hi hn]
    simp only [obind, b2_some, bs_eq, nI_1, F_Mod_leastNow_29]
    have a := minf_le 8 (sleptV V) i
    have b := slept_le V i
    congr 1
    simp (disch := omega) only [nI_leI, minf]
    by_cases g : sleptV V i < minf 8 (sleptV V) i
    · rw [if_neg (by omega), if_pos g]
    · rw [if_pos (by omega), if_neg g]
end MOD
