theorem msk_bit (c : Nat → Bool) : ∀ k h, h < k → (msk c k).testBit h = c h
  | 0, h, hh => absurd hh (by omega)
  | k + 1, h, hh => by
    have hl := msk_lt c k
    simp only [msk]
    cases hc : c k with
    | false =>
      simp only [Bool.false_eq_true, if_false, Nat.add_zero]
      by_cases e : h = k
      · subst e
        rw [Nat.testBit_lt_two_pow hl, hc]
      · exact msk_bit c k h (by omega)
    | true =>
      simp only [if_true]
      rw [Nat.add_comm]
      by_cases e : h = k
      · subst e
        rw [Nat.testBit_two_pow_add_eq, Nat.testBit_lt_two_pow hl, hc]; rfl
      · rw [Nat.testBit_two_pow_add_gt (by omega)]
        exact msk_bit c k h (by omega)
theorem msk_step (c : Nat → Bool) {h : Nat} (hh : h < 8) : (nI (msk c h) ||| (if c h = true then (1 : Int32) <<< (nI h &&& 31) else 0)) = nI (msk c (h + 1)) := by
  simp only [msk]
  cases c h
  · simp
  · simp only [if_true]
    exact bit_or h hh _ (msk_lt c h)
theorem msk_cong {c d : Nat → Bool} : ∀ {k : Nat}, (∀ j, j < k → c j = d j) → msk c k = msk d k
  | 0, _ => rfl
  | k + 1, h => by rw [msk, msk, msk_cong (fun j hj => h j (by omega)), h k (by omega)]
theorem cnt_cong {c d : Nat → Bool} : ∀ {k : Nat}, (∀ j, j < k → c j = d j) → cnt c k = cnt d k
  | 0, _ => rfl
  | k + 1, h => by rw [cnt, cnt, cnt_cong (fun j hj => h j (by omega)), h k (by omega)]
theorem cnt_le (c : Nat → Bool) : ∀ k, cnt c k ≤ k
  | 0 => Nat.le_refl _
  | k + 1 => by
    have := cnt_le c k
    simp only [cnt]
    split <;> omega
theorem sumf_cong {f g : Nat → Nat} : ∀ {k : Nat}, (∀ j, j < k → f j = g j) → sumf f k = sumf g k
  | 0, _ => rfl
  | k + 1, h => by rw [sumf, sumf, sumf_cong (fun j hj => h j (by omega)), h k (by omega)]
theorem sumf_le {f : Nat → Nat} {c : Nat} (h : ∀ j, f j ≤ c) : ∀ k, sumf f k ≤ k * c
  | 0 => by simp [sumf]
  | k + 1 => by
    have := sumf_le h k
    have := h k
    rw [sumf, Nat.succ_mul]
    omega
theorem minf_cong {z : Nat} {f g : Nat → Nat} : ∀ {k : Nat}, (∀ j, j < k → f j = g j) → minf z f k = minf z g k
  | 0, _ => rfl
  | k + 1, h => by rw [minf, minf, minf_cong (fun j hj => h j (by omega)), h k (by omega)]
theorem minf_le (z : Nat) (f : Nat → Nat) : ∀ k, minf z f k ≤ z
  | 0 => Nat.le_refl _
  | k + 1 => by
    have := minf_le z f k
    simp only [minf]
    split <;> omega
theorem andnot {A B C : Nat} (hA : A < 256) (hB : B < 256) (hC : C < 256) : ∃ M, M < 256 ∧ (nI A &&& ((nI B ||| nI C) ^^^ (-1))) = nI M ∧ ∀ h, h < 8 → M.testBit h = (A.testBit h && !(B.testBit h || C.testBit h)) := by
  refine ⟨A &&& (255 ^^^ (B ||| C)), Nat.lt_of_le_of_lt Nat.and_le_left hA, ?_, ?_⟩
  · apply Int32.toBitVec_inj.mp
    apply BitVec.eq_of_getLsbD_eq
    intro i hi
    have e : ∀ z : Nat, (nI z).toBitVec.getLsbD i = z.testBit i := fun z => by
      show (BitVec.ofNat 32 z).getLsbD i = _
      rw [BitVec.getLsbD_ofNat, decide_eq_true hi, Bool.true_and]
    rw [Int32.toBitVec_and, Int32.toBitVec_xor, Int32.toBitVec_or, BitVec.getLsbD_and, BitVec.getLsbD_xor, BitVec.getLsbD_or, e, e, e, e]
    have m1 : (-1 : Int32).toBitVec.getLsbD i = true := by
      have : (-1 : Int32).toBitVec = BitVec.allOnes 32 := by decide
      rw [this, BitVec.getLsbD_allOnes, decide_eq_true hi]
    rw [m1, Nat.testBit_and, Nat.testBit_xor, Nat.testBit_or]
    by_cases h8 : i < 8
    · have : (255 : Nat).testBit i = true := (show ∀ i, i < 8 → (255 : Nat).testBit i = true by decide) i h8
      rw [this]
      cases B.testBit i <;> cases C.testBit i <;> rfl
    · have : A.testBit i = false := Nat.testBit_lt_two_pow (Nat.lt_of_lt_of_le hA (by
        have := Nat.pow_le_pow_right (n := 2) (by omega) (show 8 ≤ i by omega)
        omega))
      rw [this]; rfl
  · intro h hh
    rw [Nat.testBit_and, Nat.testBit_xor, Nat.testBit_or]
    have : (255 : Nat).testBit h = true := (show ∀ i, i < 8 → (255 : Nat).testBit i = true by decide) h hh
    rw [this]
    cases B.testBit h <;> cases C.testBit h <;> rfl
theorem why_slp (V : Vw) (i h : Nat) : whyV V i h = 0 ↔ slp V i h = true := by
  unfold whyV slp
  by_cases f : feel V i h < 0 <;> cases hearsV V i <;> cases soreB (vT V) h <;> cases wokenB V i h <;> simp [f] <;> decide
theorem feel_split (V : Vw) (i k : Nat) (hv : vV V = 0 ∨ vV V = 1) : (vB V i + givL V i + givR V i - (if rim V i = true then 2 else 0) - (if vV V = 1 then 2 else 0)) + ((if (vO V + k) % vN V = vP V i then 3 else 0) - vC V k - (if vV V = 1 then 0 else if rim V i = true then nI (k / 2) else 0)) = feel V i k := by
  unfold feel
  rcases hv with hv | hv
  · rw [hv]
    simp only [show ¬ (0 : Int32) = 1 by decide, if_false]
    simp only [Int32.sub_eq_add_neg]
    simp only [Int32.neg_zero, Int32.add_zero]
    ac_rfl
  · rw [hv]
    simp only [if_true]
    simp only [Int32.sub_eq_add_neg]
    simp only [Int32.neg_zero, Int32.add_zero]
    ac_rfl
theorem lt_le_n (z : Int32) : (0 ≤ z) ↔ ¬ z < 0 := by rw [i32_le, i32_lt]; omega
section CAMP
variable {t n : Nat} {V : Vw} {σ : St}
theorem cv_woken (h : CV t V σ) {i : Nat} (hi : i < vN V) : F_Camp_wokenHours t (nI i) σ = some (if vS V i = true then 0 else nI (vT V)) := by
  obtain ⟨hw, h1, h2, h3, h4, h5, h6⟩ := h
  have hN := hw.1
  obtain ⟨-, -, -, e4, -⟩ := h2 i hi
  unfold F_Camp_wokenHours
  simp only [ald_6 (show i < 5 by omega), obind, b2_some, bs_eq, h6, e4, kS]
  by_cases g : σ.1 6 t i = 5
  · simp [g]
  · simp [g]
theorem cv_why (h : CV t V σ) {i k : Nat} (hi : i < vN V) (hk : k < 8) (hn : 10 < n) : F_Camp_reasons n t (nI i) (nI k) σ = some (whyV V i k) := by
  obtain ⟨B, hB, hs, hb⟩ := soS_ok (vT V) h.1.2.2.2.2.2.1
  unfold F_Camp_reasons F_Camp_reasons_14 F_Camp_reasons_27 F_Camp_reasons_45
  simp only [cv_feel h hi hk, cv_hears h hi hn, sore_eq h.2.2.2.2.2.2 hn, cv_woken h hi, obind, b2_some, bs_eq, hs]
  have e1 : (if 0 ≤ feel V i k then (0 : Int32) else 1) = if feel V i k < 0 then 1 else 0 := by
    simp only [lt_le_n]
    by_cases g : feel V i k < 0 <;> simp [g]
  have e2 : (if (if hearsV V i = true then (1 : Int32) else 0) = 0 then (0 : Int32) else 2) = if hearsV V i = true then 2 else 0 := b10 _
  have e3 : (if (nI B >>> (nI k &&& 31)) &&& 1 = 1 then (4 : Int32) else 0) = if soreB (vT V) k = true then 4 else 0 := by
    simp only [bit_at B hB k hk, hb k hk]
  rw [e1, e2, e3]
  unfold whyV
  have e4 : (((if vS V i = true then 0 else nI (vT V)) >>> (nI k &&& 31)) &&& 1 = 1) ↔ wokenB V i k = true := by
    unfold wokenB
    cases vS V i
    · simp only [Bool.false_eq_true, if_false, Bool.not_false, Bool.true_and]
      exact bit_at _ h.1.2.2.2.2.2.1 k hk
    · simp only [if_true, Bool.not_true, Bool.false_and]
      have := bit_z k hk
      simp [this]
  by_cases g : wokenB V i k = true
  · rw [if_pos (e4.mpr g), if_pos g]
  · rw [if_neg (fun z => g (e4.mp z)), if_neg g]
theorem cv_sleeping (h : CV t V σ) {k : Nat} (hk : k < 8) (hn : 10 < n) : F_Camp_sleepingOnes n t (nI k) σ = some (nI (msk (fun j => slp V j k) (vN V))) := by
  have hN := h.1.1
  have h1 := h.2.1
  unfold F_Camp_sleepingOnes
  refine loop_gen (fun q i (s : Nat) => F_Camp_sleepingOnes_4 n t q (nI k) (nI s) (nI i) σ) (vN V) (fun i => msk (fun j => slp V j k) i) _ (fun q => ?_) (fun q i hi => ?_) n 0 (by omega) (by omega)
  · rw [F_Camp_sleepingOnes_4, h1, if_pos (by simp (disch := omega) only [nI_leI]; omega)]
  · rw [F_Camp_sleepingOnes_4, h1, if_neg (by simp (disch := omega) only [nI_leI]; omega), cv_why h hi hk hn]
    simp only [obind, b2_some, bs_eq, F_Camp_sleepingOnes_29, nI_1, why_slp]
    rw [msk_step (fun j => slp V j k) (by omega)]
theorem cv_cold (h : CV t V σ) {k : Nat} (hk : k < 8) (hn : 10 < n) : F_Camp_coldOnes n t (nI k) σ = some (nI (msk (fun j => decide (feel V j k < 0)) (vN V))) := by
  have hN := h.1.1
  have h1 := h.2.1
  unfold F_Camp_coldOnes
  refine loop_gen (fun q i (s : Nat) => F_Camp_coldOnes_4 n t q (nI k) (nI s) (nI i) σ) (vN V) (fun i => msk (fun j => decide (feel V j k < 0)) i) _ (fun q => ?_) (fun q i hi => ?_) n 0 (by omega) (by omega)
  · rw [F_Camp_coldOnes_4, h1, if_pos (by simp (disch := omega) only [nI_leI]; omega)]
  · rw [F_Camp_coldOnes_4, h1, if_neg (by simp (disch := omega) only [nI_leI]; omega), cv_feel h hi hk]
    simp only [obind, b2_some, bs_eq, F_Camp_coldOnes_29, nI_1]
    have := msk_step (fun j => decide (feel V j k < 0)) (h := i) (by omega)
    rw [← this]
    congr 2
    simp only [lt_le_n, decide_eq_true_eq]
    by_cases g : feel V i k < 0 <;> simp [g]
def calmB (V : Vw) (i : Nat) : Nat := if hearsV V i = true then 0 else msk (fun h => !decide (feel V i h < 0)) 8
theorem calm_lt (V : Vw) (i : Nat) : calmB V i < 256 := by
  unfold calmB
  split
  · omega
  · exact msk_lt _ 8
theorem cv_calm (h : CV t V σ) {i : Nat} (hi : i < vN V) (hn : 10 < n) : F_Camp_calmHours n t (nI i) σ = some (nI (calmB V i)) := by
  unfold F_Camp_calmHours calmB
  simp only [cv_hears h hi hn, obind, b2_some, bs_eq, cv_steady h hi]
  cases hearsV V i
  · simp only [Bool.false_eq_true, if_false, if_true]
    refine loop_gen (fun q k (s : Nat) => F_Camp_calmHours_21 n t q (nI i) _ (nI s) (nI k) σ) 8 (fun k => msk (fun h => !decide (feel V i h < 0)) k) _ (fun q => ?_) (fun q k hk => ?_) n 0 (by omega) (by omega)
    · rw [F_Camp_calmHours_21, if_pos (by decide)]
    · rw [F_Camp_calmHours_21, if_neg (by rw [show (8 : Int32) = nI 8 from rfl]; simp (disch := omega) only [nI_leI]; omega), cv_hourly h hi hk]
      simp only [obind, b2_some, bs_eq, F_Camp_calmHours_49, nI_1, feel_split V i k h.1.2.2.2.1]
      have := msk_step (fun h => !decide (feel V i h < 0)) (h := k) hk
      rw [← this]
      congr 2
      by_cases g : feel V i k < 0 <;> simp [g]
  · simp only [if_true, if_neg one_ne]
    rfl
theorem slept_bits {V : Vw} {i B C : Nat} (hB : B < 256) (hC : C < 256) (hb : ∀ h, h < 8 → B.testBit h = soreB (vT V) h) (hc : ∀ h, h < 8 → C.testBit h = wokenB V i h) : (F_Integer_bitCount (nI (calmB V i) &&& ((nI B ||| nI C) ^^^ (-1)))) = some (nI (sleptV V i)) := by
  obtain ⟨M, hM, e1, e2⟩ := andnot (calm_lt V i) hB hC
  rw [e1, bitCount_eq M hM]
  congr 2
  unfold pc8 sleptV
  refine cnt_cong (fun h hh => ?_)
  rw [e2 h hh, hb h hh, hc h hh]
  unfold slp calmB
  cases hearsV V i
  · simp only [Bool.false_eq_true, if_false, msk_bit _ 8 h hh]
    cases soreB (vT V) h <;> cases wokenB V i h <;> simp
  · simp
theorem woken_mask (V : Vw) (i : Nat) (hT : vT V < 256) : ∃ C, C < 256 ∧ (if vS V i = true then (0 : Int32) else nI (vT V)) = nI C ∧ ∀ h, h < 8 → C.testBit h = wokenB V i h := by
  unfold wokenB
  cases vS V i
  · exact ⟨vT V, hT, by simp, fun h _ => by simp⟩
  · exact ⟨0, by omega, by simp; rfl, fun h _ => by simp⟩
theorem cv_slept (h : CV t V σ) {i : Nat} (hi : i < vN V) (hn : 10 < n) : F_Camp_hoursSlept n t (nI i) σ = some (nI (sleptV V i)) := by
  obtain ⟨B, hB, hs, hb⟩ := soS_ok (vT V) h.1.2.2.2.2.2.1
  obtain ⟨C, hC, hw, hc⟩ := woken_mask V i h.1.2.2.2.2.2.1
  unfold F_Camp_hoursSlept
  simp only [cv_calm h hi hn, sore_eq h.2.2.2.2.2.2 hn, cv_woken h hi, obind, b2_some, bs_eq, hs, hw]
  rw [slept_bits hB hC hb hc]
  rfl
theorem slept_le (V : Vw) (i : Nat) : sleptV V i ≤ 8 := cnt_le _ 8
theorem cv_worth (h : CV t V σ) (hn : 10 < n) : F_Camp_sleptByAll n t σ = some (nI (worthV V)) := by
  have hN := h.1.1
  have h1 := h.2.1
  unfold F_Camp_sleptByAll
  refine loop_gen (fun q i (s : Nat) => F_Camp_sleptByAll_4 n t q (nI s) (nI i) σ) (vN V) (fun i => sumf (sleptV V) i) _ (fun q => ?_) (fun q i hi => ?_) n 0 (by omega) (by omega)
  · rw [F_Camp_sleptByAll_4, h1, if_pos (by simp (disch := omega) only [nI_leI]; omega)]; rfl
  · rw [F_Camp_sleptByAll_4, h1, if_neg (by simp (disch := omega) only [nI_leI]; omega), cv_slept h hi hn]
    simp only [obind, b2_some, bs_eq, nI_1, nI_add]
    rfl
theorem cv_least (h : CV t V σ) (hn : 10 < n) : F_Camp_leastSlept n t σ = some (nI (leastV V)) := by
  have hN := h.1.1
  have h1 := h.2.1
  unfold F_Camp_leastSlept
  refine loop_gen (fun q i (s : Nat) => F_Camp_leastSlept_5 n t q (nI s) (nI i) σ) (vN V) (fun i => minf 8 (sleptV V) i) _ (fun q => ?_) (fun q i hi => ?_) n 0 (by omega) (by omega)
  · rw [F_Camp_leastSlept_5, h1, if_pos (by simp (disch := omega) only [nI_leI]; omega)]; rfl
  · rw [F_Camp_leastSlept_5, h1, if_neg (by simp (disch := omega) only [nI_leI]; omega), cv_slept h hi hn]
    simp only [obind, b2_some, bs_eq, nI_1]
    have e : mmin (nI (minf 8 (sleptV V) i)) (nI (sleptV V i)) = nI (minf 8 (sleptV V) (i + 1)) := by
      have := minf_le 8 (sleptV V) i
      have := slept_le V i
      unfold mmin
      simp (disch := omega) only [nI_ltI]
      simp only [minf]
      split <;> rfl
    rw [e]
end CAMP
