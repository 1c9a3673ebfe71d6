theorem nI_lt0 : ∀ z : Nat, z < 2 ^ 31 → ¬ nI z < 0 := fun z h => nI_nneg h
theorem z_m1 : (nI 0 - 1 : Int32) < 0 := by decide
theorem pred_N {N : Nat} (h : 0 < N) : nI N - 1 = nI (N - 1) := by
  rw [show N = (N - 1) + 1 by omega, nI_pred]; rfl
theorem rem_N {a N : Nat} (h : 0 < N) (ha : a < 2 ^ 31) (hN : N < 2 ^ 31) : rmI (nI a) (nI N) = some (nI (a % N)) := by
  unfold rmI
  have hne : ¬ nI N = 0 := nI_ne0 h hN
  rw [if_neg hne, pk_rem ha h hN]
theorem div2 {h : Nat} (hh : h < 8) : dvI (nI h) 2 = some (nI (h / 2)) := by
  unfold dvI
  rw [if_neg (by decide), show (2 : Int32) = nI 2 from rfl, pk_div (by omega) (by omega) (by omega)]
theorem b10 (b : Bool) : (if (if b = true then (1 : Int32) else 0) = 0 then (0 : Int32) else 2) = if b = true then 2 else 0 := by cases b <;> rfl
section CAMP
variable {t : Nat} {V : Vw} {σ : St}
theorem cv_given (h : CV t V σ) {p : Nat} (hp : p < vN V) : F_Camp_givenFrom t (nI p) σ = some (vG V (vW V p)) := by
  obtain ⟨hw, h1, h2, h3, h4, h5, h6⟩ := h
  have hN := hw.1
  obtain ⟨a1, a2⟩ := hw.2.2.1 p hp
  obtain ⟨e1, e2, e3, e4, e5, e6, e7⟩ := h2 p hp
  obtain ⟨d1, -⟩ := h2 (vW V p) a1
  unfold F_Camp_givenFrom
  rw [if_neg (nI_nneg (by omega)), h1, if_pos (by simp (disch := omega) only [nI_ltI]; exact hp), ald_10 (by omega), e6]
  simp only [obind, b2_some, bs_eq, ald_6 (show vW V p < 5 by omega), ald_7 (show vW V p < 5 by omega), d1, kG]
  split <;> rfl
theorem cv_givenN (h : CV t V σ) : F_Camp_givenFrom t (nI (vN V)) σ = some 0 := by
  obtain ⟨hw, h1, h2, h3, h4, h5, h6⟩ := h
  have hN := hw.1
  unfold F_Camp_givenFrom
  rw [if_neg (nI_nneg (by omega)), h1, if_neg (by simp (disch := omega) only [nI_ltI]; omega)]
theorem cv_given0 {z : Int32} (hz : z < 0) : F_Camp_givenFrom t z σ = some 0 := by
  unfold F_Camp_givenFrom
  rw [if_pos hz]
theorem cv_rim (h : CV t V σ) {i : Nat} (hi : i < vN V) : F_Camp_isAtRim t (nI i) σ = some (if rim V i = true then 1 else 0) := by
  obtain ⟨hw, h1, h2, h3, h4, h5, h6⟩ := h
  have hN := hw.1
  obtain ⟨e1, e2, e3, e4, e5, e6, e7⟩ := h2 i hi
  have hp := (hw.2.1 i hi).1
  unfold F_Camp_isAtRim rim
  simp only [ald_9 (show i < 5 by omega), e7, obind, b2_some, bs_eq, h1, pred_N (show 0 < vN V by omega)]
  rw [show (0 : Int32) = nI 0 from rfl]
  simp (disch := omega) only [nI_eq, Bool.or_eq_true, decide_eq_true_eq]
  by_cases g : vP V i = 0
  · simp [g]
  · by_cases g2 : vP V i = vN V - 1
    · rw [if_neg g, if_pos g2, if_pos (by omega)]
    · rw [if_neg g, if_neg g2, if_neg (by omega)]
theorem cv_steady (h : CV t V σ) {i : Nat} (hi : i < vN V) : F_Camp_steadyFeeling t (nI i) σ = some (vB V i + givL V i + givR V i - (if rim V i = true then 2 else 0) - (if vV V = 1 then 2 else 0)) := by
  have hc := h
  obtain ⟨hw, h1, h2, h3, h4, h5, h6⟩ := h
  have hN := hw.1
  obtain ⟨e1, e2, e3, e4, e5, e6, e7⟩ := h2 i hi
  have hp := (hw.2.1 i hi).1
  unfold F_Camp_steadyFeeling F_Camp_steadyFeeling_45
  simp only [ald_8 (show i < 5 by omega), ald_9 (show i < 5 by omega), e7, obind, b2_some, bs_eq, ← e5, cv_rim hc hi, h4, b10]
  have gl : F_Camp_givenFrom t (nI (vP V i) - 1) σ = some (givL V i) := by
    unfold givL
    by_cases g : vP V i = 0
    · rw [g, cv_given0 z_m1]; simp
    · rw [pred_N (by omega), cv_given hc (by omega), if_pos (by omega)]
  have gr : F_Camp_givenFrom t (nI (vP V i) + 1) σ = some (givR V i) := by
    unfold givR
    rw [nI_1]
    by_cases g : vP V i + 1 < vN V
    · rw [cv_given hc g, if_pos g]
    · rw [show vP V i + 1 = vN V by omega, cv_givenN hc, if_neg (by omega)]
  rw [gl]
  simp only [obind, b2_some, bs_eq]
  rw [gr]
  simp only [obind, b2_some, bs_eq]
  split <;> rfl
theorem cv_hourly (h : CV t V σ) {i k : Nat} (hi : i < vN V) (hk : k < 8) : F_Camp_hourlyFeeling t (nI i) (nI k) σ = some ((if (vO V + k) % vN V = vP V i then 3 else 0) - vC V k - (if vV V = 1 then 0 else if rim V i = true then nI (k / 2) else 0)) := by
  have hc := h
  obtain ⟨hw, h1, h2, h3, h4, h5, h6⟩ := h
  have hN := hw.1
  obtain ⟨e1, e2, e3, e4, e5, e6, e7⟩ := h2 i hi
  have hp := (hw.2.1 i hi).1
  have ho := hw.2.2.2.2.1
  have hm : (vO V + k) % vN V < vN V := Nat.mod_lt _ (by omega)
  unfold F_Camp_hourlyFeeling F_Camp_hourlyFeeling_23 F_Camp_hourlyFeeling_39
  rw [h1, if_neg (by rw [show (0 : Int32) = nI 0 from rfl]; simp (disch := omega) only [nI_leI]; omega), h5, nI_add, rem_N (by omega) (by omega) (by omega)]
  simp only [obind, b2_some, bs_eq, ald_9 (show i < 5 by omega), e7, ald_5 hk, ← h3 k hk, cv_rim hc hi, div2 hk, h4]
  have hb : (if nI (vP V i) = nI ((vO V + k) % vN V) then (3 : Int32) else 0) = (if (vO V + k) % vN V = vP V i then 3 else 0) := by
    simp (disch := omega) only [nI_eq]
    by_cases g : vP V i = (vO V + k) % vN V
    · rw [if_pos g, if_pos g.symm]
    · rw [if_neg g, if_neg (fun e => g e.symm)]
  rw [hb]
  have hvc := hw.2.2.2.1
  rcases hvc with hv | hv
  · rw [hv, if_pos rfl, if_neg (show ¬ (0 : Int32) = 1 by decide)]
    cases rim V i
    · simp
    · simp [one_ne]
  · rw [hv, if_neg one_ne, if_pos rfl]
theorem cv_feel (h : CV t V σ) {i k : Nat} (hi : i < vN V) (hk : k < 8) : F_Camp_feeling t (nI i) (nI k) σ = some (feel V i k) := by
  unfold F_Camp_feeling
  simp only [cv_steady h hi, cv_hourly h hi hk, obind, b2_some, bs_eq]
  congr 1
  unfold feel
  rcases h.1.2.2.2.1 with hv | hv
  · rw [hv]
    simp only [show ¬ (0 : Int32) = 1 by decide, if_false]
    simp only [Int32.sub_eq_add_neg]
    simp only [Int32.neg_zero, Int32.add_zero]
    ac_rfl
  · rw [hv]
    simp only [if_true]
    simp only [Int32.sub_eq_add_neg]
    simp only [Int32.neg_zero, Int32.add_zero]
    ac_rfl
theorem isWithin_eq {a b i o r : Nat} (hi : i < 5) (ho : o < 5) (ea : σ.1 9 t i = nI a) (eb : σ.1 9 t o = nI b) (ha : a < 1000) (hb : b < 1000) (hr : r < 1000) : F_Camp_isWithin t (nI i) (nI o) (nI r) σ = some (if a ≠ b ∧ a ≤ b + r ∧ b ≤ a + r then 1 else 0) := by
  unfold F_Camp_isWithin
  simp only [ald_9 hi, ald_9 ho, ea, eb, obind, b2_some, bs_eq]
  have e1 : (nI a - nI b).toInt = (a : Int) - b := pk_sub_toInt (by omega) (by omega)
  have e2 : (-(nI a - nI b)).toInt = (b : Int) - a := by
    rw [Int32.toInt_neg, e1, Int.bmod_def]
    split <;> omega
  simp only [i32_lt, i32_eq, e1, e2, nI_toInt (show r < 2 ^ 31 by omega), z0_t]
  by_cases g1 : (a : Int) - b = 0
  · rw [if_pos g1, if_neg (by omega)]
  · rw [if_neg g1]
    by_cases g2 : (r : Int) < (a : Int) - b
    · rw [if_pos g2, if_neg (by omega)]
    · rw [if_neg g2]
      by_cases g3 : (r : Int) < (b : Int) - a
      · rw [if_pos g3, if_neg (by omega)]
      · rw [if_neg g3, if_pos (by omega)]
theorem reach_eq (k : Int32) : F_Camp_reach k = some (nI (kR k)) := by
  unfold F_Camp_reach kR
  by_cases h1 : k = 4
  · rw [if_pos h1, if_pos h1]; rfl
  · rw [if_neg h1, if_neg h1]
    by_cases h2 : k = 1
    · rw [if_pos h2, if_pos h2]; rfl
    · rw [if_neg h2, if_neg h2]; rfl
theorem kR_le (k : Int32) : kR k ≤ 2 := by
  unfold kR
  split
  · omega
  · split <;> omega
theorem isOf2 (k : Int32) : F_Camp_isOf k 2 = some (if kD k = true then 1 else 0) := by
  unfold F_Camp_isOf F_Camp_isOf_15 kD
  by_cases h1 : k = 2
  · simp [h1]
  · simp only [h1, if_false]
    rw [if_neg (by decide)]
    simp only [if_true]
    by_cases h2 : k = 5
    · simp [h2]
    · simp [h2]
theorem cv_within (h : CV t V σ) {i o : Nat} (hi : i < vN V) (ho : o < vN V) : F_Camp_isWithin t (nI i) (nI o) (nI (kR (σ.1 6 t o))) σ = some (if nearB V i o = true then 1 else 0) := by
  obtain ⟨hw, h1, h2, h3, h4, h5, h6⟩ := h
  have hN := hw.1
  obtain ⟨-, -, -, -, -, -, e7⟩ := h2 i hi
  obtain ⟨-, d2, -, -, -, -, d7⟩ := h2 o ho
  have hp := (hw.2.1 i hi).1
  have hq := (hw.2.1 o ho).1
  have := kR_le (σ.1 6 t o)
  rw [isWithin_eq (by omega) (by omega) e7 d7 (by omega) (by omega) (by omega)]
  unfold nearB
  rw [d2]
  congr 1
  by_cases g : vP V i ≠ vP V o ∧ vP V i ≤ vP V o + kR (σ.1 6 t o) ∧ vP V o ≤ vP V i + kR (σ.1 6 t o)
  · rw [if_pos g, if_pos (by simp [g])]
  · rw [if_neg g, if_neg (by simp only [Bool.and_eq_true, decide_eq_true_eq]; exact g)]
theorem anyB_stop {c : Nat → Bool} {k : Nat} (h : anyB c k = true) : ∀ m, anyB c (k + m) = true
  | 0 => h
  | m + 1 => by rw [← Nat.add_assoc, anyB, anyB_stop h m]; rfl
theorem cv_hears38 {n : Nat} (h : CV t V σ) {i : Nat} (hi : i < vN V) (b : Bool) : F_Camp_hearsAny_38 n t (nI i) (if b = true then 1 else 0) σ = some (if (!vD V i && b) = true then 1 else 0) := by
  obtain ⟨hw, h1, h2, h3, h4, h5, h6⟩ := h
  have hN := hw.1
  obtain ⟨-, -, e3, -⟩ := h2 i hi
  unfold F_Camp_hearsAny_38
  simp only [ald_6 (show i < 5 by omega), obind, b2_some, bs_eq, isOf2, ← e3]
  cases b
  · simp
  · cases vD V i
    · simp [one_ne]
    · simp [one_ne]
theorem cv_hears {n : Nat} (h : CV t V σ) {i : Nat} (hi : i < vN V) (hn : 10 < n) : F_Camp_hearsAny n t (nI i) σ = some (if hearsV V i = true then 1 else 0) := by
  have hN := h.1.1
  have h1 := h.2.1
  unfold F_Camp_hearsAny hearsV
  have key : ∀ k o, o ≤ vN V → vN V < k + o → F_Camp_hearsAny_4 n t k (nI i) (if anyB (nearB V i) o = true then 1 else 0) (nI o) σ = some (if (!vD V i && anyB (nearB V i) (vN V)) = true then 1 else 0) := by
    intro k
    induction k with
    | zero => intro o a b; omega
    | succ k ih =>
      intro o a b
      rw [F_Camp_hearsAny_4, h1]
      by_cases g : o = vN V
      · subst g
        rw [if_pos (by simp (disch := omega) only [nI_leI]; omega)]
        exact cv_hears38 h hi _
      · rw [if_neg (by simp (disch := omega) only [nI_leI]; omega)]
        cases hb : anyB (nearB V i) o with
        | true =>
          simp only [if_true, if_neg one_ne]
          have := anyB_stop hb (vN V - o)
          rw [show o + (vN V - o) = vN V by omega] at this
          rw [this]
          exact cv_hears38 h hi true
        | false =>
          simp only [Bool.false_eq_true, if_false, if_true, ald_6 (show o < 5 by omega), reach_eq, obind, b2_some, bs_eq]
          rw [cv_within h hi (by omega)]
          simp only [obind, b2_some, bs_eq, nI_1]
          have := ih (o + 1) (by omega) (by omega)
          simp only [anyB, hb, Bool.false_or] at this
          exact this
  exact key n 0 (by omega) (by omega)
def soS (T : Nat) : Nat → Int32 × Int32
  | 0 => (0, 0)
  | h + 1 => let q := soS T h; let s := if ((nI T) >>> (nI h &&& 31)) &&& 1 = 1 then nI h else q.2; (if nI h - s < 3 then q.1 else q.1 ||| ((1 : Int32) <<< (nI h &&& 31)), s)
theorem sore_eq {n T : Nat} (hT : σ.1 4 t 13 = nI T) (hn : 10 < n) : F_Camp_soreHours n t σ = some (soS T 8).1 := by
  unfold F_Camp_soreHours
  refine loop_gen (fun k h (s : Int32 × Int32) => F_Camp_soreHours_6 n t k s.1 s.2 (nI h) σ) 8 (soS T) _ (fun k => ?_) (fun k h hh => ?_) n 0 (by omega) (by omega)
  · rw [F_Camp_soreHours_6]
    rfl
  · rw [F_Camp_soreHours_6, F_Camp_soreHours_26, F_Camp_soreHours_39, if_neg (by rw [show (8 : Int32) = nI 8 from rfl]; simp (disch := omega) only [nI_leI]; omega), hT, nI_1]
    rfl
theorem soS_ok : ∀ T, T < 256 → ∃ B, B < 256 ∧ (soS T 8).1 = nI B ∧ ∀ h, h < 8 → B.testBit h = soreB T h := by
  intro T hT
  refine ⟨msk (soreB T) 8, msk_lt _ 8, ?_, ?_⟩
  · revert T hT; decide +kernel
  · revert T hT; decide +kernel
end CAMP
