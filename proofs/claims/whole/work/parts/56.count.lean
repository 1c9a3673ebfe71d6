-- COUNTS AND THE DIGEST
theorem op_asked {σ : St} (h : RR σ) : ∃ r, F_Tent_asked σ = some r ∧ F_Mod_asked σ = some r := ⟨σ.1 0 0 10, rfl, by unfold F_Mod_asked; rw [h.2.2.1.1]⟩
theorem op_upper {σ : St} (h : RR σ) : ∃ r, F_Tent_upper σ = some r ∧ F_Mod_upper σ = some r := ⟨σ.2 0 0 11, rfl, by unfold F_Mod_upper; rw [h.2.2.1.2.1]⟩
theorem op_lower {σ : St} (h : RR σ) : ∃ r, F_Tent_lower σ = some r ∧ F_Mod_lower σ = some r := ⟨σ.2 0 0 12, rfl, by unfold F_Mod_lower; rw [h.2.2.1.2.2.1]⟩
theorem op_finding {σ : St} (h : RR σ) : ∃ r, F_Tent_finding σ = some r ∧ F_Mod_finding σ = some r := ⟨σ.1 0 0 9, rfl, by unfold F_Mod_finding; rw [h.2.2.1.2.2.2.1]⟩
theorem in_lo_hi {a : Int32} {lo hi : Nat} (hlo : lo < 2 ^ 31) (hhi : hi < 2 ^ 31) (g : nI lo ≤ a ∧ a ≤ nI hi) : ∃ k, lo ≤ k ∧ k ≤ hi ∧ a = nI k := by
  rw [i32_le, i32_le, nI_toInt hlo, nI_toInt hhi] at g
  refine ⟨a.toInt.toNat, by omega, by omega, ?_⟩
  rw [i32_eq, nI_toInt (by omega)]
  omega
theorem op_findings {σ : St} (a1 : Int32) (h : RR σ) : ∃ r, F_Tent_findings a1 σ = some r ∧ F_Mod_findings a1 σ = some r := by
  unfold F_Tent_findings F_Mod_findings
  have e1 : (1 : Int64) = (1 : Int32).toInt64 := rfl
  have e5 : (5 : Int64) = (5 : Int32).toInt64 := rfl
  rw [e1, e5, in_I]
  by_cases g : 1 ≤ a1 ∧ a1 ≤ 5
  · obtain ⟨k, hk, hk', rfl⟩ := in_lo_hi (lo := 1) (hi := 5) (by omega) (by omega) g
    refine ⟨σ.1 27 0 k, ?_, ?_⟩
    · rw [if_neg (by rw [show (1 : Int32) = nI 1 from rfl]; simp (disch := omega) only [nI_ltI]; omega), if_pos g.2, ald_27 (by omega)]; rfl
    · rw [if_pos g]
      simp only [obind, b2_some, bs_eq, if_neg one_ne]
      rw [ald_39 (by omega), h.2.2.1.2.2.2.2 k (by omega)]
      rfl
  · refine ⟨-1, ?_, ?_⟩
    · by_cases z : a1 < 1
      · rw [if_pos z]
      · rw [if_neg z, if_neg]
        intro z2
        refine g ⟨?_, z2⟩
        rw [i32_lt] at z
        rw [i32_le]
        omega
    · rw [if_neg g]; rfl
theorem kept_eq {k N : Nat} {σ : St} (hk : k < 3) (hN : N ≤ 5) (h : KeptR k N σ) : ∃ (b : Bool) (v : Int32), F_Tent_isKept (nI k) σ = some (if b = true then 1 else 0) ∧ σ.1 31 0 (1026 * (1 + k)) = v ∧ (v < 0 ↔ b = false) ∧ (b = true → σ.1 4 (1 + k) 16 = v) ∧ (b = false → v = -1) := by
  unfold F_Tent_isKept
  rw [kld_in hk]
  simp only [obind, b2_some, bs_eq]
  rcases h with ⟨a, b⟩ | ⟨a, -, c1, ⟨H, hH, c2, c3, -⟩, -⟩
  · exact ⟨false, -1, by rw [a]; rfl, b, by simp, by simp, by simp⟩
  · refine ⟨true, nI H, ?_, c3, ?_, fun _ => c2, by simp⟩
    · rw [c1, if_neg]
      · rfl
      · rw [show (0 : Int32) = nI 0 from rfl]
        simp (disch := omega) only [nI_leI]
        omega
    · simp only [nI_nneg (show H < 2 ^ 31 by omega), false_iff, Bool.true_eq_false, not_false_eq_true]
theorem there_eq {n t cnt' lim : Nat} {ok : Int32 → Prop} {gs gi : Nat} {σ : St} (h : Shl t gs gi cnt' lim ok σ) (hl : lenOf 2 t = cnt') (hn : 10 < n) : F_Shelf_howManyThere n t σ = some (nI (cnt (fun r => !decide (σ.1 2 t r < 0)) cnt')) := by
  have := len2 t
  unfold F_Shelf_howManyThere
  refine loop_gen (fun q i (s : Nat) => F_Shelf_howManyThere_4 n t q (nI s) (nI i) σ) cnt' (fun i => cnt (fun r => !decide (σ.1 2 t r < 0)) i) _ (fun q => ?_) (fun q i hi => ?_) n 0 (by omega) (by omega)
  · rw [F_Shelf_howManyThere_4, hl, if_pos (by simp (disch := omega) only [nI_leI]; omega)]
  · rw [F_Shelf_howManyThere_4, hl, if_neg (by simp (disch := omega) only [nI_leI]; omega), isThere_in (by omega)]
    simp only [obind, b2_some, bs_eq, F_Shelf_howManyThere_27, nI_1]
    rw [← cnt_step (fun r => !decide (σ.1 2 t r < 0)) i]
    congr 2
    by_cases e : σ.1 2 t i < 0 <;> simp [e]
def thB (σ : St) (k r : Nat) : Bool := if k = 6 then !decide (σ.1 35 0 r < 0) else if k = 7 then decide (r < 4) && !decide (σ.1 37 0 r < 0) else decide (r < 3) && !decide (σ.1 31 0 (1026 * (1 + r)) < 0)
theorem mthere_eq {n k : Nat} {σ : St} (hk : 6 ≤ k ∧ k ≤ 8) (hn : 10 < n) : F_Mod_thereOf n (nI k) σ = some (nI (cnt (thB σ k) 6)) := by
  unfold F_Mod_thereOf
  refine loop_gen (fun q i (s : Nat) => F_Mod_thereOf_4 n q (nI k) (nI s) (nI i) σ) 6 (fun i => cnt (thB σ k) i) _ (fun q => ?_) (fun q i hi => ?_) n 0 (by omega) (by omega)
  · rw [F_Mod_thereOf_4, if_pos (by decide)]
  · rw [F_Mod_thereOf_4, if_neg (by rw [show (6 : Int32) = nI 6 from rfl]; simp (disch := omega) only [nI_leI]; omega)]
    rw [show (6 : Int32) = nI 6 from rfl, show (7 : Int32) = nI 7 from rfl, show (4 : Int32) = nI 4 from rfl, show (3 : Int32) = nI 3 from rfl, show (1026 : Int32) = nI 1026 from rfl]
    simp (disch := omega) only [nI_eq, nI_leI]
    rw [← cnt_step (thB σ k) i]
    unfold thB
    by_cases e6 : k = 6
    · rw [if_pos e6, ald_35 hi]
      simp only [obind, b2_some, bs_eq, F_Mod_thereOf_89, nI_1, if_pos e6, lt_le_n]
      by_cases e : σ.1 35 0 i < 0 <;> simp [e]
    · rw [if_neg e6]
      simp only [if_neg e6]
      by_cases e7 : k = 7
      · rw [if_pos e7]
        simp only [if_pos e7]
        by_cases e4 : 4 ≤ i
        · rw [if_pos e4]
          simp only [F_Mod_thereOf_58, F_Mod_thereOf_89, nI_1, show ¬ i < 4 by omega, decide_false, Bool.false_and, Bool.false_eq_true, if_false]
        · rw [if_neg e4, ald_37 (by omega)]
          simp only [obind, b2_some, bs_eq, F_Mod_thereOf_89, nI_1, show i < 4 by omega, decide_true, Bool.true_and]
          by_cases e : σ.1 37 0 i < 0 <;> simp [e]
      · rw [if_neg e7]
        simp only [if_neg e7]
        by_cases e3 : 3 ≤ i
        · rw [if_pos e3]
          simp only [F_Mod_thereOf_88, F_Mod_thereOf_89, nI_1, show ¬ i < 3 by omega, decide_false, Bool.false_and, Bool.false_eq_true, if_false]
        · rw [if_neg e3, show (1 : Int32) = nI 1 from rfl, show (0 : Int32) = nI 0 from rfl, nI_add, pk_mul, nI_add, ald_31 (by omega)]
          simp only [obind, b2_some, bs_eq, F_Mod_thereOf_89, show nI i + nI 1 = nI (i + 1) from nI_add _ _, show i < 3 by omega, decide_true, Bool.true_and, Nat.add_zero, show nI 0 = (0 : Int32) from rfl, show nI 1 = (1 : Int32) from rfl, nI_1]
          by_cases e : σ.1 31 0 (1026 * (1 + i)) < 0 <;> simp [e]
theorem count_eq {n k : Nat} {σ : St} (h : RR σ) (hk : k < 9) (hn : 10 < n) : ∃ v, F_Tent_count n (nI k) σ = some v ∧ F_Mod_countOf n (nI k) σ = some v := by
  obtain ⟨V, hc, hm⟩ := h.2.2.2.view
  obtain ⟨st, ca, ke⟩ := h.2.2.2.all hc
  have hN := hc.1.1
  obtain ⟨c1, ⟨H, hH, c2, c3, -⟩, ⟨-, -, s3, s4, s5, s6, s7⟩, -⟩ := ca
  unfold F_Tent_count F_Mod_countOf
  rw [show (0 : Int32) = nI 0 from rfl, show (1 : Int32) = nI 1 from rfl, show (2 : Int32) = nI 2 from rfl, show (3 : Int32) = nI 3 from rfl, show (4 : Int32) = nI 4 from rfl, show (5 : Int32) = nI 5 from rfl, show (6 : Int32) = nI 6 from rfl, show (7 : Int32) = nI 7 from rfl, show (8 : Int32) = nI 8 from rfl, show (14 : Int32) = nI 14 from rfl, show (13 : Int32) = nI 13 from rfl, show (11 : Int32) = nI 11 from rfl]
  rw [ald_31 (k := 0) (by omega), ald_31 (k := 14) (by omega), ald_31 (k := 13) (by omega), ald_31 (k := 11) (by omega)]
  simp (disch := omega) only [nI_eq, obind, b2_some, bs_eq]
  have : k = 0 ∨ k = 1 ∨ k = 2 ∨ k = 3 ∨ k = 4 ∨ k = 5 ∨ k = 6 ∨ k = 7 ∨ k = 8 := by omega
  rcases this with r | r | r | r | r | r | r | r | r <;> subst r <;> simp (decide := true) only [if_true, if_false]
  · exact ⟨_, rfl, by rw [hm.2.1, c1]⟩
  · exact ⟨_, rfl, by rw [c3, c2]⟩
  · exact ⟨_, rfl, by rw [← s6.1]⟩
  · exact ⟨_, rfl, by rw [← s5.1]⟩
  · exact ⟨_, rfl, by rw [← s3.1]⟩
  · obtain ⟨e1, e2⟩ := snor_eq hN hc.2.1 hm.2.1 st hn
    exact ⟨_, by rw [e1]; rfl, by rw [e2]; rfl⟩
  · refine ⟨_, by rw [there_eq h.1 rfl hn]; rfl, ?_⟩
    rw [mthere_eq (by omega) hn]
    simp only [obind, b2_some, bs_eq]
    congr 2
    refine cnt_cong (fun r hr => ?_)
    unfold thB
    rw [if_pos rfl, (h.1.2 r hr).1]
  · refine ⟨_, by rw [there_eq h.2.1 rfl hn]; rfl, ?_⟩
    rw [mthere_eq (by omega) hn]
    simp only [obind, b2_some, bs_eq]
    congr 2
    have e : cnt (thB σ 7) 6 = cnt (thB σ 7) 4 := by
      show cnt (thB σ 7) 4 + _ + _ = _
      simp [thB]
    rw [e]
    refine cnt_cong (fun r hr => ?_)
    unfold thB
    rw [if_neg (by omega), if_pos rfl, (h.2.1.2 r hr).1]
    simp [hr]
  · refine ⟨nI (cnt (thB σ 8) 3), ?_, ?_⟩
    · have : F_Tent_keptTents n σ = some (nI (cnt (thB σ 8) 3)) := by
        unfold F_Tent_keptTents
        refine loop_gen (fun q i (s : Nat) => F_Tent_keptTents_4 n q (nI s) (nI i) σ) 3 (fun i => cnt (thB σ 8) i) _ (fun q => ?_) (fun q i hi => ?_) n 0 (by omega) (by omega)
        · rw [F_Tent_keptTents_4, if_pos (by decide)]
        · obtain ⟨b, v, f1, f2, f3, -, -⟩ := kept_eq hi hN (ke i hi)
          rw [F_Tent_keptTents_4, if_neg (by rw [show (3 : Int32) = nI 3 from rfl]; simp (disch := omega) only [nI_leI]; omega), f1]
          simp only [obind, b2_some, bs_eq, F_Tent_keptTents_23, nI_1, b01]
          rw [← cnt_step (thB σ 8) i]
          have e8 : thB σ 8 i = (decide (i < 3) && !decide (v < 0)) := by
            unfold thB
            rw [if_neg (show ¬ 8 = 6 by omega), if_neg (show ¬ 8 = 7 by omega), f2]
          rw [e8]
          cases b
          · simp [hi, f3.mpr rfl]
          · have : ¬ v < 0 := fun z => by have := f3.mp z; simp at this
            simp [hi, this]
      rw [this]; rfl
    · rw [mthere_eq (by omega) hn]
      simp only [obind, b2_some, bs_eq]
      have e : cnt (thB σ 8) 6 = cnt (thB σ 8) 3 := by
        show cnt (thB σ 8) 3 + _ + _ + _ = _
        simp [thB]
      rw [e]
theorem op_count {n : Nat} {σ : St} (a1 : Int32) (hn : 2000 ≤ n) (h : RR σ) : ∃ r, F_Tent_count n a1 σ = some r ∧ F_Mod_count n a1 σ = some r := by
  unfold F_Mod_count
  rw [show (8 : Int64) = (nI 9 - 1).toInt64 from rfl, in_place (by omega)]
  rcases ix_of 9 (by decide) a1 with g | ⟨k, hk, rfl⟩
  · refine ⟨-1, ?_, ?_⟩
    · have g' : ∀ k, k < 9 → ¬ a1 = nI k := by
        intro k hk e
        subst e
        rcases g with g | g
        · exact nI_nneg (by omega) g
        · simp (disch := omega) only [nI_leI] at g
          omega
      unfold F_Tent_count
      rw [if_neg (show ¬ a1 = 0 from g' 0 (by omega)), if_neg (show ¬ a1 = 1 from g' 1 (by omega)), if_neg (show ¬ a1 = 2 from g' 2 (by omega)), if_neg (show ¬ a1 = 3 from g' 3 (by omega)), if_neg (show ¬ a1 = 4 from g' 4 (by omega)), if_neg (show ¬ a1 = 5 from g' 5 (by omega)), if_neg (show ¬ a1 = 6 from g' 6 (by omega)), if_neg (show ¬ a1 = 7 from g' 7 (by omega)), if_neg (show ¬ a1 = 8 from g' 8 (by omega))]
    · rw [if_pos g]; rfl
  · obtain ⟨v, e1, e2⟩ := count_eq h hk (show 10 < n by omega)
    refine ⟨v, e1, ?_⟩
    rw [if_neg]
    · simp only [obind, b2_some, bs_eq, if_neg one_ne]
      rw [e2]; rfl
    · simp (disch := omega) only [nI_leI]
      have := nI_nneg (z := k) (by omega)
      simp only [this, false_or]
      omega
