theorem bit_val : ∀ T, T < 256 → ∀ h, h < 8 → (((nI T) >>> (nI h &&& 31)) &&& 1) = if T.testBit h = true then 1 else 0 := by decide +kernel
theorem bits_eq {n T : Nat} (hT : T < 256) (hn : 10 < n) : F_Mod_bits n (nI T) = some (nI (pc8 T)) := by
  unfold F_Mod_bits
  refine loop_gen (fun q i (s : Nat) => F_Mod_bits_4 n q (nI T) (nI s) (nI i)) 8 (fun i => cnt (fun h => T.testBit h) i) _ (fun q => ?_) (fun q i hi => ?_) n 0 (by omega) (by omega)
  · rw [F_Mod_bits_4, if_pos (by decide)]; rfl
  · rw [F_Mod_bits_4, if_neg (by rw [show (8 : Int32) = nI 8 from rfl]; simp (disch := omega) only [nI_leI]; omega), bit_val T hT i hi, nI_1, cnt_step (fun h => T.testBit h) i]
theorem isOf1 (k : Int32) : F_Camp_isOf k 1 = some (if kR k = 0 then 0 else 1) := by
  unfold F_Camp_isOf F_Camp_isOf_15 kR
  by_cases h1 : k = 1
  · simp [h1]
  · by_cases h2 : k = 4
    · simp [h2]
    · simp [h1, h2]
theorem r01 (r : Nat) : (if (if r = 0 then (0 : Int32) else 1) = 0 then (0 : Int32) else 1) = if (decide (r ≠ 0)) = true then 1 else 0 := by
  by_cases h : r = 0 <;> simp [h]
theorem snor_eq {n N : Nat} {σ : St} (hN : N ≤ 5) (h1 : σ.1 4 0 10 = nI N) (m1 : σ.1 30 0 1 = nI N) (st : StatR 0 N σ) (hn : 10 < n) : F_Camp_snorers n 0 σ = some (nI (cnt (fun j => decide (kR (σ.1 6 0 j) ≠ 0)) N)) ∧ F_Mod_snorers n σ = some (nI (cnt (fun j => decide (kR (σ.1 6 0 j) ≠ 0)) N)) := by
  constructor
  · unfold F_Camp_snorers
    refine loop_gen (fun q i (s : Nat) => F_Camp_snorers_4 n 0 q (nI s) (nI i) σ) N (fun i => cnt (fun j => decide (kR (σ.1 6 0 j) ≠ 0)) i) _ (fun q => ?_) (fun q i hi => ?_) n 0 (by omega) (by omega)
    · rw [F_Camp_snorers_4, h1, if_pos (by simp (disch := omega) only [nI_leI]; omega)]
    · rw [F_Camp_snorers_4, h1, if_neg (by simp (disch := omega) only [nI_leI]; omega), ald_6 (by omega)]
      simp only [obind, b2_some, bs_eq, isOf1, F_Camp_snorers_31, nI_1, r01, cnt_step (fun j => decide (kR (σ.1 6 0 j) ≠ 0)) i]
  · unfold F_Mod_snorers
    refine loop_gen (fun q i (s : Nat) => F_Mod_snorers_4 n q (nI s) (nI i) σ) N (fun i => cnt (fun j => decide (kR (σ.1 6 0 j) ≠ 0)) i) _ (fun q => ?_) (fun q i hi => ?_) n 0 (by omega) (by omega)
    · rw [F_Mod_snorers_4, m1, if_pos (by simp (disch := omega) only [nI_leI]; omega)]
    · rw [F_Mod_snorers_4, m1, if_neg (by simp (disch := omega) only [nI_leI]; omega), ald_32 (by omega), (st.1 i hi).1]
      simp only [obind, b2_some, bs_eq, isSnoring_eq, F_Mod_snorers_30, nI_1, r01, cnt_step (fun j => decide (kR (σ.1 6 0 j) ≠ 0)) i]
theorem cv_near {n t : Nat} {V : Vw} {σ : St} (h : CV t V σ) {i : Nat} (hi : i < vN V) (hn : 10 < n) : F_Camp_snorersNear n t (nI i) σ = some (nI (cnt (nearB V i) (vN V))) := by
  have hN := h.1.1
  have h1 := h.2.1
  unfold F_Camp_snorersNear
  refine loop_gen (fun q o (s : Nat) => F_Camp_snorersNear_4 n t q (nI i) (nI s) (nI o) σ) (vN V) (fun o => cnt (nearB V i) o) _ (fun q => ?_) (fun q o ho => ?_) n 0 (by omega) (by omega)
  · rw [F_Camp_snorersNear_4, h1, if_pos (by simp (disch := omega) only [nI_leI]; omega)]
  · rw [F_Camp_snorersNear_4, h1, if_neg (by simp (disch := omega) only [nI_leI]; omega), ald_6 (by omega)]
    simp only [obind, b2_some, bs_eq, reach_eq, F_Camp_snorersNear_36, cv_within h hi ho, nI_1, b01, cnt_step]
def hearB (V : Vw) (i j : Nat) : Bool := !vD V j && nearB V j i
theorem cv_hearers {n t : Nat} {V : Vw} {σ : St} (h : CV t V σ) {i : Nat} (hi : i < vN V) (hn : 10 < n) : F_Camp_hearersOf n t (nI i) σ = some (nI (cnt (hearB V i) (vN V))) := by
  have hN := h.1.1
  have h1 := h.2.1
  unfold F_Camp_hearersOf
  refine loop_gen (fun q o (s : Nat) => F_Camp_hearersOf_4 n t q (nI i) (nI s) (nI o) σ) (vN V) (fun o => cnt (hearB V i) o) _ (fun q => ?_) (fun q o ho => ?_) n 0 (by omega) (by omega)
  · rw [F_Camp_hearersOf_4, h1, if_pos (by simp (disch := omega) only [nI_leI]; omega)]
  · rw [F_Camp_hearersOf_4, h1, if_neg (by simp (disch := omega) only [nI_leI]; omega), ald_6 (by omega)]
    simp only [obind, b2_some, bs_eq, reach_eq, F_Camp_hearersOf_36, F_Camp_hearsWithin, ald_6 (show o < 5 by omega), isOf2, cv_within h ho hi, nI_1, ← (h.2.2.1 o ho).2.2.1]
    rw [← cnt_step (hearB V i) o]
    congr 2
    unfold hearB
    cases vD V o <;> cases nearB V o i <;> simp
theorem mw_reach2 {V : Vw} {σ : St} (h : MW V σ) {i o : Nat} (hi : i < vN V) (ho : o < vN V) : F_Mod_reaches (nI o) (nI (vP V i) - nI (vP V o)) σ = some (if nearB V i o = true then 1 else 0) := by
  obtain ⟨hw, h1, h2, h3, h4, h5, h6⟩ := h
  have hN := hw.1
  have hp := (hw.2.1 i hi).1
  have hq := (hw.2.1 o ho).1
  obtain ⟨-, e2, -⟩ := h2 o ho
  unfold F_Mod_reaches F_Mod_reaches_14
  rw [mw_kind (by omega)]
  simp only [obind, b2_some, bs_eq, isSnoring_eq]
  have e1 : (nI (vP V i) - nI (vP V o)).toInt = (vP V i : Int) - vP V o := pk_sub_toInt (by omega) (by omega)
  unfold nearB
  by_cases g1 : nI o = σ.1 30 0 24
  · rw [if_pos g1] at e2
    rw [if_pos g1, if_neg]
    simp only [Bool.and_eq_true, decide_eq_true_eq, e2]
    omega
  · rw [if_neg g1] at e2
    rw [if_neg g1]
    by_cases g2 : kR (kd σ o) = 0
    · rw [if_pos g2, if_pos rfl, if_neg]
      simp only [Bool.and_eq_true, decide_eq_true_eq, e2, g2]
      omega
    · have hle := kR_le (kd σ o)
      rw [if_neg g2, if_neg one_ne, kR_ge _ g2, in_nI _ _ hle, e1, e2]
      simp only [i32_eq, e1, z0_t, obind, b2_some, bs_eq]
      by_cases g3 : (vP V i : Int) - vP V o = 0
      · rw [if_pos g3, if_neg]
        simp only [Bool.and_eq_true, decide_eq_true_eq]
        omega
      · rw [if_neg g3]
        by_cases g4 : -(kR (kd σ o) : Int) ≤ (vP V i : Int) - vP V o ∧ (vP V i : Int) - vP V o ≤ kR (kd σ o)
        · rw [if_pos g4, if_neg (by decide), if_pos]
          simp only [Bool.and_eq_true, decide_eq_true_eq]
          omega
        · rw [if_neg g4, if_pos (by decide), if_neg]
          simp only [Bool.and_eq_true, decide_eq_true_eq]
          omega
theorem mw_hearers {n : Nat} {V : Vw} {σ : St} (h : MW V σ) (h25 : σ.1 30 0 25 = -9) {i : Nat} (hi : i < vN V) (hn : 10 < n) : F_Mod_heardBy n (nI i) σ = some (nI (cnt (hearB V i) (vN V))) := by
  have hN := h.1.1
  have h1 := h.2.1
  unfold F_Mod_heardBy
  refine loop_gen (fun q o (s : Nat) => F_Mod_heardBy_4 n q (nI i) (nI s) (nI o) σ) (vN V) (fun o => cnt (hearB V i) o) _ (fun q => ?_) (fun q o ho => ?_) n 0 (by omega) (by omega)
  · rw [F_Mod_heardBy_4, h1, if_pos (by simp (disch := omega) only [nI_leI]; omega)]
  · obtain ⟨-, -, e3, -⟩ := h.2.2.1 o ho
    have k1 : kd σ o = σ.1 32 0 o := by
      unfold kd
      rw [h25, if_neg (nI_n9 (by omega))]
    rw [k1] at e3
    rw [F_Mod_heardBy_4, h1, if_neg (by simp (disch := omega) only [nI_leI]; omega), ald_32 (by omega), mw_place h ho hn, mw_place h hi hn]
    simp only [obind, b2_some, bs_eq, hearsNone_eq, ← e3, F_Mod_heardBy_48, F_Mod_heardBy_49, mw_reach2 h ho hi, nI_1, b01]
    rw [← cnt_step (hearB V i) o]
    unfold hearB
    cases vD V o
    · simp
    · simp [one_ne]
theorem beside_eq {n : Nat} {V : Vw} {σ σ' : St} (h : CV 0 V σ) (hm : MW V σ') {i : Nat} (hi : i < vN V) (hn : 10 < n) : ∃ v, F_Camp_givenAway 0 (nI i) σ = some (v * vG V i) ∧ F_Mod_beside n (nI i) σ' = some v := by
  have hN := h.1.1
  have hp := (h.1.2.1 i hi).1
  obtain ⟨c1, c2, c3, c4, c5, c6, c7⟩ := h.2.2.1 i hi
  unfold F_Camp_givenAway F_Camp_givenAway_14 F_Camp_givenAway_34 F_Mod_beside F_Mod_beside_15
  rw [ald_9 (by omega), c7, mw_place hm hi hn, h.2.1, hm.2.1]
  simp only [obind, b2_some, bs_eq]
  rw [cv_given h hp, (h.1.2.1 i hi).2]
  simp only [obind, b2_some, bs_eq]
  by_cases e : nI (vN V) - 1 ≤ nI (vP V i)
  · exact ⟨(if nI (vP V i) ≤ 0 then 0 else 1) + 0, by simp only [if_pos e], by simp only [if_pos e]⟩
  · exact ⟨(if nI (vP V i) ≤ 0 then 0 else 1) + 1, by simp only [if_neg e], by simp only [if_neg e]⟩
theorem op_mark {n : Nat} {σ : St} (a1 a2 : Int32) (hn : 2000 ≤ n) (h : RR σ) : ∃ r σ1 σ2, F_Tent_mark n a1 a2 σ = some (r, σ1) ∧ F_Mod_mark n a1 a2 σ1 = some (r, σ2) ∧ RR σ2 := by
  obtain ⟨V, hc, hm⟩ := h.2.2.2.view
  obtain ⟨st, -, -⟩ := h.2.2.2.all hc
  have hN := hc.1.1
  have h1 := hc.2.1
  have m1 := hm.2.1
  have hn' : 10 < n := by omega
  have hL := hm.ly
  have l25 : (lay σ).1 30 0 25 = -9 := by rw [lay_30 (by decide) (by decide)]; exact hm.2.2.2.2.2.2.2.2
  unfold F_Tent_mark F_Mod_mark
  rcases ix_of (vN V) (by omega) a1 with g | ⟨i, hi, rfl⟩
  · exact ⟨-1, σ, σ, by simp only [isSl_out h1 g, obind, b2_some, bs_eq, if_true], by simp only [mSl_out m1 hN g, obind, b2_some, bs_eq, if_true], h⟩
  · simp only [isSl_in h1 hN hi, obind, b2_some, bs_eq, if_neg one_ne]
    have e1 : (1 : Int64) = (1 : Int32).toInt64 := rfl
    have e5 : (5 : Int64) = (5 : Int32).toInt64 := rfl
    rw [e1, e5, in_I]
    by_cases g : 1 ≤ a2 ∧ a2 ≤ 5
    · obtain ⟨k, hk, hk', rfl⟩ : ∃ k, 1 ≤ k ∧ k ≤ 5 ∧ a2 = nI k := by
        rcases ix_of 6 (by decide) a2 with z | ⟨k, hk, rfl⟩
        · exfalso
          rw [i32_le, i32_le] at g
          rw [i32_lt, i32_le] at z
          have a1 : (nI 6).toInt = 6 := by decide
          have a2 : (5 : Int32).toInt = 5 := by decide
          have a3 : (1 : Int32).toInt = 1 := by decide
          rw [z0_t] at z
          omega
        · refine ⟨k, ?_, by omega, rfl⟩
          have g1 := g.1
          rw [show (1 : Int32) = nI 1 from rfl] at g1
          simp (disch := omega) only [nI_leI] at g1
          exact g1
      have z0 : ¬ nI k ≤ 0 := by
        rw [show (0 : Int32) = nI 0 from rfl]
        simp (disch := omega) only [nI_leI]
        omega
      have z6 : nI k < 6 := by
        rw [show (6 : Int32) = nI 6 from rfl]
        simp (disch := omega) only [nI_ltI]
        omega
      rw [if_neg z0, if_pos z6, ald_6 (by omega)]
      simp only [obind, b2_some, bs_eq]
      have isO : ∀ s : St, s.1 32 0 i = σ.1 6 0 i → F_Mod_isOf (nI i) (nI k) s = F_Camp_isOf (σ.1 6 0 i) (nI k) := by
        intro s hs
        unfold F_Mod_isOf F_Mod_isOf_25 F_Camp_isOf F_Camp_isOf_15
        rw [ald_32 (by omega), hs]
        rfl
      obtain ⟨b, hb⟩ : ∃ b : Bool, F_Camp_isOf (σ.1 6 0 i) (nI k) = some (if b = true then 1 else 0) := by
        unfold F_Camp_isOf F_Camp_isOf_15
        by_cases c1 : σ.1 6 0 i = nI k
        · exact ⟨true, by simp [c1]⟩
        · rw [if_neg c1]
          by_cases c2 : nI k = 1
          · rw [if_pos c2]
            by_cases c3 : σ.1 6 0 i = 4
            · exact ⟨true, by rw [if_pos c3]; rfl⟩
            · rw [if_neg c3, if_neg (by rw [c2]; decide)]
              exact ⟨false, rfl⟩
          · rw [if_neg c2]
            by_cases c4 : nI k = 2
            · rw [if_pos c4]
              by_cases c5 : σ.1 6 0 i = 5
              · exact ⟨true, by rw [if_pos c5]; rfl⟩
              · exact ⟨false, by rw [if_neg c5]; rfl⟩
            · exact ⟨false, by rw [if_neg c4]; rfl⟩
      rw [hb]
      simp only [obind, b2_some, bs_eq]
      cases b with
      | false =>
        refine ⟨-3, cF 3 σ, mF 3 (cF 3 σ), ?_, ?_, h.found (by omega)⟩
        · simp only [Bool.false_eq_true, if_false, if_true]
          rw [show (3 : Int32) = nI 3 from rfl, found_eq (by omega)]
          rfl
        · have hm' : MU V (cF 3 σ) := hm.cgC (fun g _ _ => by unfold cF; rw [si_ne (by omega), si_ne (by omega)])
          rw [mSl_in hm'.2.1 hN hi]
          simp only [obind, b2_some, bs_eq, if_neg one_ne]
          rw [if_pos g, isO _ (by unfold cF; rw [si_ne (by omega), si_ne (by omega)]; exact (st.1 i hi).1), hb]
          simp only [obind, b2_some, bs_eq, if_neg one_ne, Bool.false_eq_true, if_false, if_true]
          rw [show (3 : Int32) = nI 3 from rfl, find_eq (by omega)]
          rfl
      | true =>
        have hmod : ∀ r, ((if nI k = 1 then (F_Mod_heardBy n (nI i) (lay σ)).bind fun v5 => some (v5, lay σ) else if nI k = 2 then (F_Mod_snorersNear n (nI i) (lay σ)).bind fun v6 => some (v6, lay σ) else if nI k = 3 then (F_Mod_givesOf (nI i) (lay σ)).bind fun v7 => (F_Mod_beside n (nI i) (lay σ)).bind fun v8 => some (v7 * v8, lay σ) else if nI k = 4 then (F_Mod_snorers n (lay σ)).bind fun v9 => some (v9, lay σ) else (F_Mod_bits n ((lay σ).1 30 0 22)).bind fun v10 => some (v10, lay σ)) = some (r, lay σ)) → ((F_Mod_isSleeper (nI i) σ).bind fun v1 => if v1 = 0 then some (-1, σ) else (some (if 1 ≤ nI k ∧ nI k ≤ 5 then 1 else 0)).bind fun v2 => if v2 = 0 then some (-1, σ) else (F_Mod_isOf (nI i) (nI k) σ).bind fun v3 => if v3 = 0 then b2 (F_Mod_find 3 σ) fun v11 σ12 => some (v11, σ12) else (F_Mod_layNow n σ).bind fun σ4 => if nI k = 1 then (F_Mod_heardBy n (nI i) σ4).bind fun v5 => some (v5, σ4) else if nI k = 2 then (F_Mod_snorersNear n (nI i) σ4).bind fun v6 => some (v6, σ4) else if nI k = 3 then (F_Mod_givesOf (nI i) σ4).bind fun v7 => (F_Mod_beside n (nI i) σ4).bind fun v8 => some (v7 * v8, σ4) else if nI k = 4 then (F_Mod_snorers n σ4).bind fun v9 => some (v9, σ4) else (F_Mod_bits n (σ4.1 30 0 22)).bind fun v10 => some (v10, σ4)) = some (r, lay σ) := by
          intro r hr
          rw [mSl_in m1 hN hi]
          simp only [obind, b2_some, bs_eq, if_neg one_ne]
          rw [if_pos g, isO _ (st.1 i hi).1, hb, layNow_eq hn']
          simp only [obind, b2_some, bs_eq, if_neg one_ne, if_true]
          exact hr
        simp only [if_true, if_neg one_ne]
        have : k = 1 ∨ k = 2 ∨ k = 3 ∨ k = 4 ∨ k = 5 := by omega
        rcases this with r | r | r | r | r <;> subst r
        · refine ⟨nI (cnt (hearB V i) (vN V)), σ, lay σ, ?_, hmod _ ?_, h.ly⟩
          · rw [if_pos (by decide), cv_hearers hc hi hn']; rfl
          · rw [if_pos (by decide), mw_hearers hL l25 hi hn']; rfl
        · refine ⟨nI (cnt (nearB V i) (vN V)), σ, lay σ, ?_, hmod _ ?_, h.ly⟩
          · rw [if_neg (by decide), if_pos (by decide), cv_near hc hi hn']; rfl
          · rw [if_neg (by decide), if_pos (by decide), mw_near hL hi hn']; rfl
        · obtain ⟨v, b1, b2⟩ := beside_eq hc hL hi hn'
          refine ⟨v * vG V i, σ, lay σ, ?_, hmod _ ?_, h.ly⟩
          · rw [if_neg (by decide), if_neg (by decide), if_pos (by decide), b1]; rfl
          · rw [if_neg (by decide), if_neg (by decide), if_pos (by decide), b2, mw_gives hL hi]
            simp only [obind, b2_some, bs_eq, Int32.mul_comm]
        · obtain ⟨s1, -⟩ := snor_eq hN h1 m1 st hn'
          have e4 : (lay σ).1 4 0 = σ.1 4 0 := lay_ne (by omega) (by omega) (by omega)
          have e6 : (lay σ).1 6 0 = σ.1 6 0 := lay_ne (by omega) (by omega) (by omega)
          have sl : StatR 0 (vN V) (lay σ) := st.cg (fun g a b => lay_ne (by omega) (by omega) (by omega)) (lay_ne (by omega) (by omega) (by omega)) (lay_ne (by omega) (by omega) (by omega)) (lay_ne (by omega) (by omega) (by omega))
          obtain ⟨-, s2⟩ := snor_eq (σ := lay σ) hN (by rw [e4]; exact h1) hL.2.1 sl hn'
          rw [e6] at s2
          refine ⟨nI (cnt (fun j => decide (kR (σ.1 6 0 j) ≠ 0)) (vN V)), σ, lay σ, ?_, hmod _ ?_, h.ly⟩
          · rw [if_neg (by decide), if_neg (by decide), if_neg (by decide), if_pos (by decide), s1]; rfl
          · rw [if_neg (by decide), if_neg (by decide), if_neg (by decide), if_pos (by decide), s2]; rfl
        · refine ⟨nI (pc8 (vT V)), σ, lay σ, ?_, hmod _ ?_, h.ly⟩
          · rw [if_neg (by decide), if_neg (by decide), if_neg (by decide), if_neg (by decide), hc.2.2.2.2.2.2, bitCount_eq _ hc.1.2.2.2.2.2.1]; rfl
          · rw [if_neg (by decide), if_neg (by decide), if_neg (by decide), if_neg (by decide), hL.2.2.2.2.2.2, bits_eq hc.1.2.2.2.2.2.1 hn']; rfl
    · refine ⟨-1, σ, σ, ?_, ?_, h⟩
      · by_cases z : a2 ≤ 0
        · rw [if_pos z]
        · rw [if_neg z, if_neg]
          intro z2
          refine g ?_
          rw [i32_le] at z
          rw [i32_lt] at z2
          rw [i32_le, i32_le]
          have a1 : (6 : Int32).toInt = 6 := by decide
          have a2 : (5 : Int32).toInt = 5 := by decide
          have a3 : (1 : Int32).toInt = 1 := by decide
          rw [z0_t] at z
          omega
      · rw [mSl_in m1 hN hi]
        simp only [obind, b2_some, bs_eq, if_neg one_ne]
        rw [if_neg g, if_pos rfl]
