theorem snap_at {N i : Nat} {pl bg sp rm : Nat → Int32} {ve bo tu ni ho : Int32} {md : Nat → Int32} (h : Snap N pl bg sp rm ve bo tu ni ho md) (hi : i < N) : md (5 + i) = bg i ∧ md (15 + i) = sp i ∧ md (20 + i) = rm i := h.2.1 i hi
theorem trait_eq {n i k : Nat} {V : Vw} {σ σ1 : St} (h : Tnt σ) (hc : CV 0 V σ) (hm : MU V σ1) (hi : i < vN V) (hk : k < 6) (hn : 10 < n) (h1 : ∀ g, 31 ≤ g → g ≤ 34 → σ1.1 g 0 = σ.1 g 0) : ∃ v, F_Camp_trait 0 (nI i) (nI k) σ = some v ∧ F_Mod_toldOf n (nI i) (nI k) σ1 = some (v, lay σ1) := by
  obtain ⟨st, ca, -⟩ := h.all hc
  have hN := hc.1.1
  have hL := hm.ly
  obtain ⟨c1, c2, c3, c4, c5, c6, c7⟩ := hc.2.2.1 i hi
  obtain ⟨d1, d2, d3⟩ := snap_at ca.2.2.1 hi
  have l31 : (lay σ1).1 31 0 = σ.1 31 0 := by rw [lay_ne (by omega) (by omega) (by omega)]; exact h1 31 (by omega) (by omega)
  unfold F_Camp_trait F_Mod_toldOf
  rw [layNow_eq hn]
  simp only [obind, b2_some, bs_eq]
  have : k = 0 ∨ k = 1 ∨ k = 2 ∨ k = 3 ∨ k = 4 ∨ k = 5 := by omega
  have z1 : ∀ a b : Nat, a < 6 → b < 6 → a ≠ b → ¬ nI a = nI b := fun a b ha hb hab => by simp (disch := omega) only [nI_eq]; exact hab
  have z2 : (0 : Int32) = nI 0 := rfl
  have z3 : (1 : Int32) = nI 1 := rfl
  have z4 : (2 : Int32) = nI 2 := rfl
  have z5 : (3 : Int32) = nI 3 := rfl
  have z6 : (4 : Int32) = nI 4 := rfl
  have z7 : (16 : Int32) = nI 16 := rfl
  have z8 : (21 : Int32) = nI 21 := rfl
  rw [z2, z3, z4, z5, z6, z7, z8]
  rcases this with r | r | r | r | r | r <;> subst r
  · simp only [if_true]
    rw [ald_6 (by omega), ald_32 (by omega), lay_ne (by omega) (by omega) (by omega), h1 32 (by omega) (by omega), (st.1 i hi).1]
    exact ⟨_, rfl, rfl⟩
  · simp only [if_neg (show ¬ nI 1 = nI 0 by decide), if_true]
    rw [ald_9 (by omega), c7, mw_gives hL hi]
    simp only [obind, b2_some, bs_eq]
    rw [cv_given hc (hc.1.2.1 i hi).1, (hc.1.2.1 i hi).2]
    exact ⟨_, rfl, rfl⟩
  · simp only [if_neg (show ¬ nI 2 = nI 0 by decide), if_neg (show ¬ nI 2 = nI 1 by decide), if_true]
    rw [ald_8 (by omega), ald_43 (by omega), ← c5, ← (hL.2.2.1 i hi).2.2.2.2.1]
    exact ⟨_, rfl, rfl⟩
  · simp only [if_neg (show ¬ nI 3 = nI 0 by decide), if_neg (show ¬ nI 3 = nI 1 by decide), if_neg (show ¬ nI 3 = nI 2 by decide), if_true]
    rw [ald_9 (by omega), c7, mw_place hL hi hn]
    exact ⟨_, rfl, rfl⟩
  · simp only [if_neg (show ¬ nI 4 = nI 0 by decide), if_neg (show ¬ nI 4 = nI 1 by decide), if_neg (show ¬ nI 4 = nI 2 by decide), if_neg (show ¬ nI 4 = nI 3 by decide), if_true]
    rw [ald_11 (by omega), nI_add, ald_31 (by omega), l31, ← d2, show 0 + 1 + (15 + i) = 16 + i by omega]
    exact ⟨_, rfl, rfl⟩
  · simp only [if_neg (show ¬ nI 5 = nI 0 by decide), if_neg (show ¬ nI 5 = nI 1 by decide), if_neg (show ¬ nI 5 = nI 2 by decide), if_neg (show ¬ nI 5 = nI 3 by decide), if_neg (show ¬ nI 5 = nI 4 by decide)]
    rw [ald_12 (by omega), nI_add, ald_31 (by omega), l31, ← d3, show 0 + 1 + (20 + i) = 21 + i by omega]
    exact ⟨_, rfl, rfl⟩
theorem op_sleeper {n : Nat} {σ : St} (a1 a2 : Int32) (hn : 2000 ≤ n) (h : RR σ) : ∃ r σ1 σ2, F_Tent_sleeper a1 a2 σ = some (r, σ1) ∧ F_Mod_sleeper n a1 a2 σ1 = some (r, σ2) ∧ RR σ2 := by
  obtain ⟨V, hc, hm⟩ := h.2.2.2.view
  have hN := hc.1.1
  have h1 := hc.2.1
  have m1 := hm.2.1
  have hn' : 10 < n := by omega
  unfold F_Tent_sleeper
  rcases ix_of (vN V) (by omega) a1 with g | ⟨i, hi, rfl⟩
  · exact ⟨-1, σ, σ, by simp only [isSl_out h1 g, obind, b2_some, bs_eq, if_true], by simp only [F_Mod_sleeper, mSl_out m1 hN g, obind, b2_some, bs_eq, if_true], h⟩
  · rcases ix_of 6 (by decide) a2 with g | ⟨k, hk, rfl⟩
    · refine ⟨-1, σ, σ, ?_, ?_, h⟩
      · simp only [isSl_in h1 hN hi, obind, b2_some, bs_eq, if_neg one_ne]
        by_cases g0 : a2 < 0
        · rw [if_pos g0]
        · rw [if_neg g0, if_neg]
          have g1 : nI 6 ≤ a2 := by rcases g with g | g; exact absurd g g0; exact g
          show ¬ a2 < nI 6
          rw [i32_lt]
          rw [i32_le] at g1
          omega
      · unfold F_Mod_sleeper
        simp only [mSl_in m1 hN hi, obind, b2_some, bs_eq, if_neg one_ne]
        rw [show (5 : Int64) = (nI 6 - 1).toInt64 from rfl, in_place (by omega), if_pos g]
        simp only [obind, b2_some, bs_eq, if_true]
    · generalize hw : (fun v => si σ 0 0 10 v) = W
      have hW : ∀ v, W v = si σ 0 0 10 v := fun v => by rw [← hw]
      have hm' : ∀ v, MU V (si σ 0 0 10 v) := fun v => hm.cgC (fun g _ _ => si_ne (by omega))
      have hh : ∃ v, F_Camp_trait 0 (nI i) (nI k) σ = some v := by
        obtain ⟨v, e, -⟩ := trait_eq h.2.2.2 hc hm hi hk hn' (fun g _ _ => rfl)
        exact ⟨v, e⟩
      obtain ⟨v, e1⟩ := hh
      obtain ⟨v', e1', e2⟩ := trait_eq h.2.2.2 hc (hm' v) hi hk hn' (fun g _ _ => si_ne (by omega))
      have : v' = v := Option.some.inj (e1'.symm.trans e1)
      subst this
      refine ⟨1, si σ 0 0 10 v', si (lay (si σ 0 0 10 v')) 30 0 9 v', ?_, ?_, h.lyT _⟩
      · simp only [isSl_in h1 hN hi, obind, b2_some, bs_eq, if_neg one_ne]
        rw [if_neg (nI_nneg (by omega)), if_pos (by rw [show (6 : Int32) = nI 6 from rfl]; simp (disch := omega) only [nI_ltI]; omega), e1]
        rfl
      · unfold F_Mod_sleeper
        simp only [mSl_in (hm' v').2.1 hN hi, obind, b2_some, bs_eq, if_neg one_ne]
        rw [show (5 : Int64) = (nI 6 - 1).toInt64 from rfl, in_place (by omega), if_neg]
        · simp only [obind, b2_some, bs_eq, if_neg one_ne]
          rw [e2]
          rfl
        · simp (disch := omega) only [nI_leI]
          have := nI_nneg (z := k) (by omega)
          simp only [this, false_or]
          omega
def outM (V : Vw) : Nat → Int32
  | 0 => 0
  | p + 1 => outM V p ||| (if vS V (vW V p) = true then 0 else (1 : Int32) <<< (nI (vW V p) &&& 31))
theorem op_out {n : Nat} {σ : St} (a1 : Int32) (hn : 2000 ≤ n) (h : RR σ) : ∃ r σ1 σ2, F_Tent_out n a1 σ = some (r, σ1) ∧ F_Mod_out n a1 σ1 = some (r, σ2) ∧ RR σ2 := by
  obtain ⟨V, hc, hm⟩ := h.2.2.2.view
  obtain ⟨st, -, -⟩ := h.2.2.2.all hc
  have hN := hc.1.1
  have h1 := hc.2.1
  have m1 := hm.2.1
  have hn' : 10 < n := by omega
  unfold F_Tent_out F_Mod_out
  rcases ix_of (vN V) (by omega) a1 with g | ⟨i, hi, rfl⟩
  · exact ⟨-1, σ, σ, by simp only [isSl_out h1 g, obind, b2_some, bs_eq, if_true], by simp only [mSl_out m1 hN g, obind, b2_some, bs_eq, if_true], h⟩
  · obtain ⟨c1, c2, c3, c4, c5, c6, c7⟩ := hc.2.2.1 i hi
    have hp := (hc.1.2.1 i hi).1
    refine ⟨nI (vP V i), si σ 0 0 10 (outM V (vP V i)), si (lay (si σ 0 0 10 (outM V (vP V i)))) 30 0 9 (outM V (vP V i)), ?_, ?_, h.lyT _⟩
    · simp only [isSl_in h1 hN hi, obind, b2_some, bs_eq, if_neg one_ne]
      refine loop_gen (fun q p (b : Int32) => F_Tent_out_17 n q (nI i) b (nI p) σ) (vP V i) (outM V) _ (fun q => ?_) (fun q p hp' => ?_) n 0 (by omega) (by omega)
      · rw [F_Tent_out_17, ald_9 (by omega), c7]
        simp only [obind, b2_some, bs_eq]
        rw [if_pos (by simp (disch := omega) only [nI_leI]; omega), ald_9 (by omega), si_ne (by omega), c7]
        rfl
      · have hq := (hc.1.2.2.1 p (by omega)).1
        rw [F_Tent_out_17, ald_9 (by omega), c7]
        simp only [obind, b2_some, bs_eq]
        rw [if_neg (by simp (disch := omega) only [nI_leI]; omega), ald_10 (by omega), (hc.2.2.1 p (by omega)).2.2.2.2.2.1]
        simp only [obind, b2_some, bs_eq]
        rw [ald_6 (by omega)]
        simp only [obind, b2_some, bs_eq, F_Tent_out_62, nI_1, outM, (hc.2.2.1 _ hq).2.2.2.1, kS, decide_eq_true_eq]
        congr 1
        split
        · rw [bit_or0]
        · rfl
    · have hm' : MU V (si σ 0 0 10 (outM V (vP V i))) := hm.cgC (fun g _ _ => si_ne (by omega))
      have hL := hm'.ly
      simp only [mSl_in hm'.2.1 hN hi, obind, b2_some, bs_eq, if_neg one_ne, layNow_eq hn', mw_place hL hi hn']
      refine loop_gen (fun q p (b : Int32) => F_Mod_out_27 n q (nI (vP V i)) (nI p) (si (lay (si σ 0 0 10 (outM V (vP V i)))) 30 0 9 b)) (vP V i) (outM V) _ (fun q => ?_) (fun q p hp' => ?_) n 0 (by omega) (by omega)
      · rw [F_Mod_out_27, if_pos (by simp (disch := omega) only [nI_leI]; omega)]
      · have hq := (hc.1.2.2.1 p (by omega)).1
        have e1 : ((lay (si σ 0 0 10 (outM V (vP V i)))).1 42 0 p) = nI (vW V p) := (hL.2.2.1 p (by omega)).2.2.2.2.2
        rw [F_Mod_out_27, if_neg (by simp (disch := omega) only [nI_leI]; omega), ald_42 (by omega), si_ne (by omega), e1]
        simp only [obind, b2_some, bs_eq]
        rw [ald_32 (by omega), si_ne (by omega), lay_ne (by omega) (by omega) (by omega), si_ne (by omega), (st.1 _ hq).1]
        simp only [obind, b2_some, bs_eq, F_Mod_out_64, si_si, nI_1, si_g, outM, (hc.2.2.1 _ hq).2.2.2.1, kS, decide_eq_true_eq, and_self, if_true]
        split <;> rfl
