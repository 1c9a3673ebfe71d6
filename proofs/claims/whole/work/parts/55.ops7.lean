-- ODDS
def pwM (s b : Int64) : Nat → Int64
  | 0 => s
  | m + 1 => pwM s b m * b
def tpF (b : Nat) : Nat → Nat
  | 0 => 0
  | d + 1 => if d + 1 ≤ 1 then d + 1 else if b % (d + 1) = 0 ∧ 12 % (d + 1) = 0 then d + 1 else tpF b d
theorem tpF_le (b : Nat) : ∀ d, 1 ≤ d → 1 ≤ tpF b d ∧ tpF b d ≤ d
  | 0, h => by omega
  | d + 1, h => by
    unfold tpF
    by_cases e : d + 1 ≤ 1
    · rw [if_pos e]; omega
    · rw [if_neg e]
      have := tpF_le b d (by omega)
      split <;> omega
theorem tp_find {n b : Nat} {m : Int32} {σ : St} (hb : b ≤ 12) : ∀ d k, 1 ≤ d → d ≤ 12 → d < k → F_Tent_tellPower_3 n k (nI b) m (nI d) σ = F_Tent_tellPower_27 n (nI b) m (nI (tpF b d)) σ
  | 0, k, h, _, _ => by omega
  | d + 1, 0, _, _, h => by omega
  | d + 1, k + 1, _, hd, hk => by
    rw [F_Tent_tellPower_3]
    unfold tpF
    by_cases e : d + 1 ≤ 1
    · rw [if_pos (by rw [show (1 : Int32) = nI 1 from rfl]; simp (disch := omega) only [nI_leI]; exact e), if_pos e]
    · have ih := tp_find (n := n) (m := m) (σ := σ) hb d k (by omega) (by omega) (by omega)
      have ed : nI (d + 1) + (-1) = nI d := by rw [← Int32.sub_eq_add_neg, nI_pred]
      have hl1 : b % (d + 1) < d + 1 := Nat.mod_lt _ (by omega)
      have hl2 : 12 % (d + 1) < d + 1 := Nat.mod_lt _ (by omega)
      rw [if_neg (by rw [show (1 : Int32) = nI 1 from rfl]; simp (disch := omega) only [nI_leI]; exact e), if_neg e, rem_N (by omega) (by omega) (by omega), show (12 : Int32) = nI 12 from rfl, rem_N (by omega) (by omega) (by omega)]
      simp only [obind, b2_some, bs_eq, F_Tent_tellPower_21, ed]
      by_cases e1 : b % (d + 1) = 0
      · rw [if_pos (by rw [e1]; rfl)]
        by_cases e2 : 12 % (d + 1) = 0
        · rw [if_pos (by rw [e2]; rfl), if_pos ⟨e1, e2⟩]
        · rw [if_neg (by rw [nI_z (by omega)]; exact e2), if_neg (fun z => e2 z.2), ih]
      · rw [if_neg (by rw [nI_z (by omega)]; exact e1), if_neg (fun z => e1 z.1), ih]
theorem div_N {a d : Nat} (h : 0 < d) (ha : a < 2 ^ 31) (hd : d < 2 ^ 31) : dvI (nI a) (nI d) = some (nI (a / d)) := by
  unfold dvI
  have hne : ¬ nI d = 0 := nI_ne0 h hd
  rw [if_neg hne, pk_div ha h hd]
def tpU (b m : Nat) : Int64 := pwM 1 (nI (b / tpF b 12)).toInt64 m
def tpL (b m : Nat) : Int64 := pwM 1 (nI (12 / tpF b 12)).toInt64 m
theorem tp_eq {n b m : Nat} {σ : St} (hb : b ≤ 12) (hm : m ≤ 5) (hn : 20 < n) : ∃ w, F_Tent_tellPower n (nI b) (nI m) σ = some w ∧ w.1 = σ.1 ∧ (∀ g u, ¬ (g = 0 ∧ u = 0) → w.2 g u = σ.2 g u) ∧ w.2 0 0 11 = tpU b m ∧ w.2 0 0 12 = tpL b m := by
  unfold F_Tent_tellPower
  rw [show (12 : Int32) = nI 12 from rfl, tp_find hb 12 n (by omega) (by omega) (by omega)]
  have hd := tpF_le b 12 (by omega)
  unfold F_Tent_tellPower_27
  simp only [obind, b2_some, bs_eq]
  refine loop_inv (fun q i (_ : Unit) s => F_Tent_tellPower_40 n q (nI b) (nI m) (nI (tpF b 12)) (nI i) s) m (fun _ => ()) (fun i s => s.1 = σ.1 ∧ (∀ g u, ¬ (g = 0 ∧ u = 0) → s.2 g u = σ.2 g u) ∧ s.2 0 0 11 = tpU b i ∧ s.2 0 0 12 = tpL b i) (fun w => w.1 = σ.1 ∧ (∀ g u, ¬ (g = 0 ∧ u = 0) → w.2 g u = σ.2 g u) ∧ w.2 0 0 11 = tpU b m ∧ w.2 0 0 12 = tpL b m) (fun q s hs => ?_) (fun q i s hi hs => ?_) n 0 _ (by omega) (by omega) ?_
  · exact ⟨s, by rw [F_Tent_tellPower_40, if_pos (by simp (disch := omega) only [nI_leI]; omega)], hs⟩
  · refine ⟨sl (sl s 0 0 11 (s.2 0 0 11 * (nI (b / tpF b 12)).toInt64)) 0 0 12 (s.2 0 0 12 * (nI (12 / tpF b 12)).toInt64), ?_, ?_, fun g u a => ?_, ?_, ?_⟩
    · rw [F_Tent_tellPower_40, if_neg (by simp (disch := omega) only [nI_leI]; omega), div_N (by omega) (by omega) (by omega), show (12 : Int32) = nI 12 from rfl, div_N (by omega) (by omega) (by omega)]
      simp only [obind, b2_some, bs_eq, nI_1]
      rw [sl_g, if_neg (by omega)]
    · rw [sl_1, sl_1]; exact hs.1
    · rw [← hs.2.1 g u a]
      funext j
      rw [sl_g, if_neg (fun z => a z.1), sl_g, if_neg (fun z => a z.1)]
    · rw [sl_g, if_neg (by omega), sl_g, if_pos (by omega), hs.2.2.1]
      rfl
    · rw [sl_g, if_pos (by omega), hs.2.2.2]
      rfl
  · refine ⟨by rw [sl_1, sl_1], fun g u a => ?_, ?_, ?_⟩
    · funext j
      rw [sl_g, if_neg (fun z => a z.1), sl_g, if_neg (fun z => a z.1)]
    · rw [sl_g, if_neg (by omega), sl_g, if_pos (by omega)]
      rfl
    · rw [sl_g, if_pos (by omega)]
      rfl
theorem div_n (n : Nat) : ∀ k a b, F_Mod_divisor_6 n k a b = F_Mod_divisor_6 0 k a b
  | 0, _, _ => rfl
  | k + 1, a, b => by
    rw [F_Mod_divisor_6, F_Mod_divisor_6]
    split
    · rfl
    · cases h : rmL a b with
      | none => rfl
      | some v => simp only [obind, b2_some, bs_eq]; exact div_n n k b v
theorem div_up : ∀ k j a b v, F_Mod_divisor_6 0 k a b = some v → F_Mod_divisor_6 0 (k + j) a b = some v
  | 0, _, _, _, _, h => by rw [F_Mod_divisor_6] at h; exact absurd h (by simp)
  | k + 1, j, a, b, v, h => by
    rw [show k + 1 + j = (k + j) + 1 by omega, F_Mod_divisor_6]
    rw [F_Mod_divisor_6] at h
    by_cases e : lg_cmp b 0 = 0
    · rw [if_pos e] at *; exact h
    · rw [if_neg e] at *
      cases hr : rmL a b with
      | none => rw [hr] at h; exact absurd h (by simp)
      | some w =>
        rw [hr] at h
        simp only [obind, b2_some, bs_eq] at *
        exact div_up k j b w v h
noncomputable def oddB (s b m : Nat) : Bool :=
  match F_Mod_divisor_6 0 40 (pwM (nI s).toInt64 (nI b).toInt64 m) (pwM 1 12 m) with
  | some g => decide (dvL (pwM (nI s).toInt64 (nI b).toInt64 m) g = some (if s = 0 then tpU 0 1 else tpU b m)) && decide (dvL (pwM 1 12 m) g = some (if s = 0 then tpL 0 1 else tpL b m))
  | none => false
theorem odd_ok : ∀ s, s < 2 → ∀ b, b < 13 → ∀ m, m < 5 → oddB s b (m + 1) = true := by decide +kernel
theorem odd_eq {n s b m : Nat} (hs : s < 2) (hb : b ≤ 12) (h1 : 1 ≤ m) (h5 : m ≤ 5) (hn : 40 ≤ n) : ∃ g, F_Mod_divisor n (pwM (nI s).toInt64 (nI b).toInt64 m) (pwM 1 12 m) = some g ∧ dvL (pwM (nI s).toInt64 (nI b).toInt64 m) g = some (if s = 0 then tpU 0 1 else tpU b m) ∧ dvL (pwM 1 12 m) g = some (if s = 0 then tpL 0 1 else tpL b m) := by
  have h := odd_ok s hs b (by omega) (m - 1) (by omega)
  rw [show m - 1 + 1 = m by omega] at h
  unfold oddB at h
  cases e : F_Mod_divisor_6 0 40 (pwM (nI s).toInt64 (nI b).toInt64 m) (pwM 1 12 m) with
  | none => rw [e] at h; exact absurd h (by simp)
  | some g =>
    rw [e] at h
    simp only [Bool.and_eq_true, decide_eq_true_eq] at h
    refine ⟨g, ?_, h.1, h.2⟩
    unfold F_Mod_divisor
    rw [div_n, show n = 40 + (n - 40) by omega]
    exact div_up 40 _ _ _ _ e
theorem op_odds {n : Nat} {σ : St} (a1 a2 a3 : Int32) (hn : 2000 ≤ n) (h : RR σ) : ∃ r σ1 σ2, F_Tent_odds n a1 a2 a3 σ = some (r, σ1) ∧ F_Mod_odds n a1 a2 a3 σ1 = some (r, σ2) ∧ RR σ2 := by
  obtain ⟨V, hc, hm⟩ := h.2.2.2.view
  obtain ⟨st, -, -⟩ := h.2.2.2.all hc
  have hN := hc.1.1
  have h1 := hc.2.1
  have m1 := hm.2.1
  have hn' : 10 < n := by omega
  unfold F_Tent_odds F_Mod_odds
  rcases ix_of (vN V) (by omega) a1 with g | ⟨i, hi, rfl⟩
  · exact ⟨-1, σ, σ, by simp only [isSl_out h1 g, obind, b2_some, bs_eq, if_true], by simp only [mSl_out m1 hN g, obind, b2_some, bs_eq, if_true], h⟩
  · rcases ix_of 8 (by decide) a2 with g | ⟨k, hk, rfl⟩
    · exact ⟨-1, σ, σ, by simp only [isSl_in h1 hN hi, obind, b2_some, bs_eq, if_neg one_ne, (isHr_out g).1, if_true], by simp only [mSl_in m1 hN hi, obind, b2_some, bs_eq, if_neg one_ne, (isHr_out g).2, if_true], h⟩
    · simp only [isSl_in h1 hN hi, obind, b2_some, bs_eq, if_neg one_ne, (isHr_in hk).1, (isHr_in hk).2]
      rw [show (12 : Int64) = (nI 13 - 1).toInt64 from rfl, in_place (by omega)]
      rcases ix_of 13 (by decide) a3 with g | ⟨a, ha, rfl⟩
      · refine ⟨-1, σ, σ, ?_, ?_, h⟩
        · by_cases g0 : a3 < 0
          · rw [if_pos g0]
          · rw [if_neg g0, if_neg]
            have g1 : nI 13 ≤ a3 := by rcases g with g | g; exact absurd g g0; exact g
            rw [i32_le] at *
            have : (nI 13).toInt = 13 := by decide
            have : (12 : Int32).toInt = 12 := by decide
            omega
        · simp only [mSl_in m1 hN hi, obind, b2_some, bs_eq, if_neg one_ne, if_pos g, if_true]
      · have ga : ¬ (nI a < 0 ∨ nI 13 ≤ nI a) := by
          simp (disch := omega) only [nI_leI]
          have := nI_nneg (z := a) (by omega)
          simp only [this, false_or]
          omega
        rw [if_neg (nI_nneg (by omega)), if_pos (by rw [show (12 : Int32) = nI 12 from rfl]; simp (disch := omega) only [nI_leI]; omega), if_neg ga, cv_why hc hi hk hn']
        have e12 : (12 : Int32) - nI a = nI (12 - a) := by
          rw [show (12 : Int32) = nI 12 from rfl, i32_eq, pk_sub_toInt (by omega) (by omega), nI_toInt (by omega)]
          omega
        simp only [obind, b2_some, bs_eq, e12]
        have hp := (hc.1.2.1 i hi).1
        obtain ⟨c1, c2, c3, c4, c5, c6, c7⟩ := hc.2.2.1 i hi
        generalize hs : (if whyV V i k = 0 then 1 else 0) = s
        have hs2 : s < 2 := by rw [← hs]; split <;> omega
        generalize hmm : (if vS V i = true then 1 else vN V - vP V i) = m
        have hm1 : 1 ≤ m ∧ m ≤ 5 := by rw [← hmm]; split <;> omega
        have stay : F_Camp_mustStayIn 0 (nI i) σ = some (nI m) := by
          unfold F_Camp_mustStayIn
          rw [ald_6 (by omega), ald_9 (by omega), c7, h1]
          simp only [obind, b2_some, bs_eq]
          rw [c4, kS] at hmm
          by_cases e : σ.1 6 0 i = 5
          · rw [if_pos e, ← hmm]; simp [e]; rfl
          · rw [if_neg e, ← hmm]
            simp only [e, decide_false, Bool.false_eq_true, if_false]
            congr 1
            rw [i32_eq, pk_sub_toInt (by omega) (by omega), nI_toInt (by omega)]
            omega
        obtain ⟨w, f1, f2, f3, f4, f5⟩ : ∃ w, (if whyV V i k = 0 then (F_Camp_mustStayIn 0 (nI i) σ).bind fun v4 => (F_Tent_tellPower n (nI (12 - a)) v4 σ).bind fun σ5 => some ((1 : Int32), σ5) else (F_Tent_tellPower n 0 1 σ).bind fun σ6 => some (1, σ6)) = some (1, w) ∧ w.1 = σ.1 ∧ (∀ g u, ¬ (g = 0 ∧ u = 0) → w.2 g u = σ.2 g u) ∧ w.2 0 0 11 = (if s = 0 then tpU 0 1 else tpU (12 - a) m) ∧ w.2 0 0 12 = (if s = 0 then tpL 0 1 else tpL (12 - a) m) := by
          by_cases e : whyV V i k = 0
          · rw [if_pos e, stay]
            simp only [obind, b2_some, bs_eq]
            rw [if_pos e] at hs
            obtain ⟨w, f1, f2, f3, f4, f5⟩ := tp_eq (n := n) (b := 12 - a) (m := m) (σ := σ) (by omega) hm1.2 (by omega)
            refine ⟨w, by rw [f1]; rfl, f2, f3, ?_, ?_⟩
            · rw [← hs, if_neg (by omega)]; exact f4
            · rw [← hs, if_neg (by omega)]; exact f5
          · rw [if_neg e]
            rw [if_neg e] at hs
            obtain ⟨w, f1, f2, f3, f4, f5⟩ := tp_eq (n := n) (b := 0) (m := 1) (σ := σ) (by omega) (by omega) (by omega)
            refine ⟨w, by rw [show (0 : Int32) = nI 0 from rfl, show (1 : Int32) = nI 1 from rfl, f1]; rfl, f2, f3, ?_, ?_⟩
            · rw [← hs, if_pos rfl]; exact f4
            · rw [← hs, if_pos rfl]; exact f5
        have hm' : MU V w := hm.cgC (fun g _ _ => by rw [f2])
        have hL := hm'.ly
        obtain ⟨gc, g1, g2, g3⟩ := odd_eq (n := n) (s := s) (b := 12 - a) (m := m) hs2 (by omega) hm1.1 hm1.2 (by omega)
        refine ⟨1, w, sl (sl (lay w) 30 0 10 (if s = 0 then tpU 0 1 else tpU (12 - a) m)) 30 0 11 (if s = 0 then tpL 0 1 else tpL (12 - a) m), f1, ?_, ?_⟩
        · rw [mSl_in hm'.2.1 hN hi, layNow_eq hn']
          simp only [obind, b2_some, bs_eq, if_neg one_ne]
          rw [ald_32 (by omega), lay_ne (by omega) (by omega) (by omega), f2, (st.1 i hi).1, hL.2.1, mw_place hL hi hn']
          simp only [obind, b2_some, bs_eq]
          have tail : F_Mod_odds_59 n (nI i) (nI k) (nI a) (nI (m - 1)) (lay w) = some (1, sl (sl (lay w) 30 0 10 (if s = 0 then tpU 0 1 else tpU (12 - a) m)) 30 0 11 (if s = 0 then tpL 0 1 else tpL (12 - a) m)) := by
            unfold F_Mod_odds_59 F_Mod_odds_75
            rw [mw_why hL hi hk hn']
            simp only [obind, b2_some, bs_eq]
            have es : (if whyV V i k = 0 then (1 : Int64) else 0) = (nI s).toInt64 := by
              rw [← hs]
              split <;> rfl
            rw [es]
            refine loop_gen (fun q j (b : Int64 × Int64) => F_Mod_odds_83 n q (nI a) (nI (m - 1)) b.1 b.2 (nI j) (lay w)) m (fun j => (pwM (nI s).toInt64 (nI (12 - a)).toInt64 j, pwM 1 12 j)) _ (fun q => ?_) (fun q j hj => ?_) n 0 (by omega) (by omega)
            · rw [F_Mod_odds_83, if_pos (by simp (disch := omega) only [nI_ltI]; omega), g1]
              simp only [obind, b2_some, bs_eq]
              rw [g2]
              simp only [obind, b2_some, bs_eq]
              rw [g3]
              rfl
            · rw [F_Mod_odds_83, if_neg (by simp (disch := omega) only [nI_ltI]; omega), e12, nI_1]
              rfl
          rw [c4, kS] at hmm
          by_cases e : σ.1 6 0 i = 5
          · rw [if_pos e]
            simp [e] at hmm
            rw [← hmm] at tail
            rw [← hmm]
            exact tail
          · rw [if_neg e]
            simp only [e, decide_false, Bool.false_eq_true, if_false] at hmm
            have : nI (vN V) - 1 - nI (vP V i) = nI (m - 1) := by
              rw [pred_N (by omega), i32_eq, pk_sub_toInt (by omega) (by omega), nI_toInt (by omega)]
              omega
            rw [this]
            exact tail
        · obtain ⟨r1, r2, r3, r4⟩ := h
          have hR : RR (lay σ) := RR.ly ⟨r1, r2, r3, r4⟩
          have el : ∀ g u, (sl (sl (lay w) 30 0 10 (if s = 0 then tpU 0 1 else tpU (12 - a) m)) 30 0 11 (if s = 0 then tpL 0 1 else tpL (12 - a) m)).1 g u = (lay w).1 g u := fun _ _ => rfl
          have ew : ∀ g u, keepG g u ∨ g = 0 → (lay w).1 g u = σ.1 g u := fun g u a => by rw [lay_ne (by unfold keepG at a; omega) (by unfold keepG at a; omega) (by unfold keepG at a; omega), f2]
          have e30 : ∀ j, j ≠ 22 → j ≠ 23 → (lay w).1 30 0 j = σ.1 30 0 j := fun j x1 x2 => by rw [lay_30 x1 x2, f2]
          have ew' := fun g u a => (el g u).trans (ew g u a)
          have e30' := fun j x1 x2 => (congrFun (el 30 0) j).trans (e30 j x1 x2)
          obtain ⟨t1, t2, t3, t4, t5⟩ := r3
          refine ⟨r1.cg (ew' _ _ (by unfold keepG; omega)) (ew' _ _ (by unfold keepG; omega)) (ew' _ _ (by unfold keepG; omega)) (ew' _ _ (by unfold keepG; omega)) (ew' _ _ (by unfold keepG; omega)), r2.cg (ew' _ _ (by unfold keepG; omega)) (ew' _ _ (by unfold keepG; omega)) (ew' _ _ (by unfold keepG; omega)) (ew' _ _ (by unfold keepG; omega)) (ew' _ _ (by unfold keepG; omega)), ⟨?_, ?_, ?_, ?_, fun f hf => ?_⟩, r4.cg ⟨fun g t _ _ _ => ew' _ _ (by unfold keepG; omega), ew' _ _ (by unfold keepG; omega), ew' _ _ (by unfold keepG; omega), ew' _ _ (by unfold keepG; omega), ew' _ _ (by unfold keepG; omega), e30' _ (by omega) (by omega), e30' _ (by omega) (by omega), e30' _ (by omega) (by omega)⟩⟩
          · rw [el, el, e30 _ (by omega) (by omega), ew 0 0 (by omega)]; exact t1
          · simp [sl_g, lay_2, f4]
          · simp [sl_g, lay_2, f5]
          · rw [el, el, e30 _ (by omega) (by omega), ew 0 0 (by omega)]; exact t4
          · rw [el, el, ew 39 0 (by unfold keepG; omega), ew 27 0 (by unfold keepG; omega)]; exact t5 f hf
