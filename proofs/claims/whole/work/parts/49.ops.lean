-- THE REFERENCE lays the tent down; first calls
def keepG (g u : Nat) : Prop := (1 ≤ g ∧ g ≤ 3) ∨ (4 ≤ g ∧ g ≤ 14 ∧ u ≤ 3) ∨ g = 27 ∨ (31 ≤ g ∧ g ≤ 39)
theorem RR.fr {σ σ' : St} (h : RR σ) (h0 : ∀ g u, keepG g u → σ'.1 g u = σ.1 g u) (h2 : σ'.2 = σ.2) (e9 : σ'.1 30 0 9 = σ'.1 0 0 10) (e0 : σ'.1 0 0 9 = σ.1 0 0 9) (e12 : σ'.1 30 0 12 = σ.1 30 0 12) (h1 : σ'.1 30 0 1 = σ.1 30 0 1) (h24 : σ'.1 30 0 24 = σ.1 30 0 24) (h25 : σ'.1 30 0 25 = σ.1 30 0 25) : RR σ' := by
  obtain ⟨a, b, c, d⟩ := h
  unfold keepG at h0
  refine ⟨a.cg (h0 _ _ (by omega)) (h0 _ _ (by omega)) (h0 _ _ (by omega)) (h0 _ _ (by omega)) (h0 _ _ (by omega)), b.cg (h0 _ _ (by omega)) (h0 _ _ (by omega)) (h0 _ _ (by omega)) (h0 _ _ (by omega)) (h0 _ _ (by omega)), ?_, d.cg ⟨fun g t _ _ _ => h0 _ _ (by omega), h0 _ _ (by omega), h0 _ _ (by omega), h0 _ _ (by omega), h0 _ _ (by omega), h1, h24, h25⟩⟩
  obtain ⟨c1, c2, c3, c4, c5⟩ := c
  exact ⟨e9, by rw [h2]; exact c2, by rw [h2]; exact c3, by rw [e12, e0]; exact c4, fun f hf => by rw [h0 39 0 (by omega), h0 27 0 (by omega)]; exact c5 f hf⟩
def MU (V : Vw) (σ : St) : Prop := wfV V ∧ σ.1 30 0 1 = nI (vN V) ∧ (∀ i, i < vN V → vG V i = kG (σ.1 32 0 i) (σ.1 33 0 i) ∧ vR V i = kR (σ.1 32 0 i) ∧ vD V i = kD (σ.1 32 0 i) ∧ vS V i = kS (σ.1 32 0 i) ∧ vB V i = σ.1 31 0 (6 + i) ∧ σ.1 31 0 (1 + i) = nI (vW V i)) ∧ (∀ h, h < 8 → vC V h = σ.1 34 0 h) ∧ σ.1 31 0 11 = vV V ∧ σ.1 31 0 12 = nI (vO V) ∧ σ.1 31 0 13 = nI (vT V) ∧ σ.1 30 0 24 = -9 ∧ σ.1 30 0 25 = -9
theorem Tnt.view {σ : St} (h : Tnt σ) : ∃ V, CV 0 V σ ∧ MU V σ := by
  obtain ⟨N, hN, h1, ⟨hs, hc⟩, ⟨c1, -, ⟨⟨P, W, p1, p2⟩, s2, ⟨s3, s3'⟩, ⟨s4, O, s4', sO⟩, ⟨s5, T, hT, s5'⟩, -⟩, c4⟩, ⟨h24, h25⟩, -⟩ := h
  have s4 : σ.1 31 0 12 = _ := s4
  have s3 : σ.1 31 0 11 = _ := s3
  have s5 : σ.1 31 0 13 = _ := s5
  have s4' : σ.1 4 0 12 = _ := s4'
  have s5' : σ.1 4 0 13 = _ := s5'
  refine ⟨(N, fun i => kG (σ.1 6 0 i) (σ.1 7 0 i), fun i => kR (σ.1 6 0 i), fun i => kD (σ.1 6 0 i), fun i => kS (σ.1 6 0 i), σ.1 8 0, σ.1 5 0, W, P, σ.1 4 0 11, O, T), ?_⟩
  have hw : wfV (N, fun i => kG (σ.1 6 0 i) (σ.1 7 0 i), fun i => kR (σ.1 6 0 i), fun i => kD (σ.1 6 0 i), fun i => kS (σ.1 6 0 i), σ.1 8 0, σ.1 5 0, W, P, σ.1 4 0 11, O, T) := ⟨hN, fun i hi => ⟨(p1 i hi).2.1, (p1 i hi).2.2⟩, fun p hp => ⟨(p2 p hp).2.1, (p2 p hp).2.2⟩, s3', sO, hT, fun i _ => kR_le _⟩
  refine ⟨⟨hw, c1, fun i hi => ⟨rfl, rfl, rfl, rfl, rfl, ?_, (p1 i hi).1⟩, fun _ _ => rfl, rfl, s4', s5'⟩, hw, h1, fun i hi => ?_, fun k hk => (hc k hk).symm, s3, s4.trans s4', s5.trans s5', h24, h25⟩
  · have := c4 i hi
    have e := (p2 i hi).1
    rw [this]
    rw [Nat.zero_add] at *
    exact e
  · obtain ⟨a, b⟩ := hs i hi
    rw [a, b]
    refine ⟨rfl, rfl, rfl, rfl, ?_, ?_⟩
    · have : σ.1 31 0 (0 + 1 + (5 + i)) = _ := (s2 i hi).1
      have e : 0 + 1 + (5 + i) = 6 + i := by omega
      rw [e] at this
      exact this.symm
    · have : σ.1 31 0 (0 + 1 + i) = _ := (p2 i hi).1
      have e : 0 + 1 + i = 1 + i := by omega
      rw [e] at this
      exact this
def layS (σ : St) : Nat → St
  | 0 => σ
  | i + 1 => si (si (layS σ i) 42 0 i (σ.1 31 0 (1 + i))) 43 0 i (σ.1 31 0 (6 + i))
def lay (σ : St) : St := si (si (layS σ 5) 30 0 22 (σ.1 31 0 13)) 30 0 23 (σ.1 31 0 12)
theorem layS_ne {σ : St} {g u : Nat} (h1 : ¬ (g = 42 ∧ u = 0)) (h2 : ¬ (g = 43 ∧ u = 0)) : ∀ i, (layS σ i).1 g u = σ.1 g u
  | 0 => rfl
  | i + 1 => by rw [layS, si_ne h2, si_ne h1, layS_ne h1 h2 i]
theorem layS_2 {σ : St} : ∀ i, (layS σ i).2 = σ.2
  | 0 => rfl
  | i + 1 => by rw [layS, si_2, si_2, layS_2 i]
theorem layS_42 {σ : St} {j : Nat} : ∀ i, j < i → (layS σ i).1 42 0 j = σ.1 31 0 (1 + j)
  | 0, h => by omega
  | i + 1, h => by
    rw [layS, si_ne (by omega), si_g]
    by_cases e : j = i
    · rw [if_pos ⟨⟨rfl, rfl⟩, e⟩, e]
    · rw [if_neg (fun z => e z.2)]
      exact layS_42 i (by omega)
theorem layS_43 {σ : St} {j : Nat} : ∀ i, j < i → (layS σ i).1 43 0 j = σ.1 31 0 (6 + j)
  | 0, h => by omega
  | i + 1, h => by
    rw [layS, si_g]
    by_cases e : j = i
    · rw [if_pos ⟨⟨rfl, rfl⟩, e⟩, e]
    · rw [if_neg (fun z => e z.2), si_ne (by omega)]
      exact layS_43 i (by omega)
theorem layNow_eq {n : Nat} {σ : St} (hn : 10 < n) : F_Mod_layNow n σ = some (lay σ) := by
  unfold F_Mod_layNow
  refine loop_gen (fun q i (s : St) => F_Mod_layNow_2 n q (nI i) s) 5 (layS σ) _ (fun q => ?_) (fun q i hi => ?_) n 0 (by omega) (by omega)
  · rw [F_Mod_layNow_2, if_pos (by decide), show (13 : Int32) = nI 13 from rfl, ald_31 (by omega), show (12 : Int32) = nI 12 from rfl]
    simp only [obind, b2_some, bs_eq]
    rw [ald_31 (by omega), si_ne (by omega), layS_ne (by omega) (by omega)]
    rfl
  · rw [F_Mod_layNow_2, if_neg (by rw [show (5 : Int32) = nI 5 from rfl]; simp (disch := omega) only [nI_leI]; omega), show (1 : Int32) = nI 1 from rfl, show (6 : Int32) = nI 6 from rfl]
    simp only [nI_add]
    rw [ald_31 (by omega)]
    simp only [obind, b2_some, bs_eq]
    rw [ast_42 (by omega)]
    simp only [obind, b2_some, bs_eq]
    rw [ald_31 (by omega)]
    simp only [obind, b2_some, bs_eq]
    rw [ast_43 (by omega)]
    simp only [obind, b2_some, bs_eq]
    rw [si_ne (by omega), layS_ne (by omega) (by omega)]
    rfl
theorem lay_ne {σ : St} {g u : Nat} (h1 : ¬ (g = 42 ∧ u = 0)) (h2 : ¬ (g = 43 ∧ u = 0)) (h3 : ¬ (g = 30 ∧ u = 0)) : (lay σ).1 g u = σ.1 g u := by
  rw [lay, si_ne h3, si_ne h3, layS_ne h1 h2]
theorem lay_2 {σ : St} : (lay σ).2 = σ.2 := by
  rw [lay, si_2, si_2, layS_2]
theorem lay_30 {σ : St} {j : Nat} (h1 : j ≠ 22) (h2 : j ≠ 23) : (lay σ).1 30 0 j = σ.1 30 0 j := by
  rw [lay, si_g, if_neg (fun z => h2 z.2), si_g, if_neg (fun z => h1 z.2), layS_ne (by omega) (by omega)]
theorem lay_22 {σ : St} : (lay σ).1 30 0 22 = σ.1 31 0 13 := by
  rw [lay, si_g, if_neg (by omega), si_g, if_pos (by omega)]
theorem lay_23 {σ : St} : (lay σ).1 30 0 23 = σ.1 31 0 12 := by
  rw [lay, si_g, if_pos (by omega)]
theorem lay_42 {σ : St} {j : Nat} (h : j < 5) : (lay σ).1 42 0 j = σ.1 31 0 (1 + j) := by
  rw [lay, si_ne (by omega), si_ne (by omega), layS_42 5 h]
theorem lay_43 {σ : St} {j : Nat} (h : j < 5) : (lay σ).1 43 0 j = σ.1 31 0 (6 + j) := by
  rw [lay, si_ne (by omega), si_ne (by omega), layS_43 5 h]
theorem MU.ly {V : Vw} {σ : St} (h : MU V σ) : MW V (lay σ) := by
  obtain ⟨hw, h1, h2, h3, h4, h5, h6, h7, h8⟩ := h
  have hN := hw.1
  refine ⟨hw, by rw [lay_30 (by decide) (by decide)]; exact h1, fun i hi => ?_, fun k hk => by rw [lay_ne (by omega) (by omega) (by omega)]; exact h3 k hk, by rw [lay_ne (by omega) (by omega) (by omega)]; exact h4, by rw [lay_23]; exact h5, by rw [lay_22]; exact h6⟩
  have k1 : kd (lay σ) i = σ.1 32 0 i := by
    unfold kd
    rw [lay_30 (by decide) (by decide), h8, if_neg (nI_n9 (by omega)), lay_ne (by omega) (by omega) (by omega)]
  rw [lay_30 (by decide) (by decide), h7, k1, if_neg (nI_n9 (by omega)), if_neg (nI_n9 (by omega)), lay_ne (by omega) (by omega) (by omega), lay_42 (by omega), lay_43 (by omega)]
  exact h2 i hi
theorem MU.cg {V : Vw} {σ σ' : St} (h : MU V σ) (h1 : ∀ g, 31 ≤ g → g ≤ 34 → σ'.1 g 0 = σ.1 g 0) (h2 : σ'.1 30 0 1 = σ.1 30 0 1) (h3 : σ'.1 30 0 24 = σ.1 30 0 24) (h4 : σ'.1 30 0 25 = σ.1 30 0 25) : MU V σ' := by
  unfold MU at *
  rw [h1 31 (by omega) (by omega), h1 32 (by omega) (by omega), h1 33 (by omega) (by omega), h1 34 (by omega) (by omega), h2, h3, h4]
  exact h
theorem MU.cgC {V : Vw} {σ σ' : St} (h : MU V σ) (h1 : ∀ g, 30 ≤ g → g ≤ 34 → σ'.1 g 0 = σ.1 g 0) : MU V σ' :=
  h.cg (fun g a b => h1 g (by omega) b) (by rw [h1 30 (by omega) (by omega)]) (by rw [h1 30 (by omega) (by omega)]) (by rw [h1 30 (by omega) (by omega)])
theorem CV.cg {t : Nat} {V : Vw} {σ σ' : St} (h : CV t V σ) (h1 : ∀ g, 4 ≤ g → g ≤ 10 → σ'.1 g t = σ.1 g t) : CV t V σ' := by
  unfold CV at *
  rw [h1 4 (by omega) (by omega), h1 5 (by omega) (by omega), h1 6 (by omega) (by omega), h1 7 (by omega) (by omega), h1 8 (by omega) (by omega), h1 9 (by omega) (by omega), h1 10 (by omega) (by omega)]
  exact h
theorem MW.cg {V : Vw} {σ σ' : St} (h : MW V σ) (h1 : ∀ g, (31 ≤ g ∧ g ≤ 34) ∨ g = 42 ∨ g = 43 → σ'.1 g 0 = σ.1 g 0) (h2 : ∀ j, j = 1 ∨ (22 ≤ j ∧ j ≤ 26) → σ'.1 30 0 j = σ.1 30 0 j) : MW V σ' := by
  unfold MW kd at *
  rw [h1 31 (by omega), h1 32 (by omega), h1 33 (by omega), h1 34 (by omega), h1 42 (by omega), h1 43 (by omega), h2 1 (by omega), h2 22 (by omega), h2 23 (by omega), h2 24 (by omega), h2 25 (by omega), h2 26 (by omega)]
  exact h
theorem MW.tell {V : Vw} {σ : St} (h : MW V σ) (v : Int32) : MW V (si σ 30 0 9 v) :=
  h.cg (fun g a => si_ne (by omega)) (fun j a => by rw [si_g, if_neg (by omega)])
theorem RR.ly {σ : St} (h : RR σ) : RR (lay σ) :=
  h.fr (fun g u a => lay_ne (by unfold keepG at a; omega) (by unfold keepG at a; omega) (by unfold keepG at a; omega)) lay_2 (by rw [lay_30 (by decide) (by decide), lay_ne (by omega) (by omega) (by omega)]; exact h.2.2.1.1) (by rw [lay_ne (by omega) (by omega) (by omega)]) (lay_30 (by decide) (by decide)) (lay_30 (by decide) (by decide)) (lay_30 (by decide) (by decide)) (lay_30 (by decide) (by decide))
theorem RR.lyT {σ : St} (h : RR σ) (v : Int32) : RR (si (lay (si σ 0 0 10 v)) 30 0 9 v) := by
  refine h.fr (fun g u a => ?_) (by rw [si_2, lay_2, si_2]) (by rw [si_g, if_pos (by omega), si_ne (by omega), lay_ne (by omega) (by omega) (by omega), si_g, if_pos (by omega)]) (by rw [si_ne (by omega), lay_ne (by omega) (by omega) (by omega), si_g, if_neg (by omega)]) ?_ ?_ ?_ ?_
  · unfold keepG at a
    rw [si_ne (by omega), lay_ne (by omega) (by omega) (by omega), si_ne (by omega)]
  · rw [si_g, if_neg (by omega), lay_30 (by decide) (by decide), si_ne (by omega)]
  · rw [si_g, if_neg (by omega), lay_30 (by decide) (by decide), si_ne (by omega)]
  · rw [si_g, if_neg (by omega), lay_30 (by decide) (by decide), si_ne (by omega)]
  · rw [si_g, if_neg (by omega), lay_30 (by decide) (by decide), si_ne (by omega)]
theorem isSl_out {t N : Nat} {σ : St} {a : Int32} (h1 : σ.1 4 t 10 = nI N) (h : a < 0 ∨ nI N ≤ a) : F_Camp_isSleeper t a σ = some 0 := by
  unfold F_Camp_isSleeper
  rw [h1]
  rcases h with h | h
  · rw [if_pos h]
  · by_cases h0 : a < 0
    · rw [if_pos h0]
    · rw [if_neg h0, if_pos h]
theorem isSl_in {t N i : Nat} {σ : St} (h1 : σ.1 4 t 10 = nI N) (hN : N ≤ 5) (h : i < N) : F_Camp_isSleeper t (nI i) σ = some 1 := by
  unfold F_Camp_isSleeper
  rw [h1, if_neg (nI_nneg (by omega)), if_neg (by simp (disch := omega) only [nI_leI]; omega)]
theorem mSl_out {N : Nat} {σ : St} {a : Int32} (h1 : σ.1 30 0 1 = nI N) (hN : N ≤ 5) (h : a < 0 ∨ nI N ≤ a) : F_Mod_isSleeper a σ = some 0 := by
  unfold F_Mod_isSleeper
  rw [h1, show (0 : Int64) = (0 : Int32).toInt64 from rfl, show (0 : Int32).toInt64 = (0 : Int64) from rfl, in_place (by omega), if_pos h]
  rfl
theorem mSl_in {N i : Nat} {σ : St} (h1 : σ.1 30 0 1 = nI N) (hN : N ≤ 5) (h : i < N) : F_Mod_isSleeper (nI i) σ = some 1 := by
  unfold F_Mod_isSleeper
  rw [h1, in_place (by omega), if_neg]
  · rfl
  · simp (disch := omega) only [nI_leI]
    have := nI_nneg (z := i) (by omega)
    simp only [this, false_or]
    omega
theorem isHr_out {a : Int32} (h : a < 0 ∨ nI 8 ≤ a) : F_Tent_isHour a = some 0 ∧ F_Mod_isHour a = some 0 := by
  constructor
  · unfold F_Tent_isHour
    rcases h with h | h
    · rw [if_pos h]
    · by_cases h0 : a < 0
      · rw [if_pos h0]
      · rw [if_neg h0]; exact if_pos h
  · unfold F_Mod_isHour
    rw [show (7 : Int64) = (nI 8 - 1).toInt64 from rfl, in_place (by omega), if_pos h]
    rfl
theorem isHr_in {k : Nat} (h : k < 8) : F_Tent_isHour (nI k) = some 1 ∧ F_Mod_isHour (nI k) = some 1 := by
  revert k
  decide +kernel
theorem op_feels {n : Nat} {σ : St} (a1 a2 : Int32) (hn : 2000 ≤ n) (h : RR σ) : ∃ r σ1 σ2, F_Tent_feels a1 a2 σ = some (r, σ1) ∧ F_Mod_feels n a1 a2 σ1 = some (r, σ2) ∧ RR σ2 := by
  obtain ⟨V, hc, hm⟩ := h.2.2.2.view
  have hN := hc.1.1
  have h1 := hc.2.1
  have m1 := hm.2.1
  unfold F_Tent_feels F_Mod_feels
  rcases ix_of (vN V) (by omega) a1 with g | ⟨i, hi, rfl⟩
  · exact ⟨-1, σ, σ, by simp only [isSl_out h1 g, obind, b2_some, bs_eq, if_true], by simp only [mSl_out m1 hN g, obind, b2_some, bs_eq, if_true], h⟩
  · rcases ix_of 8 (by decide) a2 with g | ⟨k, hk, rfl⟩
    · exact ⟨-1, σ, σ, by simp only [isSl_in h1 hN hi, obind, b2_some, bs_eq, if_neg one_ne, (isHr_out g).1, if_true], by simp only [mSl_in m1 hN hi, obind, b2_some, bs_eq, if_neg one_ne, (isHr_out g).2, if_true], h⟩
    · refine ⟨1, si σ 0 0 10 (feel V i k), si (lay (si σ 0 0 10 (feel V i k))) 30 0 9 (feel V i k), ?_, ?_, h.lyT _⟩
      · simp only [isSl_in h1 hN hi, obind, b2_some, bs_eq, if_neg one_ne, (isHr_in hk).1, cv_feel hc hi hk]
      · have hm' : MU V (si σ 0 0 10 (feel V i k)) := hm.cgC (fun g _ _ => si_ne (by omega))
        simp only [mSl_in hm'.2.1 hN hi, obind, b2_some, bs_eq, if_neg one_ne, (isHr_in hk).2, layNow_eq (show 10 < n by omega), mw_feel hm'.ly hi hk (show 10 < n by omega), tell_eq]
theorem op_why {n : Nat} {σ : St} (a1 a2 : Int32) (hn : 2000 ≤ n) (h : RR σ) : ∃ r σ2, F_Tent_why n a1 a2 σ = some r ∧ F_Mod_why n a1 a2 σ = some (r, σ2) ∧ RR σ2 := by
  obtain ⟨V, hc, hm⟩ := h.2.2.2.view
  have hN := hc.1.1
  have h1 := hc.2.1
  have m1 := hm.2.1
  unfold F_Tent_why F_Mod_why
  rcases ix_of (vN V) (by omega) a1 with g | ⟨i, hi, rfl⟩
  · exact ⟨-1, σ, by simp only [isSl_out h1 g, obind, b2_some, bs_eq, if_true], by simp only [mSl_out m1 hN g, obind, b2_some, bs_eq, if_true], h⟩
  · rcases ix_of 8 (by decide) a2 with g | ⟨k, hk, rfl⟩
    · exact ⟨-1, σ, by simp only [isSl_in h1 hN hi, obind, b2_some, bs_eq, if_neg one_ne, (isHr_out g).1, if_true], by simp only [mSl_in m1 hN hi, obind, b2_some, bs_eq, if_neg one_ne, (isHr_out g).2, if_true], h⟩
    · refine ⟨whyV V i k, lay σ, ?_, ?_, h.ly⟩
      · simp only [isSl_in h1 hN hi, obind, b2_some, bs_eq, if_neg one_ne, (isHr_in hk).1, cv_why hc hi hk (show 10 < n by omega)]
      · simp only [mSl_in m1 hN hi, obind, b2_some, bs_eq, if_neg one_ne, (isHr_in hk).2, layNow_eq (show 10 < n by omega), mw_why hm.ly hi hk (show 10 < n by omega)]
theorem op_slept {n : Nat} {σ : St} (a1 : Int32) (hn : 2000 ≤ n) (h : RR σ) : ∃ r σ2, F_Tent_slept n a1 σ = some r ∧ F_Mod_slept n a1 σ = some (r, σ2) ∧ RR σ2 := by
  obtain ⟨V, hc, hm⟩ := h.2.2.2.view
  have hN := hc.1.1
  have h1 := hc.2.1
  have m1 := hm.2.1
  unfold F_Tent_slept F_Mod_slept
  rcases ix_of (vN V) (by omega) a1 with g | ⟨i, hi, rfl⟩
  · exact ⟨-1, σ, by simp only [isSl_out h1 g, obind, b2_some, bs_eq, if_true], by simp only [mSl_out m1 hN g, obind, b2_some, bs_eq, if_true], h⟩
  · refine ⟨nI (sleptV V i), lay σ, ?_, ?_, h.ly⟩
    · simp only [isSl_in h1 hN hi, obind, b2_some, bs_eq, if_neg one_ne, cv_slept hc hi (show 10 < n by omega)]
    · simp only [mSl_in m1 hN hi, obind, b2_some, bs_eq, if_neg one_ne, layNow_eq (show 10 < n by omega), mw_slept hm.ly hi (show 10 < n by omega)]
theorem nI_z {N : Nat} (h : N < 2 ^ 31) : nI N = 0 ↔ N = 0 := by
  rw [show (0 : Int32) = nI 0 from rfl]
  simp (disch := omega) only [nI_eq]
theorem op_worth {n : Nat} {σ : St} (hn : 2000 ≤ n) (h : RR σ) : ∃ r σ1 σ2, F_Tent_worth n σ = some (r, σ1) ∧ F_Mod_worth n σ1 = some (r, σ2) ∧ RR σ2 := by
  obtain ⟨V, hc, hm⟩ := h.2.2.2.view
  have hN := hc.1.1
  have h1 := hc.2.1
  have m1 := hm.2.1
  unfold F_Tent_worth F_Mod_worth
  by_cases g : vN V = 0
  · exact ⟨-4, σ, σ, by rw [h1, if_pos (by rw [g]; rfl)], by rw [m1, if_pos (by rw [g]; rfl)], h⟩
  · have g0 : ¬ nI (vN V) = 0 := by rw [nI_z (by omega)]; exact g
    refine ⟨nI (worthV V), si σ 0 0 10 (nI (leastV V)), si (lay (si σ 0 0 10 (nI (leastV V)))) 30 0 9 (nI (leastV V)), ?_, ?_, h.lyT _⟩
    · have hc' : CV 0 V (si σ 0 0 10 (nI (leastV V))) := hc.cg (fun g _ _ => si_ne (by omega))
      rw [h1, if_neg g0]
      simp only [cv_least hc (show 10 < n by omega), obind, b2_some, bs_eq, cv_worth hc' (show 10 < n by omega)]
    · have hm' : MU V (si σ 0 0 10 (nI (leastV V))) := hm.cgC (fun g _ _ => si_ne (by omega))
      rw [hm'.2.1, if_neg g0]
      simp only [layNow_eq (show 10 < n by omega), obind, b2_some, bs_eq, mw_least hm'.ly (show 10 < n by omega), mw_worth (hm'.ly.tell _) (show 10 < n by omega)]
