theorem MU.cg2 {V : Vw} {σ σ' : St} (h : MU V σ) (h31 : ∀ j, j ≤ 25 → σ'.1 31 0 j = σ.1 31 0 j) (h1 : ∀ g, 32 ≤ g → g ≤ 34 → σ'.1 g 0 = σ.1 g 0) (h2 : σ'.1 30 0 1 = σ.1 30 0 1) (h3 : σ'.1 30 0 24 = σ.1 30 0 24) (h4 : σ'.1 30 0 25 = σ.1 30 0 25) : MU V σ' := by
  obtain ⟨hw, a1, a2, a3, a4, a5, a6, a7, a8⟩ := h
  have hN := hw.1
  refine ⟨hw, h2.trans a1, fun i hi => ?_, fun k hk => by rw [h1 34 (by omega) (by omega)]; exact a3 k hk, by rw [h31 11 (by omega)]; exact a4, by rw [h31 12 (by omega)]; exact a5, by rw [h31 13 (by omega)]; exact a6, h3.trans a7, h4.trans a8⟩
  rw [h1 32 (by omega) (by omega), h1 33 (by omega) (by omega), h31 (6 + i) (by omega), h31 (1 + i) (by omega)]
  exact a2 i hi
theorem MW.cg2 {V : Vw} {σ σ' : St} (h : MW V σ) (h31 : σ'.1 31 0 11 = σ.1 31 0 11) (h1 : ∀ g, (32 ≤ g ∧ g ≤ 34) ∨ g = 42 ∨ g = 43 → σ'.1 g 0 = σ.1 g 0) (h2 : σ'.1 30 0 = σ.1 30 0) : MW V σ' := by
  unfold MW kd at *
  rw [h31, h1 32 (by omega), h1 33 (by omega), h1 34 (by omega), h1 42 (by omega), h1 43 (by omega), h2]
  exact h
theorem rem_eq {t H : Nat} {σ : St} (ht : t ≤ 3) (hH : H < 40) (e : σ.1 4 t 16 = nI H) : ∃ w, F_Camp_remember t σ = some w ∧ (∀ g u, ¬ (g = 14 ∧ u = t) → w.1 g u = σ.1 g u) ∧ w.2 = σ.2 ∧ (∀ q, q < 25 * H → w.1 14 t q = σ.1 14 t q) ∧ (w.1 14 t (25 * H) = σ.1 4 t 14 ∧ w.1 14 t (25 * H + 1) = σ.1 4 t 15 ∧ w.1 14 t (25 * H + 2) = σ.1 4 t 11 ∧ w.1 14 t (25 * H + 3) = σ.1 4 t 12 ∧ w.1 14 t (25 * H + 4) = σ.1 4 t 13) ∧ ∀ i, i < 5 → w.1 14 t (25 * H + 5 + i) = σ.1 9 t i ∧ w.1 14 t (25 * H + 10 + i) = σ.1 8 t i ∧ w.1 14 t (25 * H + 15 + i) = σ.1 11 t i ∧ w.1 14 t (25 * H + 20 + i) = σ.1 12 t i := by
  have eb : nI H * 25 = nI (25 * H) := by rw [show (25 : Int32) = nI 25 from rfl, pk_mul, Nat.mul_comm]
  have k1 : (1 : Int32) = nI 1 := rfl
  have k2 : (2 : Int32) = nI 2 := rfl
  have k3 : (3 : Int32) = nI 3 := rfl
  have k4 : (4 : Int32) = nI 4 := rfl
  have k5 : (5 : Int32) = nI 5 := rfl
  have k10 : (10 : Int32) = nI 10 := rfl
  have k15 : (15 : Int32) = nI 15 := rfl
  have k25 : (25 : Int32) = nI 25 := rfl
  have k0 : (0 : Int32) = nI 0 := rfl
  unfold F_Camp_remember
  rw [e, eb, if_neg (nI_nneg (by omega)), len14 ht, k25, nI_add, if_pos (by simp (disch := omega) only [nI_leI]; omega), ast_14 ht (by omega)]
  simp only [obind, b2_some, bs_eq]
  rw [k1, nI_add, ast_14 ht (by omega)]
  simp only [obind, b2_some, bs_eq]
  rw [k2, nI_add, ast_14 ht (by omega)]
  simp only [obind, b2_some, bs_eq]
  rw [k3, nI_add, ast_14 ht (by omega)]
  simp only [obind, b2_some, bs_eq]
  rw [k4, nI_add, ast_14 ht (by omega)]
  simp only [obind, b2_some, bs_eq]
  rw [k5, k10, k15, k0, nI_add, nI_add, nI_add, nI_add, acp_in (by show 0 + 5 ≤ 5; omega) (by rw [len14 ht]; omega) (by show 5 < 2 ^ 31; decide) (by rw [len14 ht]; decide)]
  simp only [obind, b2_some, bs_eq]
  rw [acp_in (by show 0 + 5 ≤ 5; omega) (by rw [len14 ht]; omega) (by show 5 < 2 ^ 31; decide) (by rw [len14 ht]; decide)]
  simp only [obind, b2_some, bs_eq]
  rw [acp_in (by show 0 + 5 ≤ 5; omega) (by rw [len14 ht]; omega) (by show 5 < 2 ^ 31; decide) (by rw [len14 ht]; decide)]
  simp only [obind, b2_some, bs_eq]
  rw [acp_in (by show 0 + 5 ≤ 5; omega) (by rw [len14 ht]; omega) (by show 5 < 2 ^ 31; decide) (by rw [len14 ht]; decide)]
  simp only [obind, b2_some, bs_eq, si_sa, sa_sa, sa_at, sa_ne (show ¬ (4 = 14 ∧ t = t) by omega), sa_ne (show ¬ (9 = 14 ∧ t = t) by omega), sa_ne (show ¬ (8 = 14 ∧ t = t) by omega), sa_ne (show ¬ (11 = 14 ∧ t = t) by omega), sa_ne (show ¬ (12 = 14 ∧ t = t) by omega)]
  refine ⟨_, rfl, fun g u a => sa_ne a, rfl, fun q hq => ?_, ⟨?_, ?_, ?_, ?_, ?_⟩, fun i hi => ⟨?_, ?_, ?_, ?_⟩⟩
  · rw [sa_at]
    unfold va_cpy upd
    rw [if_neg (by omega), if_neg (by omega), if_neg (by omega), if_neg (by omega), if_neg (by omega), if_neg (by omega), if_neg (by omega), if_neg (by omega), if_neg (by omega)]
  · rw [sa_at]
    unfold va_cpy upd
    rw [if_neg (by omega), if_neg (by omega), if_neg (by omega), if_neg (by omega), if_neg (by omega), if_neg (by omega), if_neg (by omega), if_neg (by omega), if_pos (by omega)]
  · rw [sa_at]
    unfold va_cpy upd
    rw [if_neg (by omega), if_neg (by omega), if_neg (by omega), if_neg (by omega), if_neg (by omega), if_neg (by omega), if_neg (by omega), if_pos (by omega)]
  · rw [sa_at]
    unfold va_cpy upd
    rw [if_neg (by omega), if_neg (by omega), if_neg (by omega), if_neg (by omega), if_neg (by omega), if_neg (by omega), if_pos (by omega)]
  · rw [sa_at]
    unfold va_cpy upd
    rw [if_neg (by omega), if_neg (by omega), if_neg (by omega), if_neg (by omega), if_neg (by omega), if_pos (by omega)]
  · rw [sa_at]
    unfold va_cpy upd
    rw [if_neg (by omega), if_neg (by omega), if_neg (by omega), if_neg (by omega), if_pos (by omega)]
  · rw [sa_at]
    unfold va_cpy
    rw [if_neg (by omega), if_neg (by omega), if_neg (by omega), if_pos (by omega)]
    exact congrArg (σ.1 9 t) (by omega)
  · rw [sa_at]
    unfold va_cpy
    rw [if_neg (by omega), if_neg (by omega), if_pos (by omega)]
    exact congrArg (σ.1 8 t) (by omega)
  · rw [sa_at]
    unfold va_cpy
    rw [if_neg (by omega), if_pos (by omega)]
    exact congrArg (σ.1 11 t) (by omega)
  · rw [sa_at]
    unfold va_cpy
    rw [if_pos (by omega)]
    exact congrArg (σ.1 12 t) (by omega)
def bitI (M : Int32) (i : Nat) : Int32 := (M >>> (nI i &&& 31)) &&& 1
def rimI (V : Vw) (i : Nat) : Int32 := if rim V i = true then 1 else 0
theorem pass_eq {n : Nat} {V : Vw} {σ : St} {M : Int32} (h : CV 0 V σ) (hn : 10 < n) : ∃ w, F_Camp_passHour_15 n 0 n M (nI 0) σ = some w ∧ w.1 = M ∧ (∀ g u, ¬ ((g = 4 ∨ g = 11 ∨ g = 12) ∧ u = 0) → w.2.1 g u = σ.1 g u) ∧ w.2.2 = σ.2 ∧ (∀ q, w.2.1 4 0 q = if q = 14 then σ.1 4 0 14 + 1 else if q = 16 then σ.1 4 0 16 + 1 else σ.1 4 0 q) ∧ ∀ q, q < vN V → w.2.1 11 0 q = σ.1 11 0 q + bitI M q ∧ w.2.1 12 0 q = σ.1 12 0 q + rimI V q := by
  have hN := h.1.1
  refine loop_inv (fun k i (_ : Unit) s => F_Camp_passHour_15 n 0 k M (nI i) s) (vN V) (fun _ => ()) (fun i s => (∀ g u, ¬ ((g = 11 ∨ g = 12) ∧ u = 0) → s.1 g u = σ.1 g u) ∧ s.2 = σ.2 ∧ ∀ q, (q < i → s.1 11 0 q = σ.1 11 0 q + bitI M q ∧ s.1 12 0 q = σ.1 12 0 q + rimI V q) ∧ (i ≤ q → s.1 11 0 q = σ.1 11 0 q ∧ s.1 12 0 q = σ.1 12 0 q)) (fun w => w.1 = M ∧ (∀ g u, ¬ ((g = 4 ∨ g = 11 ∨ g = 12) ∧ u = 0) → w.2.1 g u = σ.1 g u) ∧ w.2.2 = σ.2 ∧ (∀ q, w.2.1 4 0 q = if q = 14 then σ.1 4 0 14 + 1 else if q = 16 then σ.1 4 0 16 + 1 else σ.1 4 0 q) ∧ ∀ q, q < vN V → w.2.1 11 0 q = σ.1 11 0 q + bitI M q ∧ w.2.1 12 0 q = σ.1 12 0 q + rimI V q) (fun k s hs => ?_) (fun k i s hi hs => ?_) n 0 σ (by omega) (by omega) ⟨fun _ _ _ => rfl, rfl, fun q => ⟨fun z => by omega, fun _ => ⟨rfl, rfl⟩⟩⟩
  · refine ⟨(M, si (si s 4 0 14 (σ.1 4 0 14 + 1)) 4 0 16 (σ.1 4 0 16 + 1)), ?_, rfl, fun g u a => ?_, ?_, fun q => ?_, fun q hq => ?_⟩
    · rw [F_Camp_passHour_15, hs.1 4 0 (by omega), h.2.1, if_pos (by simp (disch := omega) only [nI_leI]; omega)]
      simp only [obind, b2_some, bs_eq]
      rw [si_g, if_neg (by omega), hs.1 4 0 (by omega)]
    · simp only []
      rw [si_ne (by omega), si_ne (by omega)]
      exact hs.1 g u (by omega)
    · exact hs.2.1
    · simp only []
      rw [si_g]
      by_cases z1 : q = 16
      · rw [if_pos (by omega), if_neg (by omega), if_pos z1]
      · rw [if_neg (by omega), si_g]
        by_cases z2 : q = 14
        · rw [if_pos (by omega), if_pos z2]
        · rw [if_neg (by omega), if_neg z2, if_neg z1, hs.1 4 0 (by omega)]
    · simp only []
      rw [si_ne (by omega), si_ne (by omega), si_ne (by omega), si_ne (by omega)]
      exact (hs.2.2 q).1 hq
  · have hs' : CV 0 V (si s 11 0 i (s.1 11 0 i + bitI M i)) := h.cg (fun g a b => by rw [si_ne (by omega)]; exact hs.1 g 0 (by omega))
    refine ⟨si (si s 11 0 i (s.1 11 0 i + bitI M i)) 12 0 i (s.1 12 0 i + rimI V i), ?_, fun g u a => by rw [si_ne (by omega), si_ne (by omega)]; exact hs.1 g u a, hs.2.1, fun q => ⟨fun hq => ?_, fun hq => ?_⟩⟩
    · rw [F_Camp_passHour_15, hs.1 4 0 (by omega), h.2.1, if_neg (by simp (disch := omega) only [nI_leI]; omega), ald_11 (by omega)]
      simp only [obind, b2_some, bs_eq]
      rw [ast_11 (by omega)]
      simp only [obind, b2_some, bs_eq]
      rw [ald_12 (by omega), si_ne (by omega), show s.1 11 0 i + (M >>> (nI i &&& 31) &&& 1) = s.1 11 0 i + bitI M i from rfl, cv_rim hs' hi]
      simp only [obind, b2_some, bs_eq, F_Camp_passHour_57, b01]
      rw [ast_12 (by omega)]
      simp only [obind, b2_some, bs_eq, nI_1]
      rfl
    · rw [si_ne (by omega), si_g, si_g]
      by_cases e : q = i
      · rw [if_pos (by omega), if_pos (by omega), ((hs.2.2 i).2 (by omega)).1, ((hs.2.2 i).2 (by omega)).2, e]
        exact ⟨rfl, rfl⟩
      · rw [if_neg (by omega), if_neg (by omega), si_ne (by omega)]
        exact (hs.2.2 q).1 (by omega)
    · rw [si_ne (by omega), si_g, si_g, if_neg (by omega), if_neg (by omega), si_ne (by omega)]
      exact (hs.2.2 q).2 (by omega)
theorem mpass_eq {n : Nat} {V : Vw} {σ : St} {M : Int32} (h : MW V σ) (hn : 10 < n) : ∃ w, F_Mod_hour_95 n n M (nI 0) σ = some w ∧ w.1 = M ∧ (∀ g u, ¬ (g = 31 ∧ u = 0) → w.2.1 g u = σ.1 g u) ∧ w.2.2 = σ.2 ∧ (∀ q, ¬ (16 ≤ q ∧ q ≤ 25) → w.2.1 31 0 q = if q = 15 then σ.1 31 0 15 + 1 else if q = 0 then σ.1 31 0 0 + 1 else σ.1 31 0 q) ∧ ∀ q, q < vN V → w.2.1 31 0 (16 + q) = σ.1 31 0 (16 + q) + bitI M q ∧ w.2.1 31 0 (21 + q) = σ.1 31 0 (21 + q) + rimI V q := by
  have hN := h.1.1
  refine loop_inv (fun k i (_ : Unit) s => F_Mod_hour_95 n k M (nI i) s) (vN V) (fun _ => ()) (fun i s => (∀ g u, ¬ (g = 31 ∧ u = 0) → s.1 g u = σ.1 g u) ∧ s.2 = σ.2 ∧ (∀ q, ¬ (16 ≤ q ∧ q ≤ 25) → s.1 31 0 q = σ.1 31 0 q) ∧ ∀ q, q < 5 → (q < i → s.1 31 0 (16 + q) = σ.1 31 0 (16 + q) + bitI M q ∧ s.1 31 0 (21 + q) = σ.1 31 0 (21 + q) + rimI V q) ∧ (i ≤ q → s.1 31 0 (16 + q) = σ.1 31 0 (16 + q) ∧ s.1 31 0 (21 + q) = σ.1 31 0 (21 + q))) (fun w => w.1 = M ∧ (∀ g u, ¬ (g = 31 ∧ u = 0) → w.2.1 g u = σ.1 g u) ∧ w.2.2 = σ.2 ∧ (∀ q, ¬ (16 ≤ q ∧ q ≤ 25) → w.2.1 31 0 q = if q = 15 then σ.1 31 0 15 + 1 else if q = 0 then σ.1 31 0 0 + 1 else σ.1 31 0 q) ∧ ∀ q, q < vN V → w.2.1 31 0 (16 + q) = σ.1 31 0 (16 + q) + bitI M q ∧ w.2.1 31 0 (21 + q) = σ.1 31 0 (21 + q) + rimI V q) (fun k s hs => ?_) (fun k i s hi hs => ?_) n 0 σ (by omega) (by omega) ⟨fun _ _ _ => rfl, rfl, fun _ _ => rfl, fun q _ => ⟨fun z => by omega, fun _ => ⟨rfl, rfl⟩⟩⟩
  · refine ⟨(M, si (si s 31 0 0 (σ.1 31 0 0 + 1)) 31 0 15 (σ.1 31 0 15 + 1)), ?_, rfl, fun g u a => ?_, hs.2.1, fun q hq => ?_, fun q hq => ?_⟩
    · rw [F_Mod_hour_95, hs.1 30 0 (by omega), h.2.1, if_pos (by simp (disch := omega) only [nI_leI]; omega), show (0 : Int32) = nI 0 from rfl, ald_31 (by omega)]
      simp only [obind, b2_some, bs_eq]
      rw [ast_31 (by omega)]
      simp only [obind, b2_some, bs_eq]
      rw [show (15 : Int32) = nI 15 from rfl, ald_31 (by omega)]
      simp only [obind, b2_some, bs_eq]
      rw [ast_31 (by omega), si_g, if_neg (by omega), hs.2.2.1 0 (by omega), hs.2.2.1 15 (by omega)]
      rfl
    · simp only []
      rw [si_ne (by omega), si_ne (by omega)]
      exact hs.1 g u a
    · simp only []
      rw [si_g]
      by_cases z1 : q = 15
      · rw [if_pos (by omega), if_pos z1]
      · rw [if_neg (by omega), si_g, if_neg z1]
        by_cases z2 : q = 0
        · rw [if_pos (by omega), if_pos z2]
        · rw [if_neg (by omega), if_neg z2]
          exact hs.2.2.1 q hq
    · simp only []
      rw [si_g, if_neg (by omega), si_g, if_neg (by omega), si_g, if_neg (by omega), si_g, if_neg (by omega)]
      exact (hs.2.2.2 q (by omega)).1 hq
  · have hs' : MW V (si s 31 0 (16 + i) (s.1 31 0 (16 + i) + bitI M i)) := h.cg2 (by rw [si_g, if_neg (by omega)]; exact hs.2.2.1 11 (by omega)) (fun g a => by rw [si_ne (by omega)]; exact hs.1 g 0 (by omega)) (by rw [si_ne (by omega)]; exact hs.1 30 0 (by omega))
    refine ⟨si (si s 31 0 (16 + i) (s.1 31 0 (16 + i) + bitI M i)) 31 0 (21 + i) (s.1 31 0 (21 + i) + rimI V i), ?_, fun g u a => by rw [si_ne (by omega), si_ne (by omega)]; exact hs.1 g u a, hs.2.1, fun q hq => ?_, fun q hq5 => ⟨fun hq => ?_, fun hq => ?_⟩⟩
    · rw [F_Mod_hour_95, hs.1 30 0 (by omega), h.2.1, if_neg (by simp (disch := omega) only [nI_leI]; omega), show (16 : Int32) = nI 16 from rfl, show (21 : Int32) = nI 21 from rfl, nI_add, nI_add, ald_31 (by omega)]
      simp only [obind, b2_some, bs_eq]
      rw [ast_31 (by omega)]
      simp only [obind, b2_some, bs_eq]
      rw [ald_31 (by omega), si_g, if_neg (by omega), show s.1 31 0 (16 + i) + (M >>> (nI i &&& 31) &&& 1) = s.1 31 0 (16 + i) + bitI M i from rfl, mw_place hs' hi hn]
      simp only [obind, b2_some, bs_eq]
      rw [mw_rim hs' hi]
      simp only [obind, b2_some, bs_eq, F_Mod_hour_147, b01]
      rw [ast_31 (by omega)]
      simp only [obind, b2_some, bs_eq, nI_1]
      rfl
    · rw [si_g, if_neg (by omega), si_g, if_neg (by omega)]
      exact hs.2.2.1 q hq
    · rw [si_g, si_g, si_g, si_g, if_neg (by omega)]
      by_cases e : q = i
      · rw [if_pos (by omega), if_pos (by omega), ((hs.2.2.2 i (by omega)).2 (by omega)).1, ((hs.2.2.2 i (by omega)).2 (by omega)).2, e]
        exact ⟨rfl, rfl⟩
      · rw [if_neg (by omega), if_neg (by omega), if_neg (by omega)]
        exact (hs.2.2.2 q hq5).1 (by omega)
    · rw [si_g, si_g, si_g, si_g, if_neg (by omega), if_neg (by omega), if_neg (by omega), if_neg (by omega)]
      exact (hs.2.2.2 q hq5).2 (by omega)
