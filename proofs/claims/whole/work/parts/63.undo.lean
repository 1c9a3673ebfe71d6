theorem rec_eq {n t a H : Nat} {σ : St} (ht : t ≤ 3) (hH : H ≤ 40) (ha : a < H) (e : σ.1 4 t 16 = nI H) : ∃ s, F_Camp_recall n t (nI a) σ = (F_Camp_fillPlaces n t s).bind (fun σ16 => some σ16) ∧ (∀ g u, ¬ ((g = 4 ∨ g = 8 ∨ g = 9 ∨ g = 11 ∨ g = 12) ∧ u = t) → s.1 g u = σ.1 g u) ∧ s.2 = σ.2 ∧ (∀ q, s.1 4 t q = if q = 13 then σ.1 14 t (25 * a + 4) else if q = 12 then σ.1 14 t (25 * a + 3) else if q = 11 then σ.1 14 t (25 * a + 2) else if q = 15 then σ.1 14 t (25 * a + 1) else if q = 14 then σ.1 14 t (25 * a) else if q = 16 then nI a else σ.1 4 t q) ∧ ∀ i, i < 5 → s.1 9 t i = σ.1 14 t (25 * a + 5 + i) ∧ s.1 8 t i = σ.1 14 t (25 * a + 10 + i) ∧ s.1 11 t i = σ.1 14 t (25 * a + 15 + i) ∧ s.1 12 t i = σ.1 14 t (25 * a + 20 + i) := by
  have eb : nI a * 25 = nI (25 * a) := by rw [show (25 : Int32) = nI 25 from rfl, pk_mul, Nat.mul_comm]
  have k1 : (1 : Int32) = nI 1 := rfl
  have k2 : (2 : Int32) = nI 2 := rfl
  have k3 : (3 : Int32) = nI 3 := rfl
  have k4 : (4 : Int32) = nI 4 := rfl
  have k5 : (5 : Int32) = nI 5 := rfl
  have k10 : (10 : Int32) = nI 10 := rfl
  have k15 : (15 : Int32) = nI 15 := rfl
  have k25 : (25 : Int32) = nI 25 := rfl
  have k0 : (0 : Int32) = nI 0 := rfl
  have l14 := len14 ht
  unfold F_Camp_recall
  rw [e, eb, if_neg (nI_nneg (by omega)), if_neg (by simp (disch := omega) only [nI_leI]; omega), len14 ht, k25, nI_add, if_pos (by simp (disch := omega) only [nI_leI]; omega)]
  simp only [obind, b2_some, bs_eq]
  rw [ald_14 ht (by omega)]
  simp only [obind, b2_some, bs_eq]
  rw [k1, nI_add, ald_14 ht (by omega)]
  simp only [obind, b2_some, bs_eq]
  rw [k2, nI_add, ald_14 ht (by omega)]
  simp only [obind, b2_some, bs_eq]
  rw [k3, nI_add, ald_14 ht (by omega)]
  simp only [obind, b2_some, bs_eq]
  rw [k4, nI_add, ald_14 ht (by omega)]
  simp only [obind, b2_some, bs_eq]
  rw [k5, k10, k15, k0, nI_add, nI_add, nI_add, nI_add, acp_in (by rw [len14 ht]; omega) (by show 0 + 5 ≤ 5; omega) (by rw [len14 ht]; decide) (by show 5 < 2 ^ 31; decide)]
  simp only [obind, b2_some, bs_eq]
  rw [acp_in (by rw [len14 ht]; omega) (by show 0 + 5 ≤ 5; omega) (by rw [len14 ht]; decide) (by show 5 < 2 ^ 31; decide)]
  simp only [obind, b2_some, bs_eq]
  rw [acp_in (by rw [len14 ht]; omega) (by show 0 + 5 ≤ 5; omega) (by rw [len14 ht]; decide) (by show 5 < 2 ^ 31; decide)]
  simp only [obind, b2_some, bs_eq]
  rw [acp_in (by rw [len14 ht]; omega) (by show 0 + 5 ≤ 5; omega) (by rw [len14 ht]; decide) (by show 5 < 2 ^ 31; decide)]
  simp only [obind, b2_some, bs_eq]
  have n4 : ∀ {q : Nat} {s : St} {v : Int32} {g : Nat}, g ≠ 4 → (si s 4 t q v).1 g t = s.1 g t := fun h => si_ne (by omega)
  have nA : ∀ {g g' : Nat} {s : St} {f : Nat → Int32}, g' ≠ g → (sa s g t f).1 g' t = s.1 g' t := fun h => sa_ne (by omega)
  simp only [n4 (show 14 ≠ 4 by omega), nA (show 14 ≠ 9 by omega), nA (show 14 ≠ 8 by omega), nA (show 14 ≠ 11 by omega), nA (show 14 ≠ 12 by omega)]
  refine ⟨_, rfl, fun g u z => ?_, rfl, fun q => ?_, fun i hi => ⟨?_, ?_, ?_, ?_⟩⟩
  · rw [sa_ne (by omega), sa_ne (by omega), sa_ne (by omega), sa_ne (by omega), si_ne (by omega), si_ne (by omega), si_ne (by omega), si_ne (by omega), si_ne (by omega), si_ne (by omega)]
  · rw [sa_ne (by omega), sa_ne (by omega), sa_ne (by omega), sa_ne (by omega)]
    simp only [si_g, and_self, true_and]
  · rw [sa_ne (by omega), sa_ne (by omega), sa_ne (by omega), sa_at]
    unfold va_cpy
    rw [if_pos (by omega)]
    exact congrArg (σ.1 14 t) (by omega)
  · rw [sa_ne (by omega), sa_ne (by omega), sa_at]
    unfold va_cpy
    rw [if_pos (by omega)]
    exact congrArg (σ.1 14 t) (by omega)
  · rw [sa_ne (by omega), sa_at]
    unfold va_cpy
    rw [if_pos (by omega)]
    exact congrArg (σ.1 14 t) (by omega)
  · rw [sa_at]
    unfold va_cpy
    rw [if_pos (by omega)]
    exact congrArg (σ.1 14 t) (by omega)
theorem op_undo {n : Nat} {σ : St} (a1 : Int32) (hn : 2000 ≤ n) (h : RR σ) : ∃ r σ1 σ2, F_Tent_undo n a1 σ = some (r, σ1) ∧ F_Mod_undo n a1 σ1 = some (r, σ2) ∧ RR σ2 := by
  obtain ⟨V, hc, hm⟩ := h.2.2.2.view
  have hN := hc.1.1
  have h1 := hc.2.1
  have m1 := hm.2.1
  have hn' : 10 < n := by omega
  have ca := h.N hc
  obtain ⟨c1, ⟨H, hH, c2, c3, c4, c5⟩, c6, c7⟩ := id ca
  have e0 : (0 : Int64) = (0 : Int32).toInt64 := rfl
  have hmI : ∀ s : St, s.1 31 0 = σ.1 31 0 → F_Mod_undo n a1 s = (some (if 0 ≤ a1 ∧ a1 ≤ nI H then (1 : Int32) else 0)).bind (fun v2 => if v2 = 0 then some (-1, s) else F_Mod_undo_29 n n a1 (nI H - a1) 0 s) := by
    intro s hs
    unfold F_Mod_undo
    rw [show (0 : Int32) = nI 0 from rfl, ald_31 (by omega), hs, c3]
    simp only [obind, b2_some, bs_eq]
    rw [e0, in_I]
    rfl
  unfold F_Tent_undo
  rw [c2]
  rcases ix_of (H + 1) (by omega) a1 with g | ⟨a, ha, rfl⟩
  · refine ⟨-1, σ, σ, ?_, ?_, h⟩
    · by_cases g0 : a1 < 0
      · rw [if_pos g0]
      · rw [if_neg g0, if_neg]
        have g1 : nI (H + 1) ≤ a1 := by rcases g with g | g; exact absurd g g0; exact g
        rw [i32_le, nI_toInt (by omega)] at *
        omega
    · rw [hmI σ rfl, if_neg]
      · rfl
      · rintro ⟨z1, z2⟩
        rw [i32_le, nI_toInt (by omega)] at z2
        rw [i32_le, z0_t] at z1
        rcases g with g | g
        · rw [i32_lt, z0_t] at g; omega
        · rw [i32_le, nI_toInt (by omega)] at g; omega
  · have ga : 0 ≤ nI a ∧ nI a ≤ nI H := by
      refine ⟨nI_ge0 (by omega), ?_⟩
      simp (disch := omega) only [nI_leI]
      omega
    have eH : nI H - nI a = nI (H - a) := by
      rw [i32_eq, pk_sub_toInt (by omega) (by omega), nI_toInt (by omega)]
      omega
    rw [if_neg (nI_nneg (by omega)), if_pos ga.2, eH]
    by_cases gz : H - a = 0
    · have ea : a = H := by omega
      subst ea
      refine ⟨nI 0, σ, σ, ?_, ?_, h⟩
      · rw [Nat.sub_self, if_pos (by decide)]
      · rw [hmI σ rfl, if_pos ga]
        simp only [obind, b2_some, bs_eq, if_neg one_ne]
        rw [eH, Nat.sub_self, show n = (n - 1) + 1 by omega, F_Mod_undo_29, if_neg (by decide), if_pos (by decide)]
        unfold F_Mod_undo_67
        rw [show (0 : Int32) = nI 0 from rfl, ast_31 (by omega), ← c3, si_same]
        rfl
    · obtain ⟨s, r1, r2, r3, r4, r5⟩ := rec_eq (n := n) (t := 0) (a := a) (H := H) (σ := σ) (by omega) hH (by omega) c2
      have cP := c5 a (by omega)
      obtain ⟨P, W, pw, pl, md⟩ := cP.pw
      have hs9 : ∀ i, i < vN V → s.1 9 0 i = nI (P i) := fun i hi => by rw [(r5 i (by omega)).1]; exact pl i hi
      obtain ⟨w, w1, w2, w3, w4⟩ := fill_pl (n := n) (t := 0) (N := vN V) (σ := s) hN (by rw [r4, if_neg (by omega), if_neg (by omega), if_neg (by omega), if_neg (by omega), if_neg (by omega), if_neg (by omega)]; exact c1) hs9 pw hn'
      have wo : ∀ g u, ¬ ((g = 4 ∨ (8 ≤ g ∧ g ≤ 12)) ∧ u = 0) → w.1 g u = σ.1 g u := fun g u z => by rw [w2 g u (by omega), r2 g u (by omega)]
      generalize hX : (sa w 31 0 (fun j => if 1 ≤ j ∧ j < 1 + 25 then σ.1 31 0 (26 + 25 * a + (j - 1)) else w.1 31 0 j)) = X
      have x31 : ∀ q, X.1 31 0 q = if 1 ≤ q ∧ q < 1 + 25 then σ.1 31 0 (26 + 25 * a + (q - 1)) else σ.1 31 0 q := fun q => by rw [← hX, sa_at, wo 31 0 (by omega)]
      have xo : ∀ g u, ¬ (g = 31 ∧ u = 0) → X.1 g u = w.1 g u := fun g u z => by rw [← hX, sa_ne z]
      refine ⟨nI (H - a), w, si X 31 0 0 (nI a), ?_, ?_, ?_⟩
      · rw [if_neg (by rw [show (0 : Int32) = nI 0 from rfl]; simp (disch := omega) only [nI_leI]; omega), r1, w1]
        rfl
      · rw [hmI w (wo 31 0 (by omega)), if_pos ga]
        simp only [obind, b2_some, bs_eq, if_neg one_ne]
        rw [eH]
        have key := fill_gen (fun k i s => F_Mod_undo_29 n k (nI a) (nI (H - a)) (nI i) s) (fun s => F_Mod_undo_67 n (nI a) (nI (H - a)) s) (fun s => ∀ q, 26 ≤ q → s.1 31 0 q = σ.1 31 0 q) 31 0 1 25 (fun i => σ.1 31 0 (26 + 25 * a + i)) (fun k s hs => by
          rw [F_Mod_undo_29, if_pos (by decide)]) (fun i s hi hs q hq => by
          rw [si_g, if_neg (by omega)]; exact hs q hq) (fun k i s hi hs => by
          rw [F_Mod_undo_29, if_neg (by rw [show (25 : Int32) = nI 25 from rfl]; simp (disch := omega) only [nI_leI]; omega), if_neg (by rw [show (0 : Int32) = nI 0 from rfl]; simp (disch := omega) only [nI_leI]; omega), show (26 : Int32) = nI 26 from rfl, show (25 : Int32) = nI 25 from rfl, pk_mul, nI_add, nI_add, ald_31 (by omega), hs _ (by omega)]
          simp only [obind, b2_some, bs_eq]
          rw [show (1 : Int32) = nI 1 from rfl, nI_add, ast_31 (by omega)]
          simp only [obind, b2_some, bs_eq]
          rw [nI_add]) n 0 w (by omega) (by omega) (fun q hq => by rw [wo 31 0 (by omega)])
        simp only [Nat.add_zero] at key
        rw [hX] at key
        rw [show (0 : Int32) = nI 0 from rfl, key]
        unfold F_Mod_undo_67
        rw [show (0 : Int32) = nI 0 from rfl, ast_31 (by omega)]
        rfl
      · have yo : ∀ g u, ¬ ((g = 4 ∨ (8 ≤ g ∧ g ≤ 12) ∨ g = 31) ∧ u = 0) → (si X 31 0 0 (nI a)).1 g u = σ.1 g u := fun g u z => by rw [si_ne (by omega), xo g u (by omega), wo g u (by omega)]
        have y31 : ∀ q, q ≠ 0 → (si X 31 0 0 (nI a)).1 31 0 q = X.1 31 0 q := fun q z => by rw [si_g, if_neg (by omega)]
        have yw : ∀ g, g ≤ 29 → (si X 31 0 0 (nI a)).1 g 0 = w.1 g 0 := fun g z => by rw [si_ne (by omega), xo g 0 (by omega)]
        refine h.camp hN m1 ⟨fun g u z b c => yo g u (by unfold keepG at z; omega), fun q hq => by rw [y31 q (by omega), x31, if_neg (by omega)], by rw [si_2, ← hX, sa_2, w3, r3], ⟨by rw [yo 30 0 (by omega), yo 0 0 (by omega)]; exact h.2.2.1.1, by rw [yo 0 0 (by omega)], by rw [yo 30 0 (by omega)]⟩, by rw [yo 30 0 (by omega)], by rw [yo 30 0 (by omega)], by rw [yo 30 0 (by omega)]⟩ ?_
        have y14 : (si X 31 0 0 (nI a)).1 14 0 = σ.1 14 0 := yo 14 0 (by omega)
        have y4 : ∀ q, (si X 31 0 0 (nI a)).1 4 0 q = s.1 4 0 q := fun q => by rw [yw 4 (by omega), w2 4 0 (by omega)]
        refine ⟨by rw [y4, r4, if_neg (by omega), if_neg (by omega), if_neg (by omega), if_neg (by omega), if_neg (by omega), if_neg (by omega)]; exact c1, ⟨a, by omega, by rw [y4, r4, if_neg (by omega), if_neg (by omega), if_neg (by omega), if_neg (by omega), if_neg (by omega), if_pos rfl], by rw [si_g, if_pos (by omega)], fun z => by have := c4 z; omega, fun q hq => ?_⟩, ?_, fun p hp => ?_⟩
        · rw [y14]
          refine (c5 q (by omega)).cg hN (fun i hi => ⟨rfl, rfl, rfl, rfl⟩) (fun z hz => ?_)
          rw [y31 _ (by omega), x31, if_neg (by omega)]
        · rw [y4, y4, y4, y4, y4, r4 11, r4 12, r4 13, r4 14, r4 15]
          simp (decide := true) only [if_true, if_false]
          refine cP.cg hN (fun i hi => ?_) (fun z hz => ?_)
          · rw [yw 9 (by omega), yw 8 (by omega), yw 11 (by omega), yw 12 (by omega), w2 9 0 (by omega), w2 8 0 (by omega), w2 11 0 (by omega), w2 12 0 (by omega)]
            exact r5 i (by omega)
          · rw [y31 _ (by omega), x31, if_pos (by omega)]
            exact congrArg (σ.1 31 0) (by omega)
        · rw [yw 10 (by omega), w4 p hp, y31 _ (by omega), x31, if_pos (by omega), ← md p hp]
          exact congrArg (σ.1 31 0) (by omega)
