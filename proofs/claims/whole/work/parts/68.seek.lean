-- ORDERS INTO ROWS
theorem Shl.row {σ σ' : St} {r N : Nat} (h : Rows σ) (hr : r < 6) (hN : N ≤ 40) (h1 : σ'.1 1 0 0 = σ.1 1 0 0) (h2 : ∀ q, σ'.1 2 0 q = if q = r then nI N else σ.1 2 0 q) (h3 : ∀ q, σ'.1 35 0 q = if q = r then nI N else σ.1 35 0 q) (h4 : ∀ q, ¬ (40 * r ≤ q ∧ q < 40 * r + 40) → σ'.1 3 0 q = σ.1 3 0 q) (h5 : ∀ q, ¬ (40 * r ≤ q ∧ q < 40 * r + 40) → σ'.1 36 0 q = σ.1 36 0 q) (h6 : ∀ p, p < N → σ'.1 36 0 (40 * r + p) = σ'.1 3 0 (40 * r + p)) : Rows σ' := by
  refine ⟨h1.trans h.1, fun q hq => ?_⟩
  rw [h2, h3]
  by_cases e : q = r
  · rw [if_pos e, if_pos e]
    refine ⟨rfl, Or.inr ⟨N, hN, rfl, fun j hj => ⟨?_, trivial⟩⟩⟩
    rw [e]
    exact h6 j hj
  · rw [if_neg e, if_neg e]
    obtain ⟨a, b⟩ := h.2 q hq
    refine ⟨a, ?_⟩
    rcases b with b | ⟨z, b1, b2, b3⟩
    · exact Or.inl b
    · refine Or.inr ⟨z, b1, b2, fun j hj => ?_⟩
      rw [h4 _ (by omega), h5 _ (by omega)]
      exact b3 j hj
theorem RR.rowW {σ σ1 σ2 : St} {r N : Nat} {W : Nat → Int32} (h : RR σ) (hr : r < 6) (hN : N ≤ 40) (c1 : ∀ g u, keepG g u ∨ g = 0 ∨ 30 ≤ g → ¬ ((g = 2 ∨ g = 3) ∧ u = 0) → σ1.1 g u = σ.1 g u) (c2 : σ1.2 = σ.2) (c3 : ∀ q, σ1.1 2 0 q = if q = r then nI N else σ.1 2 0 q) (c4 : ∀ q, ¬ (40 * r ≤ q ∧ q < 40 * r + 40) → σ1.1 3 0 q = σ.1 3 0 q) (c5 : ∀ p, p < N → σ1.1 3 0 (40 * r + p) = W p) (d1 : ∀ g u, keepG g u ∨ g = 0 → ¬ ((g = 35 ∨ g = 36) ∧ u = 0) → σ2.1 g u = σ1.1 g u) (d2 : σ2.2 = σ1.2) (d30 : ∀ j, j = 1 ∨ j = 9 ∨ j = 12 ∨ j = 24 ∨ j = 25 → σ2.1 30 0 j = σ1.1 30 0 j) (d3 : ∀ q, σ2.1 35 0 q = if q = r then nI N else σ1.1 35 0 q) (d4 : ∀ q, ¬ (40 * r ≤ q ∧ q < 40 * r + 40) → σ2.1 36 0 q = σ1.1 36 0 q) (d5 : ∀ p, p < N → σ2.1 36 0 (40 * r + p) = W p) : RR σ2 := by
  have o : ∀ g u, keepG g u ∨ g = 0 → ¬ ((g = 2 ∨ g = 3 ∨ g = 35 ∨ g = 36) ∧ u = 0) → σ2.1 g u = σ.1 g u := fun g u a b => (d1 g u a (by omega)).trans (c1 g u (by rcases a with a | a; exact Or.inl a; exact Or.inr (Or.inl a)) (by omega))
  have o30 : ∀ j, j = 1 ∨ j = 9 ∨ j = 12 ∨ j = 24 ∨ j = 25 → σ2.1 30 0 j = σ.1 30 0 j := fun j a => (d30 j a).trans (by rw [c1 30 0 (by omega) (by omega)])
  obtain ⟨ra, rb, ⟨t1, t2, t3, t4, t5⟩, rd⟩ := h
  unfold keepG at o d1 c1
  refine ⟨ra.row hr hN (by rw [o 1 0 (by omega) (by omega)]) (fun q => by rw [d1 2 0 (by omega) (by omega)]; exact c3 q) (fun q => by rw [d3 q, c1 35 0 (by omega) (by omega)]) (fun q hq => by rw [d1 3 0 (by omega) (by omega)]; exact c4 q hq) (fun q hq => by rw [d4 q hq, c1 36 0 (by omega) (by omega)]) (fun p hp => by rw [d5 p hp, d1 3 0 (by omega) (by omega), c5 p hp]), rb.cg (o _ _ (by omega) (by omega)) (o _ _ (by omega) (by omega)) (o _ _ (by omega) (by omega)) (o _ _ (by omega) (by omega)) (o _ _ (by omega) (by omega)), ⟨by rw [o30 9 (by omega), o 0 0 (by omega) (by omega)]; exact t1, by rw [d2, c2]; exact t2, by rw [d2, c2]; exact t3, by rw [o30 12 (by omega), o 0 0 (by omega) (by omega)]; exact t4, fun f hf => by rw [o 39 0 (by omega) (by omega), o 27 0 (by omega) (by omega)]; exact t5 f hf⟩, rd.cg ⟨fun g t _ _ _ => o _ _ (by omega) (by omega), o _ _ (by omega) (by omega), o _ _ (by omega) (by omega), o _ _ (by omega) (by omega), o _ _ (by omega) (by omega), o30 1 (by omega), o30 24 (by omega), o30 25 (by omega)⟩⟩
theorem wrTo_eq {n N r : Nat} {σ : St} {W : Nat → Nat} (hN : N ≤ 5) (hr : r < 6) (hl : σ.1 1 0 0 = nI 40) (ho : OW N W σ) (hn : 240 < n) : ∃ w, F_Orders_writeTo n 0 (nI r) σ = some w ∧ (∀ g u, ¬ ((g = 2 ∨ g = 3) ∧ u = 0) → w.1 g u = σ.1 g u) ∧ w.2 = σ.2 ∧ (∀ q, w.1 2 0 q = if q = r then nI N else σ.1 2 0 q) ∧ (∀ q, ¬ (40 * r ≤ q ∧ q < 40 * r + 40) → w.1 3 0 q = σ.1 3 0 q) ∧ ∀ p, p < N → w.1 3 0 (40 * r + p) = nI (W p) := by
  unfold F_Orders_writeTo
  rw [ho.1, make_eq (t := 0) (lim := 40) hr hl (by omega) (by decide) hn]
  simp only [obind, b2_some, bs_eq]
  refine loop_inv (fun k i (_ : Unit) s => F_Orders_writeTo_12 n 0 k (nI r) (nI i) s) N (fun _ => ()) (fun i s => (∀ g u, ¬ ((g = 2 ∨ g = 3) ∧ u = 0) → s.1 g u = σ.1 g u) ∧ s.2 = σ.2 ∧ (∀ q, s.1 2 0 q = if q = r then nI N else σ.1 2 0 q) ∧ (∀ q, ¬ (40 * r ≤ q ∧ q < 40 * r + 40) → s.1 3 0 q = σ.1 3 0 q) ∧ ∀ p, p < i → s.1 3 0 (40 * r + p) = nI (W p)) (fun w => (∀ g u, ¬ ((g = 2 ∨ g = 3) ∧ u = 0) → w.1 g u = σ.1 g u) ∧ w.2 = σ.2 ∧ (∀ q, w.1 2 0 q = if q = r then nI N else σ.1 2 0 q) ∧ (∀ q, ¬ (40 * r ≤ q ∧ q < 40 * r + 40) → w.1 3 0 q = σ.1 3 0 q) ∧ ∀ p, p < N → w.1 3 0 (40 * r + p) = nI (W p)) (fun k s hs => ?_) (fun k i s hi hs => ?_) n 0 _ (by omega) (by omega) ⟨fun g u a => by rw [sa_ne (by omega), si_ne (by omega)], rfl, fun q => ?_, fun q hq => ?_, fun p hp => by omega⟩
  · refine ⟨s, ?_, hs⟩
    rw [F_Orders_writeTo_12, hs.1 18 0 (by omega), ho.1, if_pos (by simp (disch := omega) only [nI_leI]; omega)]
  · refine ⟨si s 3 0 (40 * r + i) (nI (W i)), ?_, fun g u a => by rw [si_ne (by omega)]; exact hs.1 g u a, hs.2.1, fun q => by rw [si_ne (by omega)]; exact hs.2.2.1 q, fun q hq => by rw [si_g, if_neg (by omega)]; exact hs.2.2.2.1 q hq, fun p hp => ?_⟩
    · rw [F_Orders_writeTo_12, hs.1 18 0 (by omega), ho.1, if_neg (by simp (disch := omega) only [nI_leI]; omega), ald_19 (by omega), hs.1 19 0 (by omega), ho.2 i hi]
      simp only [obind, b2_some, bs_eq]
      rw [set_in (t := 0) (lim := 40) (z := N) hr (by rw [hs.1 1 0 (by omega)]; exact hl) (by rw [hs.2.2.1, if_pos rfl]) (by omega) (by decide) hi]
      simp only [obind, b2_some, bs_eq, nI_1]
    · rw [si_g]
      by_cases e : p = i
      · rw [if_pos (by omega), e]
      · rw [if_neg (by omega)]
        exact hs.2.2.2.2 p (by omega)
  · rw [sa_ne (by omega), si_g]
    by_cases e : q = r
    · rw [if_pos (by omega), if_pos e]
    · rw [if_neg (by omega), if_neg e]
  · rw [sa_at, if_neg (by omega)]
theorem ordTo_eq {n N r m : Nat} {σ : St} (hN : N ≤ 5) (hr : r < 6) (m1 : σ.1 30 0 1 = nI N) (hm : m < fact N) (hn : 240 < n) : ∃ w, F_Mod_orderTo n (nI r) (nI m) σ = some w ∧ (∀ g u, ¬ ((g = 35 ∨ g = 36 ∨ g = 44) ∧ u = 0) → w.1 g u = σ.1 g u) ∧ w.2 = σ.2 ∧ (∀ q, w.1 35 0 q = if q = r then nI N else σ.1 35 0 q) ∧ (∀ q, ¬ (40 * r ≤ q ∧ q < 40 * r + 40) → w.1 36 0 q = σ.1 36 0 q) ∧ ∀ p, p < N → w.1 36 0 (40 * r + p) = nI (ordN N m p) := by
  obtain ⟨y, y1, y2, y3, y4⟩ := layO_eq (n := n) hN m1 hm (by omega)
  unfold F_Mod_orderTo
  rw [y1]
  simp only [obind, b2_some, bs_eq]
  unfold F_Mod_makeRow
  rw [y2 30 0 (by omega), m1, ast_35 hr]
  simp only [obind, b2_some, bs_eq]
  rw [show (0 : Int32) = nI 0 from rfl, mkRow_loop hr (by omega)]
  simp only [obind, b2_some, bs_eq]
  refine loop_inv (fun k i (_ : Unit) s => F_Mod_orderTo_16 n k (nI r) (nI i) s) N (fun _ => ()) (fun i s => (∀ g u, ¬ ((g = 35 ∨ g = 36) ∧ u = 0) → s.1 g u = y.1 g u) ∧ s.2 = y.2 ∧ (∀ q, s.1 35 0 q = if q = r then nI N else σ.1 35 0 q) ∧ (∀ q, ¬ (40 * r ≤ q ∧ q < 40 * r + 40) → s.1 36 0 q = σ.1 36 0 q) ∧ ∀ p, p < i → s.1 36 0 (40 * r + p) = nI (ordN N m p)) (fun w => (∀ g u, ¬ ((g = 35 ∨ g = 36 ∨ g = 44) ∧ u = 0) → w.1 g u = σ.1 g u) ∧ w.2 = σ.2 ∧ (∀ q, w.1 35 0 q = if q = r then nI N else σ.1 35 0 q) ∧ (∀ q, ¬ (40 * r ≤ q ∧ q < 40 * r + 40) → w.1 36 0 q = σ.1 36 0 q) ∧ ∀ p, p < N → w.1 36 0 (40 * r + p) = nI (ordN N m p)) (fun k s hs => ?_) (fun k i s hi hs => ?_) n 0 _ (by omega) (by omega) ⟨fun g u a => by rw [sa_ne (by omega), si_ne (by omega)], rfl, fun q => ?_, fun q hq => ?_, fun p hp => by omega⟩
  · refine ⟨s, ?_, fun g u a => by rw [hs.1 g u (by omega), y2 g u (by omega)], by rw [hs.2.1, y3], hs.2.2⟩
    rw [F_Mod_orderTo_16, hs.1 30 0 (by omega), y2 30 0 (by omega), m1, if_pos (by simp (disch := omega) only [nI_leI]; omega)]
  · refine ⟨si s 36 0 (40 * r + i) (nI (ordN N m i)), ?_, fun g u a => by rw [si_ne (by omega)]; exact hs.1 g u a, hs.2.1, fun q => by rw [si_ne (by omega)]; exact hs.2.2.1 q, fun q hq => by rw [si_g, if_neg (by omega)]; exact hs.2.2.2.1 q hq, fun p hp => ?_⟩
    · rw [F_Mod_orderTo_16, hs.1 30 0 (by omega), y2 30 0 (by omega), m1, if_neg (by simp (disch := omega) only [nI_leI]; omega), ald_44 (by omega), hs.1 44 0 (by omega), y4 i hi]
      simp only [obind, b2_some, bs_eq]
      rw [show (40 : Int32) = nI 40 from rfl, pk_mul, nI_add, ast_36 (by omega)]
      simp only [obind, b2_some, bs_eq, nI_1]
    · rw [si_g]
      by_cases e : p = i
      · rw [if_pos (by omega), e]
      · rw [if_neg (by omega)]
        exact hs.2.2.2.2 p (by omega)
  · rw [sa_ne (by omega), si_g, y2 35 0 (by omega)]
    by_cases e : q = r
    · rw [if_pos (by omega), if_pos e]
    · rw [if_neg (by omega), if_neg e]
  · rw [sa_at, if_neg (by omega), si_ne (by omega), y2 36 0 (by omega)]
theorem op_nth {n : Nat} {σ : St} (a1 a2 : Int32) (hn : 2000 ≤ n) (h : RR σ) : ∃ r σ1 σ2, F_Tent_nth n a1 a2 σ = some (r, σ1) ∧ F_Mod_nth n a1 a2 σ1 = some (r, σ2) ∧ RR σ2 := by
  obtain ⟨V, hc, hm⟩ := h.2.2.2.view
  have hN := hc.1.1
  have h1 := hc.2.1
  have m1 := hm.2.1
  have hn' : 10 < n := by omega
  unfold F_Tent_nth F_Mod_nth
  by_cases ga : a1 < 0
  · exact ⟨-1, σ, σ, by rw [if_neg (fun z => (lt_le_n a1).mp z ga)], by rw [if_pos ga], h⟩
  · rw [if_pos ((lt_le_n a1).mpr ga)]
    simp only [if_neg ga]
    rcases ix_of 6 (by decide) a2 with g | ⟨r, hr, rfl⟩
    · exact ⟨-1, σ, σ, by rw [rtf_out g]; rfl, by rw [isRow_out g]; rfl, h⟩
    · rw [isRow_in hr]
      simp only [obind, b2_some, bs_eq, if_neg one_ne]
      by_cases gN : vN V = 0
      · exact ⟨-4, σ, σ, by rw [rtf_none hr (by rw [h1, gN])]; rfl, by rw [m1, if_pos (by rw [gN]; rfl)], h⟩
      · have g0 : ¬ nI (vN V) = 0 := by rw [nI_z (by omega)]; exact gN
        have hf := fact_le (vN V) hN
        rw [rtf_ok hr h1 hN gN]
        simp only [obind, b2_some, bs_eq, if_true]
        rw [h1, many_eq hN hn']
        simp only [obind, b2_some, bs_eq]
        rcases ix_of (fact (vN V)) (by omega) a1 with g | ⟨m, hm', rfl⟩
        · have g2 : ¬ a1 < nI (fact (vN V)) := by
            rcases g with g | g
            · exact absurd g ga
            · rw [i32_lt]; rw [i32_le] at g; omega
          refine ⟨-3, cF 4 σ, mF 4 (cF 4 σ), ?_, ?_, h.found (by omega)⟩
          · rw [if_neg g2, show (4 : Int32) = nI 4 from rfl, found_eq (by omega)]
            rfl
          · have f30 : (cF 4 σ).1 30 0 = σ.1 30 0 := by unfold cF; rw [si_ne (by omega), si_ne (by omega)]
            rw [f30, m1, if_neg g0, omany_eq hN (by rw [f30]; exact m1) hn']
            simp only [obind, b2_some, bs_eq]
            rw [if_neg g2, show (4 : Int32) = nI 4 from rfl, find_eq (by omega)]
            rfl
        · obtain ⟨w, w1, w2, w3, w4⟩ := goTo_eq (n := n) (σ := σ) hN hm' hn'
          obtain ⟨y, y1, y2, y3, y4, y5, y6⟩ := wrTo_eq (n := n) (r := r) hN hr (by rw [w2 1 0 (by omega)]; exact h.1.1) w4 (by omega)
          have yo : ∀ g u, ¬ ((g = 2 ∨ g = 3 ∨ g = 18 ∨ g = 19) ∧ u = 0) → y.1 g u = σ.1 g u := fun g u a => by rw [y2 g u (by omega), w2 g u (by omega)]
          obtain ⟨z, z1, z2, z3, z4, z5, z6⟩ := ordTo_eq (n := n) (r := r) (σ := y) hN hr (by rw [yo 30 0 (by omega)]; exact m1) hm' (by omega)
          have lt : nI m < nI (fact (vN V)) := by simp (disch := omega) only [nI_ltI]; exact hm'
          refine ⟨1, y, z, ?_, ?_, ?_⟩
          · rw [if_pos lt, w1]
            simp only [obind, b2_some, bs_eq]
            rw [y1]
            rfl
          · rw [yo 30 0 (by omega), m1, if_neg g0, omany_eq hN (by rw [yo 30 0 (by omega)]; exact m1) hn']
            simp only [obind, b2_some, bs_eq]
            rw [if_pos lt, z1]
            rfl
          · exact h.rowW (W := fun p => nI (ordN (vN V) m p)) hr (by omega) (fun g u a b => yo g u (by unfold keepG at a; omega)) (by rw [y3, w3]) (fun q => by rw [y4, w2 2 0 (by omega)]) (fun q hq => by rw [y5 q hq, w2 3 0 (by omega)]) y6 (fun g u a b => z2 g u (by unfold keepG at a; omega)) z3 (fun j _ => by rw [z2 30 0 (by omega)]) z4 z5 z6
