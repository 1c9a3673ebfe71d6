noncomputable def posN (N m : Nat) (i : Nat) : Nat := fnd (fun q => nI (ordN N m q)) i N
theorem ordN_pw {N m : Nat} (hN : N ≤ 5) (hm : m < fact N) : PW N (posN N m) (ordN N m) := by
  have hd : ∀ k, k < N → dM N m k < N - k := fun k hk => (dig_ok N (by omega) m hm k hk).2.1
  obtain ⟨P, p1, p2⟩ := ordG_pw hN hd
  have e : ∀ i, i < N → posN N m i = P i := fun i hi => by
    obtain ⟨a, b⟩ := p1 i hi
    obtain ⟨c, d⟩ := fnd_ok (e := fun q => nI (ordN N m q)) (j := i) N (seen_of a (by show nI (ordG N (dM N m) (P i)) = nI i; rw [b]))
    have d' : nI (ordG N (dM N m) (posN N m i)) = nI i := d
    have e1 := nI_inj (by have := (p2 _ c).1; show ordG N (dM N m) (posN N m i) < 2 ^ 31; have : ordG N (dM N m) (posN N m i) < N := this; omega) (by omega) d'
    have e2 := (p2 _ c).2
    have e3 : P (ordG N (dM N m) (posN N m i)) = posN N m i := e2
    rw [e1] at e3
    exact e3.symm
  exact ⟨fun i hi => by rw [e i hi]; exact p1 i hi, fun p hp => ⟨(p2 p hp).1, (e _ (p2 p hp).1).trans (p2 p hp).2⟩⟩
def setW (V : Vw) (P W : Nat → Nat) : Vw := (V.1, V.2.1, V.2.2.1, V.2.2.2.1, V.2.2.2.2.1, V.2.2.2.2.2.1, V.2.2.2.2.2.2.1, W, P, V.2.2.2.2.2.2.2.2.2)
def setB (V : Vw) (B : Nat → Int32) : Vw := (V.1, V.2.1, V.2.2.1, V.2.2.2.1, V.2.2.2.2.1, B, V.2.2.2.2.2.2)
theorem CV.setW {t : Nat} {V : Vw} {σ s : St} {P W : Nat → Nat} (h : CV t V σ) (pw : PW (vN V) P W) (h1 : ∀ g, 4 ≤ g → g ≤ 8 → s.1 g t = σ.1 g t) (h2 : ∀ p, p < vN V → s.1 10 t p = nI (W p)) (h3 : ∀ i, i < vN V → s.1 9 t i = nI (P i)) : CV t (setW V P W) s := by
  obtain ⟨hw, c1, c2, c3, c4, c5, c6⟩ := h
  obtain ⟨w1, w2, w3, w4, w5, w6, w7⟩ := hw
  refine ⟨⟨w1, pw.1, pw.2, w4, w5, w6, w7⟩, by rw [h1 4 (by omega) (by omega)]; exact c1, fun i hi => ?_, fun k hk => by rw [h1 5 (by omega) (by omega)]; exact c3 k hk, by rw [h1 4 (by omega) (by omega)]; exact c4, by rw [h1 4 (by omega) (by omega)]; exact c5, by rw [h1 4 (by omega) (by omega)]; exact c6⟩
  obtain ⟨a1, a2, a3, a4, a5, a6, a7⟩ := c2 i hi
  rw [h1 6 (by omega) (by omega), h1 7 (by omega) (by omega), h1 8 (by omega) (by omega)]
  exact ⟨a1, a2, a3, a4, a5, h2 i hi, h3 i hi⟩
theorem MW.setW {V : Vw} {σ s : St} {P W : Nat → Nat} (h : MW V σ) (pw : PW (vN V) P W) (h1 : ∀ g, (31 ≤ g ∧ g ≤ 34) ∨ g = 43 → s.1 g 0 = σ.1 g 0) (h2 : ∀ j, j = 1 ∨ (22 ≤ j ∧ j ≤ 26) → s.1 30 0 j = σ.1 30 0 j) (h3 : ∀ p, p < vN V → s.1 42 0 p = nI (W p)) : MW (setW V P W) s := by
  obtain ⟨hw, c1, c2, c3, c4, c5, c6⟩ := h
  obtain ⟨w1, w2, w3, w4, w5, w6, w7⟩ := hw
  refine ⟨⟨w1, pw.1, pw.2, w4, w5, w6, w7⟩, by rw [h2 1 (by omega)]; exact c1, fun i hi => ?_, fun k hk => by rw [h1 34 (by omega)]; exact c3 k hk, by rw [h1 31 (by omega)]; exact c4, by rw [h2 23 (by omega)]; exact c5, by rw [h2 22 (by omega)]; exact c6⟩
  have k1 : kd s i = kd σ i := by
    unfold kd
    rw [h2 25 (by omega), h2 26 (by omega), h1 32 (by omega)]
  obtain ⟨a1, a2, a3, a4, a5, a6⟩ := c2 i hi
  rw [k1, h2 24 (by omega), h1 33 (by omega), h1 43 (by omega)]
  exact ⟨a1, a2, a3, a4, a5, h3 i hi⟩
theorem CV.setB {t : Nat} {V : Vw} {σ s : St} {B : Nat → Int32} (h : CV t V σ) (h1 : ∀ g, 4 ≤ g → g ≤ 10 → g ≠ 8 → s.1 g t = σ.1 g t) (h2 : ∀ i, i < vN V → s.1 8 t i = B i) : CV t (setB V B) s := by
  obtain ⟨hw, c1, c2, c3, c4, c5, c6⟩ := h
  refine ⟨hw, by rw [h1 4 (by omega) (by omega) (by omega)]; exact c1, fun i hi => ?_, fun k hk => by rw [h1 5 (by omega) (by omega) (by omega)]; exact c3 k hk, by rw [h1 4 (by omega) (by omega) (by omega)]; exact c4, by rw [h1 4 (by omega) (by omega) (by omega)]; exact c5, by rw [h1 4 (by omega) (by omega) (by omega)]; exact c6⟩
  obtain ⟨a1, a2, a3, a4, a5, a6, a7⟩ := c2 i hi
  rw [h1 6 (by omega) (by omega) (by omega), h1 7 (by omega) (by omega) (by omega), h1 9 (by omega) (by omega) (by omega), h1 10 (by omega) (by omega) (by omega)]
  exact ⟨a1, a2, a3, a4, (h2 i hi).symm, a6, a7⟩
theorem MW.setB {V : Vw} {σ s : St} {B : Nat → Int32} (h : MW V σ) (h1 : ∀ g, (31 ≤ g ∧ g ≤ 34) ∨ g = 42 → s.1 g 0 = σ.1 g 0) (h2 : ∀ j, j = 1 ∨ (22 ≤ j ∧ j ≤ 26) → s.1 30 0 j = σ.1 30 0 j) (h3 : ∀ i, i < vN V → s.1 43 0 i = B i) : MW (setB V B) s := by
  obtain ⟨hw, c1, c2, c3, c4, c5, c6⟩ := h
  refine ⟨hw, by rw [h2 1 (by omega)]; exact c1, fun i hi => ?_, fun k hk => by rw [h1 34 (by omega)]; exact c3 k hk, by rw [h1 31 (by omega)]; exact c4, by rw [h2 23 (by omega)]; exact c5, by rw [h2 22 (by omega)]; exact c6⟩
  have k1 : kd s i = kd σ i := by
    unfold kd
    rw [h2 25 (by omega), h2 26 (by omega), h1 32 (by omega)]
  obtain ⟨a1, a2, a3, a4, a5, a6⟩ := c2 i hi
  rw [k1, h2 24 (by omega), h1 33 (by omega), h1 42 (by omega)]
  exact ⟨a1, a2, a3, a4, (h3 i hi).symm, a6⟩
theorem mx_idx (f : Nat → Nat) : ∀ k, 0 < k → ∃ j, j < k ∧ (mxS f k).2 = nI j
  | 0, h => by omega
  | k + 1, _ => by
    simp only [mxS]
    split
    · by_cases e : k = 0
      · subst e; exact ⟨0, by omega, rfl⟩
      · obtain ⟨j, hj, ej⟩ := mx_idx f k (by omega)
        exact ⟨j, by omega, ej⟩
    · exact ⟨k, by omega, rfl⟩
theorem seek_loop {n N : Nat} {r mode : Int32} (f : Nat → Nat) (Inv : St → Prop) (hN : N ≤ 5) (h0 : 0 < N) (hn : 200 < n) (hF : ∀ s s', Inv s → F19 s s' → Inv s') (hstep : ∀ k m l4 l5 s, m < fact N → Inv s → OW N (ordN N m) s → ∃ s', F_Tent_seekOrder_46 n (k + 1) r mode l4 l5 (nI m) s = F_Tent_seekOrder_115 n (F_Tent_seekOrder_46 n k) r mode l4 l5 (nI m) (nI (f m)) s' ∧ Inv s' ∧ OW N (ordN N m) s') : ∀ s, Inv s → OW N (ordN N 0) s → ∃ s', F_Tent_seekOrder_46 n n r mode (-1) 0 0 s = F_Tent_seekOrder_151 n r (mxS f (fact N)).1 (mxS f (fact N)).2 s' ∧ Inv s' := by
  have hf := fact_le N hN
  have key : ∀ k m s, m < fact N → fact N < k + m → Inv s → OW N (ordN N m) s → ∃ s', F_Tent_seekOrder_46 n k r mode (mxS f m).1 (mxS f m).2 (nI m) s = F_Tent_seekOrder_151 n r (mxS f (fact N)).1 (mxS f (fact N)).2 s' ∧ Inv s' := by
    intro k
    induction k with
    | zero => intro m s a b; omega
    | succ k ih =>
      intro m s hm hk hs ho
      obtain ⟨s1, e1, i1, o1⟩ := hstep k m (mxS f m).1 (mxS f m).2 s hm hs ho
      rw [e1]
      unfold F_Tent_seekOrder_115 F_Tent_seekOrder_132
      rw [mx1, mx2]
      obtain ⟨w, a1, a2, a3⟩ := adv_eq (n := n) hN h0 hm o1 (by omega)
      rw [a1]
      simp only [obind, b2_some, bs_eq]
      by_cases g : m + 1 < fact N
      · rw [if_pos g, if_neg one_ne, nI_1]
        rw [if_pos g] at a2
        exact ih (m + 1) w g (by omega) (hF _ _ i1 a3) a2
      · rw [if_neg g, if_pos rfl, show m + 1 = fact N by omega]
        exact ⟨w, rfl, hF _ _ i1 a3⟩
  intro s hs ho
  exact key n 0 s (by omega) (by omega) hs ho
theorem takeBags_eq {n N : Nat} {W : Nat → Nat} {σ : St} (hN : N ≤ 5) (h10 : σ.1 4 4 10 = nI N) (ho : ∀ p, p < N → σ.1 19 0 p = nI (W p)) (hW : ∀ p, p < N → W p < N) (hn : 10 < n) : ∃ w, F_Camp_takeBags n 4 0 19 0 σ = some w ∧ (∀ g u, ¬ (g = 8 ∧ u = 4) → w.1 g u = σ.1 g u) ∧ w.2 = σ.2 ∧ ∀ i, i < N → w.1 8 4 i = σ.1 8 0 (W i) := by
  unfold F_Camp_takeBags
  refine loop_inv (fun k i (_ : Unit) s => F_Camp_takeBags_2 n 4 0 19 0 k (nI i) s) N (fun _ => ()) (fun i s => (∀ g u, ¬ (g = 8 ∧ u = 4) → s.1 g u = σ.1 g u) ∧ s.2 = σ.2 ∧ ∀ q, q < i → s.1 8 4 q = σ.1 8 0 (W q)) (fun w => (∀ g u, ¬ (g = 8 ∧ u = 4) → w.1 g u = σ.1 g u) ∧ w.2 = σ.2 ∧ ∀ i, i < N → w.1 8 4 i = σ.1 8 0 (W i)) (fun k s hs => ?_) (fun k i s hi hs => ?_) n 0 σ (by omega) (by omega) ⟨fun _ _ _ => rfl, rfl, fun q hq => by omega⟩
  · refine ⟨s, ?_, hs⟩
    rw [F_Camp_takeBags_2, hs.1 4 4 (by omega), h10, if_pos (by simp (disch := omega) only [nI_leI]; omega)]
  · have := hW i hi
    refine ⟨si s 8 4 i (σ.1 8 0 (W i)), ?_, fun g u a => by rw [si_ne a]; exact hs.1 g u a, hs.2.1, fun q hq => ?_⟩
    · rw [F_Camp_takeBags_2, hs.1 4 4 (by omega), h10, if_neg (by simp (disch := omega) only [nI_leI]; omega), ald_19 (by omega), hs.1 19 0 (by omega), ho i hi]
      simp only [obind, b2_some, bs_eq]
      rw [ald_8 (by omega), hs.1 8 0 (by omega)]
      simp only [obind, b2_some, bs_eq]
      rw [ast_8 (by omega)]
      simp only [obind, b2_some, bs_eq, nI_1]
    · rw [si_g]
      by_cases e : q = i
      · rw [if_pos (by omega), e]
      · rw [if_neg (by omega)]
        exact hs.2.2 q (by omega)
noncomputable def fB (V : Vw) (mode m : Nat) : Nat := if mode = 2 then worthV (setB V (fun i => vB V (ordN (vN V) m i))) else if mode = 1 then leastV (setW V (posN (vN V) m) (ordN (vN V) m)) else worthV (setW V (posN (vN V) m) (ordN (vN V) m))
theorem seekC {n r mode : Nat} {V : Vw} {σ : St} (hc : CV 0 V σ) (hl : σ.1 1 0 0 = nI 40) (hr : r < 6) (h0 : 0 < vN V) (hmode : mode < 3) (hn : 2000 ≤ n) : ∃ w, F_Tent_seekOrder n (nI r) (nI mode) σ = some ((mxS (fB V mode) (fact (vN V))).1, w) ∧ (∀ g u, keepG g u ∨ g = 0 ∨ 30 ≤ g → ¬ ((g = 2 ∨ g = 3) ∧ u = 0) → w.1 g u = σ.1 g u) ∧ w.2 = σ.2 ∧ (∀ q, w.1 2 0 q = if q = r then nI (vN V) else σ.1 2 0 q) ∧ (∀ q, ¬ (40 * r ≤ q ∧ q < 40 * r + 40) → w.1 3 0 q = σ.1 3 0 q) ∧ ∃ m, m < fact (vN V) ∧ (mxS (fB V mode) (fact (vN V))).2 = nI m ∧ ∀ p, p < vN V → w.1 3 0 (40 * r + p) = nI (ordN (vN V) m p) := by
  have hN := hc.1.1
  have h1 := hc.2.1
  have hn' : 10 < n := by omega
  have hf := fact_le (vN V) hN
  have hK : CV 4 V (tkP 4 0 σ) := hc.take (by decide)
  unfold F_Tent_seekOrder
  rw [rtf_ok hr h1 hN (by omega), take_eq]
  simp only [obind, b2_some, bs_eq, if_true]
  rw [tkP_ne (g := 4) (u := 0) (by omega), h1]
  obtain ⟨B0, b1, b2, b3, b4⟩ := begin_eq (n := n) (σ := tkP 4 0 σ) hN hn'
  rw [b1]
  simp only [obind, b2_some, bs_eq]
  obtain ⟨s', e1, i1⟩ := seek_loop (n := n) (N := vN V) (r := nI r) (mode := nI mode) (fB V mode) (fun s => SC σ s ∧ (∀ g, 4 ≤ g → g ≤ 7 → s.1 g 4 = (tkP 4 0 σ).1 g 4) ∧ (mode ≠ 2 → s.1 8 4 = (tkP 4 0 σ).1 8 4) ∧ (mode = 2 → s.1 9 4 = (tkP 4 0 σ).1 9 4 ∧ s.1 10 4 = (tkP 4 0 σ).1 10 4)) hN h0 (by omega) (fun s s' hs h19 => ⟨hs.1.tr ⟨fun g u a => h19.1 g u (by unfold keepG at a; omega), h19.2⟩, fun g a b => by rw [h19.1 g 4 (by omega)]; exact hs.2.1 g a b, fun z => by rw [h19.1 8 4 (by omega)]; exact hs.2.2.1 z, fun z => by rw [h19.1 9 4 (by omega), h19.1 10 4 (by omega)]; exact hs.2.2.2 z⟩) (fun k m l4 l5 s hm hs ho => by
      have s10 : s.1 4 4 10 = nI (vN V) := by rw [hs.2.1 4 (by omega) (by omega)]; exact hK.2.1
      rw [F_Tent_seekOrder_46, if_neg (by rw [show (120 : Int32) = nI 120 from rfl]; simp (disch := omega) only [nI_leI]; omega)]
      by_cases g2 : mode = 2
      · obtain ⟨w, w1, w2, w3, w4⟩ := takeBags_eq (n := n) hN s10 ho.2 (fun p hp => ((ordN_pw hN hm).2 p hp).1) hn'
        have hw : CV 4 (setB V (fun i => vB V (ordN (vN V) m i))) w := hK.setB (fun g a b c => by
          rw [w2 g 4 (by omega)]
          by_cases z : g ≤ 7
          · exact hs.2.1 g a z
          · have : g = 9 ∨ g = 10 := by omega
            rcases this with z | z <;> subst z
            · exact (hs.2.2.2 g2).1
            · exact (hs.2.2.2 g2).2) (fun i hi => by
          rw [w4 i hi, hs.1.1 8 0 (by unfold keepG; omega)]
          exact ((hc.2.2.1 _ ((ordN_pw hN hm).2 i hi).1).2.2.2.2.1).symm)
        refine ⟨w, ?_, ⟨hs.1.tr ⟨fun g u a => w2 g u (by unfold keepG at a; omega), w3⟩, fun g a b => by rw [w2 g 4 (by omega)]; exact hs.2.1 g a b, fun z => absurd g2 z, fun z => by rw [w2 9 4 (by omega), w2 10 4 (by omega)]; exact hs.2.2.2 z⟩, by rw [w2 18 0 (by omega)]; exact ho.1, fun p hp => by rw [w2 19 0 (by omega)]; exact ho.2 p hp⟩
        rw [g2, if_pos (by decide), w1]
        simp only [obind, b2_some, bs_eq]
        unfold F_Tent_seekOrder_93
        rw [if_neg (by decide), cv_worth hw hn']
        simp only [obind, b2_some, bs_eq, fB, if_true]
      · obtain ⟨w, w1, w2, w3, w4, w5⟩ := lay_by (n := n) (t := 4) (g1 := 19) (u1 := 0) (σ := s) hN s10 (by omega) rfl ho.2 (ordN_pw hN hm) hn'
        have hw : CV 4 (setW V (posN (vN V) m) (ordN (vN V) m)) w := hK.setW (ordN_pw hN hm) (fun g a b => by
          rw [w2 g 4 (by omega)]
          by_cases z : g ≤ 7
          · exact hs.2.1 g a z
          · have : g = 8 := by omega
            subst this
            exact hs.2.2.1 g2) w4 w5
        refine ⟨w, ?_, ⟨hs.1.tr ⟨fun g u a => w2 g u (by unfold keepG at a; omega), w3⟩, fun g a b => by rw [w2 g 4 (by omega)]; exact hs.2.1 g a b, fun z => by rw [w2 8 4 (by omega)]; exact hs.2.2.1 z, fun z => absurd z g2⟩, by rw [w2 18 0 (by omega)]; exact ho.1, fun p hp => by rw [w2 19 0 (by omega)]; exact ho.2 p hp⟩
        rw [if_neg (show ¬ nI mode = 2 from fun z => g2 (nI_inj (b := 2) (by omega) (by omega) z)), w1]
        simp only [obind, b2_some, bs_eq]
        unfold F_Tent_seekOrder_93
        by_cases g1 : mode = 1
        · rw [g1, if_pos (by decide), cv_least hw hn']
          simp only [obind, b2_some, bs_eq, fB, if_neg (show ¬ 1 = 2 by omega), if_true]
        · rw [if_neg (show ¬ nI mode = 1 from fun z => g1 (nI_inj (b := 1) (by omega) (by omega) z)), cv_worth hw hn']
          simp only [obind, b2_some, bs_eq, fB, if_neg g2, if_neg g1]) B0 ⟨(SC.rf σ).tk.tr ⟨fun g u a => b2 g u (by unfold keepG at a; omega), b3⟩, fun g a b => b2 g 4 (by omega), fun _ => b2 8 4 (by omega), fun _ => ⟨b2 9 4 (by omega), b2 10 4 (by omega)⟩⟩ b4
  obtain ⟨m, hm, em⟩ := mx_idx (fB V mode) (fact (vN V)) (by omega)
  obtain ⟨w, w1, w2, w3, w4⟩ := goTo_eq (n := n) (σ := s') hN hm hn'
  have k1 := i1.1.1 1 0 (by unfold keepG; omega)
  obtain ⟨y, y1, y2, y3, y4, y5, y6⟩ := wrTo_eq (n := n) (r := r) hN hr (by rw [w2 1 0 (by omega), k1]; exact hl) w4 (by omega)
  refine ⟨y, ?_, fun g u a b => by rw [y2 g u b, w2 g u (by unfold keepG at a; omega)]; exact i1.1.1 g u a, by rw [y3, w3]; exact i1.1.2, fun q => by rw [y4, w2 2 0 (by omega), i1.1.1 2 0 (by unfold keepG; omega)], fun q hq => by rw [y5 q hq, w2 3 0 (by omega), i1.1.1 3 0 (by unfold keepG; omega)], m, hm, em, y6⟩
  rw [e1]
  unfold F_Tent_seekOrder_151
  rw [i1.1.1 4 0 (by unfold keepG; omega), h1, em, w1]
  simp only [obind, b2_some, bs_eq]
  rw [y1]
  rfl
