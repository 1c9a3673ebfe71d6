theorem lieBy_eq {n N m : Nat} {σ : St} (hN : N ≤ 5) (m1 : σ.1 30 0 1 = nI N) (hm : m < fact N) (hn : 10 < n) : ∃ w, F_Mod_lieBy n (nI m) σ = some w ∧ (∀ g u, ¬ ((g = 44 ∨ g = 42) ∧ u = 0) → w.1 g u = σ.1 g u) ∧ w.2 = σ.2 ∧ ∀ p, p < N → w.1 42 0 p = nI (ordN N m p) := by
  obtain ⟨y, y1, y2, y3, y4⟩ := layO_eq (n := n) hN m1 hm hn
  unfold F_Mod_lieBy
  rw [y1]
  simp only [obind, b2_some, bs_eq]
  refine loop_inv (fun k i (_ : Unit) s => F_Mod_lieBy_7 n k (nI i) s) N (fun _ => ()) (fun i s => (∀ g u, ¬ (g = 42 ∧ u = 0) → s.1 g u = y.1 g u) ∧ s.2 = y.2 ∧ ∀ p, p < i → s.1 42 0 p = nI (ordN N m p)) (fun w => (∀ g u, ¬ ((g = 44 ∨ g = 42) ∧ u = 0) → w.1 g u = σ.1 g u) ∧ w.2 = σ.2 ∧ ∀ p, p < N → w.1 42 0 p = nI (ordN N m p)) (fun k s hs => ?_) (fun k i s hi hs => ?_) n 0 _ (by omega) (by omega) ⟨fun _ _ _ => rfl, rfl, fun p hp => by omega⟩
  · refine ⟨s, ?_, fun g u a => by rw [hs.1 g u (by omega), y2 g u (by omega)], by rw [hs.2.1, y3], hs.2.2⟩
    rw [F_Mod_lieBy_7, hs.1 30 0 (by omega), y2 30 0 (by omega), m1, if_pos (by simp (disch := omega) only [nI_leI]; omega)]
  · refine ⟨si s 42 0 i (nI (ordN N m i)), ?_, fun g u a => by rw [si_ne a]; exact hs.1 g u a, hs.2.1, fun p hp => ?_⟩
    · rw [F_Mod_lieBy_7, hs.1 30 0 (by omega), y2 30 0 (by omega), m1, if_neg (by simp (disch := omega) only [nI_leI]; omega), ald_44 (by omega), hs.1 44 0 (by omega), y4 i hi]
      simp only [obind, b2_some, bs_eq]
      rw [ast_42 (by omega)]
      simp only [obind, b2_some, bs_eq, nI_1]
    · rw [si_g]
      by_cases e : p = i
      · rw [if_pos (by omega), e]
      · rw [if_neg (by omega)]
        exact hs.2.2 p (by omega)
/-- the reference's search: only its own rows have changed -/
def MS (L s : St) : Prop := (∀ g u, ¬ ((g = 42 ∨ g = 43 ∨ g = 44) ∧ u = 0) → s.1 g u = L.1 g u) ∧ s.2 = L.2
theorem toBestM {n r mode : Nat} {V : Vw} {L : St} (hL : MW V L) (hr : r < 6) (h0 : 0 < vN V) (hmode : mode < 2) (hn : 2000 ≤ n) {mm : Nat} (hmm : mm < fact (vN V)) (emm : (mxS (fB V mode) (fact (vN V))).2 = nI mm) : ∃ w, F_Mod_toBest_31 n n (nI r) (nI mode) 0 (-1) 0 L = some ((mxS (fB V mode) (fact (vN V))).1, w) ∧ (∀ g u, ¬ ((g = 35 ∨ g = 36 ∨ g = 42 ∨ g = 43 ∨ g = 44) ∧ u = 0) → w.1 g u = L.1 g u) ∧ w.2 = L.2 ∧ (∀ q, w.1 35 0 q = if q = r then nI (vN V) else L.1 35 0 q) ∧ (∀ q, ¬ (40 * r ≤ q ∧ q < 40 * r + 40) → w.1 36 0 q = L.1 36 0 q) ∧ ∀ p, p < vN V → w.1 36 0 (40 * r + p) = nI (ordN (vN V) mm p) := by
  have hN := hL.1.1
  have m1 := hL.2.1
  have hn' : 10 < n := by omega
  have hf := fact_le (vN V) hN
  have key := loop_inv (fun k i (b : Int32 × Int32) s => F_Mod_toBest_31 n k (nI r) (nI mode) b.2 b.1 (nI i) s) (fact (vN V)) (mxS (fB V mode)) (fun i s => MS L s ∧ s.1 43 0 = L.1 43 0) (fun w => w.1 = (mxS (fB V mode) (fact (vN V))).1 ∧ (∀ g u, ¬ ((g = 35 ∨ g = 36 ∨ g = 42 ∨ g = 43 ∨ g = 44) ∧ u = 0) → w.2.1 g u = L.1 g u) ∧ w.2.2 = L.2 ∧ (∀ q, w.2.1 35 0 q = if q = r then nI (vN V) else L.1 35 0 q) ∧ (∀ q, ¬ (40 * r ≤ q ∧ q < 40 * r + 40) → w.2.1 36 0 q = L.1 36 0 q) ∧ ∀ p, p < vN V → w.2.1 36 0 (40 * r + p) = nI (ordN (vN V) mm p)) (fun k s hs => by
    have s1 : s.1 30 0 1 = nI (vN V) := by rw [hs.1.1 30 0 (by omega)]; exact m1
    obtain ⟨z, z1, z2, z3, z4, z5, z6⟩ := ordTo_eq (n := n) (r := r) (σ := s) hN hr s1 hmm (by omega)
    refine ⟨((mxS (fB V mode) (fact (vN V))).1, z), ?_, rfl, fun g u a => by simp only []; rw [z2 g u (by omega), hs.1.1 g u (by omega)], by simp only []; rw [z3, hs.1.2], fun q => by simp only []; rw [z4 q, hs.1.1 35 0 (by omega)], fun q hq => by simp only []; rw [z5 q hq, hs.1.1 36 0 (by omega)], z6⟩
    rw [F_Mod_toBest_31, omany_eq hN s1 hn']
    simp only [obind, b2_some, bs_eq]
    rw [if_pos (by simp (disch := omega) only [nI_leI]; omega), emm, z1]
    rfl) (fun k i s hi hs => by
    have s1 : s.1 30 0 1 = nI (vN V) := by rw [hs.1.1 30 0 (by omega)]; exact m1
    obtain ⟨w, w1, w2, w3, w4⟩ := lieBy_eq (n := n) hN s1 hi hn'
    have hw : MW (setW V (posN (vN V) i) (ordN (vN V) i)) w := hL.setW (ordN_pw hN hi) (fun g a => by
      rw [w2 g 0 (by omega)]
      by_cases z : g = 43
      · rw [z]; exact hs.2
      · exact hs.1.1 g 0 (by omega)) (fun j a => by rw [w2 30 0 (by omega), hs.1.1 30 0 (by omega)]) w4
    refine ⟨w, ?_, ⟨fun g u a => by rw [w2 g u (by omega), hs.1.1 g u a], by rw [w3, hs.1.2]⟩, by rw [w2 43 0 (by omega)]; exact hs.2⟩
    rw [F_Mod_toBest_31, omany_eq hN s1 hn']
    simp only [obind, b2_some, bs_eq]
    rw [if_neg (by simp (disch := omega) only [nI_leI]; omega), w1]
    simp only [obind, b2_some, bs_eq]
    by_cases g0 : mode = 0
    · rw [g0, if_pos (by decide), mw_worth hw hn']
      simp only [obind, b2_some, bs_eq, F_Mod_toBest_61, F_Mod_toBest_76, F_Mod_toBest_91, nI_1]
      have e : worthV (setW V (posN (vN V) i) (ordN (vN V) i)) = fB V 0 i := by unfold fB; rw [if_neg (by omega), if_neg (by omega)]
      rw [e, mx1, mx2]
    · have g1 : mode = 1 := by omega
      rw [g1, if_neg (by decide), mw_least hw hn']
      simp only [obind, b2_some, bs_eq, F_Mod_toBest_61, F_Mod_toBest_76, F_Mod_toBest_91, nI_1]
      have e : leastV (setW V (posN (vN V) i) (ordN (vN V) i)) = fB V 1 i := by unfold fB; rw [if_neg (by omega), if_pos rfl]
      rw [e, mx1, mx2]) n 0 L (by omega) (by omega) ⟨⟨fun _ _ _ => rfl, rfl⟩, rfl⟩
  obtain ⟨⟨w1, w2⟩, a, b, c⟩ := key
  simp only at b c
  subst b
  exact ⟨w2, a, c⟩
theorem thinM {n r : Nat} {V : Vw} {L : St} (hL : MW V L) (hb : ∀ i, i < vN V → L.1 31 0 (6 + i) = vB V i) (hr : r < 6) (h0 : 0 < vN V) (hn : 2000 ≤ n) {mm : Nat} (hmm : mm < fact (vN V)) (emm : (mxS (fB V 2) (fact (vN V))).2 = nI mm) : ∃ w, F_Mod_thin_30 n n (nI r) 0 (-1) 0 L = some ((mxS (fB V 2) (fact (vN V))).1, w) ∧ (∀ g u, ¬ ((g = 35 ∨ g = 36 ∨ g = 42 ∨ g = 43 ∨ g = 44) ∧ u = 0) → w.1 g u = L.1 g u) ∧ w.2 = L.2 ∧ (∀ q, w.1 35 0 q = if q = r then nI (vN V) else L.1 35 0 q) ∧ (∀ q, ¬ (40 * r ≤ q ∧ q < 40 * r + 40) → w.1 36 0 q = L.1 36 0 q) ∧ ∀ p, p < vN V → w.1 36 0 (40 * r + p) = nI (ordN (vN V) mm p) := by
  have hN := hL.1.1
  have m1 := hL.2.1
  have hn' : 10 < n := by omega
  have hf := fact_le (vN V) hN
  have key := loop_inv (fun k i (b : Int32 × Int32) s => F_Mod_thin_30 n k (nI r) b.2 b.1 (nI i) s) (fact (vN V)) (mxS (fB V 2)) (fun i s => MS L s ∧ s.1 42 0 = L.1 42 0) (fun w => w.1 = (mxS (fB V 2) (fact (vN V))).1 ∧ (∀ g u, ¬ ((g = 35 ∨ g = 36 ∨ g = 42 ∨ g = 43 ∨ g = 44) ∧ u = 0) → w.2.1 g u = L.1 g u) ∧ w.2.2 = L.2 ∧ (∀ q, w.2.1 35 0 q = if q = r then nI (vN V) else L.1 35 0 q) ∧ (∀ q, ¬ (40 * r ≤ q ∧ q < 40 * r + 40) → w.2.1 36 0 q = L.1 36 0 q) ∧ ∀ p, p < vN V → w.2.1 36 0 (40 * r + p) = nI (ordN (vN V) mm p)) (fun k s hs => by
    have s1 : s.1 30 0 1 = nI (vN V) := by rw [hs.1.1 30 0 (by omega)]; exact m1
    obtain ⟨z, z1, z2, z3, z4, z5, z6⟩ := ordTo_eq (n := n) (r := r) (σ := s) hN hr s1 hmm (by omega)
    refine ⟨((mxS (fB V 2) (fact (vN V))).1, z), ?_, rfl, fun g u a => by simp only []; rw [z2 g u (by omega), hs.1.1 g u (by omega)], by simp only []; rw [z3, hs.1.2], fun q => by simp only []; rw [z4 q, hs.1.1 35 0 (by omega)], fun q hq => by simp only []; rw [z5 q hq, hs.1.1 36 0 (by omega)], z6⟩
    rw [F_Mod_thin_30, omany_eq hN s1 hn']
    simp only [obind, b2_some, bs_eq]
    rw [if_pos (by simp (disch := omega) only [nI_leI]; omega), emm, z1]
    rfl) (fun k i s hi hs => by
    have s1 : s.1 30 0 1 = nI (vN V) := by rw [hs.1.1 30 0 (by omega)]; exact m1
    obtain ⟨w, w1, w2, w3, w4⟩ := layO_eq (n := n) hN s1 hi hn'
    have wN : w.1 30 0 1 = nI (vN V) := by rw [w2 30 0 (by omega)]; exact s1
    have hbag : ∀ q, q < vN V → w.1 31 0 (6 + ordN (vN V) i q) = vB V (ordN (vN V) i q) := fun q hq => by rw [w2 31 0 (by omega), hs.1.1 31 0 (by omega)]; exact hb _ ((ordN_pw hN hi).2 q hq).1
    have fg := fill_gen (fun q' j s => F_Mod_thin_48 n (F_Mod_thin_30 n k) q' (nI r) (mxS (fB V 2) i).2 (mxS (fB V 2) i).1 (nI i) (nI j) s) (fun s => (F_Mod_worthNow n s).bind fun v6 => F_Mod_thin_103 n (F_Mod_thin_30 n k) (nI r) (mxS (fB V 2) i).1 (nI i) v6 (if v6 ≤ (mxS (fB V 2) i).1 then (mxS (fB V 2) i).2 else nI i) s) (fun s => ∀ g, g ≠ 43 → s.1 g 0 = w.1 g 0) 43 0 0 (vN V) (fun j => vB V (ordN (vN V) i j)) (fun q' s' hs' => by
      rw [F_Mod_thin_48, hs' 30 (by omega), wN, if_pos (by simp (disch := omega) only [nI_leI]; omega)]) (fun j s' hj hs' g hg => by
      rw [si_ne (by omega)]; exact hs' g hg) (fun q' j s' hj hs' => by
      have ho := ((ordN_pw hN hi).2 j hj).1
      rw [F_Mod_thin_48, hs' 30 (by omega), wN, if_neg (by simp (disch := omega) only [nI_leI]; omega), ald_44 (by omega), hs' 44 (by omega), w4 j hj]
      simp only [obind, b2_some, bs_eq]
      rw [show (6 : Int32) = nI 6 from rfl, nI_add, ald_31 (by omega), hs' 31 (by omega), hbag j hj]
      simp only [obind, b2_some, bs_eq]
      rw [ast_43 (by omega)]
      simp only [obind, b2_some, bs_eq, nI_1, Nat.zero_add]) n 0 w (by omega) (by omega) (fun _ _ => rfl)
    simp only [Nat.zero_add, Nat.zero_le, true_and] at fg
    generalize hX : (sa w 43 0 (fun j => if j < vN V then vB V (ordN (vN V) i (j - 0)) else w.1 43 0 j)) = X at fg
    have xo : ∀ g u, ¬ (g = 43 ∧ u = 0) → X.1 g u = w.1 g u := fun g u a => by rw [← hX, sa_ne a]
    have hw : MW (setB V (fun j => vB V (ordN (vN V) i j))) X := hL.setB (fun g a => by
      rw [xo g 0 (by omega), w2 g 0 (by omega)]
      by_cases z : g = 42
      · rw [z]; exact hs.2
      · exact hs.1.1 g 0 (by omega)) (fun j a => by rw [xo 30 0 (by omega), w2 30 0 (by omega), hs.1.1 30 0 (by omega)]) (fun j hj => by rw [← hX, sa_at, if_pos hj, Nat.sub_zero])
    refine ⟨X, ?_, ⟨fun g u a => by rw [xo g u (by omega), w2 g u (by omega), hs.1.1 g u a], by rw [← hX, sa_2, w3, hs.1.2]⟩, by rw [xo 42 0 (by omega), w2 42 0 (by omega)]; exact hs.2⟩
    rw [F_Mod_thin_30, omany_eq hN s1 hn']
    simp only [obind, b2_some, bs_eq]
    rw [if_neg (by simp (disch := omega) only [nI_leI]; omega), w1]
    simp only [obind, b2_some, bs_eq]
    rw [show (0 : Int32) = nI 0 from rfl, fg, mw_worth hw hn']
    simp only [obind, b2_some, bs_eq, F_Mod_thin_103, F_Mod_thin_116, nI_1]
    have e : worthV (setB V (fun j => vB V (ordN (vN V) i j))) = fB V 2 i := by unfold fB; rw [if_pos rfl]
    rw [e, mx1, mx2]) n 0 L (by omega) (by omega) ⟨⟨fun _ _ _ => rfl, rfl⟩, rfl⟩
  obtain ⟨⟨w1, w2⟩, a, b, c⟩ := key
  simp only at b c
  subst b
  exact ⟨w2, a, c⟩
theorem seek_out {n : Nat} {σ : St} {a mode : Int32} (h : a < 0 ∨ nI 6 ≤ a) : F_Tent_seekOrder n a mode σ = some (-1, σ) := by
  unfold F_Tent_seekOrder
  rw [rtf_out h]
  rfl
theorem seek_none {n k : Nat} {σ : St} {mode : Int32} (hk : k < 6) (h1 : σ.1 4 0 10 = nI 0) : F_Tent_seekOrder n (nI k) mode σ = some (-4, σ) := by
  unfold F_Tent_seekOrder
  rw [rtf_none hk h1]
  rfl
theorem op_seek {n mode : Nat} {σ : St} (a1 : Int32) (hmode : mode < 3) (hn : 2000 ≤ n) (h : RR σ) : ∃ r σ1 σ2, F_Tent_seekOrder n a1 (nI mode) σ = some (r, σ1) ∧ (if mode = 2 then F_Mod_thin n a1 σ1 else F_Mod_toBest n a1 (nI mode) σ1) = some (r, σ2) ∧ RR σ2 := by
  obtain ⟨V, hc, hm⟩ := h.2.2.2.view
  have hN := hc.1.1
  have h1 := hc.2.1
  have m1 := hm.2.1
  have hn' : 10 < n := by omega
  unfold F_Mod_thin F_Mod_toBest
  rcases ix_of 6 (by decide) a1 with g | ⟨r, hr, rfl⟩
  · refine ⟨-1, σ, σ, seek_out g, ?_, h⟩
    rw [isRow_out g]
    split <;> rfl
  · rw [isRow_in hr]
    simp only [obind, b2_some, bs_eq, if_neg one_ne]
    by_cases gN : vN V = 0
    · refine ⟨-4, σ, σ, seek_none hr (by rw [h1, gN]), ?_, h⟩
      rw [m1, if_pos (show nI (vN V) = 0 by rw [gN]; rfl), if_pos (show nI (vN V) = 0 by rw [gN]; rfl)]
      split <;> rfl
    · have g0 : ¬ nI (vN V) = 0 := by rw [nI_z (by omega)]; exact gN
      obtain ⟨w, w1, w2, w3, w4, w5, mm, hmm, emm, w6⟩ := seekC (n := n) (r := r) (mode := mode) hc h.1.1 hr (by omega) hmode hn
      have hmw : MU V w := hm.cgC (fun g a _ => w2 g 0 (by omega) (by omega))
      have hL := hmw.ly
      have lo : ∀ g u, ¬ ((g = 42 ∨ g = 43 ∨ g = 30) ∧ u = 0) → (lay w).1 g u = w.1 g u := fun g u a => lay_ne (by omega) (by omega) (by omega)
      have fin : ∀ z : St, (∀ g u, ¬ ((g = 35 ∨ g = 36 ∨ g = 42 ∨ g = 43 ∨ g = 44) ∧ u = 0) → z.1 g u = (lay w).1 g u) → z.2 = (lay w).2 → (∀ q, z.1 35 0 q = if q = r then nI (vN V) else (lay w).1 35 0 q) → (∀ q, ¬ (40 * r ≤ q ∧ q < 40 * r + 40) → z.1 36 0 q = (lay w).1 36 0 q) → (∀ p, p < vN V → z.1 36 0 (40 * r + p) = nI (ordN (vN V) mm p)) → RR z := by
        intro z z2 z3 z4 z5 z6
        exact h.rowW (W := fun p => nI (ordN (vN V) mm p)) hr (by omega) w2 w3 w4 w5 w6 (fun g u a b => by rw [z2 g u (by unfold keepG at a; omega), lo g u (by unfold keepG at a; omega)]) (by rw [z3, lay_2]) (fun j a => by rw [z2 30 0 (by omega), lay_30 (by omega) (by omega)]) (fun q => by rw [z4 q, lo 35 0 (by omega)]) (fun q hq => by rw [z5 q hq, lo 36 0 (by omega)]) z6
      by_cases g2 : mode = 2
      · subst g2
        obtain ⟨z, z1, z2, z3, z4, z5, z6⟩ := thinM (n := n) (r := r) hL (fun i hi => by rw [lo 31 0 (by omega)]; exact ((hmw.2.2.1 i hi).2.2.2.2.1).symm) hr (by omega) hn hmm emm
        refine ⟨_, w, z, w1, ?_, fin z z2 z3 z4 z5 z6⟩
        rw [if_pos rfl, hmw.2.1, if_neg g0, layNow_eq hn']
        exact z1
      · obtain ⟨z, z1, z2, z3, z4, z5, z6⟩ := toBestM (n := n) (r := r) (mode := mode) hL hr (by omega) (by omega) hn hmm emm
        refine ⟨_, w, z, w1, ?_, fin z z2 z3 z4 z5 z6⟩
        rw [if_neg g2, hmw.2.1, if_neg g0, layNow_eq hn']
        exact z1
theorem op_best {n : Nat} {σ : St} (a1 : Int32) (hn : 2000 ≤ n) (h : RR σ) : ∃ r σ1 σ2, F_Tent_best n a1 σ = some (r, σ1) ∧ F_Mod_best n a1 σ1 = some (r, σ2) ∧ RR σ2 := by
  obtain ⟨r, s1, s2, a, b, c⟩ := op_seek (mode := 0) a1 (by omega) hn h
  rw [if_neg (by omega)] at b
  refine ⟨r, s1, s2, ?_, ?_, c⟩
  · unfold F_Tent_best
    rw [show (0 : Int32) = nI 0 from rfl, a]; rfl
  · unfold F_Mod_best
    rw [show (0 : Int32) = nI 0 from rfl, b]; rfl
theorem op_fair {n : Nat} {σ : St} (a1 : Int32) (hn : 2000 ≤ n) (h : RR σ) : ∃ r σ1 σ2, F_Tent_fair n a1 σ = some (r, σ1) ∧ F_Mod_fair n a1 σ1 = some (r, σ2) ∧ RR σ2 := by
  obtain ⟨r, s1, s2, a, b, c⟩ := op_seek (mode := 1) a1 (by omega) hn h
  rw [if_neg (by omega)] at b
  refine ⟨r, s1, s2, ?_, ?_, c⟩
  · unfold F_Tent_fair
    rw [show (1 : Int32) = nI 1 from rfl, a]; rfl
  · unfold F_Mod_fair
    rw [show (1 : Int32) = nI 1 from rfl, b]; rfl
theorem op_thin {n : Nat} {σ : St} (a1 : Int32) (hn : 2000 ≤ n) (h : RR σ) : ∃ r σ1 σ2, F_Tent_thin n a1 σ = some (r, σ1) ∧ F_Mod_thin n a1 σ1 = some (r, σ2) ∧ RR σ2 := by
  obtain ⟨r, s1, s2, a, b, c⟩ := op_seek (mode := 2) a1 (by omega) hn h
  rw [if_pos rfl] at b
  refine ⟨r, s1, s2, ?_, b, c⟩
  unfold F_Tent_thin
  rw [show (2 : Int32) = nI 2 from rfl, a]; rfl
