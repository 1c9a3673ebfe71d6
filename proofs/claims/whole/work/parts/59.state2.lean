def swp (f : Nat → Int32) (i j : Nat) : Nat → Int32 := fun q => if q = j then f i else if q = i then f j else f q
theorem sa_si_sa (σ : St) (g t j : Nat) (f : Nat → Int32) (v : Int32) : si (sa σ g t f) g t j v = sa σ g t (upd f j v) := by rw [si_sa, sa_sa, sa_at]
theorem swap2 (σ : St) (g t i j : Nat) : si (si σ g t i (σ.1 g t j)) g t j (σ.1 g t i) = sa σ g t (swp (σ.1 g t) i j) := by
  rw [si_sa σ, sa_si_sa]
  congr 1
theorem swapC {g t i j : Nat} {σ : St} (hi : i < lenOf g t) (hj : j < lenOf g t) (hl : lenOf g t < 2 ^ 31) : F_Tent_swap g t (nI i) (nI j) σ = some (sa σ g t (swp (σ.1 g t) i j)) := by
  unfold F_Tent_swap
  rw [ald_in hi hl, ald_in hj hl]
  simp only [obind, b2_some, bs_eq]
  rw [ast_in hi hl]
  simp only [obind, b2_some, bs_eq]
  rw [ast_in hj hl, swap2]
  rfl
theorem swapM {i j : Nat} {σ : St} (hi : i < 4104) (hj : j < 4104) : F_Mod_swap (nI i) (nI j) σ = some (sa σ 31 0 (swp (σ.1 31 0) i j)) := by
  unfold F_Mod_swap
  rw [ald_31 hi, ald_31 hj]
  simp only [obind, b2_some, bs_eq]
  rw [ast_31 hi]
  simp only [obind, b2_some, bs_eq]
  rw [ast_31 hj, swap2]
  rfl
theorem op_bags {σ : St} (a1 a2 : Int32) (h : RR σ) : ∃ r σ1 σ2, F_Tent_bags a1 a2 σ = some (r, σ1) ∧ F_Mod_bags a1 a2 σ1 = some (r, σ2) ∧ RR σ2 := by
  obtain ⟨V, hc, hm⟩ := h.2.2.2.view
  have hN := hc.1.1
  have h1 := hc.2.1
  have m1 := hm.2.1
  unfold F_Tent_bags F_Mod_bags
  rcases ix_of (vN V) (by omega) a1 with g | ⟨i, hi, rfl⟩
  · exact ⟨-1, σ, σ, by simp only [isSl_out h1 g, obind, b2_some, bs_eq, if_true], by simp only [mSl_out m1 hN g, obind, b2_some, bs_eq, if_true], h⟩
  · rcases ix_of (vN V) (by omega) a2 with g | ⟨j, hj, rfl⟩
    · exact ⟨-1, σ, σ, by simp only [isSl_in h1 hN hi, isSl_out h1 g, obind, b2_some, bs_eq, if_true, if_neg one_ne], by simp only [mSl_in m1 hN hi, mSl_out m1 hN g, obind, b2_some, bs_eq, if_true, if_neg one_ne], h⟩
    · have ca := h.N hc
      have m1' : (sa σ 8 0 (swp (σ.1 8 0) i j)).1 30 0 1 = nI (vN V) := by rw [sa_ne (by omega)]; exact m1
      have e31 : ∀ q, swp (σ.1 31 0) (6 + i) (6 + j) q = if q = 6 + j then σ.1 31 0 (6 + i) else if q = 6 + i then σ.1 31 0 (6 + j) else σ.1 31 0 q := fun _ => rfl
      have eb : ∀ q, q < vN V → σ.1 31 0 (6 + q) = σ.1 8 0 q := fun q hq => by
        have := (ca.2.2.1.2.1 q hq).1
        rw [show 6 + q = 0 + 1 + (5 + q) by omega]
        exact this
      have eq : ∀ q, q < vN V → swp (σ.1 31 0) (6 + i) (6 + j) (6 + q) = swp (σ.1 8 0) i j q := fun q hq => by
        unfold swp
        by_cases z1 : q = j
        · rw [if_pos (by omega), if_pos z1, eb i hi]
        · rw [if_neg (by omega), if_neg z1]
          by_cases z2 : q = i
          · rw [if_pos (by omega), if_pos z2, eb j hj]
          · rw [if_neg (by omega), if_neg z2, eb q hq]
      refine ⟨swp (σ.1 8 0) i j i, sa σ 8 0 (swp (σ.1 8 0) i j), sa (sa σ 8 0 (swp (σ.1 8 0) i j)) 31 0 (swp (σ.1 31 0) (6 + i) (6 + j)), ?_, ?_, ?_⟩
      · simp only [isSl_in h1 hN hi, isSl_in h1 hN hj, obind, b2_some, bs_eq, if_neg one_ne]
        rw [swapC (g := 8) (t := 0) (show i < 5 by omega) (show j < 5 by omega) (show 5 < 2 ^ 31 by decide)]
        simp only [obind, b2_some, bs_eq]
        rw [ald_8 (by omega), sa_at]
        rfl
      · simp only [mSl_in m1' hN hi, mSl_in m1' hN hj, obind, b2_some, bs_eq, if_neg one_ne]
        rw [show (6 : Int32) = nI 6 from rfl, nI_add, nI_add, swapM (by omega) (by omega), sa_ne (by omega)]
        simp only [obind, b2_some, bs_eq]
        rw [ald_31 (by omega), sa_at, eq i hi]
        rfl
      · refine h.camp hN m1 ⟨fun g u a b c => by rw [sa_ne c, sa_ne (by omega)], fun q hq => by rw [sa_at, e31, if_neg (by omega), if_neg (by omega)], rfl, ⟨by rw [sa_ne (by omega), sa_ne (by omega), sa_ne (by omega), sa_ne (by omega)]; exact h.2.2.1.1, by rw [sa_ne (by omega), sa_ne (by omega)], by rw [sa_ne (by omega), sa_ne (by omega)]⟩, by rw [sa_ne (by omega), sa_ne (by omega)], by rw [sa_ne (by omega), sa_ne (by omega)], by rw [sa_ne (by omega), sa_ne (by omega)]⟩ ?_
        have eo : ∀ g, g ≠ 8 → g ≠ 31 → (sa (sa σ 8 0 (swp (σ.1 8 0) i j)) 31 0 (swp (σ.1 31 0) (6 + i) (6 + j))).1 g 0 = σ.1 g 0 := fun g a b => by rw [sa_ne (by omega), sa_ne (by omega)]
        have e8 : (sa (sa σ 8 0 (swp (σ.1 8 0) i j)) 31 0 (swp (σ.1 31 0) (6 + i) (6 + j))).1 8 0 = swp (σ.1 8 0) i j := by rw [sa_ne (by omega), sa_at]
        refine ca.pres (by rw [eo 4 (by omega) (by omega)]) (by rw [eo 4 (by omega) (by omega)]) (eo 14 (by omega) (by omega)) (by rw [sa_at, e31, if_neg (by omega), if_neg (by omega)]) (fun q hq => by rw [sa_at, e31, if_neg (by omega), if_neg (by omega)]) ?_ (fun p hp => by rw [eo 10 (by omega) (by omega), sa_at, e31, if_neg (by omega), if_neg (by omega)]; exact ca.2.2.2 p hp)
        obtain ⟨-, -, ⟨⟨P, W, p1, p2⟩, s2, s3, s4, s5, s6, s7⟩, -⟩ := ca
        rw [eo 4 (by omega) (by omega), eo 9 (by omega) (by omega), eo 11 (by omega) (by omega), eo 12 (by omega) (by omega), e8, sa_at]
        refine ⟨⟨P, W, p1, fun p hp => ?_⟩, fun q hq => ⟨?_, ?_, ?_⟩, ⟨?_, s3.2⟩, ⟨?_, s4.2⟩, ⟨?_, s5.2⟩, ⟨?_, s6.2⟩, ⟨?_, s7.2⟩⟩
        · simp only [e31]
          rw [if_neg (by omega), if_neg (by omega)]
          exact p2 p hp
        · simp only []
          rw [show 0 + 1 + (5 + q) = 6 + q by omega]
          exact eq q hq
        · simp only [e31]
          rw [if_neg (by omega), if_neg (by omega)]
          exact (s2 q hq).2.1
        · simp only [e31]
          rw [if_neg (by omega), if_neg (by omega)]
          exact (s2 q hq).2.2
        · simp only [e31]
          rw [if_neg (by omega), if_neg (by omega)]
          exact s3.1
        · simp only [e31]
          rw [if_neg (by omega), if_neg (by omega)]
          exact s4.1
        · simp only [e31]
          rw [if_neg (by omega), if_neg (by omega)]
          exact s5.1
        · simp only [e31]
          rw [if_neg (by omega), if_neg (by omega)]
          exact s6.1
        · simp only [e31]
          rw [if_neg (by omega), if_neg (by omega)]
          exact s7.1
/-- P and W undo each other below N -/
def PW (N : Nat) (P W : Nat → Nat) : Prop := (∀ i, i < N → P i < N ∧ W (P i) = i) ∧ ∀ p, p < N → W p < N ∧ P (W p) = p
theorem fill_pl {n t N : Nat} {P W : Nat → Nat} {σ : St} (hN : N ≤ 5) (h10 : σ.1 4 t 10 = nI N) (h9 : ∀ i, i < N → σ.1 9 t i = nI (P i)) (hp : PW N P W) (hn : 10 < n) : ∃ w, F_Camp_fillPlaces n t σ = some w ∧ (∀ g u, ¬ (g = 10 ∧ u = t) → w.1 g u = σ.1 g u) ∧ w.2 = σ.2 ∧ ∀ p, p < N → w.1 10 t p = nI (W p) := by
  unfold F_Camp_fillPlaces
  refine loop_inv (fun q i (_ : Unit) s => F_Camp_fillPlaces_2 n t q (nI i) s) N (fun _ => ()) (fun i s => (∀ g u, ¬ (g = 10 ∧ u = t) → s.1 g u = σ.1 g u) ∧ s.2 = σ.2 ∧ ∀ q, q < i → s.1 10 t (P q) = nI q) (fun w => (∀ g u, ¬ (g = 10 ∧ u = t) → w.1 g u = σ.1 g u) ∧ w.2 = σ.2 ∧ ∀ p, p < N → w.1 10 t p = nI (W p)) (fun q s hs => ?_) (fun q i s hi hs => ?_) n 0 σ (by omega) (by omega) ⟨fun _ _ _ => rfl, rfl, fun j hj => by omega⟩
  · refine ⟨s, ?_, hs.1, hs.2.1, fun p hp' => ?_⟩
    · rw [F_Camp_fillPlaces_2, hs.1 4 t (by omega), h10, if_pos (by simp (disch := omega) only [nI_leI]; omega)]
    · have := hs.2.2 (W p) (hp.2 p hp').1
      rw [(hp.2 p hp').2] at this
      exact this
  · have hPi := (hp.1 i hi).1
    refine ⟨si s 10 t (P i) (nI i), ?_, fun g u a => by rw [si_ne a]; exact hs.1 g u a, by rw [si_2]; exact hs.2.1, fun q hq => ?_⟩
    · rw [F_Camp_fillPlaces_2, hs.1 4 t (by omega), h10, if_neg (by simp (disch := omega) only [nI_leI]; omega), ald_9 (by omega), hs.1 9 t (by omega), h9 i hi]
      simp only [obind, b2_some, bs_eq]
      rw [ast_10 (by omega)]
      simp only [obind, b2_some, bs_eq, nI_1]
    · rw [si_g]
      by_cases e : q = i
      · rw [if_pos ⟨⟨rfl, rfl⟩, by rw [e]⟩, e]
      · rw [if_neg]
        · exact hs.2.2 q (by omega)
        · intro z
          have e1 := (hp.1 q (by omega)).2
          rw [z.2, (hp.1 i hi).2] at e1
          exact e e1.symm
theorem lay_by {n t N g1 u1 : Nat} {P W : Nat → Nat} {σ : St} (hN : N ≤ 5) (h10 : σ.1 4 t 10 = nI N) (hg : g1 ≠ 9 ∧ g1 ≠ 10) (hl : lenOf g1 u1 = 5) (ho : ∀ p, p < N → σ.1 g1 u1 p = nI (W p)) (hp : PW N P W) (hn : 10 < n) : ∃ w, F_Camp_layBy n t g1 u1 σ = some w ∧ (∀ g u, ¬ ((g = 9 ∨ g = 10) ∧ u = t) → w.1 g u = σ.1 g u) ∧ w.2 = σ.2 ∧ (∀ p, p < N → w.1 10 t p = nI (W p)) ∧ ∀ i, i < N → w.1 9 t i = nI (P i) := by
  unfold F_Camp_layBy
  refine loop_inv (fun q i (_ : Unit) s => F_Camp_layBy_2 n t g1 u1 q (nI i) s) N (fun _ => ()) (fun i s => (∀ g u, ¬ ((g = 9 ∨ g = 10) ∧ u = t) → s.1 g u = σ.1 g u) ∧ s.2 = σ.2 ∧ ∀ q, q < i → s.1 10 t q = nI (W q) ∧ s.1 9 t (W q) = nI q) (fun w => (∀ g u, ¬ ((g = 9 ∨ g = 10) ∧ u = t) → w.1 g u = σ.1 g u) ∧ w.2 = σ.2 ∧ (∀ p, p < N → w.1 10 t p = nI (W p)) ∧ ∀ i, i < N → w.1 9 t i = nI (P i)) (fun q s hs => ?_) (fun q i s hi hs => ?_) n 0 σ (by omega) (by omega) ⟨fun _ _ _ => rfl, rfl, fun j hj => by omega⟩
  · refine ⟨s, ?_, hs.1, hs.2.1, fun p hp' => (hs.2.2 p hp').1, fun i hi => ?_⟩
    · rw [F_Camp_layBy_2, hs.1 4 t (by omega), h10, if_pos (by simp (disch := omega) only [nI_leI]; omega)]
    · have := (hs.2.2 (P i) (hp.1 i hi).1).2
      rw [(hp.1 i hi).2] at this
      exact this
  · have hWi := (hp.2 i hi).1
    refine ⟨si (si s 10 t i (nI (W i))) 9 t (W i) (nI i), ?_, fun g u a => by rw [si_ne (by omega), si_ne (by omega)]; exact hs.1 g u a, by rw [si_2, si_2]; exact hs.2.1, fun q hq => ⟨?_, ?_⟩⟩
    · rw [F_Camp_layBy_2, hs.1 4 t (by omega), h10, if_neg (by simp (disch := omega) only [nI_leI]; omega), ald_in (by omega) (by omega), hs.1 g1 u1 (by omega), ho i hi]
      simp only [obind, b2_some, bs_eq]
      rw [ast_10 (by omega)]
      simp only [obind, b2_some, bs_eq]
      rw [ald_in (by omega) (by omega), si_ne (by omega), hs.1 g1 u1 (by omega), ho i hi]
      simp only [obind, b2_some, bs_eq]
      rw [ast_9 (by omega)]
      simp only [obind, b2_some, bs_eq, nI_1]
    · rw [si_ne (by omega), si_g]
      by_cases e : q = i
      · rw [if_pos ⟨⟨rfl, rfl⟩, e⟩, e]
      · rw [if_neg (fun z => e z.2)]
        exact (hs.2.2 q (by omega)).1
    · rw [si_g]
      by_cases e : q = i
      · rw [if_pos ⟨⟨rfl, rfl⟩, by rw [e]⟩, e]
      · rw [if_neg, si_ne (by omega)]
        · exact (hs.2.2 q (by omega)).2
        · intro z
          have e1 := (hp.2 q (by omega)).2
          rw [z.2, (hp.2 i hi).2] at e1
          exact e e1.symm
def swN (f : Nat → Nat) (i j : Nat) : Nat → Nat := fun q => if q = j then f i else if q = i then f j else f q
def swW (P W : Nat → Nat) (i j : Nat) : Nat → Nat := fun p => if p = P j then i else if p = P i then j else W p
theorem PW.sw {N : Nat} {P W : Nat → Nat} (h : PW N P W) {i j : Nat} (hi : i < N) (hj : j < N) : PW N (swN P i j) (swW P W i j) := by
  have inj : ∀ a b, a < N → b < N → P a = P b → a = b := fun a b ha hb e => by
    have := (h.1 a ha).2
    rw [e, (h.1 b hb).2] at this
    exact this.symm
  refine ⟨fun a ha => ?_, fun p hp => ?_⟩
  · unfold swN swW
    by_cases z1 : a = j
    · rw [if_pos z1]
      refine ⟨(h.1 i hi).1, ?_⟩
      by_cases z2 : P i = P j
      · rw [if_pos z2, z1, inj i j hi hj z2]
      · rw [if_neg z2, if_pos rfl, z1]
    · rw [if_neg z1]
      by_cases z2 : a = i
      · rw [if_pos z2]
        exact ⟨(h.1 j hj).1, by rw [if_pos rfl, z2]⟩
      · rw [if_neg z2]
        refine ⟨(h.1 a ha).1, ?_⟩
        rw [if_neg (fun e => z1 (inj a j ha hj e)), if_neg (fun e => z2 (inj a i ha hi e))]
        exact (h.1 a ha).2
  · unfold swN swW
    by_cases z1 : p = P j
    · rw [if_pos z1]
      refine ⟨hi, ?_⟩
      by_cases z2 : i = j
      · rw [if_pos z2, z1, z2]
      · rw [if_neg z2, if_pos rfl, z1]
    · rw [if_neg z1]
      by_cases z2 : p = P i
      · rw [if_pos z2]
        exact ⟨hj, by rw [if_pos rfl, z2]⟩
      · rw [if_neg z2]
        refine ⟨(h.2 p hp).1, ?_⟩
        have e := (h.2 p hp).2
        rw [if_neg (fun e2 => z1 (by rw [← e, e2])), if_neg (fun e2 => z2 (by rw [← e, e2]))]
        exact e
theorem Snap.pw {N : Nat} {pl bg sp rm : Nat → Int32} {ve bo tu ni ho : Int32} {md : Nat → Int32} (h : Snap N pl bg sp rm ve bo tu ni ho md) : ∃ P W, PW N P W ∧ (∀ i, i < N → pl i = nI (P i)) ∧ ∀ p, p < N → md p = nI (W p) := by
  obtain ⟨⟨P, W, p1, p2⟩, -⟩ := h
  exact ⟨P, W, ⟨fun i hi => ⟨(p1 i hi).2.1, (p1 i hi).2.2⟩, fun p hp => ⟨(p2 p hp).2.1, (p2 p hp).2.2⟩⟩, fun i hi => (p1 i hi).1, fun p hp => (p2 p hp).1⟩
/-- new places, the rest as it was -/
theorem Snap.rp {N : Nat} {pl pl' bg sp rm : Nat → Int32} {ve bo tu ni ho : Int32} {md md' : Nat → Int32} (h : Snap N pl bg sp rm ve bo tu ni ho md) {P W : Nat → Nat} (hp : PW N P W) (h1 : ∀ i, i < N → pl' i = nI (P i)) (h2 : ∀ p, p < N → md' p = nI (W p)) (h3 : ∀ k, 5 ≤ k → k < 25 → md' k = md k) (hN : N ≤ 5) : Snap N pl' bg sp rm ve bo tu ni ho md' := by
  obtain ⟨-, s2, s3, s4, s5, s6, s7⟩ := h
  refine ⟨⟨P, W, fun i hi => ⟨h1 i hi, hp.1 i hi⟩, fun p hp' => ⟨h2 p hp', hp.2 p hp'⟩⟩, fun i hi => ?_, ⟨by rw [h3 10 (by omega) (by omega)]; exact s3.1, s3.2⟩, ⟨by rw [h3 11 (by omega) (by omega)]; exact s4.1, s4.2⟩, ⟨by rw [h3 12 (by omega) (by omega)]; exact s5.1, s5.2⟩, ⟨by rw [h3 13 (by omega) (by omega)]; exact s6.1, s6.2⟩, ⟨by rw [h3 14 (by omega) (by omega)]; exact s7.1, s7.2⟩⟩
  rw [h3 (5 + i) (by omega) (by omega), h3 (15 + i) (by omega) (by omega), h3 (20 + i) (by omega) (by omega)]
  exact s2 i hi
theorem op_change {n : Nat} {σ : St} (a1 a2 : Int32) (hn : 2000 ≤ n) (h : RR σ) : ∃ r σ1 σ2, F_Tent_change n a1 a2 σ = some (r, σ1) ∧ F_Mod_change n a1 a2 σ1 = some (r, σ2) ∧ RR σ2 := by
  obtain ⟨V, hc, hm⟩ := h.2.2.2.view
  have hN := hc.1.1
  have h1 := hc.2.1
  have m1 := hm.2.1
  have hn' : 10 < n := by omega
  unfold F_Tent_change F_Mod_change
  rcases ix_of (vN V) (by omega) a1 with g | ⟨i, hi, rfl⟩
  · exact ⟨-1, σ, σ, by simp only [isSl_out h1 g, obind, b2_some, bs_eq, if_true], by simp only [mSl_out m1 hN g, obind, b2_some, bs_eq, if_true], h⟩
  · rcases ix_of (vN V) (by omega) a2 with g | ⟨j, hj, rfl⟩
    · exact ⟨-1, σ, σ, by simp only [isSl_in h1 hN hi, isSl_out h1 g, obind, b2_some, bs_eq, if_true, if_neg one_ne], by simp only [mSl_in m1 hN hi, mSl_out m1 hN g, obind, b2_some, bs_eq, if_true, if_neg one_ne], h⟩
    · have ca := h.N hc
      have hpw : PW (vN V) (vP V) (vW V) := ⟨hc.1.2.1, hc.1.2.2.1⟩
      have hsw := hpw.sw hi hj
      have e9 : ∀ q, q < vN V → swp (σ.1 9 0) i j q = nI (swN (vP V) i j q) := fun q hq => by
        have f := fun a ha => (hc.2.2.1 a ha).2.2.2.2.2.2
        unfold swp swN
        rw [f i hi, f j hj, f q hq]
        split
        · rfl
        · split <;> rfl
      obtain ⟨w, w1, w2, w3, w4⟩ := fill_pl (n := n) (t := 0) (N := vN V) (σ := sa σ 9 0 (swp (σ.1 9 0) i j)) hN (by rw [sa_ne (by omega)]; exact h1) (fun q hq => by rw [sa_at]; exact e9 q hq) hsw hn'
      have wo : ∀ g u, ¬ (g = 10 ∧ u = 0) → ¬ (g = 9 ∧ u = 0) → w.1 g u = σ.1 g u := fun g u a b => by rw [w2 g u a, sa_ne b]
      have hm' : MU V w := hm.cgC (fun g a b => wo g 0 (by omega) (by omega))
      have hL := hm'.ly
      have e31 : ∀ q, swp (σ.1 31 0) (1 + vP V i) (1 + vP V j) q = if q = 1 + vP V j then σ.1 31 0 (1 + vP V i) else if q = 1 + vP V i then σ.1 31 0 (1 + vP V j) else σ.1 31 0 q := fun _ => rfl
      have hPi := (hpw.1 i hi).1
      have hPj := (hpw.1 j hj).1
      refine ⟨nI (vP V j), w, sa (lay w) 31 0 (swp (σ.1 31 0) (1 + vP V i) (1 + vP V j)), ?_, ?_, ?_⟩
      · simp only [isSl_in h1 hN hi, isSl_in h1 hN hj, obind, b2_some, bs_eq, if_neg one_ne]
        rw [swapC (g := 9) (t := 0) (show i < 5 by omega) (show j < 5 by omega) (show 5 < 2 ^ 31 by decide)]
        simp only [obind, b2_some, bs_eq]
        rw [w1]
        simp only [obind, b2_some, bs_eq]
        rw [ald_9 (by omega), w2 9 0 (by omega), sa_at, e9 i hi]
        simp only [obind, b2_some, bs_eq]
        unfold swN
        by_cases z : i = j
        · rw [if_pos z, z]
        · rw [if_neg z, if_pos rfl]
      · simp only [mSl_in hm'.2.1 hN hi, mSl_in hm'.2.1 hN hj, obind, b2_some, bs_eq, if_neg one_ne, layNow_eq hn', mw_place hL hi hn', mw_place hL hj hn']
        rw [show (1 : Int32) = nI 1 from rfl, nI_add, nI_add, swapM (by omega) (by omega), lay_ne (by omega) (by omega) (by omega), wo 31 0 (by omega) (by omega)]
        rfl
      · have lo : ∀ g u, ¬ (g = 10 ∧ u = 0) → ¬ (g = 9 ∧ u = 0) → ¬ (g = 31 ∧ u = 0) → ¬ (g = 42 ∧ u = 0) → ¬ (g = 43 ∧ u = 0) → ¬ (g = 30 ∧ u = 0) → (sa (lay w) 31 0 (swp (σ.1 31 0) (1 + vP V i) (1 + vP V j))).1 g u = σ.1 g u := fun g u a b c d e f => by rw [sa_ne c, lay_ne d e f, wo g u a b]
        have l30 : ∀ q, q ≠ 22 → q ≠ 23 → (sa (lay w) 31 0 (swp (σ.1 31 0) (1 + vP V i) (1 + vP V j))).1 30 0 q = σ.1 30 0 q := fun q a b => by rw [sa_ne (by omega), lay_30 a b, wo 30 0 (by omega) (by omega)]
        refine h.camp hN m1 ⟨fun g u a b c => lo g u (by omega) (by omega) c (by unfold keepG at a; omega) (by unfold keepG at a; omega) (by unfold keepG at a; omega), fun q hq => by rw [sa_at, e31, if_neg (by omega), if_neg (by omega)], by rw [sa_2, lay_2, w3, sa_2], ⟨by rw [l30 9 (by omega) (by omega), lo 0 0 (by omega) (by omega) (by omega) (by omega) (by omega) (by omega)]; exact h.2.2.1.1, by rw [lo 0 0 (by omega) (by omega) (by omega) (by omega) (by omega) (by omega)], l30 12 (by omega) (by omega)⟩, l30 1 (by omega) (by omega), l30 24 (by omega) (by omega), l30 25 (by omega) (by omega)⟩ ?_
        have eo : ∀ g, g ≤ 29 → g ≠ 9 → g ≠ 10 → (sa (lay w) 31 0 (swp (σ.1 31 0) (1 + vP V i) (1 + vP V j))).1 g 0 = σ.1 g 0 := fun g a b c => lo g 0 (by omega) (by omega) (by omega) (by omega) (by omega) (by omega)
        have eW : ∀ p, p < vN V → swp (σ.1 31 0) (1 + vP V i) (1 + vP V j) (1 + p) = nI (swW (vP V) (vW V) i j p) := fun p hp => by
          have f := fun a ha => (hm.2.2.1 a ha).2.2.2.2.2
          rw [e31, f _ hPi, f _ hPj, f p hp]
          unfold swW
          rw [(hpw.1 i hi).2, (hpw.1 j hj).2]
          by_cases z1 : p = vP V j
          · rw [if_pos (by omega), if_pos z1]
          · rw [if_neg (by omega), if_neg z1]
            by_cases z2 : p = vP V i
            · rw [if_pos (by omega), if_pos z2]
            · rw [if_neg (by omega), if_neg z2]
        refine ca.pres (by rw [eo 4 (by omega) (by omega) (by omega)]) (by rw [eo 4 (by omega) (by omega) (by omega)]) (eo 14 (by omega) (by omega) (by omega)) (by rw [sa_at, e31, if_neg (by omega), if_neg (by omega)]) (fun q hq => by rw [sa_at, e31, if_neg (by omega), if_neg (by omega)]) ?_ (fun p hp => by rw [sa_ne (by omega), lay_ne (by omega) (by omega) (by omega), w4 p hp, sa_at, show 0 + 1 + p = 1 + p by omega, eW p hp])
        rw [eo 4 (by omega) (by omega) (by omega), eo 8 (by omega) (by omega) (by omega), eo 11 (by omega) (by omega) (by omega), eo 12 (by omega) (by omega) (by omega)]
        refine ca.2.2.1.rp hsw (fun q hq => by rw [sa_ne (by omega), lay_ne (by omega) (by omega) (by omega), w2 9 0 (by omega), sa_at]; exact e9 q hq) (fun p hp => ?_) (fun k a b => ?_) hN
        · rw [sa_at, show 0 + 1 + p = 1 + p by omega]
          exact eW p hp
        · rw [sa_at, e31, if_neg (by omega), if_neg (by omega)]
