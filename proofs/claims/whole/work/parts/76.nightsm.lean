theorem minf_99 {f : Nat → Nat} : ∀ {k : Nat}, 0 < k → (∀ j, j < k → f j ≤ 24) → minf 99 f k = minf 24 f k
  | 0, h, _ => by omega
  | k + 1, _, h => by
    have hk := h k (by omega)
    by_cases e : k = 0
    · subst e
      show (if f 0 < 99 then f 0 else 99) = (if f 0 < 24 then f 0 else 24)
      rw [if_pos (by omega)]
      by_cases g : f 0 < 24
      · rw [if_pos g]
      · rw [if_neg g]; omega
    · have ih := minf_99 (f := f) (k := k) (by omega) (fun j hj => h j (by omega))
      simp only [minf]
      rw [ih]
section NM
variable {n N F T r : Nat} {y : Nat → Nat → Nat}
/-- the table of what is slept -/
def TB (N F : Nat) (y : Nat → Nat → Nat) (s : St) : Prop := s.1 30 0 1 = nI N ∧ ∀ q, q < F → ∀ i, i < N → s.1 45 0 (5 * q + i) = nI (y q i)
theorem least_eq {s : St} {a b c : Nat} {l6 l7 : Int32} (hN : N ≤ 5) (h0 : 0 < N) (hF : F ≤ 120) (hT : T ≤ 3) (hy : ∀ q i, y q i ≤ 8) (tb : TB N F y s) (h : cd T F a b c) (e6 : l6 = if 2 ≤ T then nI b else -1) (e7 : l7 = if 3 ≤ T then nI c else -1) (hn : 10 < n) : F_Mod_leastIn n (nI a) l6 l7 s = some (nI (ob T N y a b c)) := by
  obtain ⟨p1, p2, p3, p4, p5⟩ := h
  unfold F_Mod_leastIn ob
  rw [← minf_99 h0 (fun i _ => by have := hy a i; have := hy b i; have := hy c i; split <;> split <;> omega)]
  refine loop_gen (fun q i (v : Nat) => F_Mod_leastIn_7 n q (nI a) l6 l7 (nI v) (nI i) s) N (fun i => minf 99 (fun i => y a i + (if 2 ≤ T then y b i else 0) + (if 3 ≤ T then y c i else 0)) i) _ (fun q => ?_) (fun q i hi => ?_) n 0 (by omega) (by omega)
  · rw [F_Mod_leastIn_7, tb.1, if_pos (by simp (disch := omega) only [nI_leI]; omega)]
  · have ya := hy a i
    have yb := hy b i
    have yc := hy c i
    have hml := minf_le 99 (fun i => y a i + (if 2 ≤ T then y b i else 0) + (if 3 ≤ T then y c i else 0)) i
    have fin : ∀ v2 v3 : Nat, v2 = (if 2 ≤ T then y b i else 0) → v3 = (if 3 ≤ T then y c i else 0) → (if nI (minf 99 (fun i => y a i + (if 2 ≤ T then y b i else 0) + (if 3 ≤ T then y c i else 0)) i) ≤ (nI (y a i) + nI v2) + nI v3 then nI (minf 99 (fun i => y a i + (if 2 ≤ T then y b i else 0) + (if 3 ≤ T then y c i else 0)) i) else (nI (y a i) + nI v2) + nI v3) = nI (minf 99 (fun i => y a i + (if 2 ≤ T then y b i else 0) + (if 3 ≤ T then y c i else 0)) (i + 1)) := by
      intro v2 v3 h2 h3
      have b2 : v2 ≤ 8 := by rw [h2]; split <;> omega
      have b3 : v3 ≤ 8 := by rw [h3]; split <;> omega
      rw [nI_add, nI_add]
      simp (disch := omega) only [nI_leI]
      simp only [minf]
      rw [← h2, ← h3]
      by_cases g : y a i + v2 + v3 < minf 99 (fun i => y a i + (if 2 ≤ T then y b i else 0) + (if 3 ≤ T then y c i else 0)) i
      · rw [if_neg (by omega), if_pos g]
      · rw [if_pos (by omega), if_neg g]
    rw [F_Mod_leastIn_7, tb.1, if_neg (by simp (disch := omega) only [nI_leI]; omega), show (5 : Int32) = nI 5 from rfl, pk_mul, nI_add, ald_45 (by omega), tb.2 a p1 i hi]
    simp only [obind, b2_some, bs_eq]
    unfold F_Mod_leastIn_46 F_Mod_leastIn_66 F_Mod_leastIn_83
    rw [nI_1]
    by_cases n2 : 2 ≤ T
    · have q2 := p2 n2
      rw [if_pos n2] at e6
      rw [e6, if_pos (nI_ge0 (by omega)), pk_mul, nI_add, ald_45 (by omega), tb.2 b q2.2 i hi]
      simp only [obind, b2_some, bs_eq]
      by_cases n3 : 3 ≤ T
      · have q3 := p4 n3
        rw [if_pos n3] at e7
        rw [e7, if_pos (nI_ge0 (by omega)), show (5 : Int32) = nI 5 from rfl, pk_mul, nI_add, ald_45 (by omega), tb.2 c q3.2 i hi]
        simp only [obind, b2_some, bs_eq]
        rw [fin (y b i) (y c i) (by rw [if_pos n2]) (by rw [if_pos n3])]
      · rw [if_neg n3] at e7
        rw [e7, if_neg m1_nle]
        have := fin (y b i) 0 (by rw [if_pos n2]) (by rw [if_neg n3])
        rw [show nI 0 = (0 : Int32) from rfl] at this
        rw [this]
    · have n3 : ¬ 3 ≤ T := by omega
      rw [if_neg n2] at e6
      rw [if_neg n3] at e7
      rw [e6, e7, if_neg m1_nle, if_neg m1_nle]
      have := fin 0 0 (by rw [if_neg n2]) (by rw [if_neg n3])
      rw [show nI 0 = (0 : Int32) from rfl] at this
      rw [this]
/-- the best so far lies in the row -/
def MB (T N F r : Nat) (y : Nat → Nat → Nat) (R : Nat) (bv : Int32) (s : St) : Prop := ∃ ta tb tc, BI T N F y R bv ta tb tc ∧ (bv ≠ -1 → s.1 36 0 (40 * r) = nI ta ∧ (2 ≤ T → s.1 36 0 (40 * r + 1) = nI tb) ∧ (3 ≤ T → s.1 36 0 (40 * r + 2) = nI tc))
def FR (r : Nat) (L s : St) : Prop := (∀ g u, ¬ (g = 36 ∧ u = 0) → s.1 g u = L.1 g u) ∧ s.2 = L.2 ∧ ∀ q, ¬ (40 * r ≤ q ∧ q < 40 * r + 40) → s.1 36 0 q = L.1 36 0 q
theorem n_step {K109 : Int32 → Int32 → Int32 → Int32 → Int32 → St → Option (Int32 × St)} {K128 : Int32 → Int32 → Int32 → Int32 → Int32 → Int32 → St → Option (Int32 × St)} {K156 : Int32 → Int32 → Int32 → Int32 → Int32 → Int32 → Int32 → St → Option (Int32 × St)} {L s : St} {bv l6 l7 s1 : Int32} {a b c R R' : Nat} (hN : N ≤ 5) (h0 : 0 < N) (hF : F ≤ 120) (hT : T ≤ 3) (hT1 : 1 ≤ T) (hr : r < 6) (hy : ∀ q i, y q i ≤ 8) (tb : TB N F y L) (h : cd T F a b c) (e6 : l6 = if 2 ≤ T then nI b else -1) (e7 : l7 = if 3 ≤ T then nI c else -1) (hs1 : ¬ s1 ≤ l7) (h1 : R ≤ rk a b c) (h2 : rk a b c < R') (hu : ∀ a' b' c', cd T F a' b' c' → R ≤ rk a' b' c' → rk a' b' c' < R' → a' = a ∧ b' = b ∧ c' = c) (mb : MB T N F r y R bv s) (fr : FR r L s) (hn : 10 < n) : ∃ bv' s', F_Mod_nights_168 n K109 K128 K156 (nI T) (nI r) (nI F) bv (nI a) l6 l7 l7 s1 s = K156 (nI T) (nI r) (nI F) bv' (nI a) l6 (l7 + 1) s' ∧ MB T N F r y R' bv' s' ∧ FR r L s' := by
  have ts : TB N F y s := ⟨by rw [fr.1 30 0 (by omega)]; exact tb.1, fun q hq i hi => by rw [fr.1 45 0 (by omega)]; exact tb.2 q hq i hi⟩
  obtain ⟨ta, tb', tc, bi, bt⟩ := mb
  unfold F_Mod_nights_168 F_Mod_nights_226 F_Mod_nights_248 F_Mod_nights_249
  rw [if_neg hs1, least_eq hN h0 hF hT hy ts h e6 e7 hn]
  simp only [obind, b2_some, bs_eq]
  have hz := ob_le T N y a b c
  by_cases g : bv < nI (ob T N y a b c)
  · rw [if_neg (by rw [i32_le]; rw [i32_lt] at g; omega), show (40 : Int32) = nI 40 from rfl, pk_mul, ast_36 (by omega)]
    simp only [obind, b2_some, bs_eq]
    rw [show (1 : Int32) = nI 1 from rfl, show (2 : Int32) = nI 2 from rfl, nI_add, nI_add, ast_36 (by omega)]
    simp only [obind, b2_some, bs_eq]
    rw [ast_36 (by omega)]
    simp only [obind, b2_some, bs_eq]
    refine ⟨nI (ob T N y a b c), _, rfl, ⟨a, b, c, bi.take h h1 h2 g hu, fun _ => ⟨?_, fun n2 => ?_, fun n3 => ?_⟩⟩, fun g u z => by rw [si_ne z, si_ne z, si_ne z]; exact fr.1 g u z, fr.2.1, fun q hq => by rw [si_g, if_neg (by omega), si_g, if_neg (by omega), si_g, if_neg (by omega)]; exact fr.2.2 q hq⟩
    · rw [si_g, if_neg (by omega), si_g, if_neg (by omega), si_g, if_pos (by omega)]
    · rw [si_g, if_neg (by omega), si_g, if_pos (by omega), if_neg (by simp (disch := omega) only [nI_leI]; omega), e6, if_pos n2]
    · rw [si_g, if_pos (by omega), if_neg (by simp (disch := omega) only [nI_leI]; omega), e7, if_pos n3]
  · rw [if_pos (by rw [i32_le]; rw [i32_lt] at g; omega)]
    refine ⟨bv, s, rfl, ⟨ta, tb', tc, bi.prune hz (by omega) g (fun a' b' c' k k1 k2 => ?_), bt⟩, fr⟩
    obtain ⟨q1, q2, q3⟩ := hu a' b' c' k k1 k2
    rw [q1, q2, q3]
    exact Nat.le_refl _
theorem rk_sep {a b c a' b' c' : Nat} (h : cd T F a b c) (h' : cd T F a' b' c') (hF : F ≤ 120) (e : rk a b c = rk a' b' c') : a = a' ∧ b = b' ∧ c = c' := by
  obtain ⟨p1, p2, p3, p4, p5⟩ := h
  obtain ⟨q1, q2, q3, q4, q5⟩ := h'
  have hb : b < 120 := by
    by_cases n2 : 2 ≤ T
    · have := p2 n2; omega
    · have := p3 n2; omega
  have hb' : b' < 120 := by
    by_cases n2 : 2 ≤ T
    · have := q2 n2; omega
    · have := q3 n2; omega
  have hc : c < 120 := by
    by_cases n3 : 3 ≤ T
    · have := p4 n3; omega
    · have := p5 n3; omega
  have hc' : c' < 120 := by
    by_cases n3 : 3 ≤ T
    · have := q4 n3; omega
    · have := q5 n3; omega
  unfold rk at e
  refine ⟨by omega, by omega, by omega⟩
theorem cd_lt {a b c : Nat} (h : cd T F a b c) (hF : F ≤ 120) (h0 : 0 < F) : a < F ∧ b < F ∧ c < F := by
  obtain ⟨p1, p2, p3, p4, p5⟩ := h
  refine ⟨p1, ?_, ?_⟩
  · by_cases n2 : 2 ≤ T
    · exact (p2 n2).2
    · have := p3 n2; omega
  · by_cases n3 : 3 ≤ T
    · exact (p4 n3).2
    · have := p5 n3; omega
theorem c_loop {K109 : Int32 → Int32 → Int32 → Int32 → Int32 → St → Option (Int32 × St)} {K128 : Int32 → Int32 → Int32 → Int32 → Int32 → Int32 → St → Option (Int32 × St)} {L : St} {l6 : Int32} {a b : Nat} (hN : N ≤ 5) (h0 : 0 < N) (hF : F ≤ 120) (hT : T ≤ 3) (hT1 : 1 ≤ T) (hr : r < 6) (hy : ∀ q i, y q i ≤ 8) (tb : TB N F y L) (ha : a < F) (hb : 2 ≤ T → a ≤ b ∧ b < F) (hb' : ¬ 2 ≤ T → b = 0) (e6 : l6 = if 2 ≤ T then nI b else -1) (hn : 2000 ≤ n) {bv : Int32} {s : St} (mb : MB T N F r y (14400 * a + 120 * b) bv s) (fr : FR r L s) : ∃ bv' s', F_Mod_nights_154 n K109 K128 (nI T) (nI r) (nI F) bv (nI a) l6 (if nI T ≤ 2 then -1 else l6) s = K128 (nI T) (nI r) (nI F) bv' (nI a) (l6 + 1) s' ∧ MB T N F r y (14400 * a + 120 * b + 120) bv' s' ∧ FR r L s' := by
  have hbF : b < F := by
    by_cases n2 : 2 ≤ T
    · exact (hb n2).2
    · have := hb' n2; omega
  unfold F_Mod_nights_154
  by_cases n3 : 3 ≤ T
  · have q2 := hb (by omega)
    rw [if_neg (by rw [show (2 : Int32) = nI 2 from rfl]; simp (disch := omega) only [nI_leI]; omega)]
    rw [if_pos (by omega)] at e6
    have key : ∀ k c bv s, b ≤ c → c ≤ F → F < k + c → MB T N F r y (14400 * a + 120 * b + c) bv s → FR r L s → ∃ bv' s', F_Mod_nights_156 n K109 K128 k (nI T) (nI r) (nI F) bv (nI a) l6 (nI c) s = K128 (nI T) (nI r) (nI F) bv' (nI a) (l6 + 1) s' ∧ MB T N F r y (14400 * a + 120 * b + 120) bv' s' ∧ FR r L s' := by
      intro k
      induction k with
      | zero => intro c bv s x1 x2 x3; omega
      | succ k ih =>
        intro c bv s x1 x2 x3 mb fr
        rw [F_Mod_nights_156, if_neg (by rw [show (2 : Int32) = nI 2 from rfl]; simp (disch := omega) only [nI_leI]; omega)]
        by_cases g : c = F
        · refine ⟨bv, s, ?_, ?_, fr⟩
          · unfold F_Mod_nights_168
            rw [if_pos (by simp (disch := omega) only [nI_leI]; omega)]
          · obtain ⟨ta, tb', tc, bi, bt⟩ := mb
            refine ⟨ta, tb', tc, bi.skip (by omega) (fun a' b' c' h h1 h2 => ?_), bt⟩
            have hl := cd_lt h hF (by omega)
            unfold rk at h1 h2
            omega
        · obtain ⟨bv', s', m1, m2, m3⟩ := n_step (n := n) (K109 := K109) (K128 := K128) (K156 := F_Mod_nights_156 n K109 K128 k) (l6 := l6) (l7 := nI c) (s1 := nI F) (R' := 14400 * a + 120 * b + c + 1) hN h0 hF hT hT1 hr hy tb ⟨ha, fun _ => q2, fun z => absurd (by omega) z, fun _ => ⟨x1, by omega⟩, fun z => absurd n3 z⟩ (by rw [if_pos (by omega)]; exact e6) (by rw [if_pos n3]) (by simp (disch := omega) only [nI_leI]; omega) (by unfold rk; omega) (by unfold rk; omega) (fun a' b' c' h h1 h2 => rk_sep h ⟨ha, fun _ => q2, fun z => absurd (by omega) z, fun _ => ⟨x1, by omega⟩, fun z => absurd n3 z⟩ hF (by unfold rk at *; omega)) mb fr (by omega)
          rw [m1, nI_1]
          exact ih (c + 1) bv' s' (by omega) (by omega) (by omega) m2 m3
    rw [e6]
    rw [e6] at key
    obtain ⟨ta, tb', tc, bi, bt⟩ := mb
    exact key n b bv s (by omega) (by omega) (by omega) ⟨ta, tb', tc, bi.skip (by omega) (fun a' b' c' h h1 h2 => by
      have hl := cd_lt h hF (by omega)
      have p4 := h.2.2.2.1 n3
      unfold rk at h1 h2
      omega), bt⟩ fr
  · rw [if_pos (by rw [show (2 : Int32) = nI 2 from rfl]; simp (disch := omega) only [nI_leI]; omega)]
    obtain ⟨k, hk⟩ : ∃ k, n = k + 1 + 1 := ⟨n - 2, by omega⟩
    have hcd : cd T F a b 0 := ⟨ha, hb, hb', fun z => absurd z n3, fun _ => rfl⟩
    obtain ⟨bv', s', m1, m2, m3⟩ := n_step (n := n) (K109 := K109) (K128 := K128) (K156 := F_Mod_nights_156 n K109 K128 (k + 1)) (l7 := -1) (s1 := 0) (R' := 14400 * a + 120 * b + 120) hN h0 hF hT hT1 hr hy tb hcd e6 (by rw [if_neg n3]) (by decide) (by unfold rk; omega) (by unfold rk; omega) (fun a' b' c' h h1 h2 => by
      have hl := cd_lt h hF (by omega)
      have e3 := h.2.2.2.2 n3
      refine rk_sep h hcd hF ?_
      unfold rk at *
      omega) mb fr (by omega)
    refine ⟨bv', s', ?_, m2, m3⟩
    rw [show F_Mod_nights_156 n K109 K128 n = F_Mod_nights_156 n K109 K128 (k + 1 + 1) by rw [← hk], F_Mod_nights_156, if_pos (by rw [show (2 : Int32) = nI 2 from rfl]; simp (disch := omega) only [nI_leI]; omega), m1, F_Mod_nights_156, if_pos (by rw [show (2 : Int32) = nI 2 from rfl]; simp (disch := omega) only [nI_leI]; omega)]
    unfold F_Mod_nights_168
    rw [if_pos (by decide)]
theorem b_loop {K109 : Int32 → Int32 → Int32 → Int32 → Int32 → St → Option (Int32 × St)} {L : St} {a : Nat} (hN : N ≤ 5) (h0 : 0 < N) (hF : F ≤ 120) (hT : T ≤ 3) (hT1 : 1 ≤ T) (hr : r < 6) (hy : ∀ q i, y q i ≤ 8) (tb : TB N F y L) (ha : a < F) (hn : 2000 ≤ n) {bv : Int32} {s : St} (mb : MB T N F r y (14400 * a) bv s) (fr : FR r L s) : ∃ bv' s', F_Mod_nights_126 n K109 (nI T) (nI r) (nI F) bv (nI a) (if nI T ≤ 1 then -1 else nI a) s = K109 (nI T) (nI r) (nI F) bv' (nI (a + 1)) s' ∧ MB T N F r y (14400 * (a + 1)) bv' s' ∧ FR r L s' := by
  unfold F_Mod_nights_126
  by_cases n2 : 2 ≤ T
  · rw [if_neg (by rw [show (1 : Int32) = nI 1 from rfl]; simp (disch := omega) only [nI_leI]; omega)]
    have key : ∀ k b bv s, a ≤ b → b ≤ F → F < k + b → MB T N F r y (14400 * a + 120 * b) bv s → FR r L s → ∃ bv' s', F_Mod_nights_128 n K109 k (nI T) (nI r) (nI F) bv (nI a) (nI b) s = K109 (nI T) (nI r) (nI F) bv' (nI (a + 1)) s' ∧ MB T N F r y (14400 * (a + 1)) bv' s' ∧ FR r L s' := by
      intro k
      induction k with
      | zero => intro b bv s x1 x2 x3; omega
      | succ k ih =>
        intro b bv s x1 x2 x3 mb fr
        rw [F_Mod_nights_128, if_neg (by rw [show (1 : Int32) = nI 1 from rfl]; simp (disch := omega) only [nI_leI]; omega)]
        unfold F_Mod_nights_140
        by_cases g : b = F
        · refine ⟨bv, s, ?_, ?_, fr⟩
          · rw [if_pos (by simp (disch := omega) only [nI_leI]; omega), nI_1]
          · obtain ⟨ta, tb', tc, bi, bt⟩ := mb
            refine ⟨ta, tb', tc, bi.skip (by omega) (fun a' b' c' h h1 h2 => ?_), bt⟩
            have hl := cd_lt h hF (by omega)
            unfold rk at h1 h2
            omega
        · obtain ⟨bv', s', m1, m2, m3⟩ := c_loop (n := n) (K109 := K109) (K128 := F_Mod_nights_128 n K109 k) (l6 := nI b) hN h0 hF hT hT1 hr hy tb ha (fun _ => ⟨x1, by omega⟩) (fun z => absurd n2 z) (by rw [if_pos n2]) hn mb fr
          rw [if_neg (by simp (disch := omega) only [nI_leI]; omega), m1, nI_1]
          exact ih (b + 1) bv' s' (by omega) (by omega) (by omega) (by rw [show 14400 * a + 120 * (b + 1) = 14400 * a + 120 * b + 120 by omega]; exact m2) m3
    obtain ⟨ta, tb', tc, bi, bt⟩ := mb
    exact key n a bv s (by omega) (by omega) (by omega) ⟨ta, tb', tc, bi.skip (by omega) (fun a' b' c' h h1 h2 => by
      have hl := cd_lt h hF (by omega)
      have p2 := h.2.1 n2
      unfold rk at h1 h2
      omega), bt⟩ fr
  · rw [if_pos (by rw [show (1 : Int32) = nI 1 from rfl]; simp (disch := omega) only [nI_leI]; omega)]
    obtain ⟨k, hk⟩ : ∃ k, n = k + 1 + 1 := ⟨n - 2, by omega⟩
    obtain ⟨bv', s', m1, m2, m3⟩ := c_loop (n := n) (K109 := K109) (K128 := F_Mod_nights_128 n K109 (k + 1)) (l6 := -1) (b := 0) hN h0 hF hT hT1 hr hy tb ha (fun z => absurd z n2) (fun _ => rfl) (by rw [if_neg n2]) hn mb fr
    refine ⟨bv', s', ?_, ?_, m3⟩
    · rw [show F_Mod_nights_128 n K109 n = F_Mod_nights_128 n K109 (k + 1 + 1) by rw [← hk], F_Mod_nights_128, if_pos (by rw [show (1 : Int32) = nI 1 from rfl]; simp (disch := omega) only [nI_leI]; omega)]
      unfold F_Mod_nights_140
      rw [if_neg (by decide), m1, F_Mod_nights_128, if_pos (by rw [show (1 : Int32) = nI 1 from rfl]; simp (disch := omega) only [nI_leI]; omega)]
      unfold F_Mod_nights_140
      rw [if_pos (by decide), nI_1]
    · obtain ⟨ta, tb', tc, bi, bt⟩ := m2
      refine ⟨ta, tb', tc, bi.skip (by omega) (fun a' b' c' h h1 h2 => ?_), bt⟩
      have hl := cd_lt h hF (by omega)
      have e2 := h.2.2.1 n2
      unfold rk at h1 h2
      omega
theorem a_loop {L : St} (hN : N ≤ 5) (h0 : 0 < N) (hF : F ≤ 120) (hT : T ≤ 3) (hT1 : 1 ≤ T) (hr : r < 6) (hy : ∀ q i, y q i ≤ 8) (tb : TB N F y L) (hn : 2000 ≤ n) : ∀ k a bv s, a ≤ F → F < k + a → MB T N F r y (14400 * a) bv s → FR r L s → ∃ bv' s', F_Mod_nights_109 n k (nI T) (nI r) (nI F) bv (nI a) s = some (bv', s') ∧ MB T N F r y 1728000 bv' s' ∧ FR r L s' := by
  intro k
  induction k with
  | zero => intro a bv s x1 x2; omega
  | succ k ih =>
    intro a bv s x1 x2 mb fr
    rw [F_Mod_nights_109]
    by_cases g : a = F
    · refine ⟨bv, s, by rw [if_pos (by simp (disch := omega) only [nI_leI]; omega)], ?_, fr⟩
      obtain ⟨ta, tb', tc, bi, bt⟩ := mb
      refine ⟨ta, tb', tc, bi.skip (by omega) (fun a' b' c' h h1 h2 => ?_), bt⟩
      have hl := h.1
      by_cases z : 0 < F
      · have hl := cd_lt h hF z
        unfold rk at h1 h2
        omega
      · omega
    · obtain ⟨bv', s', m1, m2, m3⟩ := b_loop (n := n) (K109 := F_Mod_nights_109 n k) hN h0 hF hT hT1 hr hy tb (show a < F by omega) hn mb fr
      rw [if_neg (by simp (disch := omega) only [nI_leI]; omega), m1]
      exact ih (a + 1) bv' s' (by omega) (by omega) m2 m3
end NM
theorem nightsM {n T r : Nat} {V : Vw} {L : St} (hL : MW V L) (hr : r < 6) (h0 : 0 < vN V) (hT : T ≤ 3) (hT1 : 1 ≤ T) (hn : 2000 ≤ n) : ∃ w bv ta tb tc, F_Mod_nights_43 n n (nI T) (nI r) (nI (fact (vN V))) 0 L = some (bv, w) ∧ BI T (vN V) (fact (vN V)) (xv V) 1728000 bv ta tb tc ∧ (∀ g u, ¬ ((g = 35 ∨ g = 36 ∨ g = 42 ∨ g = 44 ∨ g = 45) ∧ u = 0) → w.1 g u = L.1 g u) ∧ w.2 = L.2 ∧ (∀ q, w.1 35 0 q = if q = r then nI T else L.1 35 0 q) ∧ (∀ q, ¬ (40 * r ≤ q ∧ q < 40 * r + 40) → w.1 36 0 q = L.1 36 0 q) ∧ ∀ p, p < T → w.1 36 0 (40 * r + p) = nI (if p = 0 then ta else if p = 1 then tb else tc) := by
  have hN := hL.1.1
  have m1 := hL.2.1
  have hn' : 10 < n := by omega
  have hf := fact_le (vN V) hN
  have key := loop_inv (fun k m (_ : Unit) s => F_Mod_nights_43 n k (nI T) (nI r) (nI (fact (vN V))) (nI m) s) (fact (vN V)) (fun _ => ()) (fun m s => (∀ g u, ¬ ((g = 42 ∨ g = 44 ∨ g = 45) ∧ u = 0) → s.1 g u = L.1 g u) ∧ s.2 = L.2 ∧ ∀ q, q < m → ∀ i, i < vN V → s.1 45 0 (5 * q + i) = nI (xv V q i)) (fun z => ∃ ta tb tc, BI T (vN V) (fact (vN V)) (xv V) 1728000 z.1 ta tb tc ∧ (∀ g u, ¬ ((g = 35 ∨ g = 36 ∨ g = 42 ∨ g = 44 ∨ g = 45) ∧ u = 0) → z.2.1 g u = L.1 g u) ∧ z.2.2 = L.2 ∧ (∀ q, z.2.1 35 0 q = if q = r then nI T else L.1 35 0 q) ∧ (∀ q, ¬ (40 * r ≤ q ∧ q < 40 * r + 40) → z.2.1 36 0 q = L.1 36 0 q) ∧ ∀ p, p < T → z.2.1 36 0 (40 * r + p) = nI (if p = 0 then ta else if p = 1 then tb else tc)) (fun k s hs => by
    rw [F_Mod_nights_43, if_pos (by simp (disch := omega) only [nI_leI]; omega)]
    unfold F_Mod_makeRow
    rw [ast_35 hr]
    simp only [obind, b2_some, bs_eq]
    rw [show (0 : Int32) = nI 0 from rfl, mkRow_loop hr (by omega)]
    simp only [obind, b2_some, bs_eq]
    generalize hX : (sa (si s 35 0 r (nI T)) 36 0 (fun j => if 40 * r ≤ j ∧ j < 40 * r + 40 then 0 else (si s 35 0 r (nI T)).1 36 0 j)) = X
    have xo : ∀ g u, ¬ ((g = 35 ∨ g = 36) ∧ u = 0) → X.1 g u = s.1 g u := fun g u a => by rw [← hX, sa_ne (by omega), si_ne (by omega)]
    have tb : TB (vN V) (fact (vN V)) (xv V) X := ⟨by rw [xo 30 0 (by omega), hs.1 30 0 (by omega)]; exact m1, fun q hq i hi => by rw [xo 45 0 (by omega)]; exact hs.2.2 q hq i hi⟩
    obtain ⟨bv, s', a1, ⟨ta, tb', tc, a2, a2'⟩, a3⟩ := a_loop (n := n) (T := T) (r := r) (L := X) hN h0 hf.2 hT hT1 hr (xv_le V) tb hn n 0 (-1) X (by omega) (by omega) ⟨0, 0, 0, Or.inl ⟨rfl, fun _ _ _ _ => by omega⟩, fun z => absurd rfl z⟩ ⟨fun _ _ _ => rfl, rfl, fun _ _ => rfl⟩
    have hbv : bv ≠ -1 := by
      rcases a2 with ⟨-, z⟩ | ⟨v, v1, v2, -⟩
      · have := z 0 0 0 (cd_0 (by omega))
        unfold rk at this
        omega
      · rw [v2]; exact nI_m1 v (by omega)
    obtain ⟨t1, t2, t3⟩ := a2' hbv
    refine ⟨(bv, s'), a1, ta, tb', tc, a2, fun g u z => ?_, ?_, fun q => ?_, fun q hq => ?_, fun p hp => ?_⟩
    · show s'.1 g u = L.1 g u
      rw [a3.1 g u (by omega), xo g u (by omega), hs.1 g u (by omega)]
    · show s'.2 = L.2
      rw [a3.2.1, ← hX, sa_2, si_2, hs.2.1]
    · show s'.1 35 0 q = _
      rw [a3.1 35 0 (by omega), ← hX, sa_ne (by omega), si_g, hs.1 35 0 (by omega)]
      by_cases e : q = r
      · rw [if_pos (by omega), if_pos e]
      · rw [if_neg (by omega), if_neg e]
    · show s'.1 36 0 q = _
      rw [a3.2.2 q hq, ← hX, sa_at, if_neg hq, si_ne (by omega), hs.1 36 0 (by omega)]
    · show s'.1 36 0 (40 * r + p) = _
      have : p = 0 ∨ p = 1 ∨ p = 2 := by omega
      rcases this with z | z | z <;> subst z
      · exact t1
      · exact t2 (by omega)
      · exact t3 (by omega)) (fun k m s hm hs => by
    have s1 : s.1 30 0 1 = nI (vN V) := by rw [hs.1 30 0 (by omega)]; exact m1
    obtain ⟨w, w1, w2, w3, w4⟩ := lieBy_eq (n := n) hN s1 hm hn'
    have fg := fill_gen (fun q' j s => F_Mod_nights_58 n (F_Mod_nights_43 n k) q' (nI T) (nI r) (nI (fact (vN V))) (nI m) (nI j) s) (fun s => F_Mod_nights_43 n k (nI T) (nI r) (nI (fact (vN V))) (nI (m + 1)) s) (fun s => ∀ g, g ≠ 45 → s.1 g 0 = w.1 g 0) 45 0 (5 * m) (vN V) (fun j => nI (xv V m j)) (fun q' s' hs' => by
      rw [F_Mod_nights_58, hs' 30 (by omega), w2 30 0 (by omega), s1, if_pos (by simp (disch := omega) only [nI_leI]; omega), nI_1]) (fun j s' hj hs' g hg => by
      rw [si_ne (by omega)]; exact hs' g hg) (fun q' j s' hj hs' => by
      have hw : MW (setW V (posN (vN V) m) (ordN (vN V) m)) s' := hL.setW (ordN_pw hN hm) (fun g a => by rw [hs' g (by omega), w2 g 0 (by omega), hs.1 g 0 (by omega)]) (fun j a => by rw [hs' 30 (by omega), w2 30 0 (by omega), hs.1 30 0 (by omega)]) (fun p hp => by rw [hs' 42 (by omega)]; exact w4 p hp)
      have hx : F_Mod_sleptBy n (nI j) s' = some (nI (xv V m j)) := mw_slept hw hj hn'
      rw [F_Mod_nights_58, hs' 30 (by omega), w2 30 0 (by omega), s1, if_neg (by simp (disch := omega) only [nI_leI]; omega), hx]
      simp only [obind, b2_some, bs_eq]
      rw [show (5 : Int32) = nI 5 from rfl, pk_mul, nI_add, ast_45 (by omega)]
      simp only [obind, b2_some, bs_eq, nI_1]) n 0 w (by omega) (by omega) (fun _ _ => rfl)
    simp only [Nat.add_zero] at fg
    refine ⟨sa w 45 0 (fun j => if 5 * m ≤ j ∧ j < 5 * m + vN V then nI (xv V m (j - 5 * m)) else w.1 45 0 j), ?_, fun g u a => by rw [sa_ne (by omega), w2 g u (by omega), hs.1 g u a], by rw [sa_2, w3, hs.2.1], fun q hq i hi => ?_⟩
    · rw [F_Mod_nights_43, if_neg (by simp (disch := omega) only [nI_leI]; omega), w1]
      simp only [obind, b2_some, bs_eq]
      rw [show (0 : Int32) = nI 0 from rfl, fg]
    · rw [sa_at]
      by_cases e : q = m
      · rw [if_pos (by omega), e, show 5 * m + i - 5 * m = i by omega]
      · rw [if_neg (by omega), w2 45 0 (by omega)]
        exact hs.2.2 q (by omega) i hi) n 0 L (by omega) (by omega) ⟨fun _ _ _ => rfl, rfl, fun q hq => by omega⟩
  obtain ⟨⟨w1, w2⟩, a, ta, tb, tc, b⟩ := key
  exact ⟨w2, w1, ta, tb, tc, a, b⟩
theorem op_nights {n : Nat} {σ : St} (a1 a2 : Int32) (hn : 2000 ≤ n) (h : RR σ) : ∃ r σ1 σ2, F_Tent_nights n a1 a2 σ = some (r, σ1) ∧ F_Mod_nights n a1 a2 σ1 = some (r, σ2) ∧ RR σ2 := by
  obtain ⟨V, hc, hm⟩ := h.2.2.2.view
  have hN := hc.1.1
  have h1 := hc.2.1
  have m1 := hm.2.1
  have hn' : 10 < n := by omega
  have e1 : (1 : Int64) = (1 : Int32).toInt64 := rfl
  have e3 : (3 : Int64) = (3 : Int32).toInt64 := rfl
  have t1 : (1 : Int32).toInt = 1 := by decide
  have t3 : (3 : Int32).toInt = 3 := by decide
  by_cases g : 1 ≤ a1 ∧ a1 ≤ 3
  · obtain ⟨T, hT1, hT, rfl⟩ := in_lo_hi (lo := 1) (hi := 3) (by omega) (by omega) g
    have c1 : ¬ nI T < 1 := by rw [show (1 : Int32) = nI 1 from rfl]; simp (disch := omega) only [nI_ltI]; omega
    rcases ix_of 6 (by decide) a2 with gr | ⟨r, hr, rfl⟩
    · refine ⟨-1, σ, σ, ?_, ?_, h⟩
      · unfold F_Tent_nights
        rw [if_neg c1, if_pos g.2, rtf_out gr]; rfl
      · unfold F_Mod_nights
        rw [e1, e3, in_I, if_pos g, isRow_out gr]; rfl
    · by_cases gN : vN V = 0
      · refine ⟨-4, σ, σ, ?_, ?_, h⟩
        · unfold F_Tent_nights
          rw [if_neg c1, if_pos g.2, rtf_none hr (by rw [h1, gN])]; rfl
        · unfold F_Mod_nights
          rw [e1, e3, in_I, if_pos g, isRow_in hr]
          simp only [obind, b2_some, bs_eq, if_neg one_ne]
          rw [m1, if_pos (by rw [gN]; rfl)]
      · have g0 : ¬ nI (vN V) = 0 := by rw [nI_z (by omega)]; exact gN
        have hf := fact_le (vN V) hN
        obtain ⟨w, bv, M, num, ka, kb, kc, w1, kp, hM0, bi, w2, w3, w4, w5, w6⟩ := nightsC (n := n) (T := T) (r := r) hc h.1.1 hr (by omega) hT hT1 hn
        have hmw : MU V w := hm.cgC (fun g a _ => w2 g 0 (by omega) (by omega))
        have hL := hmw.ly
        have lo' : ∀ g u, ¬ ((g = 42 ∨ g = 43 ∨ g = 30) ∧ u = 0) → (lay w).1 g u = w.1 g u := fun g u a => lay_ne (by omega) (by omega) (by omega)
        obtain ⟨z, bv', ta, tb, tc, z1, bi', z2, z3, z4, z5, z6⟩ := nightsM (n := n) (T := T) (r := r) hL hr (by omega) hT hT1 hn
        obtain ⟨u1, u2, u3, u4⟩ := (bi.map hT1 kp hf.2 hM0).uniq (by omega) hf.2 bi'
        subst u1
        refine ⟨bv, w, z, w1, ?_, ?_⟩
        · unfold F_Mod_nights
          rw [e1, e3, in_I, if_pos g, isRow_in hr]
          simp only [obind, b2_some, bs_eq, if_neg one_ne]
          rw [hmw.2.1, if_neg g0, layNow_eq hn']
          simp only [obind, b2_some, bs_eq]
          rw [omany_eq hN hL.2.1 hn']
          exact z1
        · refine h.rowW (W := fun p => nI (if p = 0 then ta else if p = 1 then tb else tc)) hr (by omega) w2 w3 w4 w5 (fun p hp => ?_) (fun g u a b => by rw [z2 g u (by unfold keepG at a; omega), lo' g u (by unfold keepG at a; omega)]) (by rw [z3, lay_2]) (fun j a => by rw [z2 30 0 (by omega), lay_30 (by omega) (by omega)]) (fun q => by rw [z4 q, lo' 35 0 (by omega)]) (fun q hq => by rw [z5 q hq, lo' 36 0 (by omega)]) z6
          rw [w6 p hp, ← u2, ← u3, ← u4]
          unfold nz
          have : p = 0 ∨ p = 1 ∨ p = 2 := by omega
          rcases this with q | q | q <;> subst q
          · rfl
          · rw [if_pos (show 2 ≤ T by omega)]
            rfl
          · rw [if_pos (show 2 ≤ T by omega), if_pos (show 3 ≤ T by omega)]
  · refine ⟨-1, σ, σ, ?_, ?_, h⟩
    · unfold F_Tent_nights
      by_cases c1 : a1 < 1
      · rw [if_pos c1]
      · rw [if_neg c1, if_neg]
        intro c2
        refine g ⟨?_, c2⟩
        rw [i32_lt] at c1
        rw [i32_le]
        omega
    · unfold F_Mod_nights
      rw [e1, e3, in_I, if_neg g]
      rfl
