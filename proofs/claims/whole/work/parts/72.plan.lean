-- NIGHTS: the best of many
def ob (n N : Nat) (y : Nat → Nat → Nat) (a b c : Nat) : Nat := minf 24 (fun i => y a i + (if 2 ≤ n then y b i else 0) + (if 3 ≤ n then y c i else 0)) N
def cd (n F a b c : Nat) : Prop := a < F ∧ (2 ≤ n → a ≤ b ∧ b < F) ∧ (¬ 2 ≤ n → b = 0) ∧ (3 ≤ n → b ≤ c ∧ c < F) ∧ (¬ 3 ≤ n → c = 0)
def rk (a b c : Nat) : Nat := 14400 * a + 120 * b + c
def BI (n N F : Nat) (y : Nat → Nat → Nat) (R : Nat) (bv : Int32) (ta tb tc : Nat) : Prop :=
  (bv = -1 ∧ ∀ a b c, cd n F a b c → R ≤ rk a b c) ∨ ∃ v, v ≤ 24 ∧ bv = nI v ∧ cd n F ta tb tc ∧ rk ta tb tc < R ∧ ob n N y ta tb tc = v ∧ ∀ a b c, cd n F a b c → rk a b c < R → ob n N y a b c ≤ v ∧ (rk a b c < rk ta tb tc → ob n N y a b c < v)
theorem ob_le (n N : Nat) (y : Nat → Nat → Nat) (a b c : Nat) : ob n N y a b c ≤ 24 := minf_le _ _ _
section BIS
variable {n N F R R' : Nat} {y : Nat → Nat → Nat} {bv : Int32} {ta tb tc : Nat}
theorem BI.skip (h : BI n N F y R bv ta tb tc) (hR : R ≤ R') (hc : ∀ a b c, cd n F a b c → R ≤ rk a b c → rk a b c < R' → False) : BI n N F y R' bv ta tb tc := by
  rcases h with ⟨h1, h2⟩ | ⟨v, h1, h2, h3, h4, h5, h6⟩
  · refine Or.inl ⟨h1, fun a b c k => ?_⟩
    have := h2 a b c k
    by_cases g : rk a b c < R'
    · exact (hc a b c k this g).elim
    · omega
  · refine Or.inr ⟨v, h1, h2, h3, by omega, h5, fun a b c k g => ?_⟩
    by_cases g2 : rk a b c < R
    · exact h6 a b c k g2
    · exact (hc a b c k (by omega) g).elim
theorem BI.prune (h : BI n N F y R bv ta tb tc) {z : Nat} (hz : z ≤ 24) (hR : R ≤ R') (hb : ¬ bv < nI z) (hc : ∀ a b c, cd n F a b c → R ≤ rk a b c → rk a b c < R' → ob n N y a b c ≤ z) : BI n N F y R' bv ta tb tc := by
  rcases h with ⟨h1, h2⟩ | ⟨v, h1, h2, h3, h4, h5, h6⟩
  · exfalso
    apply hb
    rw [h1, i32_lt, m1_t, nI_toInt (by omega)]
    omega
  · have hz' : z ≤ v := by
      rw [h2] at hb
      simp (disch := omega) only [nI_ltI] at hb
      omega
    refine Or.inr ⟨v, h1, h2, h3, by omega, h5, fun a b c k g => ?_⟩
    by_cases g2 : rk a b c < R
    · exact h6 a b c k g2
    · have := hc a b c k (by omega) g
      exact ⟨by omega, fun z2 => by omega⟩
theorem BI.take (h : BI n N F y R bv ta tb tc) {a b c : Nat} (hk : cd n F a b c) (h1 : R ≤ rk a b c) (h2 : rk a b c < R') (hb : bv < nI (ob n N y a b c)) (hc : ∀ a' b' c', cd n F a' b' c' → R ≤ rk a' b' c' → rk a' b' c' < R' → a' = a ∧ b' = b ∧ c' = c) : BI n N F y R' (nI (ob n N y a b c)) a b c := by
  have hl := ob_le n N y a b c
  refine Or.inr ⟨ob n N y a b c, hl, rfl, hk, h2, rfl, fun a' b' c' k g => ?_⟩
  by_cases g2 : rk a' b' c' < R
  · rcases h with ⟨-, h4⟩ | ⟨v, e1, e2, -, -, -, e6⟩
    · have := h4 a' b' c' k
      omega
    · have := (e6 a' b' c' k g2).1
      rw [e2] at hb
      simp (disch := omega) only [nI_ltI] at hb
      exact ⟨by omega, fun _ => by omega⟩
  · obtain ⟨r1, r2, r3⟩ := hc a' b' c' k (by omega) g
    rw [r1, r2, r3]
    exact ⟨Nat.le_refl _, fun z => by omega⟩
end BIS
/-- what is kept of the orders -/
def KP (N m : Nat) (y : Nat → Nat → Nat) (M : Nat) (num : Nat → Nat) : Prop := M ≤ m ∧ (∀ k, k < M → num k < m) ∧ (∀ k k', k < k' → k' < M → num k < num k') ∧ ∀ q, q < m → ∃ k, k < M ∧ num k ≤ q ∧ ∀ i, i < N → y q i ≤ y (num k) i
def nz (n q : Nat) (num : Nat → Nat) (k : Nat) : Nat := if q ≤ n then num k else 0
theorem minf_mono {z : Nat} {f g : Nat → Nat} : ∀ {k : Nat}, (∀ j, j < k → f j ≤ g j) → minf z f k ≤ minf z g k
  | 0, _ => Nat.le_refl _
  | k + 1, h => by
    have ih := minf_mono (z := z) (f := f) (g := g) (k := k) (fun j hj => h j (by omega))
    have := h k (by omega)
    simp only [minf]
    split <;> split <;> omega
section MAP
variable {n N F M : Nat} {y : Nat → Nat → Nat} {num : Nat → Nat}
theorem rk_mono (hm : ∀ k k', k < k' → k' < M → num k < num k') (hb : ∀ k, k < M → num k < 120) (hM : M ≤ 120) {a b c a' b' c' : Nat} (h1 : cd n M a b c) (h2 : cd n M a' b' c') (h : rk a b c ≤ rk a' b' c') : rk (num a) (nz n 2 num b) (nz n 3 num c) ≤ rk (num a') (nz n 2 num b') (nz n 3 num c') := by
  obtain ⟨p1, p2, p3, p4, p5⟩ := h1
  obtain ⟨q1, q2, q3, q4, q5⟩ := h2
  unfold rk nz at *
  have x1 := hb a p1
  have x2 := hb a' q1
  by_cases n2 : 2 ≤ n
  · have y1 := hb b (p2 n2).2
    have y2 := hb b' (q2 n2).2
    by_cases n3 : 3 ≤ n
    · have z1 := hb c (p4 n3).2
      have z2 := hb c' (q4 n3).2
      have w1 := (p2 n2).2
      have w2 := (q2 n2).2
      have w3 := (p4 n3).2
      have w4 := (q4 n3).2
      simp only [if_pos n2, if_pos n3]
      by_cases g1 : a < a'
      · have := hm a a' g1 q1
        omega
      · have e1 : a = a' := by omega
        subst e1
        by_cases g2 : b < b'
        · have := hm b b' g2 (q2 n2).2
          omega
        · have e2 : b = b' := by omega
          subst e2
          by_cases g3 : c < c'
          · have := hm c c' g3 (q4 n3).2
            omega
          · have e3 : c = c' := by omega
            subst e3
            omega
    · have w1 := (p2 n2).2
      have w2 := (q2 n2).2
      have w3 := p5 n3
      have w4 := q5 n3
      simp only [if_pos n2, if_neg n3]
      by_cases g1 : a < a'
      · have := hm a a' g1 q1
        omega
      · have e1 : a = a' := by omega
        subst e1
        by_cases g2 : b < b'
        · have := hm b b' g2 (q2 n2).2
          omega
        · have e2 : b = b' := by omega
          subst e2
          omega
  · have n3 : ¬ 3 ≤ n := by omega
    have w1 := p3 n2
    have w2 := q3 n2
    have w3 := p5 n3
    have w4 := q5 n3
    simp only [if_neg n2, if_neg n3]
    by_cases g1 : a < a'
    · have := hm a a' g1 q1
      omega
    · have e1 : a = a' := by omega
      subst e1
      omega
theorem ob_map (a b c : Nat) : ob n N y (num a) (nz n 2 num b) (nz n 3 num c) = ob n N (fun k => y (num k)) a b c := by
  unfold ob nz
  refine minf_cong (fun i _ => ?_)
  by_cases n2 : 2 ≤ n
  · by_cases n3 : 3 ≤ n
    · simp only [if_pos n2, if_pos n3]
    · simp only [if_pos n2, if_neg n3]
  · have n3 : ¬ 3 ≤ n := by omega
    simp only [if_neg n2, if_neg n3]
theorem rep3 (hn : 1 ≤ n) (kp : KP N F y M num) (hF : F ≤ 120) {a b c : Nat} (h : cd n F a b c) : ∃ k1 k2 k3, cd n M k1 k2 k3 ∧ rk (num k1) (nz n 2 num k2) (nz n 3 num k3) ≤ rk a b c ∧ ob n N y a b c ≤ ob n N (fun k => y (num k)) k1 k2 k3 := by
  obtain ⟨hM, hb, hm, hr⟩ := kp
  obtain ⟨p1, p2, p3, p4, p5⟩ := h
  have mono : ∀ k k', k ≤ k' → k' < M → num k ≤ num k' := fun k k' h1 h2 => by
    by_cases g : k = k'
    · rw [g]; exact Nat.le_refl _
    · exact Nat.le_of_lt (hm k k' (by omega) h2)
  obtain ⟨ka, a1, a2, a3⟩ := hr a p1
  by_cases n2 : 2 ≤ n
  · obtain ⟨kb, b1, b2, b3⟩ := hr b (p2 n2).2
    have w1 := p2 n2
    by_cases n3 : 3 ≤ n
    · obtain ⟨kc, c1, c2, c3⟩ := hr c (p4 n3).2
      have w2 := p4 n3
      have fin : ∀ k1 k2 k3, k1 < M → k2 < M → k3 < M → k1 ≤ k2 → k2 ≤ k3 → num k1 ≤ a → num k2 ≤ b → num k3 ≤ c → (∀ i, i < N → y a i + y b i + y c i ≤ y (num k1) i + y (num k2) i + y (num k3) i) → ∃ k1 k2 k3, cd n M k1 k2 k3 ∧ rk (num k1) (nz n 2 num k2) (nz n 3 num k3) ≤ rk a b c ∧ ob n N y a b c ≤ ob n N (fun k => y (num k)) k1 k2 k3 := by
        intro k1 k2 k3 m1 m2 m3 l1 l2 r1 r2 r3 hs
        refine ⟨k1, k2, k3, ⟨m1, fun _ => ⟨l1, m2⟩, fun z => absurd n2 z, fun _ => ⟨l2, m3⟩, fun z => absurd n3 z⟩, ?_, ?_⟩
        · unfold rk nz
          rw [if_pos n2, if_pos n3]
          omega
        · unfold ob
          refine minf_mono (fun i hi => ?_)
          simp only [if_pos n2, if_pos n3]
          exact hs i hi
      have sm : ∀ i, i < N → y a i ≤ y (num ka) i ∧ y b i ≤ y (num kb) i ∧ y c i ≤ y (num kc) i := fun i hi => ⟨a3 i hi, b3 i hi, c3 i hi⟩
      by_cases g1 : ka ≤ kb
      · by_cases g2 : kb ≤ kc
        · have m1 := mono ka kb g1 b1
          have m2 := mono kb kc g2 c1
          exact fin ka kb kc a1 b1 c1 g1 g2 (by omega) (by omega) (by omega) (fun i hi => by have := sm i hi; omega)
        · by_cases g3 : ka ≤ kc
          · have m1 := mono ka kc g3 c1
            have m2 := mono kc kb (by omega) b1
            exact fin ka kc kb a1 c1 b1 g3 (by omega) (by omega) (by omega) (by omega) (fun i hi => by have := sm i hi; omega)
          · have m1 := mono kc ka (by omega) a1
            have m2 := mono ka kb g1 b1
            exact fin kc ka kb c1 a1 b1 (by omega) g1 (by omega) (by omega) (by omega) (fun i hi => by have := sm i hi; omega)
      · by_cases g2 : ka ≤ kc
        · have m1 := mono kb ka (by omega) a1
          have m2 := mono ka kc g2 c1
          exact fin kb ka kc b1 a1 c1 (by omega) g2 (by omega) (by omega) (by omega) (fun i hi => by have := sm i hi; omega)
        · by_cases g3 : kb ≤ kc
          · have m1 := mono kb kc g3 c1
            have m2 := mono kc ka (by omega) a1
            exact fin kb kc ka b1 c1 a1 g3 (by omega) (by omega) (by omega) (by omega) (fun i hi => by have := sm i hi; omega)
          · have m1 := mono kc kb (by omega) b1
            have m2 := mono kb ka (by omega) a1
            exact fin kc kb ka c1 b1 a1 (by omega) (by omega) (by omega) (by omega) (by omega) (fun i hi => by have := sm i hi; omega)
    · have e3 := p5 n3
      have fin : ∀ k1 k2, k1 < M → k2 < M → k1 ≤ k2 → num k1 ≤ a → num k2 ≤ b → (∀ i, i < N → y a i + y b i ≤ y (num k1) i + y (num k2) i) → ∃ k1 k2 k3, cd n M k1 k2 k3 ∧ rk (num k1) (nz n 2 num k2) (nz n 3 num k3) ≤ rk a b c ∧ ob n N y a b c ≤ ob n N (fun k => y (num k)) k1 k2 k3 := by
        intro k1 k2 m1 m2 l1 r1 r2 hs
        refine ⟨k1, k2, 0, ⟨m1, fun _ => ⟨l1, m2⟩, fun z => absurd n2 z, fun z => absurd z n3, fun _ => rfl⟩, ?_, ?_⟩
        · unfold rk nz
          rw [if_pos n2, if_neg n3]
          omega
        · unfold ob
          refine minf_mono (fun i hi => ?_)
          simp only [if_pos n2, if_neg n3]
          exact hs i hi
      by_cases g1 : ka ≤ kb
      · have m1 := mono ka kb g1 b1
        exact fin ka kb a1 b1 g1 (by omega) (by omega) (fun i hi => by have := a3 i hi; have := b3 i hi; omega)
      · have m1 := mono kb ka (by omega) a1
        exact fin kb ka b1 a1 (by omega) (by omega) (by omega) (fun i hi => by have := a3 i hi; have := b3 i hi; omega)
  · have n3 : ¬ 3 ≤ n := by omega
    have e2 := p3 n2
    have e3 := p5 n3
    refine ⟨ka, 0, 0, ⟨a1, fun z => absurd z n2, fun _ => rfl, fun z => absurd z n3, fun _ => rfl⟩, ?_, ?_⟩
    · unfold rk nz
      rw [if_neg n2, if_neg n3]
      omega
    · unfold ob
      refine minf_mono (fun i hi => ?_)
      simp only [if_neg n2, if_neg n3]
      exact a3 i hi
theorem rk_lt {a b c : Nat} (h : cd n F a b c) (hF : F ≤ 120) : rk a b c < 1728000 := by
  obtain ⟨p1, p2, p3, p4, p5⟩ := h
  unfold rk
  have hb : b < 120 := by
    by_cases n2 : 2 ≤ n
    · have := p2 n2; omega
    · have := p3 n2; omega
  have hc : c < 120 := by
    by_cases n3 : 3 ≤ n
    · have := p4 n3; omega
    · have := p5 n3; omega
  omega
theorem cd_0 (h0 : 0 < F) : cd n F 0 0 0 := ⟨h0, fun _ => ⟨Nat.le_refl _, h0⟩, fun _ => rfl, fun _ => ⟨Nat.le_refl _, h0⟩, fun _ => rfl⟩
theorem BI.map {bv : Int32} {ka kb kc : Nat} (hn : 1 ≤ n) (kp : KP N F y M num) (hF : F ≤ 120) (h0 : 0 < M) (h : BI n N M (fun k => y (num k)) 1728000 bv ka kb kc) : BI n N F y 1728000 bv (num ka) (nz n 2 num kb) (nz n 3 num kc) := by
  have hM : M ≤ 120 := by have := kp.1; omega
  have hb : ∀ k, k < M → num k < 120 := fun k hk => by have := kp.2.1 k hk; omega
  have hm := kp.2.2.1
  rcases h with ⟨-, h2⟩ | ⟨v, h1, h2, h3, h4, h5, h6⟩
  · have := h2 0 0 0 (cd_0 h0)
    unfold rk at this
    omega
  · have hc : cd n F (num ka) (nz n 2 num kb) (nz n 3 num kc) := by
      obtain ⟨p1, p2, p3, p4, p5⟩ := h3
      have mono : ∀ k k', k ≤ k' → k' < M → num k ≤ num k' := fun k k' h1 h2 => by
        by_cases g : k = k'
        · rw [g]; exact Nat.le_refl _
        · exact Nat.le_of_lt (hm k k' (by omega) h2)
      unfold nz
      refine ⟨kp.2.1 _ p1, fun n2 => ?_, fun n2 => by rw [if_neg n2], fun n3 => ?_, fun n3 => by rw [if_neg n3]⟩
      · rw [if_pos n2]
        exact ⟨mono _ _ (p2 n2).1 (p2 n2).2, kp.2.1 _ (p2 n2).2⟩
      · rw [if_pos n3, if_pos (by omega)]
        exact ⟨mono _ _ (p4 n3).1 (p4 n3).2, kp.2.1 _ (p4 n3).2⟩
    refine Or.inr ⟨v, h1, h2, hc, rk_lt hc hF, by rw [ob_map]; exact h5, fun a b c k g => ?_⟩
    obtain ⟨k1, k2, k3, q1, q2, q3⟩ := rep3 hn kp hF k
    obtain ⟨r1, r2⟩ := h6 k1 k2 k3 q1 (rk_lt q1 hM)
    refine ⟨by omega, fun z => ?_⟩
    have : rk k1 k2 k3 < rk ka kb kc := by
      by_cases g2 : rk ka kb kc ≤ rk k1 k2 k3
      · have := rk_mono hm hb hM h3 q1 g2
        omega
      · omega
    have := r2 this
    omega
theorem BI.uniq {bv bv' : Int32} {ta tb tc ta' tb' tc' : Nat} (h0 : 0 < F) (hF : F ≤ 120) (h : BI n N F y 1728000 bv ta tb tc) (h' : BI n N F y 1728000 bv' ta' tb' tc') : bv = bv' ∧ ta = ta' ∧ tb = tb' ∧ tc = tc' := by
  rcases h with ⟨-, h2⟩ | ⟨v, h1, h2, h3, h4, h5, h6⟩
  · have := h2 0 0 0 (cd_0 h0)
    unfold rk at this
    omega
  rcases h' with ⟨-, g2⟩ | ⟨v', g1, g2, g3, g4, g5, g6⟩
  · have := g2 0 0 0 (cd_0 h0)
    unfold rk at this
    omega
  obtain ⟨a1, a2⟩ := h6 ta' tb' tc' g3 g4
  obtain ⟨b1, b2⟩ := g6 ta tb tc h3 h4
  have ev : v = v' := by omega
  have er : rk ta tb tc = rk ta' tb' tc' := by
    by_cases z1 : rk ta' tb' tc' < rk ta tb tc
    · have := a2 z1; omega
    · by_cases z2 : rk ta tb tc < rk ta' tb' tc'
      · have := b2 z2; omega
      · omega
  obtain ⟨p1, p2, p3, p4, p5⟩ := h3
  obtain ⟨q1, q2, q3, q4, q5⟩ := g3
  have hb : tb < 120 := by
    by_cases n2 : 2 ≤ n
    · have := p2 n2; omega
    · have := p3 n2; omega
  have hb' : tb' < 120 := by
    by_cases n2 : 2 ≤ n
    · have := q2 n2; omega
    · have := q3 n2; omega
  have hc : tc < 120 := by
    by_cases n3 : 3 ≤ n
    · have := p4 n3; omega
    · have := p5 n3; omega
  have hc' : tc' < 120 := by
    by_cases n3 : 3 ≤ n
    · have := q4 n3; omega
    · have := q5 n3; omega
  unfold rk at er
  refine ⟨by rw [h2, g2, ev], by omega, by omega, by omega⟩
end MAP
