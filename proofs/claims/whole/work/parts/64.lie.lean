-- ROWS FOR PLACES
def seen (e : Nat → Int32) (p j : Nat) : Bool := anyB (fun q => decide (e q = nI j)) p
def cntS (e : Nat → Int32) (N p : Nat) : Nat := cnt (seen e p) N
theorem cnt_up {c : Nat → Bool} {j : Nat} (hc : c j = false) : ∀ N, cnt (up c j true) N = cnt c N + (if j < N then 1 else 0)
  | 0 => rfl
  | N + 1 => by
    show cnt (up c j true) N + _ = cnt c N + _ + _
    rw [cnt_up hc N]
    unfold up
    by_cases e : N = j
    · rw [if_pos e, if_neg (show ¬ j < N by omega), if_pos (show j < N + 1 by omega), e, hc]
      simp
    · rw [if_neg e]
      by_cases e2 : j < N
      · rw [if_pos e2, if_pos (show j < N + 1 by omega)]; omega
      · rw [if_neg e2, if_neg (show ¬ j < N + 1 by omega)]; omega
theorem nI_inj {a b : Nat} (ha : a < 2 ^ 31) (hb : b < 2 ^ 31) (h : nI a = nI b) : a = b := by
  simp (disch := omega) only [nI_eq] at h
  exact h
section ORD
variable {e : Nat → Int32} {N p : Nat}
theorem cs_bad (hb : ∀ j, j < N → e p = nI j → seen e p j = true) : ∀ j, j < N → seen e (p + 1) j = seen e p j := by
  intro j hj
  show (seen e p j || decide (e p = nI j)) = seen e p j
  by_cases g : e p = nI j
  · rw [hb j hj g]; rfl
  · simp [g]
theorem cs_good {j : Nat} (hN : N ≤ 5) (hj : j < N) (he : e p = nI j) : ∀ i, i < N → seen e (p + 1) i = up (seen e p) j true i := by
  intro i hi
  show (seen e p i || decide (e p = nI i)) = _
  unfold up
  by_cases g : i = j
  · rw [if_pos g, he, g]; simp
  · rw [if_neg g, he]
    have : ¬ nI j = nI i := fun z => g (nI_inj (by omega) (by omega) z.symm)
    simp [this]
theorem cs_step (hN : N ≤ 5) : ((∀ j, j < N → e p = nI j → seen e p j = true) ∧ cntS e N (p + 1) = cntS e N p) ∨ ∃ j, j < N ∧ e p = nI j ∧ seen e p j = false ∧ cntS e N (p + 1) = cntS e N p + 1 := by
  rcases ix_of N (by omega) (e p) with g | ⟨j, hj, he⟩
  · have hb : ∀ j, j < N → e p = nI j → seen e p j = true := fun j hj he => by
      exfalso
      rw [he] at g
      rcases g with g | g
      · exact nI_nneg (by omega) g
      · simp (disch := omega) only [nI_leI] at g
        omega
    exact Or.inl ⟨hb, cnt_cong (cs_bad hb)⟩
  · by_cases g : seen e p j = true
    · have hb : ∀ i, i < N → e p = nI i → seen e p i = true := fun i hi h2 => by
        rw [he] at h2
        have := nI_inj (by omega) (by omega) h2
        rw [← this]; exact g
      exact Or.inl ⟨hb, cnt_cong (cs_bad hb)⟩
    · have g : seen e p j = false := by simpa using g
      refine Or.inr ⟨j, hj, he, g, ?_⟩
      unfold cntS
      rw [cnt_cong (cs_good hN hj he), cnt_up g, if_pos hj]
theorem cs_le (hN : N ≤ 5) (p : Nat) : ∀ d, cntS e N (p + d) ≤ cntS e N p + d
  | 0 => Nat.le_refl _
  | d + 1 => by
    have ih := cs_le hN p d
    rcases cs_step (e := e) (p := p + d) hN with ⟨-, h⟩ | ⟨j, -, -, -, h⟩
    · rw [← Nat.add_assoc, h]; omega
    · rw [← Nat.add_assoc, h]; omega
theorem cs_zero : cntS e N 0 = 0 := by
  unfold cntS
  have : ∀ k, cnt (seen e 0) k = 0 := by
    intro k
    induction k with
    | zero => rfl
    | succ k ih => show cnt (seen e 0) k + _ = 0; rw [ih]; rfl
  exact this N
theorem cs_le' (hN : N ≤ 5) : cntS e N p ≤ p := by
  have := cs_le (e := e) hN 0 p
  rw [Nat.zero_add, cs_zero] at this
  omega
theorem cs_new (hN : N ≤ 5) (hf : cntS e N N = N) (hp : p < N) : ∃ j, j < N ∧ e p = nI j ∧ seen e p j = false := by
  have h1 := cs_le (e := e) hN (p + 1) (N - (p + 1))
  rw [show p + 1 + (N - (p + 1)) = N by omega, hf] at h1
  have h2 := cs_le' (e := e) (p := p) hN
  rcases cs_step (e := e) (p := p) hN with ⟨-, h⟩ | ⟨j, a, b, c, h⟩
  · omega
  · exact ⟨j, a, b, c⟩
theorem cnt_all {c : Nat → Bool} : ∀ {k : Nat}, cnt c k = k → ∀ j, j < k → c j = true
  | 0, _, j, hj => by omega
  | k + 1, h, j, hj => by
    have h1 : cnt c k + (if c k = true then 1 else 0) = k + 1 := h
    have h2 := cnt_le c k
    by_cases g : c k = true
    · rw [if_pos g] at h1
      by_cases e : j = k
      · rw [e]; exact g
      · exact cnt_all (show cnt c k = k by omega) j (by omega)
    · rw [if_neg g] at h1
      omega
theorem cnt_all' {c : Nat → Bool} : ∀ {k : Nat}, (∀ j, j < k → c j = true) → cnt c k = k
  | 0, _ => rfl
  | k + 1, h => by
    show cnt c k + (if c k = true then 1 else 0) = k + 1
    rw [cnt_all' (fun j hj => h j (by omega)), if_pos (h k (by omega))]
def fnd (e : Nat → Int32) (j : Nat) : Nat → Nat
  | 0 => 0
  | k + 1 => if e k = nI j then k else fnd e j k
theorem fnd_ok {j : Nat} : ∀ k, seen e k j = true → fnd e j k < k ∧ e (fnd e j k) = nI j
  | 0, h => by simp [seen, anyB] at h
  | k + 1, h => by
    have h1 : (seen e k j || decide (e k = nI j)) = true := h
    unfold fnd
    by_cases g : e k = nI j
    · rw [if_pos g]; exact ⟨by omega, g⟩
    · rw [if_neg g]
      have h2 : seen e k j = true := by simpa [g] using h1
      have := fnd_ok k h2
      exact ⟨by omega, this.2⟩
theorem seen_of {q j : Nat} : ∀ {p : Nat}, q < p → e q = nI j → seen e p j = true
  | 0, h, _ => by omega
  | p + 1, h, he => by
    show (seen e p j || decide (e p = nI j)) = true
    by_cases g : q = p
    · rw [← g, he]; simp
    · rw [seen_of (by omega) he]; rfl
theorem perm_of (hN : N ≤ 5) (hf : cntS e N N = N) : ∃ P W, PW N P W ∧ ∀ p, p < N → e p = nI (W p) := by
  have hw : ∀ p, p < N → (e p).toNatClampNeg < N ∧ e p = nI (e p).toNatClampNeg := fun p hp => by
    obtain ⟨j, hj, he, -⟩ := cs_new hN hf hp
    rw [he, nI_clamp (by omega)]
    exact ⟨hj, rfl⟩
  have hs := cnt_all (c := seen e N) hf
  refine ⟨fun j => fnd e j N, fun p => (e p).toNatClampNeg, ⟨fun i hi => ?_, fun p hp => ⟨(hw p hp).1, ?_⟩⟩, fun p hp => (hw p hp).2⟩
  · obtain ⟨a, b⟩ := fnd_ok N (hs i hi)
    refine ⟨a, ?_⟩
    simp only []
    rw [b, nI_clamp (by omega)]
  · simp only []
    obtain ⟨a, b⟩ := fnd_ok N (hs _ (hw p hp).1)
    rw [← (hw p hp).2] at b
    generalize hq : fnd e (e p).toNatClampNeg N = q at a b
    have key : ∀ x y, x < y → y < N → e x = e y → False := fun x y hxy hy he => by
      obtain ⟨j, hj, hej, hsj⟩ := cs_new hN hf hy
      rw [hej] at he
      rw [seen_of hxy he] at hsj
      exact absurd hsj (by decide)
    by_cases g1 : q < p
    · exact (key q p g1 hp b).elim
    · by_cases g2 : p < q
      · exact (key p q g2 a b.symm).elim
      · omega
end ORD
theorem bit_orN : ∀ m, m < 32 → ∀ j, j < 5 → nI m ||| ((1 : Int32) <<< (nI j &&& 31)) = nI (m ||| 2 ^ j) := by decide +kernel
theorem msk_ge (c : Nat → Bool) {k h : Nat} (hh : k ≤ h) : (msk c k).testBit h = false :=
  Nat.testBit_lt_two_pow (Nat.lt_of_lt_of_le (msk_lt c k) (Nat.pow_le_pow_right (by omega) hh))
theorem msk_or {c : Nat → Bool} {N j : Nat} (hN : N ≤ 5) (hj : j < N) : nI (msk c N) ||| ((1 : Int32) <<< (nI j &&& 31)) = nI (msk (up c j true) N) := by
  have hl : msk c N < 32 := Nat.lt_of_lt_of_le (msk_lt c N) (show 2 ^ N ≤ 2 ^ 5 from Nat.pow_le_pow_right (by omega) hN)
  rw [bit_orN _ hl j (by omega)]
  congr 1
  apply Nat.eq_of_testBit_eq
  intro i
  rw [Nat.testBit_or, Nat.testBit_two_pow]
  by_cases hi : i < N
  · rw [msk_bit _ N i hi, msk_bit _ N i hi]
    unfold up
    by_cases g : i = j
    · rw [if_pos g]; simp [g]
    · rw [if_neg g]
      have : ¬ j = i := fun z => g z.symm
      simp [this]
  · rw [msk_ge _ (by omega), msk_ge _ (by omega)]
    have : ¬ j = i := by omega
    simp [this]
theorem full_eq : ∀ N, N ≤ 5 → ((1 : Int32) <<< (nI N &&& 31)) - 1 = nI (2 ^ N - 1) := by decide
theorem msk_full {c : Nat → Bool} : ∀ {k : Nat}, msk c k = 2 ^ k - 1 ↔ cnt c k = k
  | 0 => by simp [msk, cnt]
  | k + 1 => by
    have ih := msk_full (c := c) (k := k)
    have h1 := msk_lt c k
    have h2 := cnt_le c k
    have h3 : 2 ^ (k + 1) = 2 * 2 ^ k := by rw [Nat.pow_succ]; omega
    show msk c k + (if c k = true then 2 ^ k else 0) = 2 ^ (k + 1) - 1 ↔ cnt c k + (if c k = true then 1 else 0) = k + 1
    rw [h3]
    by_cases g : c k = true
    · rw [if_pos g, if_pos g]
      omega
    · rw [if_neg g, if_neg g]
      omega
theorem bit_atN {T h : Nat} (hT : T < 256) (hh : h < 8) : ((((nI T) >>> (nI h &&& 31)) &&& 1) = 1 ↔ T.testBit h = true) := bit_at T hT h hh
theorem holds_eq {n r N : Nat} {σ : St} (hN : N ≤ 5) (hr : r < 6) (h1 : σ.1 4 0 10 = nI N) (hl : σ.1 1 0 0 = nI 40) (hs : σ.1 2 0 r = nI N) (hn : 10 < n) : F_Tent_holdsOrder n (nI r) σ = some (if cntS (fun p => σ.1 3 0 (40 * r + p)) N N = N then 1 else 0) := by
  generalize he : (fun p => σ.1 3 0 (40 * r + p)) = e
  have he' : ∀ p, σ.1 3 0 (40 * r + p) = e p := fun p => congrFun he p
  unfold F_Tent_holdsOrder
  have key : ∀ k p, p ≤ N → N < k + p → cntS e N p = p → F_Tent_holdsOrder_4 n k (nI r) (nI (msk (seen e p) N)) (nI p) σ = some (if cntS e N N = N then 1 else 0) := by
    intro k
    induction k with
    | zero => intro p a b; omega
    | succ k ih =>
      intro p a b hp
      rw [F_Tent_holdsOrder_4, h1]
      by_cases g : p = N
      · rw [if_pos (by simp (disch := omega) only [nI_leI]; omega)]
        rw [g] at hp
        rw [if_pos hp]
      · rw [if_neg (by simp (disch := omega) only [nI_leI]; omega), get_in (t := 0) (lim := 40) hr hl hs (by omega) (by decide) (show p < N by omega), he']
        simp only [obind, b2_some, bs_eq]
        have hlt : msk (seen e p) N < 256 := Nat.lt_of_lt_of_le (msk_lt _ N) (show 2 ^ N ≤ 2 ^ 8 from Nat.pow_le_pow_right (by omega) (by omega))
        rcases cs_step (e := e) (p := p) hN with ⟨hb, hc⟩ | ⟨j, hj, hej, hsj, hc⟩
        · have hno : ¬ cntS e N N = N := by
            have := cs_le (e := e) hN (p + 1) (N - (p + 1))
            rw [show p + 1 + (N - (p + 1)) = N by omega] at this
            omega
          rw [if_neg hno]
          rcases ix_of N (by omega) (e p) with z | ⟨j, hj, hej⟩
          · rw [isSl_out h1 z]; rfl
          · rw [hej, isSl_in h1 hN hj]
            simp only [obind, b2_some, bs_eq, if_neg one_ne]
            rw [if_pos ((bit_atN hlt (by omega)).mpr (by rw [msk_bit _ N j hj]; exact hb j hj hej))]
        · rw [hej, isSl_in h1 hN hj]
          simp only [obind, b2_some, bs_eq, if_neg one_ne]
          rw [if_neg (fun z => by have := (bit_atN hlt (by omega)).mp z; rw [msk_bit _ N j hj, hsj] at this; exact absurd this (by decide)), msk_or hN hj, nI_1]
          have := ih (p + 1) (by omega) (by omega) (by omega)
          rw [← msk_cong (cs_good hN hj hej)]
          exact this
  have := key n 0 (by omega) (by omega) cs_zero
  have z : msk (seen e 0) N = 0 := by
    have : ∀ k, msk (seen e 0) k = 0 := by
      intro k
      induction k with
      | zero => rfl
      | succ k ih => show msk (seen e 0) k + _ = 0; rw [ih]; rfl
    exact this N
  rw [z] at this
  exact this
theorem isOrd_eq {n r N : Nat} {σ : St} {e : Nat → Int32} (hN : N ≤ 5) (hr : r < 6) (m1 : σ.1 30 0 1 = nI N) (he : ∀ p, p < N → σ.1 36 0 (40 * r + p) = e p) (hn : 10 < n) : F_Mod_isOrder n (nI r) σ = some (if cntS e N N = N then 1 else 0) := by
  unfold F_Mod_isOrder
  have z : msk (seen e 0) N = 0 := by
    have : ∀ k, msk (seen e 0) k = 0 := by
      intro k
      induction k with
      | zero => rfl
      | succ k ih => show msk (seen e 0) k + _ = 0; rw [ih]; rfl
    exact this N
  have key := loop_gen (fun q p (s : Nat) => F_Mod_isOrder_4 n q (nI r) (nI s) (nI p) σ) N (fun p => msk (seen e p) N) (some (if cntS e N N = N then 1 else 0)) (fun q => by
    rw [F_Mod_isOrder_4, m1, if_pos (by simp (disch := omega) only [nI_leI]; omega), full_eq N hN]
    have hp : 2 ^ N ≤ 2 ^ 5 := Nat.pow_le_pow_right (by omega) hN
    have hl := msk_lt (seen e N) N
    have e1 : (nI (msk (seen e N) N) = nI (2 ^ N - 1)) ↔ cntS e N N = N := by
      unfold cntS
      rw [← msk_full]
      constructor
      · intro h; exact nI_inj (by omega) (by omega) h
      · intro h; rw [h]
    by_cases g : cntS e N N = N
    · rw [if_pos (e1.mpr g), if_pos g]
    · rw [if_neg (fun h => g (e1.mp h)), if_neg g]) (fun q p hp => by
    rw [F_Mod_isOrder_4, m1, if_neg (by simp (disch := omega) only [nI_leI]; omega), show (40 : Int32) = nI 40 from rfl, pk_mul, nI_add, ald_36 (by omega), he p hp]
    simp only [obind, b2_some, bs_eq, F_Mod_isOrder_43, nI_1]
    rcases ix_of N (by omega) (e p) with g | ⟨j, hj, hej⟩
    · have hb : ∀ j, j < N → e p = nI j → seen e p j = true := fun j hj h2 => by
        exfalso
        rw [h2] at g
        rcases g with g | g
        · exact nI_nneg (by omega) g
        · simp (disch := omega) only [nI_leI] at g
          omega
      rw [mSl_out m1 hN g, msk_cong (cs_bad hb)]
      simp only [obind, b2_some, bs_eq, if_true, bit_or0]
    · rw [hej, mSl_in m1 hN hj]
      simp only [obind, b2_some, bs_eq, if_neg one_ne]
      rw [msk_or hN hj, msk_cong (cs_good hN hj hej)]) n 0 (by omega) (by omega)
  simp only [z] at key
  exact key
