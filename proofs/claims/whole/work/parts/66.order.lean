-- ORDERS
theorem pk4_up (n : Nat) : ∀ k j a b c d v, F_Orders_pick_4 0 k a b c d = some v → F_Orders_pick_4 n (k + j) a b c d = some v
  | 0, _, _, _, _, _, _, h => by rw [F_Orders_pick_4] at h; exact absurd h (by simp)
  | k + 1, j, a, b, c, d, v, h => by
    rw [show k + 1 + j = (k + j) + 1 by omega, F_Orders_pick_4]
    rw [F_Orders_pick_4] at h
    by_cases e1 : 5 ≤ d
    · rw [if_pos e1] at *; exact h
    · rw [if_neg e1] at *
      by_cases e2 : ((a >>> (d &&& 31)) &&& 1) = 1
      · rw [if_pos e2] at *
        by_cases e3 : c = b
        · rw [if_pos e3] at *; exact h
        · rw [if_neg e3] at *
          unfold F_Orders_pick_28 at *
          exact pk4_up n k j _ _ _ _ _ h
      · rw [if_neg e2] at *
        unfold F_Orders_pick_28 at *
        exact pk4_up n k j _ _ _ _ _ h
noncomputable def pkN (mask r : Nat) : Nat := ((F_Orders_pick_4 0 10 (nI mask) (nI r) 0 0).getD 0).toNatClampNeg
theorem pk_ok : ∀ mask, mask < 32 → ∀ r, r < 5 → F_Orders_pick_4 0 10 (nI mask) (nI r) 0 0 = some (nI (pkN mask r)) := by decide +kernel
theorem pick_eq {n mask r : Nat} (hm : mask < 32) (hr : r < 5) (hn : 10 ≤ n) : F_Orders_pick n (nI mask) (nI r) = some (nI (pkN mask r)) := by
  unfold F_Orders_pick
  have := pk4_up n 10 (n - 10) _ _ _ _ _ (pk_ok mask hm r hr)
  rw [show 10 + (n - 10) = n by omega] at this
  exact this
def pc5 (mask : Nat) : Nat := cnt (fun h => mask.testBit h) 5
theorem pk_bit : ∀ mask, mask < 32 → ∀ r, r < 5 → r < pc5 mask → pkN mask r < 5 ∧ mask.testBit (pkN mask r) = true := by decide +kernel
def mpk : Nat → Int32 → Int32 → Int32 → Option Int32
  | 0, _, _, _ => none
  | k + 1, l4, l6, l7 => if ((l4 >>> (l7 &&& 31)) &&& 1) = 1 then (if l6 ≤ 0 then some l7 else mpk k l4 (l6 - ((l4 >>> (l7 &&& 31)) &&& 1)) (l7 + 1)) else mpk k l4 (l6 - ((l4 >>> (l7 &&& 31)) &&& 1)) (l7 + 1)
theorem mpk_up : ∀ k j a b c v, mpk k a b c = some v → mpk (k + j) a b c = some v
  | 0, _, _, _, _, _, h => by rw [mpk] at h; exact absurd h (by simp)
  | k + 1, j, a, b, c, v, h => by
    rw [show k + 1 + j = (k + j) + 1 by omega, mpk]
    rw [mpk] at h
    by_cases e1 : ((a >>> (c &&& 31)) &&& 1) = 1
    · rw [if_pos e1] at *
      by_cases e2 : b ≤ 0
      · rw [if_pos e2] at *; exact h
      · rw [if_neg e2] at *
        exact mpk_up k j _ _ _ _ h
    · rw [if_neg e1] at *
      exact mpk_up k j _ _ _ _ h
theorem mpk_ok : ∀ mask, mask < 32 → ∀ r, r < 5 → r < pc5 mask → mpk 10 (nI mask) (nI r) 0 = some (nI (pkN mask r)) := by decide +kernel
theorem clr_ok : ∀ mask, mask < 32 → ∀ j, j < 5 → mask.testBit j = true → (nI mask &&& (((1 : Int32) <<< (nI j &&& 31)) ^^^ (-1))) = nI (mask - 2 ^ j) ∧ mask - 2 ^ j < 32 ∧ (∀ i, i < 5 → (mask - 2 ^ j).testBit i = (mask.testBit i && decide (i ≠ j))) ∧ pc5 (mask - 2 ^ j) + 1 = pc5 mask := by decide +kernel
theorem layO_51 {n : Nat} (K20 : Int32 → Int32 → Int32 → Int32 → St → Option St) (l2 l3 l4 l5 : Int32) (σ : St) (v : Int32) : ∀ k l6 l7, mpk k l4 l6 l7 = some v → F_Mod_layOrder_51 n K20 k l2 l3 l4 l5 l6 l7 σ = (ast σ 44 0 l5 v).bind fun σ6 => K20 l2 l3 (l4 &&& ((1 <<< (v &&& 31)) ^^^ (-1))) (l5 + 1) σ6
  | 0, _, _, h => by rw [mpk] at h; exact absurd h (by simp)
  | k + 1, l6, l7, h => by
    rw [F_Mod_layOrder_51]
    unfold F_Mod_has F_Mod_layOrder_66
    rw [mpk] at h
    by_cases e1 : ((l4 >>> (l7 &&& 31)) &&& 1) = 1
    · rw [if_pos e1] at *
      simp only [obind, b2_some, bs_eq, if_neg one_ne]
      by_cases e2 : l6 ≤ 0
      · rw [if_pos e2] at *
        rw [Option.some.inj h]
      · rw [if_neg e2] at *
        exact layO_51 K20 l2 l3 l4 l5 σ v k _ _ h
    · rw [if_neg e1] at *
      simp only [obind, b2_some, bs_eq, if_true]
      exact layO_51 K20 l2 l3 l4 l5 σ v k _ _ h
noncomputable def mkG (N : Nat) (d : Nat → Nat) : Nat → Nat
  | 0 => 2 ^ N - 1
  | k + 1 => mkG N d k - 2 ^ pkN (mkG N d k) (d k)
noncomputable def ordG (N : Nat) (d : Nat → Nat) (k : Nat) : Nat := pkN (mkG N d k) (d k)
theorem full_bit : ∀ N, N ≤ 5 → 2 ^ N - 1 < 32 ∧ pc5 (2 ^ N - 1) = N ∧ ∀ j, j < 5 → (2 ^ N - 1).testBit j = decide (j < N) := by decide
section GEN
variable {N : Nat} {d : Nat → Nat}
theorem mkG_ok (hN : N ≤ 5) (hd : ∀ k, k < N → d k < N - k) : ∀ k, k ≤ N → mkG N d k < 32 ∧ pc5 (mkG N d k) = N - k ∧ ∀ j, j < 5 → (mkG N d k).testBit j = (decide (j < N) && !seen (fun q => nI (ordG N d q)) k j)
  | 0, _ => by
    obtain ⟨a, b, c⟩ := full_bit N hN
    refine ⟨a, b, fun j hj => ?_⟩
    have : mkG N d 0 = 2 ^ N - 1 := rfl
    rw [this, c j hj]
    simp [seen, anyB]
  | k + 1, hk => by
    obtain ⟨a, b, c⟩ := mkG_ok hN hd k (by omega)
    have hdk := hd k (by omega)
    obtain ⟨p1, p2⟩ := pk_bit _ a (d k) (by omega) (by omega)
    obtain ⟨q1, q2, q3, q4⟩ := clr_ok _ a _ p1 p2
    have e : mkG N d (k + 1) = mkG N d k - 2 ^ pkN (mkG N d k) (d k) := rfl
    rw [e]
    refine ⟨q2, by omega, fun j hj => ?_⟩
    rw [q3 j hj, c j hj]
    show _ = (decide (j < N) && !(seen (fun q => nI (ordG N d q)) k j || decide (nI (ordG N d k) = nI j)))
    have e2 : (nI (ordG N d k) = nI j) ↔ j = pkN (mkG N d k) (d k) := by
      unfold ordG
      constructor
      · intro h; exact (nI_inj (by omega) (by omega) h).symm
      · intro h; rw [h]
    by_cases z : j = pkN (mkG N d k) (d k)
    · rw [show decide (nI (ordG N d k) = nI j) = true by simpa using e2.mpr z, show decide (j ≠ pkN (mkG N d k) (d k)) = false by simpa using z]
      simp
    · rw [show decide (nI (ordG N d k) = nI j) = false by simpa using fun h => z (e2.mp h), show decide (j ≠ pkN (mkG N d k) (d k)) = true by simpa using z]
      simp
theorem ordG_ok (hN : N ≤ 5) (hd : ∀ k, k < N → d k < N - k) {k : Nat} (hk : k < N) : ordG N d k < N ∧ seen (fun q => nI (ordG N d q)) k (ordG N d k) = false ∧ (mkG N d k).testBit (ordG N d k) = true := by
  obtain ⟨a, b, c⟩ := mkG_ok hN hd k (by omega)
  have hdk := hd k hk
  obtain ⟨p1, p2⟩ := pk_bit _ a (d k) (by omega) (by omega)
  have := c _ p1
  rw [p2] at this
  have t := this.symm
  rw [Bool.and_eq_true] at t
  refine ⟨show pkN (mkG N d k) (d k) < N by simpa using t.1, show seen _ k (pkN (mkG N d k) (d k)) = false by simpa using t.2, p2⟩
theorem ordG_cnt (hN : N ≤ 5) (hd : ∀ k, k < N → d k < N - k) : ∀ k, k ≤ N → cntS (fun q => nI (ordG N d q)) N k = k
  | 0, _ => cs_zero
  | k + 1, hk => by
    have ih := ordG_cnt hN hd k (by omega)
    obtain ⟨a, b, -⟩ := ordG_ok hN hd (show k < N by omega)
    rcases cs_step (e := fun q => nI (ordG N d q)) (p := k) hN with ⟨h, -⟩ | ⟨j, -, -, -, h⟩
    · have := h (ordG N d k) a rfl
      rw [b] at this
      exact absurd this (by decide)
    · rw [h, ih]
theorem ordG_pw (hN : N ≤ 5) (hd : ∀ k, k < N → d k < N - k) : ∃ P, PW N P (ordG N d) := by
  obtain ⟨P, W, pw, hW⟩ := perm_of hN (ordG_cnt hN hd N (by omega))
  have e : ∀ p, p < N → W p = ordG N d p := fun p hp => by
    have := hW p hp
    exact (nI_inj (by have := (ordG_ok hN hd hp).1; omega) (by have := (pw.2 p hp).1; omega) this).symm
  exact ⟨P, fun i hi => ⟨(pw.1 i hi).1, by rw [← e _ (pw.1 i hi).1]; exact (pw.1 i hi).2⟩, fun p hp => by rw [← e p hp]; exact pw.2 p hp⟩
end GEN
def fact : Nat → Nat
  | 0 => 1
  | k + 1 => fact k * (k + 1)
def mny (N : Nat) : Nat → Nat
  | 0 => fact N
  | k + 1 => mny N k / (N - k)
def rst (N m : Nat) : Nat → Nat
  | 0 => m
  | k + 1 => rst N m k % mny N (k + 1)
def dM (N m k : Nat) : Nat := rst N m k / mny N (k + 1)
def digB (N m k : Nat) : Bool := decide ((m / mny N (k + 1)) % (N - k) = dM N m k) && (decide (dM N m k < N - k) && (decide (0 < mny N (k + 1)) && (decide (mny N (k + 1) ≤ 120) && (decide (mny N k ≤ 120) && (decide (rst N m k ≤ 120) && decide (m / mny N (k + 1) ≤ 120))))))
theorem digB_ok : ∀ N, N < 6 → ∀ m, m < fact N → ∀ k, k < N → digB N m k = true := by decide +kernel
theorem dig_ok (N : Nat) (h1 : N < 6) (m : Nat) (h2 : m < fact N) (k : Nat) (h3 : k < N) : (m / mny N (k + 1)) % (N - k) = dM N m k ∧ dM N m k < N - k ∧ 0 < mny N (k + 1) ∧ mny N (k + 1) ≤ 120 ∧ mny N k ≤ 120 ∧ rst N m k ≤ 120 ∧ m / mny N (k + 1) ≤ 120 := by
  have := digB_ok N h1 m h2 k h3
  unfold digB at this
  simp only [Bool.and_eq_true, decide_eq_true_eq] at this
  exact this
theorem fact_le : ∀ N, N ≤ 5 → 1 ≤ fact N ∧ fact N ≤ 120 := by decide
noncomputable def ordN (N m k : Nat) : Nat := ordG N (dM N m) k
theorem many_eq {n N : Nat} (hN : N ≤ 5) (hn : 10 < n) : F_Orders_howMany n (nI N) = some (nI (fact N)) := by
  unfold F_Orders_howMany
  by_cases h0 : N = 0
  · subst h0
    rw [show n = (n - 1) + 1 by omega, F_Orders_howMany_4, if_pos (by decide)]
    rfl
  · refine loop_gen (fun q i (s : Nat) => F_Orders_howMany_4 n q (nI N) (nI s) (nI (2 + i))) (N - 1) (fun i => fact (i + 1)) _ (fun q => ?_) (fun q i hi => ?_) n 0 (by omega) (by omega)
    · rw [F_Orders_howMany_4, if_pos (by simp (disch := omega) only [nI_ltI]; omega), show N - 1 + 1 = N by omega]
    · rw [F_Orders_howMany_4, if_neg (by simp (disch := omega) only [nI_ltI]; omega), pk_mul, nI_1, show 2 + i + 1 = 2 + (i + 1) by omega, show fact (i + 1) * (2 + i) = fact (i + 1 + 1) by rw [show 2 + i = i + 1 + 1 by omega]; rfl]
theorem omany_eq {n N : Nat} {σ : St} (hN : N ≤ 5) (m1 : σ.1 30 0 1 = nI N) (hn : 10 < n) : F_Mod_orderMany n σ = some (nI (fact N)) := by
  unfold F_Mod_orderMany
  by_cases h0 : N = 0
  · subst h0
    rw [show n = (n - 1) + 1 by omega, F_Mod_orderMany_4, m1, if_pos (by decide)]
    rfl
  · refine loop_gen (fun q i (s : Nat) => F_Mod_orderMany_4 n q (nI s) (nI (2 + i)) σ) (N - 1) (fun i => fact (i + 1)) _ (fun q => ?_) (fun q i hi => ?_) n 0 (by omega) (by omega)
    · rw [F_Mod_orderMany_4, m1, if_pos (by simp (disch := omega) only [nI_ltI]; omega), show N - 1 + 1 = N by omega]
    · rw [F_Mod_orderMany_4, m1, if_neg (by simp (disch := omega) only [nI_ltI]; omega), pk_mul, nI_1, show 2 + i + 1 = 2 + (i + 1) by omega, show fact (i + 1) * (2 + i) = fact (i + 1 + 1) by rw [show 2 + i = i + 1 + 1 by omega]; rfl]
theorem min5 {N : Nat} (hN : N ≤ 5) : mmin (nI N) 5 = nI N := by
  unfold mmin
  rw [if_neg]
  rw [show (5 : Int32) = nI 5 from rfl]
  simp (disch := omega) only [nI_ltI]
  omega
theorem sub_nI {a b : Nat} (h : b ≤ a) (ha : a < 2 ^ 30) : nI a - nI b = nI (a - b) := by
  rw [i32_eq, pk_sub_toInt ha (by omega), nI_toInt (by omega)]
  omega
/-- the order array holds W -/
def OW (N : Nat) (W : Nat → Nat) (σ : St) : Prop := σ.1 18 0 1 = nI N ∧ ∀ p, p < N → σ.1 19 0 p = nI (W p)
theorem goTo_eq {n N m : Nat} {σ : St} (hN : N ≤ 5) (hm : m < fact N) (hn : 10 < n) : ∃ w, F_Orders_goTo n (nI N) (nI m) σ = some w ∧ (∀ g u, ¬ ((g = 18 ∨ g = 19) ∧ u = 0) → w.1 g u = σ.1 g u) ∧ w.2 = σ.2 ∧ OW N (ordN N m) w := by
  have hf := fact_le N hN
  have hd : ∀ k, k < N → dM N m k < N - k := fun k hk => (dig_ok N (by omega) m hm k hk).2.1
  unfold F_Orders_goTo
  rw [min5 hN]
  simp only [obind, b2_some, bs_eq]
  rw [show (si σ 18 0 1 (nI N)).1 18 0 1 = nI N by rw [si_g, if_pos (by omega)], many_eq hN hn, full_eq N hN]
  simp only [obind, b2_some, bs_eq]
  refine loop_inv (fun q k (b : Nat × Nat) s => F_Orders_goTo_30 n q (nI m) (nI b.1) (nI b.2) (nI k) s) N (fun k => (mkG N (dM N m) k, mny N k)) (fun k s => (∀ g u, ¬ ((g = 18 ∨ g = 19) ∧ u = 0) → s.1 g u = σ.1 g u) ∧ s.2 = σ.2 ∧ s.1 18 0 1 = nI N ∧ ∀ p, p < k → s.1 19 0 p = nI (ordN N m p)) (fun w => (∀ g u, ¬ ((g = 18 ∨ g = 19) ∧ u = 0) → w.1 g u = σ.1 g u) ∧ w.2 = σ.2 ∧ OW N (ordN N m) w) (fun q s hs => ?_) (fun q k s hk hs => ?_) n 0 _ (by omega) (by omega) ⟨fun g u a => si_ne (by omega), rfl, by rw [si_g, if_pos (by omega)], fun p hp => by omega⟩
  · refine ⟨s, ?_, hs.1, hs.2.1, hs.2.2.1, hs.2.2.2⟩
    rw [F_Orders_goTo_30, hs.2.2.1, if_pos (by simp (disch := omega) only [nI_leI]; omega)]
  · obtain ⟨g1, g2, g3, g4, g5, g6, g7⟩ := dig_ok N (by omega) m hm k hk
    obtain ⟨a, b, -⟩ := mkG_ok hN hd k (by omega)
    obtain ⟨o1, o2, o3⟩ := ordG_ok hN hd hk
    obtain ⟨q1, -⟩ := clr_ok _ a _ (show ordG N (dM N m) k < 5 by omega) o3
    refine ⟨si s 19 0 k (nI (ordN N m k)), ?_, fun g u z => by rw [si_ne (by omega)]; exact hs.1 g u z, hs.2.1, by rw [si_ne (by omega)]; exact hs.2.2.1, fun p hp => ?_⟩
    · rw [F_Orders_goTo_30, hs.2.2.1, if_neg (by simp (disch := omega) only [nI_leI]; omega), sub_nI (by omega) (by omega), div_N (by omega) (by omega) (by omega)]
      simp only [obind, b2_some, bs_eq]
      rw [show mny N k / (N - k) = mny N (k + 1) from rfl, div_N (by omega) (by omega) (by omega)]
      simp only [obind, b2_some, bs_eq]
      rw [rem_N (by omega) (by omega) (by omega), g1]
      simp only [obind, b2_some, bs_eq]
      rw [pick_eq a (by omega) (by omega)]
      simp only [obind, b2_some, bs_eq]
      rw [show pkN (mkG N (dM N m) k) (dM N m k) = ordN N m k from rfl, ast_19 (by omega)]
      simp only [obind, b2_some, bs_eq]
      rw [ald_19 (by omega), si_g, if_pos (by omega)]
      simp only [obind, b2_some, bs_eq, nI_1]
      rw [show ordN N m k = ordG N (dM N m) k from rfl, q1]
      rfl
    · rw [si_g]
      by_cases e : p = k
      · rw [if_pos (by omega), e]
      · rw [if_neg (by omega)]
        exact hs.2.2.2 p (by omega)
theorem layO_eq {n N m : Nat} {σ : St} (hN : N ≤ 5) (m1 : σ.1 30 0 1 = nI N) (hm : m < fact N) (hn : 10 < n) : ∃ w, F_Mod_layOrder n (nI m) σ = some w ∧ (∀ g u, ¬ (g = 44 ∧ u = 0) → w.1 g u = σ.1 g u) ∧ w.2 = σ.2 ∧ ∀ p, p < N → w.1 44 0 p = nI (ordN N m p) := by
  have hf := fact_le N hN
  have hd : ∀ k, k < N → dM N m k < N - k := fun k hk => (dig_ok N (by omega) m hm k hk).2.1
  unfold F_Mod_layOrder
  rw [omany_eq hN m1 hn, m1, full_eq N hN]
  simp only [obind, b2_some, bs_eq]
  refine loop_inv (fun q k (b : Nat × Nat × Nat) s => F_Mod_layOrder_20 n q (nI b.1) (nI b.2.1) (nI b.2.2) (nI k) s) N (fun k => (mny N k, rst N m k, mkG N (dM N m) k)) (fun k s => (∀ g u, ¬ (g = 44 ∧ u = 0) → s.1 g u = σ.1 g u) ∧ s.2 = σ.2 ∧ ∀ p, p < k → s.1 44 0 p = nI (ordN N m p)) (fun w => (∀ g u, ¬ (g = 44 ∧ u = 0) → w.1 g u = σ.1 g u) ∧ w.2 = σ.2 ∧ ∀ p, p < N → w.1 44 0 p = nI (ordN N m p)) (fun q s hs => ?_) (fun q k s hk hs => ?_) n 0 _ (by omega) (by omega) ⟨fun g u a => rfl, rfl, fun p hp => by omega⟩
  · refine ⟨s, ?_, hs⟩
    rw [F_Mod_layOrder_20, hs.1 30 0 (by omega), m1, if_pos (by simp (disch := omega) only [nI_leI]; omega)]
  · obtain ⟨g1, g2, g3, g4, g5, g6, g7⟩ := dig_ok N (by omega) m hm k hk
    obtain ⟨a, b, -⟩ := mkG_ok hN hd k (by omega)
    obtain ⟨o1, o2, o3⟩ := ordG_ok hN hd hk
    obtain ⟨q1, -⟩ := clr_ok _ a _ (show ordG N (dM N m) k < 5 by omega) o3
    have mp := mpk_up 10 (n - 10) _ _ _ _ (mpk_ok _ a (dM N m k) (by omega) (by omega))
    rw [show 10 + (n - 10) = n by omega] at mp
    refine ⟨si s 44 0 k (nI (ordN N m k)), ?_, fun g u z => by rw [si_ne (by omega)]; exact hs.1 g u z, hs.2.1, fun p hp => ?_⟩
    · rw [F_Mod_layOrder_20, hs.1 30 0 (by omega), m1, if_neg (by simp (disch := omega) only [nI_leI]; omega), sub_nI (by omega) (by omega), div_N (by omega) (by omega) (by omega)]
      simp only [obind, b2_some, bs_eq]
      rw [show mny N k / (N - k) = mny N (k + 1) from rfl, div_N (by omega) (by omega) (by omega), rem_N (by omega) (by omega) (by omega)]
      simp only [obind, b2_some, bs_eq]
      rw [show rst N m k / mny N (k + 1) = dM N m k from rfl, layO_51 _ _ _ _ _ _ _ _ _ _ mp, ast_44 (by omega)]
      simp only [obind, b2_some, bs_eq, nI_1]
      rw [show pkN (mkG N (dM N m) k) (dM N m k) = ordG N (dM N m) k from rfl, q1]
      rfl
    · rw [si_g]
      by_cases e : p = k
      · rw [if_pos (by omega), e]
      · rw [if_neg (by omega)]
        exact hs.2.2 p (by omega)
