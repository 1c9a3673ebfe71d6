theorem fill2_eq {n g t : Nat} {v : Int32} {σ : St} (hl : lenOf g t < 1000) (hn : 1000 < n) : F_Arrays_fill2 n g t v σ = some (sa σ g t (fun j => if j < lenOf g t then v else σ.1 g t j)) := by
  unfold F_Arrays_fill2
  have key := fill_gen (fun k i s => F_Arrays_fill2_5 n g t k v (nI i) (nI (lenOf g t)) s) some (fun _ => True) g t 0 (lenOf g t) (fun _ => v) (fun k s _ => by
    rw [F_Arrays_fill2_5, if_pos (by simp (disch := omega) only [nI_leI]; omega)]) (fun _ _ _ _ => trivial) (fun k i s hi _ => by
    rw [F_Arrays_fill2_5, if_neg (by simp (disch := omega) only [nI_leI]; omega), ast_in hi (by omega)]
    simp only [obind, b2_some, bs_eq, nI_1, Nat.zero_add]) n 0 σ (by omega) (by omega) trivial
  simp only [Nat.zero_add, Nat.zero_le, true_and] at key
  exact key
noncomputable def xv (V : Vw) (m i : Nat) : Nat := sleptV (setW V (posN (vN V) m) (ordN (vN V) m)) i
theorem xv_le (V : Vw) (m i : Nat) : xv V m i ≤ 8 := slept_le _ _
def KI (V : Vw) (m : Nat) (σ : St) : Prop := σ.1 20 0 8 = nI (vN V) ∧ ∃ (M : Nat) (num most : Nat → Nat), KP (vN V) m (xv V) M num ∧ σ.1 20 0 7 = nI M ∧ (∀ k, k < M → σ.1 21 0 k = nI (num k) ∧ ∀ i, i < vN V → σ.1 22 0 (k * 5 + i) = nI (xv V (num k) i)) ∧ ∀ i, i < vN V → σ.1 23 0 i = nI (most i) ∧ most i ≤ 8 ∧ ∀ q, q < m → xv V q i ≤ most i
theorem KI.cg {V : Vw} {m : Nat} {σ s : St} (h : KI V m σ) (hs : ∀ g, 20 ≤ g → g ≤ 23 → s.1 g 0 = σ.1 g 0) : KI V m s := by
  unfold KI at *
  rw [hs 20 (by omega) (by omega), hs 21 (by omega) (by omega), hs 22 (by omega) (by omega), hs 23 (by omega) (by omega)]
  exact h
theorem mmax_N {a b : Nat} (ha : a ≤ 8) (hb : b ≤ 8) : mmax (nI a) (nI b) = nI (max a b) := by
  unfold mmax
  simp (disch := omega) only [nI_ltI]
  by_cases g : a < b
  · rw [if_pos g, show max a b = b by omega]
  · rw [if_neg g, show max a b = a by omega]
theorem need12 {n N M l1 : Nat} {σ : St} {y : Nat → Nat → Nat} {z : Nat → Nat} (K2 : Int32 → St → Option Int32) (hN : N ≤ 5) (hM : M < 120) (h8 : σ.1 20 0 8 = nI N) (h7 : σ.1 20 0 7 = nI M) (hl : l1 < M) (hy : ∀ i, i < N → σ.1 22 0 (l1 * 5 + i) = nI (y l1 i) ∧ y l1 i ≤ 8) (hz : ∀ i, i < N → σ.1 22 0 (M * 5 + i) = nI (z i) ∧ z i ≤ 8) : ∀ k p, p ≤ N → N < k + p → allB (fun i => decide (z i ≤ y l1 i)) p = true → F_Plan_isNeedless_12 n K2 k (nI l1) (nI p) σ = if allB (fun i => decide (z i ≤ y l1 i)) N = true then some 1 else K2 (nI (l1 + 1)) σ := by
  intro k
  induction k with
  | zero => intro p a b; omega
  | succ k ih =>
    intro p a b hp
    rw [F_Plan_isNeedless_12, h8]
    unfold F_Plan_isNeedless_52
    rw [h8, h7]
    by_cases g : p = N
    · subst g
      rw [if_pos (by simp (disch := omega) only [nI_leI]; omega), if_pos rfl, if_pos hp]
    · have hy' := hy p (by omega)
      have hz' := hz p (by omega)
      rw [if_neg (by simp (disch := omega) only [nI_leI]; omega), show (5 : Int32) = nI 5 from rfl, pk_mul, nI_add, pk_mul, nI_add, ald_22 (by omega), ald_22 (by omega), hy'.1, hz'.1]
      simp only [obind, b2_some, bs_eq]
      by_cases g2 : z p ≤ y l1 p
      · rw [if_neg (by simp (disch := omega) only [nI_ltI]; omega), nI_1]
        exact ih (p + 1) (by omega) (by omega) (by show (allB _ p && decide (z p ≤ y l1 p)) = true; rw [hp]; simpa using g2)
      · have h2 : allB (fun i => decide (z i ≤ y l1 i)) (p + 1) = false := by
          show (allB _ p && decide (z p ≤ y l1 p)) = false
          rw [hp]
          simpa using g2
        have h3 := allB_stop h2 (N - (p + 1))
        rw [show p + 1 + (N - (p + 1)) = N by omega] at h3
        rw [if_pos (by simp (disch := omega) only [nI_ltI]; omega), if_neg (fun e => g (nI_inj (by omega) (by omega) e)), nI_1, h3]
        rfl
theorem need_eq {n N M : Nat} {σ : St} {y : Nat → Nat → Nat} {z : Nat → Nat} (hN : N ≤ 5) (hM : M < 120) (h8 : σ.1 20 0 8 = nI N) (h7 : σ.1 20 0 7 = nI M) (hy : ∀ k, k < M → ∀ i, i < N → σ.1 22 0 (k * 5 + i) = nI (y k i) ∧ y k i ≤ 8) (hz : ∀ i, i < N → σ.1 22 0 (M * 5 + i) = nI (z i) ∧ z i ≤ 8) (hn : 200 < n) : F_Plan_isNeedless n σ = some (if anyB (fun k => allB (fun i => decide (z i ≤ y k i)) N) M = true then 1 else 0) := by
  unfold F_Plan_isNeedless
  have key : ∀ k p, p ≤ M → M < k + p → anyB (fun k => allB (fun i => decide (z i ≤ y k i)) N) p = false → F_Plan_isNeedless_2 n k (nI p) σ = some (if anyB (fun k => allB (fun i => decide (z i ≤ y k i)) N) M = true then 1 else 0) := by
    intro k
    induction k with
    | zero => intro p a b; omega
    | succ k ih =>
      intro p a b hp
      rw [F_Plan_isNeedless_2, h7]
      by_cases g : p = M
      · subst g
        rw [if_pos (by simp (disch := omega) only [nI_leI]; omega), hp]
        rfl
      · rw [if_neg (by simp (disch := omega) only [nI_leI]; omega), show (0 : Int32) = nI 0 from rfl, need12 (y := y) (z := z) _ hN hM h8 h7 (by omega) (hy p (by omega)) hz n 0 (by omega) (by omega) rfl]
        by_cases g2 : allB (fun i => decide (z i ≤ y p i)) N = true
        · rw [if_pos g2]
          have h2 : anyB (fun k => allB (fun i => decide (z i ≤ y k i)) N) (p + 1) = true := by
            show (anyB _ p || allB (fun i => decide (z i ≤ y p i)) N) = true
            rw [g2]; simp
          have h3 := anyB_stop h2 (M - (p + 1))
          rw [show p + 1 + (M - (p + 1)) = M by omega] at h3
          rw [if_pos h3]
        · rw [if_neg g2]
          refine ih (p + 1) (by omega) (by omega) ?_
          show (anyB _ p || allB (fun i => decide (z i ≤ y p i)) N) = false
          rw [hp]
          simpa using g2
  exact key n 0 (by omega) (by omega) rfl
theorem all_of {c : Nat → Bool} : ∀ {k : Nat}, allB c k = true → ∀ j, j < k → c j = true
  | 0, _, j, hj => by omega
  | k + 1, h, j, hj => by
    have h' : (allB c k && c k) = true := h
    rw [Bool.and_eq_true] at h'
    by_cases e : j = k
    · rw [e]; exact h'.2
    · exact all_of h'.1 j (by omega)
theorem any_of {c : Nat → Bool} : ∀ {k : Nat}, anyB c k = true → ∃ j, j < k ∧ c j = true
  | 0, h => by simp [anyB] at h
  | k + 1, h => by
    have h' : (anyB c k || c k) = true := h
    rw [Bool.or_eq_true] at h'
    rcases h' with h' | h'
    · obtain ⟨j, a, b⟩ := any_of h'
      exact ⟨j, by omega, b⟩
    · exact ⟨k, by omega, h'⟩
theorem offer_eq {n m : Nat} {V : Vw} {σ : St} (hm : m < 120) (hk : KI V m σ) (hc : CV 4 (setW V (posN (vN V) m) (ordN (vN V) m)) σ) (hn : 200 < n) : ∃ w, F_Plan_offer n 4 (nI m) σ = some w ∧ (∀ g u, ¬ ((20 ≤ g ∧ g ≤ 23) ∧ u = 0) → w.1 g u = σ.1 g u) ∧ w.2 = σ.2 ∧ KI V (m + 1) w := by
  obtain ⟨h8, M, num, most, kp, h7, hy, hs⟩ := hk
  have hN : vN V ≤ 5 := hc.1.1
  obtain ⟨kM, kb, km, kr⟩ := id kp
  unfold F_Plan_offer
  rw [h7, if_pos (by rw [show (120 : Int32) = nI 120 from rfl]; simp (disch := omega) only [nI_ltI]; omega)]
  refine loop_inv (fun k i (_ : Unit) s => F_Plan_offer_12 n 4 k (nI m) (nI i) s) (vN V) (fun _ => ()) (fun i s => (∀ g u, ¬ ((g = 22 ∨ g = 23) ∧ u = 0) → s.1 g u = σ.1 g u) ∧ s.2 = σ.2 ∧ (∀ q, q < M * 5 → s.1 22 0 q = σ.1 22 0 q) ∧ (∀ q, q < i → s.1 22 0 (M * 5 + q) = nI (xv V m q) ∧ s.1 23 0 q = nI (max (most q) (xv V m q))) ∧ ∀ q, i ≤ q → q < vN V → s.1 23 0 q = nI (most q)) (fun w => (∀ g u, ¬ ((20 ≤ g ∧ g ≤ 23) ∧ u = 0) → w.1 g u = σ.1 g u) ∧ w.2 = σ.2 ∧ KI V (m + 1) w) (fun k s is => ?_) (fun k i s hi is => ?_) n 0 σ (by omega) (by omega) ⟨fun _ _ _ => rfl, rfl, fun _ _ => rfl, fun q hq => by omega, fun q _ hq => (hs q hq).1⟩
  · have s8 : s.1 20 0 8 = nI (vN V) := by rw [is.1 20 0 (by omega)]; exact h8
    have s7 : s.1 20 0 7 = nI M := by rw [is.1 20 0 (by omega)]; exact h7
    have hne := need_eq (n := n) (y := fun k => xv V (num k)) (z := xv V m) (σ := s) hN (show M < 120 by omega) s8 s7 (fun k hk i hi => ⟨by rw [is.2.2.1 _ (by omega)]; exact (hy k hk).2 i hi, xv_le _ _ _⟩) (fun i hi => ⟨(is.2.2.2.1 i hi).1, xv_le _ _ _⟩) hn
    have most' : ∀ i, i < vN V → max (most i) (xv V m i) ≤ 8 ∧ ∀ q, q < m + 1 → xv V q i ≤ max (most i) (xv V m i) := fun i hi => by
      have a := (hs i hi).2
      have b := xv_le V m i
      refine ⟨by omega, fun q hq => ?_⟩
      by_cases e : q = m
      · rw [e]; omega
      · have := a.2 q (by omega); omega
    rw [F_Plan_offer_12, s8, if_pos (by simp (disch := omega) only [nI_leI]; omega), hne]
    simp only [obind, b2_some, bs_eq]
    by_cases g : anyB (fun k => allB (fun i => decide (xv V m i ≤ xv V (num k) i)) (vN V)) M = true
    · refine ⟨s, by rw [if_pos g, if_neg one_ne], fun g u a => is.1 g u (by omega), is.2.1, s8, M, num, fun i => max (most i) (xv V m i), ⟨by omega, fun k hk => by have := kb k hk; omega, km, fun q hq => ?_⟩, s7, fun k hk => ⟨by rw [is.1 21 0 (by omega)]; exact (hy k hk).1, fun i hi => by rw [is.2.2.1 _ (by omega)]; exact (hy k hk).2 i hi⟩, fun i hi => ⟨(is.2.2.2.1 i hi).2, most' i hi⟩⟩
      by_cases e : q = m
      · obtain ⟨k, hk, hk2⟩ := any_of g
        refine ⟨k, hk, by have := kb k hk; omega, fun i hi => ?_⟩
        have := all_of hk2 i hi
        rw [e]
        simpa using this
      · obtain ⟨k, a, b, c⟩ := kr q (by omega)
        exact ⟨k, a, b, c⟩
    · refine ⟨si (si s 21 0 M (nI m)) 20 0 7 (nI (M + 1)), ?_, fun g u a => by rw [si_ne (by omega), si_ne (by omega)]; exact is.1 g u (by omega), is.2.1, by rw [si_g, if_neg (by omega), si_ne (by omega)]; exact s8, M + 1, up num M m, fun i => max (most i) (xv V m i), ⟨by omega, fun k hk => ?_, fun k k' h1 h2 => ?_, fun q hq => ?_⟩, by rw [si_g, if_pos (by omega)], fun k hk => ?_, fun i hi => ⟨by rw [si_ne (by omega), si_ne (by omega)]; exact (is.2.2.2.1 i hi).2, most' i hi⟩⟩
      · rw [if_neg g, if_pos rfl, s7, ast_21 (by omega)]
        simp only [obind, b2_some, bs_eq]
        rw [si_ne (by omega), s7, nI_1]
      · unfold up
        by_cases e : k = M
        · rw [if_pos e]; omega
        · rw [if_neg e]; have := kb k (by omega); omega
      · unfold up
        by_cases e : k' = M
        · rw [if_pos e, if_neg (by omega)]; have := kb k (by omega); omega
        · rw [if_neg e, if_neg (by omega)]; exact km k k' h1 (by omega)
      · by_cases e : q = m
        · refine ⟨M, by omega, ?_, fun i _ => ?_⟩
          · unfold up; rw [if_pos rfl]; omega
          · unfold up; rw [if_pos rfl, e]; exact Nat.le_refl _
        · obtain ⟨k, a, b, c⟩ := kr q (by omega)
          refine ⟨k, by omega, ?_, fun i hi => ?_⟩
          · unfold up; rw [if_neg (by omega)]; exact b
          · unfold up; rw [if_neg (by omega)]; exact c i hi
      · unfold up
        rw [si_ne (by omega), si_g, si_ne (by omega), si_ne (by omega)]
        by_cases e : k = M
        · rw [if_pos (by omega), if_pos e]
          exact ⟨rfl, fun i hi => by rw [e]; exact (is.2.2.2.1 i hi).1⟩
        · rw [if_neg (by omega), if_neg e, is.1 21 0 (by omega)]
          exact ⟨(hy k (by omega)).1, fun i hi => by rw [is.2.2.1 _ (by omega)]; exact (hy k (by omega)).2 i hi⟩
  · have hs' : CV 4 (setW V (posN (vN V) m) (ordN (vN V) m)) s := hc.cg (fun g a b => is.1 g 4 (by omega))
    have hx : F_Camp_hoursSlept n 4 (nI i) s = some (nI (xv V m i)) := cv_slept hs' hi (by omega)
    have a := (hs i hi).2
    have b := xv_le V m i
    refine ⟨si (si s 22 0 (M * 5 + i) (nI (xv V m i))) 23 0 i (nI (max (most i) (xv V m i))), ?_, fun g u z => by rw [si_ne (by omega), si_ne (by omega)]; exact is.1 g u z, is.2.1, fun q hq => by rw [si_ne (by omega), si_g, if_neg (by omega)]; exact is.2.2.1 q hq, fun q hq => ?_, fun q h1 h2 => by rw [si_g, if_neg (by omega), si_ne (by omega)]; exact is.2.2.2.2 q (by omega) h2⟩
    · rw [F_Plan_offer_12, is.1 20 0 (by omega), h8, if_neg (by simp (disch := omega) only [nI_leI]; omega), hx]
      simp only [obind, b2_some, bs_eq]
      rw [h7, show (5 : Int32) = nI 5 from rfl, pk_mul, nI_add, ast_22 (by omega)]
      simp only [obind, b2_some, bs_eq]
      rw [ald_23 (by omega), si_ne (by omega), is.2.2.2.2 i (by omega) hi]
      simp only [obind, b2_some, bs_eq]
      rw [mmax_N a.1 b, ast_23 (by omega)]
      simp only [obind, b2_some, bs_eq, nI_1]
    · rw [si_ne (by omega), si_g, si_g]
      by_cases e : q = i
      · rw [if_pos (by omega), if_pos (by omega), e]
        exact ⟨rfl, rfl⟩
      · rw [if_neg (by omega), if_neg (by omega), si_ne (by omega)]
        exact is.2.2.2.1 q (by omega)
