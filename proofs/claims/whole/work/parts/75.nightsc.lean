theorem choose_eq {n N M T : Nat} {y : Nat → Nat → Nat} {most : Nat → Nat} {σ : St} (hN : N ≤ 5) (hM : M ≤ 120) (hT : T ≤ 3) (hT1 : 1 ≤ T) (hm : ∀ i, i < N → most i ≤ 8) (hy : ∀ k, k < M → ∀ i, i < N → y k i ≤ most i) (sd : SD N M y most σ) (hn : 2000 ≤ n) : ∃ s, F_Plan_choose n (nI T) σ = some (s.1 20 0 6, s) ∧ (∀ g u, ¬ ((g = 20 ∨ g = 24 ∨ g = 25 ∨ g = 26) ∧ u = 0) → s.1 g u = σ.1 g u) ∧ s.2 = σ.2 ∧ CB T N M y 1728000 s := by
  unfold F_Plan_choose
  simp only [obind, b2_some, bs_eq]
  rw [fill2_eq (g := 24) (t := 0) (show 20 < 1000 by decide) (by omega)]
  simp only [obind, b2_some, bs_eq]
  have em : mmin (nI T) 3 = nI T := by
    unfold mmin
    rw [if_neg]
    rw [show (3 : Int32) = nI 3 from rfl]
    simp (disch := omega) only [nI_ltI]
    omega
  rw [em]
  generalize hX : (sa (si σ 20 0 6 (-1)) 24 0 (fun j => if j < lenOf 24 0 then 0 else (si σ 20 0 6 (-1)).1 24 0 j)) = X
  have x20 : ∀ j, j ≠ 6 → X.1 20 0 j = σ.1 20 0 j := fun j a => by rw [← hX, sa_ne (by omega), si_g, if_neg (fun z => a z.2)]
  have xo : ∀ g u, ¬ ((g = 20 ∨ g = 24) ∧ u = 0) → X.1 g u = σ.1 g u := fun g u a => by rw [← hX, sa_ne (by omega), si_ne (by omega)]
  have x6 : X.1 20 0 6 = -1 := by rw [← hX, sa_ne (by omega), si_g, if_pos (by omega)]
  have x24 : ∀ q, q < 20 → X.1 24 0 q = 0 := fun q hq => by rw [← hX, sa_at]; exact if_pos hq
  obtain ⟨s, a, b, c⟩ := dfs (n := n) (T := T) (y := y) (most := most) hN hM hT hT1 hm hy (by omega) T 4 0 (fun _ => 0) 0 X (by omega) (by omega) ⟨fun j hj => by omega, fun j hj => by omega⟩ rfl ⟨by rw [x20 8 (by omega)]; exact sd.1, by rw [x20 7 (by omega)]; exact sd.2.1, fun k hk i hi => by rw [xo 22 0 (by omega)]; exact sd.2.2.1 k hk i hi, fun i hi => by rw [xo 23 0 (by omega)]; exact sd.2.2.2 i hi⟩ (fun j hj => by omega) (fun i hi => x24 _ (by omega)) ⟨0, 0, 0, Or.inl ⟨x6, fun _ _ _ _ => by show 0 ≤ _; omega⟩, fun z => absurd x6 z⟩
  refine ⟨s, ?_, fun g u z => by rw [b.1 g u z, xo g u (by omega)], by rw [b.2.1, ← hX, sa_2, si_2], ?_⟩
  · rw [show (0 : Int32) = nI 0 from rfl, a]
    rfl
  · exact c
theorem nightsC {n T r : Nat} {V : Vw} {σ : St} (hc : CV 0 V σ) (hl : σ.1 1 0 0 = nI 40) (hr : r < 6) (h0 : 0 < vN V) (hT : T ≤ 3) (hT1 : 1 ≤ T) (hn : 2000 ≤ n) : ∃ w bv M num ka kb kc, F_Tent_nights n (nI T) (nI r) σ = some (bv, w) ∧ KP (vN V) (fact (vN V)) (xv V) M num ∧ 0 < M ∧ BI T (vN V) M (fun k => xv V (num k)) 1728000 bv ka kb kc ∧ (∀ g u, keepG g u ∨ g = 0 ∨ 30 ≤ g → ¬ ((g = 2 ∨ g = 3) ∧ u = 0) → w.1 g u = σ.1 g u) ∧ w.2 = σ.2 ∧ (∀ q, w.1 2 0 q = if q = r then nI T else σ.1 2 0 q) ∧ (∀ q, ¬ (40 * r ≤ q ∧ q < 40 * r + 40) → w.1 3 0 q = σ.1 3 0 q) ∧ ∀ p, p < T → w.1 3 0 (40 * r + p) = nI (if p = 0 then num ka else if p = 1 then num kb else num kc) := by
  have hN := hc.1.1
  have h1 := hc.2.1
  have hn' : 10 < n := by omega
  have hf := fact_le (vN V) hN
  have hK : CV 4 V (tkP 4 0 σ) := hc.take (by decide)
  unfold F_Tent_nights
  rw [if_neg (by rw [show (1 : Int32) = nI 1 from rfl]; simp (disch := omega) only [nI_ltI]; omega), if_pos (by rw [show (3 : Int32) = nI 3 from rfl]; simp (disch := omega) only [nI_leI]; omega), rtf_ok hr h1 hN (by omega), take_eq]
  simp only [obind, b2_some, bs_eq, if_true]
  rw [tkP_ne (g := 4) (u := 0) (by omega), h1]
  unfold F_Plan_begin
  rw [min5 hN]
  simp only [obind, b2_some, bs_eq]
  rw [fill2_eq (g := 23) (t := 0) (show 5 < 1000 by decide) (by omega)]
  simp only [obind, b2_some, bs_eq]
  generalize hX : (sa (si (si (tkP 4 0 σ) 20 0 8 (nI (vN V))) 20 0 7 0) 23 0 (fun j => if j < lenOf 23 0 then 0 else (si (si (tkP 4 0 σ) 20 0 8 (nI (vN V))) 20 0 7 0).1 23 0 j)) = X
  have xo : ∀ g u, ¬ ((g = 20 ∨ g = 23) ∧ u = 0) → X.1 g u = (tkP 4 0 σ).1 g u := fun g u a => by rw [← hX, sa_ne (by omega), si_ne (by omega), si_ne (by omega)]
  have sX : SC σ X := (SC.rf σ).tk.tr ⟨fun g u a => xo g u (by unfold keepG at a; omega), by rw [← hX, sa_2, si_2, si_2]⟩
  have kX : KI V 0 X := by
    refine ⟨by rw [← hX, sa_ne (by omega), si_g, if_neg (by omega), si_g, if_pos (by omega)], 0, fun _ => 0, fun _ => 0, ⟨Nat.le_refl _, fun k hk => by omega, fun k k' _ hk => by omega, fun q hq => by omega⟩, by rw [← hX, sa_ne (by omega), si_g, if_pos (by omega)]; rfl, fun k hk => by omega, fun i hi => ⟨?_, Nat.zero_le _, fun q hq => by omega⟩⟩
    rw [← hX, sa_at]
    exact if_pos (show i < 5 by omega)
  rw [xo 4 0 (by omega), tkP_ne (g := 4) (u := 0) (by omega), h1]
  obtain ⟨B0, b1, b2, b3, b4⟩ := begin_eq (n := n) (σ := X) hN hn'
  rw [b1]
  simp only [obind, b2_some, bs_eq]
  have key : ∀ k m s, m < fact (vN V) → fact (vN V) < k + m → SC σ s → (∀ g, 4 ≤ g → g ≤ 8 → s.1 g 4 = (tkP 4 0 σ).1 g 4) → OW (vN V) (ordN (vN V) m) s → KI V m s → ∃ s', F_Tent_nights_66 n k (nI T) (nI r) (nI m) s = F_Tent_nights_119 n (nI T) (nI r) s' ∧ SC σ s' ∧ KI V (fact (vN V)) s' := by
    intro k
    induction k with
    | zero => intro m s a b; omega
    | succ k ih =>
      intro m s hm hk hs h48 ho ki
      obtain ⟨w, w1, w2, w3, w4, w5⟩ := lay_by (n := n) (t := 4) (g1 := 19) (u1 := 0) (σ := s) hN (by rw [h48 4 (by omega) (by omega)]; exact hK.2.1) (by omega) rfl ho.2 (ordN_pw hN hm) hn'
      have hw : CV 4 (setW V (posN (vN V) m) (ordN (vN V) m)) w := hK.setW (ordN_pw hN hm) (fun g a b => by rw [w2 g 4 (by omega)]; exact h48 g a b) w4 w5
      obtain ⟨z, z1, z2, z3, z4⟩ := offer_eq (n := n) (m := m) (σ := w) (by omega) (ki.cg (fun g a b => w2 g 0 (by omega))) hw (by omega)
      obtain ⟨q, q1, q2, q3⟩ := adv_eq (n := n) (σ := z) hN h0 hm ⟨by rw [z2 18 0 (by omega), w2 18 0 (by omega)]; exact ho.1, fun p hp => by rw [z2 19 0 (by omega), w2 19 0 (by omega)]; exact ho.2 p hp⟩ hn'
      have sq : SC σ q := hs.tr ⟨fun g u a => by rw [q3.1 g u (by unfold keepG at a; omega), z2 g u (by unfold keepG at a; omega), w2 g u (by unfold keepG at a; omega)], by rw [q3.2, z3, w3]⟩
      have kq : KI V (m + 1) q := z4.cg (fun g a b => q3.1 g 0 (by omega))
      rw [F_Tent_nights_66, if_neg (by rw [show (120 : Int32) = nI 120 from rfl]; simp (disch := omega) only [nI_leI]; omega), w1]
      simp only [obind, b2_some, bs_eq]
      rw [z1]
      simp only [obind, b2_some, bs_eq]
      rw [q1]
      simp only [obind, b2_some, bs_eq]
      by_cases g : m + 1 < fact (vN V)
      · rw [if_pos g, if_neg one_ne, nI_1]
        rw [if_pos g] at q2
        exact ih (m + 1) q g (by omega) sq (fun g a b => by rw [q3.1 g 4 (by omega), z2 g 4 (by omega), w2 g 4 (by omega)]; exact h48 g a b) q2 kq
      · rw [if_neg g, if_pos rfl]
        rw [show m + 1 = fact (vN V) by omega] at kq
        exact ⟨q, rfl, sq, kq⟩
  obtain ⟨s', e1, i1, k1⟩ := key n 0 B0 (by omega) (by omega) (sX.tr ⟨fun g u a => b2 g u (by unfold keepG at a; omega), b3⟩) (fun g a b => by rw [b2 g 4 (by omega), xo g 4 (by omega)]) b4 (kX.cg (fun g a b => b2 g 0 (by omega)))
  obtain ⟨k8, M, num, most, kp, k7, ky, ks⟩ := k1
  have hM : M ≤ 120 := by have := kp.1; omega
  have hM0 : 0 < M := by
    obtain ⟨k, hk, -⟩ := kp.2.2.2 0 (by omega)
    omega
  have hnum : ∀ k, k < M → num k < 120 := fun k hk => by have := kp.2.1 k hk; omega
  obtain ⟨c, c1, c2, c3, ta, tb, tc, cb, ct⟩ := choose_eq (n := n) (N := vN V) (M := M) (T := T) (y := fun k => xv V (num k)) (most := most) (σ := s') hN hM hT hT1 (fun i hi => (ks i hi).2.1) (fun k hk i hi => (ks i hi).2.2 _ (kp.2.1 k hk)) ⟨k8, k7, fun k hk i hi => (ky k hk).2 i hi, fun i hi => (ks i hi).1⟩ hn
  have hbv : c.1 20 0 6 ≠ -1 := by
    rcases cb with ⟨-, z⟩ | ⟨v, v1, v2, -⟩
    · have := z 0 0 0 (cd_0 hM0)
      unfold rk at this
      omega
    · rw [v2]; exact nI_m1 v (by omega)
  obtain ⟨t1, t2, t3⟩ := ct hbv
  have hcd : cd T M ta tb tc := by
    rcases cb with ⟨-, z⟩ | ⟨v, v1, v2, v3, -⟩
    · have := z 0 0 0 (cd_0 hM0)
      unfold rk at this
      omega
    · exact v3
  obtain ⟨w, w1, w2, w3, w4, w5, w6⟩ : ∃ w, F_Plan_writeTo n 0 (nI r) (nI T) c = some w ∧ (∀ g u, ¬ ((g = 2 ∨ g = 3) ∧ u = 0) → w.1 g u = c.1 g u) ∧ w.2 = c.2 ∧ (∀ q, w.1 2 0 q = if q = r then nI T else c.1 2 0 q) ∧ (∀ q, ¬ (40 * r ≤ q ∧ q < 40 * r + 40) → w.1 3 0 q = c.1 3 0 q) ∧ ∀ p, p < T → w.1 3 0 (40 * r + p) = nI (if p = 0 then num ta else if p = 1 then num tb else num tc) := by
    have cl : c.1 1 0 0 = nI 40 := by rw [c2 1 0 (by omega), i1.1 1 0 (by unfold keepG; omega)]; exact hl
    unfold F_Plan_writeTo
    rw [make_eq (t := 0) (lim := 40) hr cl (by omega) (by decide) (by omega)]
    simp only [obind, b2_some, bs_eq]
    refine loop_inv (fun k i (_ : Unit) s => F_Plan_writeTo_10 n 0 k (nI r) (nI T) (nI i) s) T (fun _ => ()) (fun i s => (∀ g u, ¬ ((g = 2 ∨ g = 3) ∧ u = 0) → s.1 g u = c.1 g u) ∧ s.2 = c.2 ∧ (∀ q, s.1 2 0 q = if q = r then nI T else c.1 2 0 q) ∧ (∀ q, ¬ (40 * r ≤ q ∧ q < 40 * r + 40) → s.1 3 0 q = c.1 3 0 q) ∧ ∀ p, p < i → s.1 3 0 (40 * r + p) = nI (if p = 0 then num ta else if p = 1 then num tb else num tc)) (fun w => (∀ g u, ¬ ((g = 2 ∨ g = 3) ∧ u = 0) → w.1 g u = c.1 g u) ∧ w.2 = c.2 ∧ (∀ q, w.1 2 0 q = if q = r then nI T else c.1 2 0 q) ∧ (∀ q, ¬ (40 * r ≤ q ∧ q < 40 * r + 40) → w.1 3 0 q = c.1 3 0 q) ∧ ∀ p, p < T → w.1 3 0 (40 * r + p) = nI (if p = 0 then num ta else if p = 1 then num tb else num tc)) (fun k s hs => ?_) (fun k i s hi hs => ?_) n 0 _ (by omega) (by omega) ⟨fun g u a => by rw [sa_ne (by omega), si_ne (by omega)], rfl, fun q => ?_, fun q hq => ?_, fun p hp => by omega⟩
    · refine ⟨s, ?_, hs⟩
      rw [F_Plan_writeTo_10, if_pos (by simp (disch := omega) only [nI_leI]; omega)]
    · obtain ⟨kk, hkk, e26, ekk⟩ : ∃ kk, kk < M ∧ c.1 26 0 i = nI kk ∧ num kk = (if i = 0 then num ta else if i = 1 then num tb else num tc) := by
        have : i = 0 ∨ i = 1 ∨ i = 2 := by omega
        rcases this with z | z | z <;> subst z
        · exact ⟨ta, hcd.1, t1, rfl⟩
        · exact ⟨tb, (hcd.2.1 (by omega)).2, t2 (by omega), rfl⟩
        · exact ⟨tc, (hcd.2.2.2.1 (by omega)).2, t3 (by omega), rfl⟩
      refine ⟨si s 3 0 (40 * r + i) (nI (num kk)), ?_, fun g u a => by rw [si_ne (by omega)]; exact hs.1 g u a, hs.2.1, fun q => by rw [si_ne (by omega)]; exact hs.2.2.1 q, fun q hq => by rw [si_g, if_neg (by omega)]; exact hs.2.2.2.1 q hq, fun p hp => ?_⟩
      · rw [F_Plan_writeTo_10, if_neg (by simp (disch := omega) only [nI_leI]; omega), if_neg (by rw [show (3 : Int32) = nI 3 from rfl]; simp (disch := omega) only [nI_leI]; omega), ald_26 (by omega), hs.1 26 0 (by omega), e26]
        simp only [obind, b2_some, bs_eq]
        rw [ald_21 (by omega), hs.1 21 0 (by omega), c2 21 0 (by omega), (ky kk hkk).1]
        simp only [obind, b2_some, bs_eq]
        rw [set_in (t := 0) (lim := 40) (z := T) hr (by rw [hs.1 1 0 (by omega)]; exact cl) (by rw [hs.2.2.1, if_pos rfl]) (by omega) (by decide) hi]
        simp only [obind, b2_some, bs_eq, nI_1]
      · rw [si_g]
        by_cases e : p = i
        · rw [if_pos (by omega), e, ekk]
        · rw [if_neg (by omega)]
          exact hs.2.2.2.2 p (by omega)
    · rw [sa_ne (by omega), si_g]
      by_cases e : q = r
      · rw [if_pos (by omega), if_pos e]
      · rw [if_neg (by omega), if_neg e]
    · rw [sa_at, if_neg (by omega)]
  refine ⟨w, c.1 20 0 6, M, num, ta, tb, tc, ?_, kp, hM0, cb, fun g u a b => by rw [w2 g u b, c2 g u (by unfold keepG at a; omega)]; exact i1.1 g u a, by rw [w3, c3]; exact i1.2, fun q => by rw [w4, c2 2 0 (by omega), i1.1 2 0 (by unfold keepG; omega)], fun q hq => by rw [w5 q hq, c2 3 0 (by omega), i1.1 3 0 (by unfold keepG; omega)], w6⟩
  rw [show (0 : Int32) = nI 0 from rfl, e1]
  unfold F_Tent_nights_119
  rw [c1]
  simp only [obind, b2_some, bs_eq]
  rw [w1]
  rfl
