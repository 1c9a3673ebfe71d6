-- READING: the class
theorem b_ne {b : Nat → Int32} {z p : Nat} (hb : ∀ j, j < z → isB (b j)) (h : p < z) : ¬ b p = 1000 := fun e => by
  have := hb p h
  unfold isB at this
  rw [e, show (1000 : Int32).toInt = 1000 by decide] at this
  omega
theorem sg_end {b : Nat → Int32} {z p : Nat} (hb : ∀ j, j < z → isB (b j)) : sg b z p = 1000 ↔ z ≤ p := by
  unfold sg
  by_cases g : p < z
  · rw [if_pos g]
    exact ⟨fun e => absurd e (b_ne hb g), fun e => by omega⟩
  · rw [if_neg g]
    exact ⟨fun _ => by omega, fun _ => rfl⟩
theorem kd_sg (b : Nat → Int32) (z p : Nat) : kdOf (sg b z p) = kdB b z p := by
  unfold sg kdB
  by_cases g : p < z
  · rw [if_pos g, if_pos g]
  · rw [if_neg g, if_neg g]
    decide
theorem takeC {n r z : Nat} {σ : St} (hn : 2000 ≤ n) (hr : r < 4) (hz : z ≤ 60) (h1 : σ.1 1 1 0 = nI 60) (h2 : σ.1 2 1 r = nI z) : ∃ s, F_Reader_take n 1 (nI r) σ = some s ∧ RS (fun j => σ.1 3 1 (60 * r + j)) z 0 s ∧ RF σ s := by
  unfold F_Reader_take
  rw [sizeOf_in (t := 1) (show r < lenOf 2 1 from hr), h2]
  simp only [obind, b2_some, bs_eq]
  rw [show (60 : Int32) = nI 60 from rfl, mmin_N (by omega) (by omega), show (if 60 < z then 60 else z) = z from if_neg (by omega)]
  have key := fill_gen (fun k i s => F_Reader_take_21 n 1 k (nI r) (nI i) s) some (fun s => s.1 16 0 2 = nI z ∧ s.1 1 1 = σ.1 1 1 ∧ s.1 2 1 = σ.1 2 1 ∧ s.1 3 1 = σ.1 3 1) 17 0 0 z (fun i => σ.1 3 1 (60 * r + i)) (fun k s hs => by
    rw [F_Reader_take_21, hs.1, if_pos (by simp (disch := omega) only [nI_leI]; omega)]) (fun i s hi hs => by
    rw [si_ne (by omega), si_ne (by omega), si_ne (by omega), si_ne (by omega)]; exact hs) (fun k i s hi hs => by
    rw [F_Reader_take_21, hs.1, if_neg (by simp (disch := omega) only [nI_leI]; omega), get_in (t := 1) (lim := 60) (z := z) (show r < lenOf 2 1 from hr) (by rw [hs.2.1]; exact h1) (by rw [hs.2.2.1]; exact h2) hz (show 60 * 4 ≤ 240 by decide) hi]
    simp only [obind, b2_some, bs_eq]
    rw [ast_17 (by omega)]
    simp only [obind, b2_some, bs_eq]
    rw [nI_1, hs.2.2.2, Nat.zero_add]) n 0 (si (si σ 16 0 2 (nI z)) 16 0 3 0) (by omega) (by omega) ⟨by rw [si_g, if_neg (by omega), si_g, if_pos (by omega)], by rw [si_ne (by omega), si_ne (by omega)], by rw [si_ne (by omega), si_ne (by omega)], by rw [si_ne (by omega), si_ne (by omega)]⟩
  refine ⟨_, key, ⟨?_, ?_, fun j hj => ?_⟩, fun g u a => ?_, rfl⟩
  · rw [sa_ne (by omega), si_g, if_neg (by omega), si_g, if_pos (by omega)]
  · rw [sa_ne (by omega), si_g, if_pos (by omega)]
    rfl
  · rw [sa_at, if_pos (by omega)]
    rfl
  · rw [sa_ne (by omega), si_ne (by omega), si_ne (by omega)]
def bg (t : Nat) (s : St) : St := si (si (si (si (si (si (si s 4 t 10 0) 4 t 11 0) 4 t 12 0) 4 t 13 0) 4 t 14 0) 4 t 15 0) 4 t 16 0
theorem cbegin_eq (t : Nat) (s : St) : F_Camp_begin t s = some (bg t s) := rfl
theorem bg_ne {t : Nat} {s : St} {g u : Nat} (h : ¬ (g = 4 ∧ u = t)) : (bg t s).1 g u = s.1 g u := by
  unfold bg
  rw [si_ne h, si_ne h, si_ne h, si_ne h, si_ne h, si_ne h, si_ne h]
theorem bg_at {t q : Nat} {s : St} (h1 : 10 ≤ q) (h2 : q ≤ 16) : (bg t s).1 4 t q = 0 := by
  unfold bg
  have : q = 10 ∨ q = 11 ∨ q = 12 ∨ q = 13 ∨ q = 14 ∨ q = 15 ∨ q = 16 := by omega
  rcases this with r | r | r | r | r | r | r <;> subst r <;> simp only [si_g, true_and, and_self] <;> rfl
theorem bg_C5 {b : Nat → Int32} {z p0 : Nat} {s : St} : C5 b z p0 0 (bg 5 s) := by
  refine ⟨fun j => ?_, fun j hj => by omega⟩
  by_cases g : j = 10
  · rw [if_pos g, g, bg_at (by omega) (by omega)]
    rfl
  · rw [if_neg g]
    by_cases g1 : 11 ≤ j ∧ j ≤ 16
    · rw [if_pos g1, bg_at (by omega) (by omega)]
    · rw [if_neg g1]
section RC
variable {n z p p0 q : Nat} {b : Nat → Int32} {s : St}
theorem coldC (hz : z ≤ 60) (hb : ∀ j, j < z → isB (b j)) : ∀ k h s, h ≤ 8 → 8 < k + h → p + h ≤ z → runF b z p h = h → RS b z (p + h) s → (∀ j, j < h → s.1 5 5 j = b (p + j) - 48) → ∃ w, F_Reader_readCold_27 n k (nI h) s = some (if runF b z p 8 = 8 then 1 else 0, w) ∧ RS b z (p + runF b z p 8) w ∧ p + runF b z p 8 ≤ z ∧ (∀ j, j < runF b z p 8 → w.1 5 5 j = b (p + j) - 48) ∧ (∀ g u, ¬ (g = 16 ∧ u = 0) → ¬ (g = 5 ∧ u = 5) → w.1 g u = s.1 g u) ∧ w.2 = s.2 := by
  intro k
  induction k with
  | zero => intro h s a c; omega
  | succ k ih =>
    intro h s h8 hk hp hr hs hc
    rw [F_Reader_readCold_27]
    by_cases e : h = 8
    · subst e
      rw [if_pos (by decide), hr, if_pos rfl]
      exact ⟨s, rfl, hs, hp, hc, fun _ _ _ _ => rfl, rfl⟩
    · rw [if_neg (by rw [show (8 : Int32) = nI 8 from rfl]; simp (disch := omega) only [nI_leI]; omega), show (9 : Int32) = nI 9 from rfl, figC hz hb hp (by omega) hs]
      by_cases g : okf b z 9 (p + h) = true
      · have hl := okf_lt g
        rw [if_pos g]
        simp only [obind, b2_some, bs_eq]
        rw [if_neg (fig_val hb g (by omega)).1, ast_5 (by omega)]
        simp only [obind, b2_some, bs_eq]
        rw [nI_1]
        have hr1 : runF b z p (h + 1) = h + 1 := by
          show (if runF b z p h = h ∧ okf b z 9 (p + h) = true then h + 1 else runF b z p h) = h + 1
          rw [if_pos ⟨hr, g⟩]
        obtain ⟨w, e1, e2, e3, e4, e5, e6⟩ := ih (h + 1) (si (si s 16 0 3 (nI (p + h + 1))) 5 5 h (b (p + h) - 48)) (by omega) (by omega) (by omega) hr1 ((RS.at (q := p + h + 1) hs).cg (si_ne (by omega)) (si_ne (by omega))) (fun j hj => by
          rw [si_g]
          by_cases ej : j = h
          · rw [if_pos (by omega), ej]
          · rw [if_neg (by omega), si_ne (by omega)]
            exact hc j (by omega))
        exact ⟨w, e1, e2, e3, e4, fun g u a c => by rw [e5 g u a c, si_ne c, si_ne a], e6⟩
      · rw [if_neg g]
        simp only [obind, b2_some, bs_eq, if_true]
        have hr1 : runF b z p 8 = h := by
          have := runF_stop hr g (7 - h)
          rw [show h + 1 + (7 - h) = 8 by omega] at this
          exact this
        rw [hr1, if_neg e]
        exact ⟨s, rfl, hs, hp, hc, fun _ _ _ _ => rfl, rfl⟩
/-- the cold's figures were read to q -/
def cdB (b : Nat → Int32) (z : Nat) : Bool := decide (skp b z 0 < z) && (decide (b (skp b z 0) = 99) && decide (runF b z (skp b z 0 + 1) 8 = 8))
def cdP (b : Nat → Int32) (z : Nat) : Nat := if skp b z 0 < z ∧ b (skp b z 0) = 99 then skp b z 0 + 1 + runF b z (skp b z 0 + 1) 8 else skp b z 0
theorem cold_eq (hn : 2000 ≤ n) (hz : z ≤ 60) (hb : ∀ j, j < z → isB (b j)) (h : RS b z 0 s) : ∃ w, F_Reader_readCold n s = some (if cdB b z = true then 1 else 0, w) ∧ RS b z (cdP b z) w ∧ cdP b z ≤ z ∧ (cdB b z = true → cdP b z = skp b z 0 + 9 ∧ ∀ j, j < 8 → w.1 5 5 j = b (skp b z 0 + 1 + j) - 48) ∧ (∀ g u, ¬ (g = 16 ∧ u = 0) → ¬ (g = 5 ∧ u = 5) → w.1 g u = s.1 g u) ∧ w.2 = s.2 := by
  have hle := (skp_le (b := b) (z := z) (p := 0) (by omega)).2
  unfold F_Reader_readCold F_Reader_skipBlanks
  rw [skipC hz n 0 s (by omega) (by omega) h]
  simp only [obind, b2_some, bs_eq]
  have h1 : RS b z (skp b z 0) (si s 16 0 3 (nI (skp b z 0))) := h.at
  rw [sign_eq hz hle h1, h1.2.1, nI_1]
  simp only [obind, b2_some, bs_eq]
  unfold cdB cdP
  by_cases g : skp b z 0 < z ∧ b (skp b z 0) = 99
  · have e : sg b z (skp b z 0) = 99 := by unfold sg; rw [if_pos g.1]; exact g.2
    rw [if_pos e, si_si, if_pos g]
    obtain ⟨w, e1, e2, e3, e4, e5, e6⟩ := coldC (n := n) (p := skp b z 0 + 1) hz hb n 0 (si s 16 0 3 (nI (skp b z 0 + 1))) (by omega) (by omega) (by omega) rfl h.at (fun j hj => by omega)
    have x1 : decide (skp b z 0 < z) = true := by rw [decide_eq_true_eq]; exact g.1
    have x2 : decide (b (skp b z 0) = 99) = true := by rw [decide_eq_true_eq]; exact g.2
    rw [x1, x2]
    simp only [Bool.true_and, decide_eq_true_eq]
    refine ⟨w, e1, e2, e3, fun e8 => ?_, fun g u a c => by rw [e5 g u a c, si_ne a], e6⟩
    rw [e8] at e4 ⊢
    exact ⟨by omega, e4⟩
  · have e : ¬ sg b z (skp b z 0) = 99 := by
      unfold sg
      by_cases g1 : skp b z 0 < z
      · rw [if_pos g1]; exact fun e => g ⟨g1, e⟩
      · rw [if_neg g1]; decide
    have nb : ¬ (decide (skp b z 0 < z) && (decide (b (skp b z 0) = 99) && decide (runF b z (skp b z 0 + 1) 8 = 8))) = true := by
      simp only [Bool.and_eq_true, decide_eq_true_eq]
      exact fun e => g ⟨e.1, e.2.1⟩
    rw [if_neg e, if_neg g, if_neg nb]
    exact ⟨_, rfl, h1, hle, fun e => absurd e nb, fun g u a c => si_ne a, rfl⟩
theorem sleepC (hz : z ≤ 60) (hb : ∀ j, j < z → isB (b j)) (hq : q < 5) (hp : spP b z p0 q = p) (hpz : p ≤ z) (h : RS b z p s) (hc : C5 b z p0 q s) : ∃ w, F_Reader_readSleeper s = some (if okS b z p = true then 1 else 0, w) ∧ RS b z (if okS b z p = true then p + 3 else fpS b z p) w ∧ C5 b z p0 (if okS b z p = true then q + 1 else q) w ∧ (∀ g u, ¬ (g = 16 ∧ u = 0) → ¬ ((g = 4 ∨ (6 ≤ g ∧ g ≤ 12)) ∧ u = 5) → w.1 g u = s.1 g u) ∧ w.2 = s.2 := by
  unfold F_Reader_readSleeper
  rw [sign_eq hz hpz h]
  simp only [obind, b2_some, bs_eq]
  rw [kdOf_eq, kd_sg, h.2.1, nI_1]
  simp only [obind, b2_some, bs_eq]
  unfold okS fpS
  by_cases g : kdB b z p = -9
  · have x1 : decide (kdB b z p ≠ -9) = false := by rw [decide_eq_false_iff_not]; exact fun e => e g
    rw [x1, if_pos g, if_pos g]
    simp only [Bool.false_and, Bool.false_eq_true, if_false]
    exact ⟨s, rfl, h, hc, fun _ _ _ _ => rfl, rfl⟩
  · have x1 : decide (kdB b z p ≠ -9) = true := by rw [decide_eq_true_eq]; exact g
    have l0 := kdB_lt g
    rw [x1, if_neg g, if_neg g]
    simp only [Bool.true_and]
    have h1 : RS b z (p + 1) (si s 16 0 3 (nI (p + 1))) := h.at
    rw [show (5 : Int32) = nI 5 from rfl, figC hz hb (by omega) (by omega) h1]
    have c1 : C5 b z p0 q (si s 16 0 3 (nI (p + 1))) := hc.cg (fun g _ _ _ => si_ne (by omega))
    by_cases g1 : okf b z 5 (p + 1) = true
    · have l1 := okf_lt g1
      rw [if_pos g1, if_pos g1, g1]
      simp only [obind, b2_some, bs_eq, Bool.true_and, si_si]
      rw [if_neg (fig_val hb g1 (by omega)).1]
      have h2 : RS b z (p + 1 + 1) (si s 16 0 3 (nI (p + 1 + 1))) := h.at
      have c2 : C5 b z p0 q (si s 16 0 3 (nI (p + 1 + 1))) := hc.cg (fun g _ _ _ => si_ne (by omega))
      rw [show (9 : Int32) = nI 9 from rfl, figC hz hb (by omega) (by omega) h2]
      by_cases g2 : okf b z 9 (p + 1 + 1) = true
      · have g2' : okf b z 9 (p + 2) = true := g2
        rw [if_pos g2, if_pos g2', if_pos g2', if_pos g2']
        simp only [obind, b2_some, bs_eq, si_si]
        rw [if_neg (fig_val hb g2 (by omega)).1]
        have h3 : RS b z (p + 3) (si s 16 0 3 (nI (p + 1 + 1 + 1))) := h.at
        have c3 : C5 b z p0 q (si s 16 0 3 (nI (p + 1 + 1 + 1))) := hc.cg (fun g _ _ _ => si_ne (by omega))
        obtain ⟨w, e1, e2, e3, e4⟩ := addC (v1 := kdB b z p) (v2 := b (p + 1) - 48) (v3 := b (p + 1 + 1) - 48) hq c3 (by rw [hp]) (by rw [hp]) (by rw [hp])
        rw [e1]
        exact ⟨w, rfl, h3.cg (e2 16 0 (by omega)) (e2 17 0 (by omega)), e4, fun g u a c => by rw [e2 g u c, si_ne a], e3⟩
      · have g2' : ¬ okf b z 9 (p + 2) = true := g2
        rw [if_neg g2, if_neg g2', if_neg g2', if_neg g2']
        simp only [obind, b2_some, bs_eq, if_true]
        exact ⟨_, rfl, h2, c2, fun g u a c => si_ne a, rfl⟩
    · have g1' : okf b z 5 (p + 1) = false := by
        cases x : okf b z 5 (p + 1)
        · rfl
        · exact absurd x g1
      rw [if_neg g1, if_neg g1, g1']
      simp only [obind, b2_some, bs_eq, Bool.false_and, Bool.false_eq_true, if_false, if_true]
      exact ⟨_, rfl, h1, c1, fun g u a c => si_ne a, rfl⟩
theorem loopC {pp : Nat} (hn : 2000 ≤ n) (hz : z ≤ 60) (hb : ∀ j, j < z → isB (b j)) : ∀ k q pp s, q ≤ 5 → 5 < k + q → pp ≤ z → spP b z p0 q = skp b z pp → RS b z pp s → C5 b z p0 q s → ∃ w, F_Reader_read_27 n 1 k (nI q) s = some ((outR b z p0 (5 - q) q).1, w) ∧ C5 b z p0 (outR b z p0 (5 - q) q).2 w ∧ (∀ g u, ¬ (g = 16 ∧ u = 0) → ¬ ((g = 4 ∨ (6 ≤ g ∧ g ≤ 12)) ∧ u = 5) → w.1 g u = s.1 g u) ∧ w.2 = s.2 := by
  intro k
  induction k with
  | zero => intro q pp s a c; omega
  | succ k ih =>
    intro q pp s hq hk hpp hsp h hc
    have hle := (skp_le (b := b) hpp).2
    have h1 : RS b z (skp b z pp) (si s 16 0 3 (nI (skp b z pp))) := h.at
    have c1 : C5 b z p0 q (si s 16 0 3 (nI (skp b z pp))) := hc.cg (fun g _ _ _ => si_ne (by omega))
    rw [F_Reader_read_27]
    unfold F_Reader_skipBlanks
    rw [skipC hz n pp s hpp (by omega) h]
    simp only [obind, b2_some, bs_eq]
    rw [sign_eq hz hle h1]
    simp only [obind, b2_some, bs_eq]
    by_cases e5 : q = 5
    · subst e5
      rw [if_pos (by decide), h1.2.1, show 5 - 5 = 0 from rfl]
      show ∃ w, _ = some (if z ≤ spP b z p0 5 then -9 else nI (spP b z p0 5), w) ∧ C5 b z p0 5 w ∧ _
      rw [hsp]
      by_cases g : z ≤ skp b z pp
      · rw [if_pos ((sg_end hb).mpr g), if_pos g]
        exact ⟨_, rfl, c1, fun g u a c => si_ne a, rfl⟩
      · rw [if_neg (fun e => g ((sg_end hb).mp e)), if_neg g]
        exact ⟨_, rfl, c1, fun g u a c => si_ne a, rfl⟩
    · have q5 : q < 5 := by omega
      rw [if_neg (by rw [show (5 : Int32) = nI 5 from rfl]; simp (disch := omega) only [nI_leI]; omega), show 5 - q = (5 - (q + 1)) + 1 by omega]
      show ∃ w, _ = some ((if 1 ≤ q ∧ z ≤ spP b z p0 q then (-9, q) else if okS b z (spP b z p0 q) = true then outR b z p0 (5 - (q + 1)) (q + 1) else (nI (fpS b z (spP b z p0 q)), q)).1, w) ∧ C5 b z p0 (if 1 ≤ q ∧ z ≤ spP b z p0 q then (-9, q) else if okS b z (spP b z p0 q) = true then outR b z p0 (5 - (q + 1)) (q + 1) else (nI (fpS b z (spP b z p0 q)), q)).2 w ∧ _
      have body : ¬ (1 ≤ q ∧ z ≤ spP b z p0 q) → ∃ w, F_Reader_read_53 n 1 (F_Reader_read_27 n 1 k) (nI q) (si s 16 0 3 (nI (skp b z pp))) = some ((if 1 ≤ q ∧ z ≤ spP b z p0 q then (-9, q) else if okS b z (spP b z p0 q) = true then outR b z p0 (5 - (q + 1)) (q + 1) else (nI (fpS b z (spP b z p0 q)), q)).1, w) ∧ C5 b z p0 (if 1 ≤ q ∧ z ≤ spP b z p0 q then (-9, q) else if okS b z (spP b z p0 q) = true then outR b z p0 (5 - (q + 1)) (q + 1) else (nI (fpS b z (spP b z p0 q)), q)).2 w ∧ (∀ g u, ¬ (g = 16 ∧ u = 0) → ¬ ((g = 4 ∨ (6 ≤ g ∧ g ≤ 12)) ∧ u = 5) → w.1 g u = s.1 g u) ∧ w.2 = s.2 := by
        intro g
        rw [if_neg g]
        obtain ⟨w, e1, e2, e3, e4, e6⟩ := sleepC hz hb q5 hsp hle h1 c1
        unfold F_Reader_read_53
        rw [e1]
        simp only [obind, b2_some, bs_eq]
        rw [hsp]
        by_cases o : okS b z (skp b z pp) = true
        · rw [if_pos o] at e2 e3 ⊢
          rw [if_neg one_ne, if_pos o, nI_1]
          have lo : skp b z pp + 3 ≤ z := by
            have o' := o
            unfold okS at o'
            simp only [Bool.and_eq_true] at o'
            have := okf_lt o'.2.2
            omega
          obtain ⟨v, f1, f2, f3, f4⟩ := ih (q + 1) (skp b z pp + 3) w (by omega) (by omega) lo (by show skp b z (spP b z p0 q + 3) = _; rw [hsp]) e2 e3
          exact ⟨v, f1, f2, fun g u a c => by rw [f3 g u a c, e4 g u a c, si_ne a], f4.trans e6⟩
        · rw [if_neg o] at e2 e3 ⊢
          rw [if_pos rfl, if_neg o, e2.2.1]
          exact ⟨w, rfl, e3, fun g u a c => by rw [e4 g u a c, si_ne a], e6⟩
      by_cases g0 : q = 0
      · rw [if_pos (by rw [g0]; decide)]
        exact body (by omega)
      · rw [if_neg (by rw [show (0 : Int32) = nI 0 from rfl]; simp (disch := omega) only [nI_leI]; omega)]
        by_cases g1 : z ≤ skp b z pp
        · rw [if_pos ((sg_end hb).mpr g1), if_pos ⟨by omega, by rw [hsp]; exact g1⟩]
          exact ⟨_, rfl, c1, fun g u a c => si_ne a, rfl⟩
        · rw [if_neg (fun e => g1 ((sg_end hb).mp e))]
          exact body (fun e => g1 (by rw [← hsp]; exact e.2))
end RC
def allR (b : Nat → Int32) (z : Nat) : Int32 × Nat := if cdB b z = true then outR b z (skp b z 0 + 9) 5 0 else (nI (cdP b z), 0)
theorem readC {n r z : Nat} {b : Nat → Int32} {σ : St} (hn : 2000 ≤ n) (hr : r < 4) (hz : z ≤ 60) (h1 : σ.1 1 1 0 = nI 60) (h2 : σ.1 2 1 r = nI z) (h3 : ∀ j, j < z → σ.1 3 1 (60 * r + j) = b j) (hb : ∀ j, j < z → isB (b j)) : ∃ w, F_Reader_read n 1 (nI r) σ = some ((allR b z).1, w) ∧ RF σ w ∧ (cdB b z = true → C5 b z (skp b z 0 + 9) (allR b z).2 w ∧ ∀ j, j < 8 → w.1 5 5 j = b (skp b z 0 + 1 + j) - 48) := by
  unfold F_Reader_read
  obtain ⟨s, e1, e2, e3⟩ := takeC hn hr hz h1 h2
  rw [e1]
  simp only [obind, b2_some, bs_eq]
  rw [cbegin_eq]
  simp only [obind, b2_some, bs_eq]
  have f1 : RF σ (bg 5 s) := e3.tr ⟨fun g u a => bg_ne (by omega), rfl⟩
  have e2' : RS b z 0 s := ⟨e2.1, e2.2.1, fun j hj => by rw [e2.2.2 j hj]; exact h3 j hj⟩
  have r1 := e2'.cg (s' := bg 5 s) (bg_ne (by omega)) (bg_ne (by omega))
  obtain ⟨w, c1, c2, c3, c4, c5, c6⟩ := cold_eq hn hz hb r1
  rw [c1]
  simp only [obind, b2_some, bs_eq]
  have f2 : RF σ w := f1.tr ⟨fun g u a => c5 g u (by omega) (by omega), c6⟩
  unfold allR
  by_cases g : cdB b z = true
  · rw [if_pos g, if_pos g, if_neg one_ne]
    obtain ⟨p9, c8⟩ := c4 g
    obtain ⟨v, l1, l2, l3, l4⟩ := loopC (p0 := skp b z 0 + 9) (pp := 0) hn hz hb n 0 (cdP b z) w (by omega) (by omega) c3 (by rw [p9]; rfl) c2 ((bg_C5 (b := b) (z := z) (p0 := skp b z 0 + 9) (s := s)).cg (fun g _ _ _ => c5 g 5 (by omega) (by omega)))
    refine ⟨v, l1, f2.tr ⟨fun g u a => l3 g u (by omega) (by omega), l4⟩, fun _ => ⟨l2, fun j hj => by rw [l3 5 5 (by omega) (by omega)]; exact c8 j hj⟩⟩
  · rw [if_neg g, if_neg g, if_pos rfl, c2.2.1]
    exact ⟨w, rfl, f2, fun e => absurd e g⟩
