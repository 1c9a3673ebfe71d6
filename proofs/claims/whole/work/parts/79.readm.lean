-- READING: the reference
def MRd (r : Nat) (b : Nat → Int32) (z p : Nat) (s : St) : Prop := s.1 30 0 14 = nI (60 * r) ∧ s.1 30 0 15 = nI p ∧ s.1 30 0 16 = nI z ∧ ∀ j, j < z → s.1 38 0 (60 * r + j) = b j
/-- what reading leaves alone -/
def MFd (s w : St) : Prop := (∀ g u, ¬ (g = 30 ∧ u = 0) → ¬ (g = 40 ∧ u = 0) → ¬ (g = 41 ∧ u = 0) → w.1 g u = s.1 g u) ∧ w.2 = s.2 ∧ ∀ j, j ≠ 14 → j ≠ 15 → j ≠ 16 → j ≠ 19 → w.1 30 0 j = s.1 30 0 j
theorem MFd.rf (s : St) : MFd s s := ⟨fun _ _ _ _ _ => rfl, rfl, fun _ _ _ _ _ => rfl⟩
theorem MFd.tr {s s1 s2 : St} (h : MFd s s1) (h' : MFd s1 s2) : MFd s s2 := ⟨fun g u a c d => (h'.1 g u a c d).trans (h.1 g u a c d), h'.2.1.trans h.2.1, fun j a c d e => (h'.2.2 j a c d e).trans (h.2.2 j a c d e)⟩
theorem MFd.s30 {s s1 : St} {j : Nat} {v : Int32} (h : MFd s s1) (hj : j = 14 ∨ j = 15 ∨ j = 16 ∨ j = 19) : MFd s (si s1 30 0 j v) := h.tr ⟨fun g u a c d => si_ne a, rfl, fun i a c d e => by rw [si_g, if_neg (by omega)]⟩
theorem MFd.s40 {s s1 : St} {j : Nat} {v : Int32} (h : MFd s s1) : MFd s (si s1 40 0 j v) := h.tr ⟨fun g u a c d => si_ne c, rfl, fun i a c d e => by rw [si_ne (by omega)]⟩
theorem MFd.s41 {s s1 : St} {j : Nat} {v : Int32} (h : MFd s s1) : MFd s (si s1 41 0 j v) := h.tr ⟨fun g u a c d => si_ne d, rfl, fun i a c d e => by rw [si_ne (by omega)]⟩
section RM
variable {n r z p p0 q : Nat} {b : Nat → Int32} {s : St}
theorem MRd.at {q : Nat} (h : MRd r b z p s) : MRd r b z q (si s 30 0 15 (nI q)) := ⟨by rw [si_g, if_neg (by omega)]; exact h.1, by rw [si_g, if_pos (by omega)], by rw [si_g, if_neg (by omega)]; exact h.2.2.1, fun j hj => by rw [si_ne (by omega)]; exact h.2.2.2 j hj⟩
theorem MRd.cg {s' : St} (h : MRd r b z p s) (h1 : ∀ j, j = 14 ∨ j = 15 ∨ j = 16 → s'.1 30 0 j = s.1 30 0 j) (h2 : s'.1 38 0 = s.1 38 0) : MRd r b z p s' := ⟨by rw [h1 14 (by omega)]; exact h.1, by rw [h1 15 (by omega)]; exact h.2.1, by rw [h1 16 (by omega)]; exact h.2.2.1, by rw [h2]; exact h.2.2.2⟩
theorem hereM (hr : r < 4) (hz : z ≤ 60) (hp : p < z) (h : MRd r b z p s) : F_Mod_here s = some (b p) := by
  unfold F_Mod_here
  rw [h.1, h.2.1, nI_add, ald_38 (by omega), h.2.2.2 p hp]
  rfl
theorem skipM (hr : r < 4) (hz : z ≤ 60) : ∀ k p s, p ≤ z → z < k + p → MRd r b z p s → F_Mod_skip_0 n k s = some (si s 30 0 15 (nI (skp b z p))) := by
  intro k
  induction k with
  | zero => intro p s a c; omega
  | succ k ih =>
    intro p s hp hk h
    rw [F_Mod_skip_0, h.2.2.1, h.2.1]
    have same : si s 30 0 15 (nI p) = s := by rw [← h.2.1, si_same]
    by_cases g : p < z
    · rw [if_neg (by simp (disch := omega) only [nI_leI]; omega), hereM hr hz g h]
      simp only [obind, b2_some, bs_eq]
      by_cases e : b p = 32
      · rw [if_pos e, nI_1, ih (p + 1) _ (by omega) (by omega) h.at, si_si, skp_go g e]
      · rw [if_neg e, skp_stop (fun q => e q.2), same]
    · rw [if_pos (by simp (disch := omega) only [nI_leI]; omega), skp_stop (fun q => g q.1), same]
theorem figM {mx : Nat} (hr : r < 4) (hz : z ≤ 60) (hb : ∀ j, j < z → isB (b j)) (hp : p ≤ z) (hm : mx ≤ 9) (h : MRd r b z p s) : F_Mod_figure (nI mx) s = if okf b z mx p = true then some (b p - 48, si s 30 0 15 (nI (p + 1))) else some (-9, s) := by
  unfold F_Mod_figure
  rw [h.2.2.1, h.2.1]
  by_cases g : p < z
  · rw [if_neg (by simp (disch := omega) only [nI_eq]; omega), hereM hr hz g h]
    simp only [obind, b2_some, bs_eq]
    rw [show (48 : Int64) = (48 : Int32).toInt64 by decide, in_I]
    simp only [obind, b2_some, bs_eq]
    have e48 : ((48 : Int32) + nI mx).toInt = 48 + mx := by rw [show (48 : Int32) = nI 48 from rfl, nI_add, nI_toInt (by omega)]; omega
    have iff : okf b z mx p = true ↔ (48 : Int32) ≤ b p ∧ b p ≤ 48 + nI mx := by
      unfold okf
      simp only [Bool.and_eq_true, decide_eq_true_eq, i32_le, e48, show (48 : Int32).toInt = 48 by decide]
      exact ⟨fun e => e.2, fun e => ⟨g, e⟩⟩
    by_cases o : okf b z mx p = true
    · rw [if_pos o, if_pos (iff.mp o), if_neg one_ne, nI_1, (MRd.at (q := p + 1) h).1, (MRd.at (q := p + 1) h).2.1, nI_add, show nI (60 * r + (p + 1)) - 1 = nI (60 * r + p) from nI_pred _, ald_38 (by omega), si_ne (by omega), h.2.2.2 p g]
      rfl
    · rw [if_neg o, if_neg (fun e => o (iff.mpr e)), if_pos rfl]
  · rw [if_pos (by rw [show p = z by omega]), if_neg (fun o => g (okf_lt o))]
theorem fig9M (hr : r < 4) (hz : z ≤ 60) (hb : ∀ j, j < z → isB (b j)) (hp : p ≤ z) (h : MRd r b z p s) : F_Mod_figure 9 s = if okf b z 9 p = true then some (b p - 48, si s 30 0 15 (nI (p + 1))) else some (-9, s) := figM (mx := 9) hr hz hb hp (by omega) h
theorem fig5M (hr : r < 4) (hz : z ≤ 60) (hb : ∀ j, j < z → isB (b j)) (hp : p ≤ z) (h : MRd r b z p s) : F_Mod_figure 5 s = if okf b z 5 p = true then some (b p - 48, si s 30 0 15 (nI (p + 1))) else some (-9, s) := figM (mx := 5) hr hz hb hp (by omega) h
theorem coldM {p : Nat} (hr : r < 4) (hz : z ≤ 60) (hb : ∀ j, j < z → isB (b j)) : ∀ k h s, h ≤ 8 → 8 < k + h → p + h ≤ z → runF b z p h = h → MRd r b z (p + h) s → (∀ j, j < h → s.1 40 0 j = b (p + j) - 48) → ∃ w, F_Mod_readsCold_38 n k (nI h) s = some (if runF b z p 8 = 8 then 1 else 0, w) ∧ MRd r b z (p + runF b z p 8) w ∧ (∀ j, j < runF b z p 8 → w.1 40 0 j = b (p + j) - 48) ∧ MFd s w ∧ w.1 30 0 19 = s.1 30 0 19 := by
  intro k
  induction k with
  | zero => intro h s a c; omega
  | succ k ih =>
    intro h s h8 hk hp hr1 hs hc
    rw [F_Mod_readsCold_38]
    by_cases e : h = 8
    · subst e
      rw [if_pos (by decide), hr1, if_pos rfl]
      exact ⟨s, rfl, hs, hc, MFd.rf s, rfl⟩
    · rw [if_neg (by rw [show (8 : Int32) = nI 8 from rfl]; simp (disch := omega) only [nI_leI]; omega), fig9M hr hz hb hp hs]
      by_cases g : okf b z 9 (p + h) = true
      · have hl := okf_lt g
        rw [if_pos g]
        simp only [obind, b2_some, bs_eq]
        rw [ast_40 (by omega)]
        simp only [obind, b2_some, bs_eq]
        rw [ald_40 (by omega), si_g, if_pos (by omega)]
        simp only [obind, b2_some, bs_eq]
        rw [if_neg (fig_val hb g (by omega)).2, nI_1]
        have hr2 : runF b z p (h + 1) = h + 1 := by
          show (if runF b z p h = h ∧ okf b z 9 (p + h) = true then h + 1 else runF b z p h) = h + 1
          rw [if_pos ⟨hr1, g⟩]
        obtain ⟨w, e1, e2, e4, e5, e6⟩ := ih (h + 1) (si (si s 30 0 15 (nI (p + h + 1))) 40 0 h (b (p + h) - 48)) (by omega) (by omega) (by omega) hr2 ((MRd.at (q := p + h + 1) hs).cg (fun j _ => by rw [si_ne (by omega)]) (si_ne (by omega))) (fun j hj => by
          rw [si_g]
          by_cases ej : j = h
          · rw [if_pos (by omega), ej]
          · rw [if_neg (by omega), si_ne (by omega)]
            exact hc j (by omega))
        exact ⟨w, e1, e2, e4, (((MFd.rf s).s30 (by omega)).s40).tr e5, by rw [e6, si_ne (by omega), si_g, if_neg (by omega)]⟩
      · rw [if_neg g]
        simp only [obind, b2_some, bs_eq]
        rw [ast_40 (by omega)]
        simp only [obind, b2_some, bs_eq]
        rw [ald_40 (by omega), si_g, if_pos (by omega)]
        simp only [obind, b2_some, bs_eq, if_true]
        have hr3 : runF b z p 8 = h := by
          have := runF_stop hr1 g (7 - h)
          rw [show h + 1 + (7 - h) = 8 by omega] at this
          exact this
        rw [hr3, if_neg e]
        exact ⟨_, rfl, hs.cg (fun j _ => by rw [si_ne (by omega)]) (si_ne (by omega)), fun j hj => by rw [si_g, if_neg (by omega)]; exact hc j hj, (MFd.rf s).s40, by rw [si_ne (by omega)]⟩
theorem coldM_eq (hn : 2000 ≤ n) (hr : r < 4) (hz : z ≤ 60) (hb : ∀ j, j < z → isB (b j)) (h : MRd r b z 0 s) : ∃ w, F_Mod_readsCold n s = some (if cdB b z = true then 1 else 0, w) ∧ MRd r b z (cdP b z) w ∧ (cdB b z = true → cdP b z = skp b z 0 + 9 ∧ cdP b z ≤ z ∧ ∀ j, j < 8 → w.1 40 0 j = b (skp b z 0 + 1 + j) - 48) ∧ MFd s w ∧ w.1 30 0 19 = s.1 30 0 19 := by
  have hle := (skp_le (b := b) (z := z) (p := 0) (by omega)).2
  unfold F_Mod_readsCold F_Mod_skip
  rw [skipM hr hz n 0 s (by omega) (by omega) h]
  simp only [obind, b2_some, bs_eq]
  have h1 : MRd r b z (skp b z 0) (si s 30 0 15 (nI (skp b z 0))) := h.at
  rw [h1.2.1, h1.2.2.1]
  unfold cdB cdP
  by_cases g0 : skp b z 0 = z
  · have nb : ¬ (decide (skp b z 0 < z) && (decide (b (skp b z 0) = 99) && decide (runF b z (skp b z 0 + 1) 8 = 8))) = true := by
      simp only [Bool.and_eq_true, decide_eq_true_eq]
      exact fun e => by have := e.1; omega
    rw [if_pos (by rw [g0]), if_neg nb, if_neg (fun e => by have := e.1; omega)]
    exact ⟨_, rfl, h1, fun e => absurd e nb, (MFd.rf s).s30 (by omega), by rw [si_g, if_neg (by omega)]⟩
  · have gl : skp b z 0 < z := by omega
    rw [if_neg (by simp (disch := omega) only [nI_eq]; omega), hereM hr hz gl h1]
    simp only [obind, b2_some, bs_eq]
    by_cases g : b (skp b z 0) = 99
    · rw [if_pos g, nI_1, si_si, if_pos (show skp b z 0 < z ∧ b (skp b z 0) = 99 from ⟨gl, g⟩)]
      obtain ⟨w, e1, e2, e4, e5, e6⟩ := coldM (n := n) (p := skp b z 0 + 1) hr hz hb n 0 (si s 30 0 15 (nI (skp b z 0 + 1))) (by omega) (by omega) (by omega) rfl h.at (fun j hj => by omega)
      have x1 : decide (skp b z 0 < z) = true := by rw [decide_eq_true_eq]; exact gl
      have x2 : decide (b (skp b z 0) = 99) = true := by rw [decide_eq_true_eq]; exact g
      rw [x1, x2]
      simp only [Bool.true_and, decide_eq_true_eq]
      refine ⟨w, e1, e2, fun e8 => ?_, ((MFd.rf s).s30 (by omega)).tr e5, by rw [e6, si_g, if_neg (by omega)]⟩
      have l8 : okf b z 9 (skp b z 0 + 1 + 7) = true := by
        have : (if runF b z (skp b z 0 + 1) 7 = 7 ∧ okf b z 9 (skp b z 0 + 1 + 7) = true then 7 + 1 else runF b z (skp b z 0 + 1) 7) = 8 := e8
        have le := runF_le b z (skp b z 0 + 1) 7
        by_cases o : okf b z 9 (skp b z 0 + 1 + 7) = true
        · exact o
        · rw [if_neg (fun e => o e.2)] at this
          omega
      have := okf_lt l8
      rw [e8] at e4 ⊢
      exact ⟨by omega, by omega, e4⟩
    · have nb : ¬ (decide (skp b z 0 < z) && (decide (b (skp b z 0) = 99) && decide (runF b z (skp b z 0 + 1) 8 = 8))) = true := by
        simp only [Bool.and_eq_true, decide_eq_true_eq]
        exact fun e => g e.2.1
      rw [if_neg g, if_neg nb, if_neg (fun e => g e.2)]
      exact ⟨_, rfl, h1, fun e => absurd e nb, (MFd.rf s).s30 (by omega), by rw [si_g, if_neg (by omega)]⟩
def C41 (b : Nat → Int32) (z p0 q : Nat) (s : St) : Prop := ∀ j, j < q → s.1 41 0 (3 * j) = kdB b z (spP b z p0 j) ∧ s.1 41 0 (3 * j + 1) = b (spP b z p0 j + 1) - 48 ∧ s.1 41 0 (3 * j + 2) = b (spP b z p0 j + 2) - 48
theorem C41.cg {s' : St} (h : C41 b z p0 q s) (h1 : s'.1 41 0 = s.1 41 0) : C41 b z p0 q s' := by
  unfold C41 at *
  rw [h1]
  exact h
theorem kindM (hr : r < 4) (hz : z ≤ 60) (hp : p < z) (h : MRd r b z p s) : F_Mod_kindHere s = some (kdB b z p) := by
  unfold F_Mod_kindHere
  rw [hereM hr hz hp h]
  simp only [obind, b2_some, bs_eq]
  unfold kdB
  rw [if_pos hp]
  generalize b p = v
  unfold kdOf
  by_cases e1 : v = 115
  · subst e1; rfl
  rw [if_neg e1]
  by_cases e2 : v = 110
  · subst e2; rfl
  rw [if_neg e2]
  by_cases e3 : v = 100
  · subst e3; rfl
  rw [if_neg e3]
  by_cases e4 : v = 104
  · subst e4; rfl
  rw [if_neg e4]
  by_cases e5 : v = 116
  · subst e5; rfl
  rw [if_neg e5]
  by_cases e6 : v = 107
  · subst e6; rfl
  rw [if_neg e6, if_neg e3, if_neg e4, if_neg e6, if_neg e2, if_neg e1, if_neg e5]
theorem sleepM (hn : 2000 ≤ n) (hr : r < 4) (hz : z ≤ 60) (hb : ∀ j, j < z → isB (b j)) (hq : q < 5) (hp : spP b z p0 q = p) (hpz : p < z) (h : MRd r b z p s) (h19 : s.1 30 0 19 = nI q) (hc : C41 b z p0 q s) : ∃ w, F_Mod_readsSleeper n s = some (if okS b z p = true then 1 else 0, w) ∧ MRd r b z (if okS b z p = true then spP b z p0 (q + 1) else fpS b z p) w ∧ w.1 30 0 19 = nI (if okS b z p = true then q + 1 else q) ∧ C41 b z p0 (if okS b z p = true then q + 1 else q) w ∧ MFd s w ∧ w.1 40 0 = s.1 40 0 := by
  unfold F_Mod_readsSleeper
  rw [kindM hr hz hpz h]
  simp only [obind, b2_some, bs_eq]
  rw [h19, h.2.1, nI_1]
  unfold okS fpS
  by_cases g : kdB b z p = -9
  · have x1 : decide (kdB b z p ≠ -9) = false := by rw [decide_eq_false_iff_not]; exact fun e => e g
    rw [x1, if_pos g, if_pos g]
    simp only [Bool.false_and, Bool.false_eq_true, if_false]
    exact ⟨s, rfl, h, h19, hc, MFd.rf s, rfl⟩
  · have x1 : decide (kdB b z p ≠ -9) = true := by rw [decide_eq_true_eq]; exact g
    rw [x1, if_neg g, if_neg g, if_neg (by rw [show (5 : Int32) = nI 5 from rfl]; simp (disch := omega) only [nI_eq]; omega)]
    simp only [Bool.true_and]
    have h1 : MRd r b z (p + 1) (si s 30 0 15 (nI (p + 1))) := h.at
    rw [fig5M hr hz hb (by omega) h1]
    by_cases g1 : okf b z 5 (p + 1) = true
    · have l1 := okf_lt g1
      rw [if_pos g1, if_pos g1, g1]
      simp only [obind, b2_some, bs_eq, Bool.true_and, si_si]
      rw [if_neg (fig_val hb g1 (by omega)).2]
      have h2 : MRd r b z (p + 1 + 1) (si s 30 0 15 (nI (p + 1 + 1))) := h.at
      rw [fig9M hr hz hb (by omega) h2]
      by_cases g2 : okf b z 9 (p + 1 + 1) = true
      · have l2 := okf_lt g2
        have g2' : okf b z 9 (p + 2) = true := g2
        rw [if_pos g2]
        simp only [g2', if_true]
        simp only [obind, b2_some, bs_eq, si_si]
        rw [if_neg (fig_val hb g2 (by omega)).2]
        have h3 : MRd r b z (p + 3) (si s 30 0 15 (nI (p + 1 + 1 + 1))) := h.at
        have q3 : (si s 30 0 15 (nI (p + 1 + 1 + 1))).1 30 0 19 = nI q := by rw [si_g, if_neg (by omega)]; exact h19
        have c3 : C41 b z p0 q (si s 30 0 15 (nI (p + 1 + 1 + 1))) := hc.cg (si_ne (by omega))
        have f3 : MFd s (si s 30 0 15 (nI (p + 1 + 1 + 1))) := (MFd.rf s).s30 (by omega)
        have o3 : (si s 30 0 15 (nI (p + 1 + 1 + 1))).1 40 0 = s.1 40 0 := si_ne (by omega)
        generalize si s 30 0 15 (nI (p + 1 + 1 + 1)) = s3 at h3 q3 c3 f3 o3
        rw [q3, show (3 : Int32) = nI 3 from rfl, show (1 : Int32) = nI 1 from rfl, show (2 : Int32) = nI 2 from rfl, pk_mul, ast_41 (by omega)]
        simp only [obind, b2_some, bs_eq]
        rw [si_ne (by omega), q3, pk_mul, nI_add, ast_41 (by omega)]
        simp only [obind, b2_some, bs_eq]
        rw [si_ne (by omega), si_ne (by omega), q3, pk_mul, nI_add, ast_41 (by omega)]
        simp only [obind, b2_some, bs_eq]
        rw [si_ne (by omega), si_ne (by omega), si_ne (by omega), q3, nI_add]
        have h5 : MRd r b z (p + 3) (si (si (si (si s3 41 0 (3 * q) (kdB b z p)) 41 0 (3 * q + 1) (b (p + 1) - 48)) 41 0 (3 * q + 2) (b (p + 1 + 1) - 48)) 30 0 19 (nI (q + 1))) := h3.cg (fun j hj => by rw [si_g, if_neg (by omega), si_ne (by omega), si_ne (by omega), si_ne (by omega)]) (by rw [si_ne (by omega), si_ne (by omega), si_ne (by omega), si_ne (by omega)])
        unfold F_Mod_skip
        rw [skipM hr hz n (p + 3) _ (by omega) (by omega) h5]
        refine ⟨_, rfl, ?_, ?_, fun j hj => ?_, ?_, ?_⟩
        · show MRd r b z (skp b z (spP b z p0 q + 3)) _
          rw [hp]
          exact h5.at
        · rw [si_g, if_neg (by omega), si_g, if_pos (by omega)]
        · simp only [si_ne (show ¬ (41 = 30 ∧ 0 = 0) by omega)]
          by_cases e : j = q
          · subst e
            rw [hp]
            refine ⟨?_, ?_, ?_⟩
            · rw [si_g, if_neg (by omega), si_g, if_neg (by omega), si_g, if_pos (by omega)]
            · rw [si_g, if_neg (by omega), si_g, if_pos (by omega)]
            · rw [si_g, if_pos (by omega)]
          · have := c3 j (by omega)
            refine ⟨?_, ?_, ?_⟩
            · rw [si_g, if_neg (by omega), si_g, if_neg (by omega), si_g, if_neg (by omega)]; exact this.1
            · rw [si_g, if_neg (by omega), si_g, if_neg (by omega), si_g, if_neg (by omega)]; exact this.2.1
            · rw [si_g, if_neg (by omega), si_g, if_neg (by omega), si_g, if_neg (by omega)]; exact this.2.2
        · exact ((((f3.s41).s41).s41).s30 (by omega)).s30 (by omega)
        · rw [si_ne (by omega), si_ne (by omega), si_ne (by omega), si_ne (by omega), si_ne (by omega)]; exact o3
      · have g2' : ¬ okf b z 9 (p + 2) = true := g2
        rw [if_neg g2]
        simp only [g2', if_false]
        simp only [obind, b2_some, bs_eq, if_true]
        exact ⟨_, rfl, h2, by rw [si_g, if_neg (by omega)]; exact h19, hc.cg (si_ne (by omega)), (MFd.rf s).s30 (by omega), si_ne (by omega)⟩
    · have g1' : okf b z 5 (p + 1) = false := by
        cases x : okf b z 5 (p + 1)
        · rfl
        · exact absurd x g1
      rw [if_neg g1, if_neg g1, g1']
      simp only [obind, b2_some, bs_eq, Bool.false_and, Bool.false_eq_true, if_false, if_true]
      exact ⟨_, rfl, h1, by rw [si_g, if_neg (by omega)]; exact h19, hc.cg (si_ne (by omega)), (MFd.rf s).s30 (by omega), si_ne (by omega)⟩
theorem stopM {k : Nat} : F_Mod_faultOf_41 n (k + 1) 0 s = some (s.1 30 0 15, s) := by
  rw [F_Mod_faultOf_41, if_pos rfl]
  unfold F_Mod_faultOf_64
  rw [if_pos rfl]
theorem loopM (hn : 2000 ≤ n) (hr : r < 4) (hz : z ≤ 60) (hb : ∀ j, j < z → isB (b j)) (h0 : p0 ≤ z) : ∀ k q s, q ≤ 5 → 7 < k + q → spP b z p0 q ≤ z → MRd r b z (spP b z p0 q) s → s.1 30 0 19 = nI q → C41 b z p0 q s → ∃ w, F_Mod_faultOf_41 n k 1 s = some ((outR b z p0 (5 - q) q).1, w) ∧ w.1 30 0 19 = nI (outR b z p0 (5 - q) q).2 ∧ C41 b z p0 (outR b z p0 (5 - q) q).2 w ∧ MFd s w ∧ w.1 40 0 = s.1 40 0 := by
  intro k
  induction k with
  | zero => intro q s a c; omega
  | succ k ih =>
    intro q s hq hk hle h h19 hc
    rw [F_Mod_faultOf_41, if_neg one_ne, h.2.2.1, h.2.1]
    by_cases g : z ≤ spP b z p0 q
    · rw [if_pos (by simp (disch := omega) only [nI_leI]; omega)]
      unfold F_Mod_faultOf_64
      rw [if_neg one_ne, h19, h.2.1]
      by_cases e0 : q = 0
      · subst e0
        rw [if_pos (by decide)]
        show ∃ w, _ = some ((if 1 ≤ 0 ∧ z ≤ spP b z p0 0 then (-9, 0) else if okS b z (spP b z p0 0) = true then outR b z p0 4 1 else (nI (fpS b z (spP b z p0 0)), 0)).1, w) ∧ w.1 30 0 19 = nI (if 1 ≤ 0 ∧ z ≤ spP b z p0 0 then (-9, 0) else if okS b z (spP b z p0 0) = true then outR b z p0 4 1 else (nI (fpS b z (spP b z p0 0)), 0)).2 ∧ C41 b z p0 (if 1 ≤ 0 ∧ z ≤ spP b z p0 0 then (-9, 0) else if okS b z (spP b z p0 0) = true then outR b z p0 4 1 else (nI (fpS b z (spP b z p0 0)), 0)).2 w ∧ _
        have k9 : kdB b z (spP b z p0 0) = -9 := by unfold kdB; rw [if_neg (by omega)]
        have o9 : ¬ okS b z (spP b z p0 0) = true := by
          unfold okS
          simp only [Bool.and_eq_true, decide_eq_true_eq]
          exact fun e => e.1 k9
        rw [if_neg (by omega), if_neg o9]
        unfold fpS
        rw [if_pos k9]
        exact ⟨s, rfl, h19, hc, MFd.rf s, rfl⟩
      · rw [if_neg (by rw [show (0 : Int32) = nI 0 from rfl]; simp (disch := omega) only [nI_leI]; omega)]
        have : outR b z p0 (5 - q) q = (-9, q) := by
          by_cases e5 : q = 5
          · subst e5
            show (if z ≤ spP b z p0 5 then (-9 : Int32) else nI (spP b z p0 5), 5) = (-9, 5)
            rw [if_pos g]
          · rw [show 5 - q = (5 - (q + 1)) + 1 by omega]
            show (if 1 ≤ q ∧ z ≤ spP b z p0 q then ((-9 : Int32), q) else _) = _
            rw [if_pos ⟨by omega, g⟩]
        rw [this]
        exact ⟨s, rfl, h19, hc, MFd.rf s, rfl⟩
    · rw [if_neg (by simp (disch := omega) only [nI_leI]; omega)]
      obtain ⟨k', rfl⟩ : ∃ k', k = k' + 1 := ⟨k - 1, by omega⟩
      by_cases e5 : q = 5
      · subst e5
        have e1 : F_Mod_readsSleeper n s = some (0, s) := by
          unfold F_Mod_readsSleeper
          rw [kindM hr hz (by omega) h]
          simp only [obind, b2_some, bs_eq]
          rw [h19, if_pos (show nI 5 = 5 from rfl)]
          split <;> rfl
        rw [e1]
        simp only [obind, b2_some, bs_eq]
        rw [stopM, h.2.1]
        show ∃ w, _ = some ((if z ≤ spP b z p0 5 then (-9 : Int32) else nI (spP b z p0 5)), w) ∧ w.1 30 0 19 = nI 5 ∧ C41 b z p0 5 w ∧ _
        rw [if_neg g]
        exact ⟨s, rfl, h19, hc, MFd.rf s, rfl⟩
      · obtain ⟨w, e1, e2, e3, e4, e6, e7⟩ := sleepM hn hr hz hb (show q < 5 by omega) rfl (by omega) h h19 hc
        rw [e1, show 5 - q = (5 - (q + 1)) + 1 by omega]
        simp only [obind, b2_some, bs_eq]
        show ∃ w, _ = some ((if 1 ≤ q ∧ z ≤ spP b z p0 q then (-9, q) else if okS b z (spP b z p0 q) = true then outR b z p0 (5 - (q + 1)) (q + 1) else (nI (fpS b z (spP b z p0 q)), q)).1, w) ∧ w.1 30 0 19 = nI (if 1 ≤ q ∧ z ≤ spP b z p0 q then (-9, q) else if okS b z (spP b z p0 q) = true then outR b z p0 (5 - (q + 1)) (q + 1) else (nI (fpS b z (spP b z p0 q)), q)).2 ∧ C41 b z p0 (if 1 ≤ q ∧ z ≤ spP b z p0 q then (-9, q) else if okS b z (spP b z p0 q) = true then outR b z p0 (5 - (q + 1)) (q + 1) else (nI (fpS b z (spP b z p0 q)), q)).2 w ∧ _
        rw [if_neg (show ¬ (1 ≤ q ∧ z ≤ spP b z p0 q) from fun e => g e.2)]
        by_cases o : okS b z (spP b z p0 q) = true
        · rw [if_pos o] at e2 e3 e4 ⊢
          rw [if_pos o]
          have lo : spP b z p0 q + 3 ≤ z := by
            have o' := o
            unfold okS at o'
            simp only [Bool.and_eq_true] at o'
            have := okf_lt o'.2.2
            omega
          obtain ⟨v, f1, f2, f3, f4, f5⟩ := ih (q + 1) w (by omega) (by omega) (skp_le lo).2 e2 e3 e4
          exact ⟨v, f1, f2, f3, e6.tr f4, f5.trans e7⟩
        · rw [if_neg o] at e2 e3 e4 ⊢
          rw [if_neg o, stopM, e2.2.1]
          exact ⟨w, rfl, e3, e4, e6, e7⟩
theorem faultM {n r z : Nat} {b : Nat → Int32} {s : St} (hn : 2000 ≤ n) (hr : r < 4) (hz : z ≤ 60) (h2 : s.1 37 0 r = nI z) (h3 : ∀ j, j < z → s.1 38 0 (60 * r + j) = b j) (hb : ∀ j, j < z → isB (b j)) : ∃ w, F_Mod_faultOf n (nI r) s = some ((allR b z).1, w) ∧ MFd s w ∧ (cdB b z = true → w.1 30 0 19 = nI (allR b z).2 ∧ C41 b z (skp b z 0 + 9) (allR b z).2 w ∧ ∀ j, j < 8 → w.1 40 0 j = b (skp b z 0 + 1 + j) - 48) := by
  unfold F_Mod_faultOf
  rw [show (60 : Int32) = nI 60 from rfl, pk_mul]
  simp only [obind, b2_some, bs_eq]
  rw [ald_37 (by omega), si_ne (by omega), si_ne (by omega), h2]
  simp only [obind, b2_some, bs_eq]
  have m0 : MRd r b z 0 (si (si (si (si s 30 0 14 (nI (60 * r))) 30 0 15 0) 30 0 16 (nI z)) 30 0 19 0) := by
    refine ⟨?_, ?_, ?_, fun j hj => ?_⟩
    · rw [si_g, if_neg (by omega), si_g, if_neg (by omega), si_g, if_neg (by omega), si_g, if_pos (by omega)]
    · rw [si_g, if_neg (by omega), si_g, if_neg (by omega), si_g, if_pos (by omega)]; rfl
    · rw [si_g, if_neg (by omega), si_g, if_pos (by omega)]
    · rw [si_ne (by omega), si_ne (by omega), si_ne (by omega), si_ne (by omega)]; exact h3 j hj
  have f0 : MFd s (si (si (si (si s 30 0 14 (nI (60 * r))) 30 0 15 0) 30 0 16 (nI z)) 30 0 19 0) := ((((MFd.rf s).s30 (by omega)).s30 (by omega)).s30 (by omega)).s30 (by omega)
  have q0 : (si (si (si (si s 30 0 14 (nI (60 * r))) 30 0 15 0) 30 0 16 (nI z)) 30 0 19 0).1 30 0 19 = nI 0 := by rw [si_g, if_pos (by omega)]; rfl
  generalize si (si (si (si s 30 0 14 (nI (60 * r))) 30 0 15 0) 30 0 16 (nI z)) 30 0 19 0 = s0 at m0 f0 q0
  obtain ⟨w, c1, c2, c3, c4, c5⟩ := coldM_eq hn hr hz hb m0
  rw [c1]
  simp only [obind, b2_some, bs_eq]
  unfold allR
  by_cases g : cdB b z = true
  · rw [if_pos g, if_neg one_ne, if_pos g]
    obtain ⟨p9, l9, c8⟩ := c3 g
    unfold F_Mod_skip
    rw [skipM hr hz n _ w l9 (by omega) c2]
    simp only [obind, b2_some, bs_eq]
    rw [p9] at c2 l9 ⊢
    obtain ⟨v, l1, l2, l3, l4, l5⟩ := loopM (p0 := skp b z 0 + 9) hn hr hz hb l9 n 0 (si w 30 0 15 (nI (skp b z (skp b z 0 + 9)))) (by omega) (by omega) (skp_le l9).2 c2.at (by rw [si_g, if_neg (by omega), c5]; exact q0) (fun j hj => by omega)
    exact ⟨v, l1, (f0.tr c4).tr (((MFd.rf w).s30 (by omega)).tr l4), fun _ => ⟨l2, l3, fun j hj => by rw [l5, si_ne (by omega)]; exact c8 j hj⟩⟩
  · rw [if_neg g, if_pos rfl, if_neg g]
    obtain ⟨n', rfl⟩ : ∃ n', n = n' + 1 := ⟨n - 1, by omega⟩
    rw [stopM, c2.2.1]
    exact ⟨w, rfl, f0.tr c4, fun e => absurd e g⟩
end RM
