-- READING A TENT
def sg (b : Nat → Int32) (z p : Nat) : Int32 := if p < z then b p else 1000
def okf (b : Nat → Int32) (z mx p : Nat) : Bool := decide (p < z) && (decide (48 ≤ (b p).toInt) && decide ((b p).toInt ≤ 48 + mx))
def skF (b : Nat → Int32) (z : Nat) : Nat → Nat → Nat
  | 0, p => p
  | k + 1, p => if p < z ∧ b p = 32 then skF b z k (p + 1) else p
def skp (b : Nat → Int32) (z p : Nat) : Nat := skF b z (z - p) p
theorem skp_go {b : Nat → Int32} {z p : Nat} (h : p < z) (e : b p = 32) : skp b z p = skp b z (p + 1) := by
  unfold skp
  rw [show z - p = (z - (p + 1)) + 1 by omega, skF, if_pos ⟨h, e⟩]
theorem skp_stop {b : Nat → Int32} {z p : Nat} (h : ¬ (p < z ∧ b p = 32)) : skp b z p = p := by
  unfold skp
  by_cases g : p < z
  · rw [show z - p = (z - (p + 1)) + 1 by omega, skF, if_neg h]
  · rw [show z - p = 0 by omega, skF]
theorem skF_le {b : Nat → Int32} {z : Nat} : ∀ k p, p ≤ z → p ≤ skF b z k p ∧ skF b z k p ≤ z
  | 0, p, h => ⟨Nat.le_refl _, h⟩
  | k + 1, p, h => by
    unfold skF
    split
    · rename_i g
      have g1 := g.1
      have := skF_le (b := b) (z := z) k (p + 1) (by omega)
      exact ⟨by omega, by omega⟩
    · exact ⟨Nat.le_refl _, h⟩
theorem skp_le {b : Nat → Int32} {z p : Nat} (h : p ≤ z) : p ≤ skp b z p ∧ skp b z p ≤ z := skF_le _ _ h
def kdOf (v : Int32) : Int32 := if v = 100 then 2 else if v = 104 then 3 else if v = 107 then 5 else if v = 110 then 1 else if v = 115 then 0 else if v = 116 then 4 else -9
def kdB (b : Nat → Int32) (z p : Nat) : Int32 := if p < z then kdOf (b p) else -9
theorem kdOf_eq (v : Int32) : F_Reader_kindOf v = some (kdOf v) := by
  unfold F_Reader_kindOf kdOf
  split
  · rfl
  · split
    · rfl
    · split
      · rfl
      · split
        · rfl
        · split
          · rfl
          · split <;> rfl
/-- where sleeper q begins -/
def spP (b : Nat → Int32) (z p0 : Nat) : Nat → Nat
  | 0 => skp b z p0
  | q + 1 => skp b z (spP b z p0 q + 3)
def okS (b : Nat → Int32) (z p : Nat) : Bool := decide (kdB b z p ≠ -9) && (okf b z 5 (p + 1) && okf b z 9 (p + 2))
def fpS (b : Nat → Int32) (z p : Nat) : Nat := if kdB b z p = -9 then p else if okf b z 5 (p + 1) = true then p + 2 else p + 1
def outR (b : Nat → Int32) (z p0 : Nat) : Nat → Nat → Int32 × Nat
  | 0, q => (if z ≤ spP b z p0 q then -9 else nI (spP b z p0 q), q)
  | k + 1, q => if 1 ≤ q ∧ z ≤ spP b z p0 q then (-9, q) else if okS b z (spP b z p0 q) = true then outR b z p0 k (q + 1) else (nI (fpS b z (spP b z p0 q)), q)
theorem okf_lt {b : Nat → Int32} {z mx p : Nat} (h : okf b z mx p = true) : p < z := by
  unfold okf at h
  simp only [Bool.and_eq_true, decide_eq_true_eq] at h
  exact h.1
theorem kdB_lt {b : Nat → Int32} {z p : Nat} (h : kdB b z p ≠ -9) : p < z := by
  unfold kdB at h
  by_cases g : p < z
  · exact g
  · rw [if_neg g] at h; exact absurd rfl h
theorem spP_le {b : Nat → Int32} {z p0 : Nat} (h0 : p0 ≤ z) : ∀ q, (∀ j, j < q → okS b z (spP b z p0 j) = true) → spP b z p0 q ≤ z
  | 0, _ => (skp_le h0).2
  | q + 1, h => by
    have h1 := h q (by omega)
    unfold okS at h1
    simp only [Bool.and_eq_true, decide_eq_true_eq] at h1
    have := okf_lt h1.2.2
    exact (skp_le (by omega)).2
/-- the class's reader stands at p -/
def RS (b : Nat → Int32) (z p : Nat) (s : St) : Prop := s.1 16 0 2 = nI z ∧ s.1 16 0 3 = nI p ∧ ∀ j, j < z → s.1 17 0 j = b j
section RC
variable {n z p : Nat} {b : Nat → Int32} {s : St}
theorem RS.at {q : Nat} (h : RS b z p s) : RS b z q (si s 16 0 3 (nI q)) := ⟨by rw [si_g, if_neg (by omega)]; exact h.1, by rw [si_g, if_pos (by omega)], fun j hj => by rw [si_ne (by omega)]; exact h.2.2 j hj⟩
theorem RS.cg {s' : St} (h : RS b z p s) (h1 : s'.1 16 0 = s.1 16 0) (h2 : s'.1 17 0 = s.1 17 0) : RS b z p s' := by
  unfold RS at *
  rw [h1, h2]
  exact h
theorem sign_eq (hz : z ≤ 60) (hp : p ≤ z) (h : RS b z p s) : F_Reader_sign s = some (sg b z p) := by
  unfold F_Reader_sign sg
  rw [h.1, h.2.1]
  by_cases g : p < z
  · rw [if_neg (by simp (disch := omega) only [nI_leI]; omega), if_pos g, ald_17 (by omega), h.2.2 p g]
    rfl
  · rw [if_pos (by simp (disch := omega) only [nI_leI]; omega), if_neg g]
theorem skipC (hz : z ≤ 60) : ∀ k p s, p ≤ z → z < k + p → RS b z p s → F_Reader_skipBlanks_0 n k s = some (si s 16 0 3 (nI (skp b z p))) := by
  intro k
  induction k with
  | zero => intro p s a c; omega
  | succ k ih =>
    intro p s hp hk h
    rw [F_Reader_skipBlanks_0, sign_eq hz hp h, h.1, h.2.1]
    simp only [obind, b2_some, bs_eq]
    have same : si s 16 0 3 (nI p) = s := by rw [← h.2.1, si_same]
    by_cases g : p < z
    · rw [if_neg (by simp (disch := omega) only [nI_leI]; omega)]
      unfold sg
      rw [if_pos g]
      by_cases e : b p = 32
      · rw [if_pos e, nI_1, ih (p + 1) _ (by omega) (by omega) h.at, si_si, skp_go g e]
      · rw [if_neg e, skp_stop (fun q => e q.2), same]
    · rw [if_pos (by simp (disch := omega) only [nI_leI]; omega), skp_stop (fun q => g q.1), same]
theorem figC {mx : Nat} (hz : z ≤ 60) (hb : ∀ j, j < z → isB (b j)) (hp : p ≤ z) (hm : mx ≤ 9) (h : RS b z p s) : F_Reader_readFigure (nI mx) s = if okf b z mx p = true then some (b p - 48, si s 16 0 3 (nI (p + 1))) else some (1000, s) := by
  unfold F_Reader_readFigure
  rw [sign_eq hz hp h, h.2.1, nI_1]
  simp only [obind, b2_some, bs_eq]
  unfold sg okf
  by_cases g : p < z
  · have hB := hb p g
    unfold isB at hB
    have e : (b p - 48).toInt = (b p).toInt - 48 := by
      rw [Int32.toInt_sub, show (48 : Int32).toInt = 48 by decide, Int.bmod_def]
      split <;> omega
    rw [if_pos g]
    simp only [i32_lt, i32_le, e, z0_t, nI_toInt (show mx < 2 ^ 31 by omega)]
    by_cases g1 : (b p).toInt - 48 < 0
    · rw [if_pos g1, if_neg]
      simp only [Bool.and_eq_true, decide_eq_true_eq]
      omega
    · rw [if_neg g1]
      by_cases g2 : (b p).toInt - 48 ≤ mx
      · rw [if_pos g2, if_pos]
        simp only [Bool.and_eq_true, decide_eq_true_eq]
        omega
      · rw [if_neg g2, if_neg]
        simp only [Bool.and_eq_true, decide_eq_true_eq]
        omega
  · rw [if_neg g, if_neg (by decide), if_neg, if_neg]
    · simp only [Bool.and_eq_true, decide_eq_true_eq]
      omega
    · rw [i32_le, nI_toInt (by omega), show ((1000 : Int32) - 48).toInt = 952 by decide]
      omega
theorem fig_val {mx : Nat} (hb : ∀ j, j < z → isB (b j)) (h : okf b z mx p = true) (hm : mx ≤ 9) : b p - 48 ≠ 1000 ∧ b p - 48 ≠ -9 := by
  have hl := okf_lt h
  have hB := hb p hl
  unfold isB at hB
  unfold okf at h
  simp only [Bool.and_eq_true, decide_eq_true_eq] at h
  have e : (b p - 48).toInt = (b p).toInt - 48 := by
    rw [Int32.toInt_sub, show (48 : Int32).toInt = 48 by decide, Int.bmod_def]
    split <;> omega
  refine ⟨fun z => ?_, fun z => ?_⟩
  · rw [i32_eq, e, show (1000 : Int32).toInt = 1000 by decide] at z
    omega
  · rw [i32_eq, e, n9_eq] at z
    omega
/-- the cold figures from p on -/
def runF (b : Nat → Int32) (z p : Nat) : Nat → Nat
  | 0 => 0
  | h + 1 => if runF b z p h = h ∧ okf b z 9 (p + h) = true then h + 1 else runF b z p h
theorem runF_le (b : Nat → Int32) (z p : Nat) : ∀ h, runF b z p h ≤ h
  | 0 => Nat.le_refl _
  | h + 1 => by
    have := runF_le b z p h
    unfold runF
    split <;> omega
theorem runF_stop {h : Nat} (g : runF b z p h = h) (e : ¬ okf b z 9 (p + h) = true) : ∀ m, runF b z p (h + 1 + m) = h
  | 0 => by
    show (if runF b z p h = h ∧ okf b z 9 (p + h) = true then h + 1 else runF b z p h) = h
    rw [if_neg (fun q => e q.2), g]
  | m + 1 => by
    have ih := runF_stop g e m
    show (if runF b z p (h + 1 + m) = h + 1 + m ∧ okf b z 9 (p + (h + 1 + m)) = true then h + 1 + m + 1 else runF b z p (h + 1 + m)) = h
    rw [if_neg (fun q => by have := q.1; omega)]
    exact ih
end RC
/-- what reading leaves alone -/
def RF (σ s : St) : Prop := (∀ g u, ¬ ((g = 16 ∧ u = 0) ∨ (g = 17 ∧ u = 0) ∨ ((4 ≤ g ∧ g ≤ 12) ∧ u = 5)) → s.1 g u = σ.1 g u) ∧ s.2 = σ.2
theorem RF.rf (σ : St) : RF σ σ := ⟨fun _ _ _ => rfl, rfl⟩
theorem RF.tr {σ s s' : St} (h : RF σ s) (h' : RF s s') : RF σ s' := ⟨fun g u a => (h'.1 g u a).trans (h.1 g u a), h'.2.trans h.2⟩
theorem RF.si {σ s : St} {g t j : Nat} {v : Int32} (h : RF σ s) (hg : (g = 16 ∧ t = 0) ∨ (g = 17 ∧ t = 0) ∨ ((4 ≤ g ∧ g ≤ 12) ∧ t = 5)) : RF σ (si s g t j v) := h.tr ⟨fun g' u a => si_ne (fun e => a (by rw [e.1, e.2]; exact hg)), si_2 _ _ _ _ _⟩
/-- the reader's camp with q sleepers -/
def C5 (b : Nat → Int32) (z p0 q : Nat) (s : St) : Prop := (∀ j, s.1 4 5 j = if j = 10 then nI q else if 11 ≤ j ∧ j ≤ 16 then 0 else s.1 4 5 j) ∧ ∀ j, j < q → s.1 6 5 j = kdB b z (spP b z p0 j) ∧ s.1 7 5 j = b (spP b z p0 j + 1) - 48 ∧ s.1 8 5 j = b (spP b z p0 j + 2) - 48 ∧ s.1 9 5 j = nI j ∧ s.1 10 5 j = nI j ∧ s.1 11 5 j = 0 ∧ s.1 12 5 j = 0
theorem C5.cg {b : Nat → Int32} {z p0 q : Nat} {s s' : St} (h : C5 b z p0 q s) (h1 : ∀ g, 4 ≤ g → g ≤ 12 → g ≠ 5 → s'.1 g 5 = s.1 g 5) : C5 b z p0 q s' := by
  unfold C5 at *
  rw [h1 4 (by omega) (by omega) (by omega), h1 6 (by omega) (by omega) (by omega), h1 7 (by omega) (by omega) (by omega), h1 8 (by omega) (by omega) (by omega), h1 9 (by omega) (by omega) (by omega), h1 10 (by omega) (by omega) (by omega), h1 11 (by omega) (by omega) (by omega), h1 12 (by omega) (by omega) (by omega)]
  exact h
theorem C5.sz {b : Nat → Int32} {z p0 q : Nat} {s : St} (h : C5 b z p0 q s) : s.1 4 5 10 = nI q := by rw [h.1 10, if_pos rfl]
theorem addC {b : Nat → Int32} {z p0 q : Nat} {s : St} {v1 v2 v3 : Int32} (hq : q < 5) (h : C5 b z p0 q s) (e1 : v1 = kdB b z (spP b z p0 q)) (e2 : v2 = b (spP b z p0 q + 1) - 48) (e3 : v3 = b (spP b z p0 q + 2) - 48) : ∃ w, F_Camp_add 5 v1 v2 v3 s = some w ∧ (∀ g u, ¬ ((g = 4 ∨ (6 ≤ g ∧ g ≤ 12)) ∧ u = 5) → w.1 g u = s.1 g u) ∧ w.2 = s.2 ∧ C5 b z p0 (q + 1) w := by
  have hs := h.sz
  unfold F_Camp_add
  rw [hs, if_neg (by rw [show (5 : Int32) = nI 5 from rfl]; simp (disch := omega) only [nI_leI]; omega), ast_6 (by omega)]
  simp only [obind, b2_some, bs_eq]
  rw [si_ne (by omega), hs, ast_7 (by omega)]
  simp only [obind, b2_some, bs_eq]
  rw [si_ne (by omega), si_ne (by omega), hs, ast_8 (by omega)]
  simp only [obind, b2_some, bs_eq]
  rw [si_ne (by omega), si_ne (by omega), si_ne (by omega), hs, ast_9 (by omega)]
  simp only [obind, b2_some, bs_eq]
  rw [si_ne (by omega), si_ne (by omega), si_ne (by omega), si_ne (by omega), hs, ast_10 (by omega)]
  simp only [obind, b2_some, bs_eq]
  rw [si_ne (by omega), si_ne (by omega), si_ne (by omega), si_ne (by omega), si_ne (by omega), hs, ast_11 (by omega)]
  simp only [obind, b2_some, bs_eq]
  rw [si_ne (by omega), si_ne (by omega), si_ne (by omega), si_ne (by omega), si_ne (by omega), si_ne (by omega), hs, ast_12 (by omega)]
  simp only [obind, b2_some, bs_eq]
  rw [si_ne (by omega), si_ne (by omega), si_ne (by omega), si_ne (by omega), si_ne (by omega), si_ne (by omega), si_ne (by omega), hs, nI_1]
  refine ⟨_, rfl, fun g u a => by rw [si_ne (by omega), si_ne (by omega), si_ne (by omega), si_ne (by omega), si_ne (by omega), si_ne (by omega), si_ne (by omega), si_ne (by omega)], rfl, fun j => ?_, fun j hj => ?_⟩
  · rw [si_g, si_ne (by omega), si_ne (by omega), si_ne (by omega), si_ne (by omega), si_ne (by omega), si_ne (by omega), si_ne (by omega)]
    by_cases g : j = 10
    · rw [if_pos (by omega), if_pos g]
    · rw [if_neg (by omega), if_neg g]
      have := h.1 j
      rw [if_neg g] at this
      exact this
  · by_cases e : j = q
    · subst e
      refine ⟨?_, ?_, ?_, ?_, ?_, ?_, ?_⟩
      all_goals (repeat rw [si_ne (by omega)])
      all_goals rw [si_g, if_pos (by omega)]
      · exact e1
      · exact e2
      · exact e3
    · have := h.2 j (by omega)
      obtain ⟨a1, a2, a3, a4, a5, a6, a7⟩ := this
      refine ⟨?_, ?_, ?_, ?_, ?_, ?_, ?_⟩
      all_goals (repeat rw [si_ne (by omega)])
      all_goals rw [si_g, if_neg (by omega)]
      all_goals (repeat rw [si_ne (by omega)])
      all_goals assumption
