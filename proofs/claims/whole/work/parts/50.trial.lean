-- THE TRIAL CAMP; calls that try
theorem si_si (σ : St) (g t j : Nat) (v w : Int32) : si (si σ g t j v) g t j w = si σ g t j w := by
  rw [si_sa (si σ g t j v), si_sa σ g t j v, sa_sa, si_sa σ, sa_at]
  congr 1
  funext q
  unfold upd
  split <;> rfl
theorem loop_inv {β ρ : Type} (F : Nat → Nat → β → St → Option ρ) (N : Nat) (S : Nat → β) (Inv : Nat → St → Prop) (Post : ρ → Prop) (hend : ∀ k s, Inv N s → ∃ w, F (k + 1) N (S N) s = some w ∧ Post w) (hstep : ∀ k i s, i < N → Inv i s → ∃ s', F (k + 1) i (S i) s = F k (i + 1) (S (i + 1)) s' ∧ Inv (i + 1) s') : ∀ k i s, i ≤ N → N < k + i → Inv i s → ∃ w, F k i (S i) s = some w ∧ Post w := by
  intro k
  induction k with
  | zero => intro i s a b; omega
  | succ k ih =>
    intro i s a b hi
    by_cases e : i = N
    · subst e
      exact hend k s hi
    · obtain ⟨s', e1, e2⟩ := hstep k i s (by omega) hi
      rw [e1]
      exact ih (i + 1) s' (by omega) (by omega) e2
theorem acp_all {σ : St} {g t t1 m : Nat} (h1 : lenOf g t1 = m) (h2 : lenOf g t = m) (hm : m < 2000) : acp σ g t1 (nI 0) g t (nI 0) (nI m) = some (sa σ g t (fun j => if j < m then σ.1 g t1 j else σ.1 g t j)) := by
  rw [acp_in (by omega) (by omega) (by omega) (by omega)]
  congr 2
  funext j
  unfold va_cpy
  by_cases g : j < m
  · rw [if_pos (by omega), if_pos g, Nat.zero_add, Nat.sub_zero]
  · rw [if_neg (by omega), if_neg g]
def tkA (g m t t1 : Nat) (σ : St) : St := sa σ g t (fun j => if j < m then σ.1 g t1 j else σ.1 g t j)
def tkF (j t t1 : Nat) (σ : St) : St := si σ 4 t j (σ.1 4 t1 j)
def tkP (t t1 : Nat) (σ : St) : St := tkF 15 t t1 (tkF 14 t t1 (tkF 13 t t1 (tkF 12 t t1 (tkF 11 t t1 (tkF 10 t t1 (tkA 12 5 t t1 (tkA 11 5 t t1 (tkA 10 5 t t1 (tkA 9 5 t t1 (tkA 8 5 t t1 (tkA 7 5 t t1 (tkA 6 5 t t1 (tkA 5 8 t t1 σ)))))))))))))
theorem take_eq (t t1 : Nat) (σ : St) : F_Camp_takePresent t t1 σ = some (tkP t t1 σ) := by
  unfold F_Camp_takePresent
  rw [show (0 : Int32) = nI 0 from rfl, show (8 : Int32) = nI 8 from rfl, show (5 : Int32) = nI 5 from rfl]
  rw [acp_all (g := 5) (m := 8) rfl rfl (by omega)]
  simp only [obind, b2_some, bs_eq]
  rw [acp_all (g := 6) (m := 5) rfl rfl (by omega)]
  simp only [obind, b2_some, bs_eq]
  rw [acp_all (g := 7) (m := 5) rfl rfl (by omega)]
  simp only [obind, b2_some, bs_eq]
  rw [acp_all (g := 8) (m := 5) rfl rfl (by omega)]
  simp only [obind, b2_some, bs_eq]
  rw [acp_all (g := 9) (m := 5) rfl rfl (by omega)]
  simp only [obind, b2_some, bs_eq]
  rw [acp_all (g := 10) (m := 5) rfl rfl (by omega)]
  simp only [obind, b2_some, bs_eq]
  rw [acp_all (g := 11) (m := 5) rfl rfl (by omega)]
  simp only [obind, b2_some, bs_eq]
  rw [acp_all (g := 12) (m := 5) rfl rfl (by omega)]
  simp only [obind, b2_some, bs_eq]
  rfl
theorem tkA_ne {g m t t1 : Nat} {σ : St} {g' u : Nat} (h : ¬ (g' = g ∧ u = t)) : (tkA g m t t1 σ).1 g' u = σ.1 g' u := sa_ne h
theorem tkF_ne {j t t1 : Nat} {σ : St} {g' u : Nat} (h : ¬ (g' = 4 ∧ u = t)) : (tkF j t t1 σ).1 g' u = σ.1 g' u := si_ne h
theorem tkA_at {g m t t1 : Nat} {σ : St} {j : Nat} (h : j < m) : (tkA g m t t1 σ).1 g t j = σ.1 g t1 j := by
  unfold tkA
  rw [sa_at, if_pos h]
theorem tkF_at {j t t1 : Nat} {σ : St} (q : Nat) : (tkF j t t1 σ).1 4 t q = if q = j then σ.1 4 t1 j else σ.1 4 t q := by
  unfold tkF
  rw [si_g]
  by_cases e : q = j
  · rw [if_pos ⟨⟨rfl, rfl⟩, e⟩, if_pos e]
  · rw [if_neg (fun z => e z.2), if_neg e]
theorem tkP_ne {t t1 : Nat} {σ : St} {g u : Nat} (h : ¬ ((4 ≤ g ∧ g ≤ 12) ∧ u = t)) : (tkP t t1 σ).1 g u = σ.1 g u := by
  unfold tkP
  rw [tkF_ne (by omega), tkF_ne (by omega), tkF_ne (by omega), tkF_ne (by omega), tkF_ne (by omega), tkF_ne (by omega), tkA_ne (by omega), tkA_ne (by omega), tkA_ne (by omega), tkA_ne (by omega), tkA_ne (by omega), tkA_ne (by omega), tkA_ne (by omega), tkA_ne (by omega)]
theorem tkP_2 {t t1 : Nat} {σ : St} : (tkP t t1 σ).2 = σ.2 := rfl
theorem tkP_4 {t t1 : Nat} {σ : St} (ht : t ≠ t1) (q : Nat) : (tkP t t1 σ).1 4 t q = if 10 ≤ q ∧ q ≤ 15 then σ.1 4 t1 q else σ.1 4 t q := by
  unfold tkP
  have e : ∀ {g m : Nat} {s : St} {u : Nat}, ¬ g = 4 → (tkA g m t t1 s).1 4 u = s.1 4 u := fun h => tkA_ne (by omega)
  have f : ∀ {j : Nat} {s : St}, (tkF j t t1 s).1 4 t1 = s.1 4 t1 := tkF_ne (by omega)
  simp only [tkF_at, f, e (show ¬ 5 = 4 by omega), e (show ¬ 6 = 4 by omega), e (show ¬ 7 = 4 by omega), e (show ¬ 8 = 4 by omega), e (show ¬ 9 = 4 by omega), e (show ¬ 10 = 4 by omega), e (show ¬ 11 = 4 by omega), e (show ¬ 12 = 4 by omega)]
  by_cases g : 10 ≤ q ∧ q ≤ 15
  · rw [if_pos g]
    have : q = 10 ∨ q = 11 ∨ q = 12 ∨ q = 13 ∨ q = 14 ∨ q = 15 := by omega
    rcases this with r | r | r | r | r | r <;> subst r <;> rfl
  · rw [if_neg g, if_neg (by omega), if_neg (by omega), if_neg (by omega), if_neg (by omega), if_neg (by omega), if_neg (by omega)]
theorem tkP_5 {t t1 : Nat} {σ : St} {q : Nat} (hq : q < 8) : (tkP t t1 σ).1 5 t q = σ.1 5 t1 q := by
  unfold tkP
  rw [tkF_ne (by omega), tkF_ne (by omega), tkF_ne (by omega), tkF_ne (by omega), tkF_ne (by omega), tkF_ne (by omega), tkA_ne (by omega), tkA_ne (by omega), tkA_ne (by omega), tkA_ne (by omega), tkA_ne (by omega), tkA_ne (by omega), tkA_ne (by omega), tkA_at hq]
theorem tkP_g {t t1 : Nat} {σ : St} (ht : t ≠ t1) {g : Nat} (h1 : 6 ≤ g) (h2 : g ≤ 12) {q : Nat} (hq : q < 5) : (tkP t t1 σ).1 g t q = σ.1 g t1 q := by
  have hA : ∀ {g' m : Nat} {s : St}, (tkA g' m t t1 s).1 g t1 = s.1 g t1 := tkA_ne (by omega)
  have hB : ∀ {g' m : Nat} {s : St}, ¬ g = g' → (tkA g' m t t1 s).1 g t = s.1 g t := fun h => tkA_ne (by omega)
  unfold tkP
  rw [tkF_ne (by omega), tkF_ne (by omega), tkF_ne (by omega), tkF_ne (by omega), tkF_ne (by omega), tkF_ne (by omega)]
  by_cases e12 : g = 12
  · subst e12; rw [tkA_at hq]; simp only [hA]
  rw [hB e12]
  by_cases e11 : g = 11
  · subst e11; rw [tkA_at hq]; simp only [hA]
  rw [hB e11]
  by_cases e10 : g = 10
  · subst e10; rw [tkA_at hq]; simp only [hA]
  rw [hB e10]
  by_cases e9 : g = 9
  · subst e9; rw [tkA_at hq]; simp only [hA]
  rw [hB e9]
  by_cases e8 : g = 8
  · subst e8; rw [tkA_at hq]; simp only [hA]
  rw [hB e8]
  by_cases e7 : g = 7
  · subst e7; rw [tkA_at hq]; simp only [hA]
  rw [hB e7]
  have e6 : g = 6 := by omega
  subst e6; rw [tkA_at hq]; simp only [hA]
theorem CV.take {t t1 : Nat} {V : Vw} {σ : St} (h : CV t1 V σ) (ht : t ≠ t1) : CV t V (tkP t t1 σ) := by
  obtain ⟨hw, h1, h2, h3, h4, h5, h6⟩ := h
  have hN := hw.1
  refine ⟨hw, by rw [tkP_4 ht, if_pos (by omega)]; exact h1, fun i hi => ?_, fun k hk => by rw [tkP_5 hk]; exact h3 k hk, by rw [tkP_4 ht, if_pos (by omega)]; exact h4, by rw [tkP_4 ht, if_pos (by omega)]; exact h5, by rw [tkP_4 ht, if_pos (by omega)]; exact h6⟩
  rw [tkP_g ht (by omega) (by omega) (by omega), tkP_g ht (by omega) (by omega) (by omega), tkP_g ht (by omega) (by omega) (by omega), tkP_g ht (by omega) (by omega) (by omega), tkP_g ht (by omega) (by omega) (by omega)]
  exact h2 i hi
/-- only what no call shows has changed -/
def SC (σ s : St) : Prop := (∀ g u, keepG g u ∨ g = 0 ∨ 30 ≤ g → s.1 g u = σ.1 g u) ∧ s.2 = σ.2
def CW (σ σ1 : St) (v : Int32) : Prop := (∀ g u, keepG g u ∨ 30 ≤ g → σ1.1 g u = σ.1 g u) ∧ σ1.2 = σ.2 ∧ σ1.1 0 0 9 = σ.1 0 0 9 ∧ σ1.1 0 0 10 = v
def MR (σ1 σ2 : St) (v : Int32) : Prop := (∀ g u, keepG g u ∨ g = 0 → σ2.1 g u = σ1.1 g u) ∧ σ2.2 = σ1.2 ∧ σ2.1 30 0 9 = v ∧ ∀ j, j = 1 ∨ j = 12 ∨ j = 24 ∨ j = 25 → σ2.1 30 0 j = σ1.1 30 0 j
theorem SC.rf (σ : St) : SC σ σ := ⟨fun _ _ _ => rfl, rfl⟩
theorem SC.tr {σ s s' : St} (h : SC σ s) (h' : SC s s') : SC σ s' := ⟨fun g u a => (h'.1 g u a).trans (h.1 g u a), h'.2.trans h.2⟩
theorem SC.tk {σ s : St} (h : SC σ s) : SC σ (tkP 4 0 s) := h.tr ⟨fun g u a => tkP_ne (by unfold keepG at a; omega), tkP_2⟩
theorem SC.si {σ s : St} (h : SC σ s) {g t j : Nat} {v : Int32} (hg : ¬ (keepG g t ∨ g = 0 ∨ 30 ≤ g)) : SC σ (si s g t j v) := h.tr ⟨fun g' u a => si_ne (fun e => hg (by rw [← e.1, ← e.2]; exact a)), si_2 _ _ _ _ _⟩
theorem SC.sa {σ s : St} (h : SC σ s) {g t : Nat} {f : Nat → Int32} (hg : ¬ (keepG g t ∨ g = 0 ∨ 30 ≤ g)) : SC σ (sa s g t f) := h.tr ⟨fun g' u a => sa_ne (fun e => hg (by rw [← e.1, ← e.2]; exact a)), sa_2 _ _ _ _⟩
theorem SC.cw {σ s : St} (h : SC σ s) (v : Int32) : CW σ (CTentMiddleLaw_law_r2943_546279.si s 0 0 10 v) v :=
  ⟨fun g u a => by rw [si_ne (by unfold keepG at a; omega)]; exact h.1 g u (a.imp id Or.inr), by rw [si_2]; exact h.2, by rw [si_g, if_neg (by omega), h.1 0 0 (by omega)], by rw [si_g, if_pos (by omega)]⟩
theorem SC.cw0 {σ s : St} (h : SC σ s) : CW σ s (σ.1 0 0 10) :=
  ⟨fun g u a => h.1 g u (a.imp id Or.inr), h.2, by rw [h.1 0 0 (by omega)], by rw [h.1 0 0 (by omega)]⟩
theorem RR.both {σ σ1 σ2 : St} {v : Int32} (h : RR σ) (c : CW σ σ1 v) (m : MR σ1 σ2 v) : RR σ2 := by
  obtain ⟨c1, c2, c3, c4⟩ := c
  obtain ⟨m1, m2, m3, m4⟩ := m
  refine h.fr (fun g u a => (m1 g u (Or.inl a)).trans (c1 g u (Or.inl a))) (m2.trans c2) (by rw [m3, m1 0 0 (by omega), c4]) (by rw [m1 0 0 (by omega), c3]) (by rw [m4 12 (by omega), c1 30 0 (by omega)]) (by rw [m4 1 (by omega), c1 30 0 (by omega)]) (by rw [m4 24 (by omega), c1 30 0 (by omega)]) (by rw [m4 25 (by omega), c1 30 0 (by omega)])
theorem MU.cw {V : Vw} {σ σ1 : St} {v : Int32} (h : MU V σ) (c : CW σ σ1 v) : MU V σ1 := h.cgC (fun g a _ => c.1 g 0 (Or.inr a))
theorem MR.rf {σ : St} : MR σ σ (σ.1 30 0 9) := ⟨fun _ _ _ => rfl, rfl, rfl, fun _ _ => rfl⟩
theorem MR.tr {σ s s' : St} {v v' : Int32} (h : MR σ s v) (h' : MR s s' v') : MR σ s' v' := ⟨fun g u a => (h'.1 g u a).trans (h.1 g u a), h'.2.1.trans h.2.1, h'.2.2.1, fun j a => (h'.2.2.2 j a).trans (h.2.2.2 j a)⟩
theorem MR.ly (σ : St) : MR σ (lay σ) (σ.1 30 0 9) := ⟨fun g u a => lay_ne (by unfold keepG at a; omega) (by unfold keepG at a; omega) (by unfold keepG at a; omega), lay_2, lay_30 (by decide) (by decide), fun j a => lay_30 (by omega) (by omega)⟩
theorem MR.st {σ s : St} {v v' : Int32} (h : MR σ s v) : MR σ (si s 30 0 9 v') v' := h.tr ⟨fun g u a => si_ne (by unfold keepG at a; omega), si_2 _ _ _ _ _, by rw [si_g, if_pos (by omega)], fun j a => by rw [si_g, if_neg (by omega)]⟩
theorem MR.s0 {σ s : St} {v v' : Int32} {j : Nat} (h : MR σ s v) (hj : 22 ≤ j ∧ (j ≤ 23 ∨ j = 26)) : MR σ (si s 30 0 j v') v := h.tr ⟨fun g u a => si_ne (by unfold keepG at a; omega), si_2 _ _ _ _ _, by rw [si_g, if_neg (by omega), h.2.2.1], fun j' a => by rw [si_g, if_neg (by omega)]⟩
