def Sm (y : Nat → Nat → Nat) (p : Nat → Nat) (i : Nat) : Nat → Nat
  | 0 => 0
  | d + 1 => Sm y p i d + y (p d) i
theorem Sm_cong {y : Nat → Nat → Nat} {p p' : Nat → Nat} {i : Nat} : ∀ {d : Nat}, (∀ j, j < d → p' j = p j) → Sm y p' i d = Sm y p i d
  | 0, _ => rfl
  | d + 1, h => by
    show Sm y p' i d + y (p' d) i = Sm y p i d + y (p d) i
    rw [Sm_cong (fun j hj => h j (by omega)), h d (by omega)]
theorem Sm_le {y : Nat → Nat → Nat} {p : Nat → Nat} {i : Nat} : ∀ {d : Nat}, (∀ j, j < d → y (p j) i ≤ 8) → Sm y p i d ≤ 8 * d
  | 0, _ => Nat.le_refl _
  | d + 1, h => by
    have a := Sm_le (y := y) (p := p) (i := i) (d := d) (fun j hj => h j (by omega))
    have b := h d (by omega)
    show Sm y p i d + y (p d) i ≤ 8 * (d + 1)
    omega
def lo (d : Nat) (p : Nat → Nat) : Nat := (if 1 ≤ d then 14400 * p 0 else 0) + (if 2 ≤ d then 120 * p 1 else 0) + (if 3 ≤ d then p 2 else 0)
def wd (d : Nat) : Nat := if d = 0 then 1728000 else if d = 1 then 14400 else if d = 2 then 120 else 1
def PR (d M : Nat) (p : Nat → Nat) : Prop := (∀ j, j < d → p j < M) ∧ ∀ j, j + 1 < d → p j ≤ p (j + 1)
def SD (N M : Nat) (y : Nat → Nat → Nat) (most : Nat → Nat) (σ : St) : Prop := σ.1 20 0 8 = nI N ∧ σ.1 20 0 7 = nI M ∧ (∀ k, k < M → ∀ i, i < N → σ.1 22 0 (k * 5 + i) = nI (y k i)) ∧ ∀ i, i < N → σ.1 23 0 i = nI (most i)
def CB (T N M : Nat) (y : Nat → Nat → Nat) (R : Nat) (σ : St) : Prop := ∃ ta tb tc, BI T N M y R (σ.1 20 0 6) ta tb tc ∧ (σ.1 20 0 6 ≠ -1 → σ.1 26 0 0 = nI ta ∧ (2 ≤ T → σ.1 26 0 1 = nI tb) ∧ (3 ≤ T → σ.1 26 0 2 = nI tc))
def FRM (d : Nat) (σ s : St) : Prop := (∀ g u, ¬ ((g = 20 ∨ g = 24 ∨ g = 25 ∨ g = 26) ∧ u = 0) → s.1 g u = σ.1 g u) ∧ s.2 = σ.2 ∧ (∀ j, j ≠ 6 → s.1 20 0 j = σ.1 20 0 j) ∧ (∀ q, q < (d + 1) * 5 → s.1 24 0 q = σ.1 24 0 q) ∧ ∀ j, j < d → s.1 25 0 j = σ.1 25 0 j
theorem FRM.rf (d : Nat) (σ : St) : FRM d σ σ := ⟨fun _ _ _ => rfl, rfl, fun _ _ => rfl, fun _ _ => rfl, fun _ _ => rfl⟩
theorem FRM.tr {d : Nat} {σ s s' : St} (h : FRM d σ s) (h' : FRM d s s') : FRM d σ s' := ⟨fun g u a => (h'.1 g u a).trans (h.1 g u a), h'.2.1.trans h.2.1, fun j a => (h'.2.2.1 j a).trans (h.2.2.1 j a), fun q a => (h'.2.2.2.1 q a).trans (h.2.2.2.1 q a), fun j a => (h'.2.2.2.2 j a).trans (h.2.2.2.2 j a)⟩
theorem FRM.wk {d : Nat} {σ s : St} (h : FRM (d + 1) σ s) : FRM d σ s := ⟨h.1, h.2.1, h.2.2.1, fun q a => h.2.2.2.1 q (by omega), fun j a => h.2.2.2.2 j (by omega)⟩
theorem SD.fr {N M d : Nat} {y : Nat → Nat → Nat} {most : Nat → Nat} {σ s : St} (h : SD N M y most σ) (f : FRM d σ s) : SD N M y most s := by
  obtain ⟨a, b, c, e⟩ := h
  exact ⟨by rw [f.2.2.1 8 (by omega)]; exact a, by rw [f.2.2.1 7 (by omega)]; exact b, fun k hk i hi => by rw [f.1 22 0 (by omega)]; exact c k hk i hi, fun i hi => by rw [f.1 23 0 (by omega)]; exact e i hi⟩
theorem mmin_N {a b : Nat} (ha : a < 1000) (hb : b < 1000) : mmin (nI a) (nI b) = nI (if b < a then b else a) := by
  unfold mmin
  simp (disch := omega) only [nI_ltI]
  split <;> rfl
section CH
variable {n N M T : Nat} {y : Nat → Nat → Nat} {most : Nat → Nat}
theorem bound_eq {d : Nat} {σ : St} {S : Nat → Nat} (hN : N ≤ 5) (hd : d ≤ T) (hT : T ≤ 3) (sd : SD N M y most σ) (hm : ∀ i, i < N → most i ≤ 8) (hS : ∀ i, i < N → σ.1 24 0 (d * 5 + i) = nI (S i) ∧ S i ≤ 24) (hn : 10 < n) : F_Plan_bound n (nI d) (nI T) σ = some (nI (minf 24 (fun i => S i + (T - d) * most i) N)) := by
  unfold F_Plan_bound
  refine loop_gen (fun q i (s : Nat) => F_Plan_bound_6 n q (nI d) (nI T) (nI s) (nI i) σ) N (fun i => minf 24 (fun i => S i + (T - d) * most i) i) _ (fun q => ?_) (fun q i hi => ?_) n 0 (by omega) (by omega)
  · rw [F_Plan_bound_6, sd.1, if_pos (by simp (disch := omega) only [nI_leI]; omega)]
  · have h1 := hS i hi
    have h2 := hm i hi
    have h3 : (T - d) * most i ≤ 3 * 8 := Nat.mul_le_mul (by omega) h2
    have h4 := minf_le 24 (fun i => S i + (T - d) * most i) i
    rw [F_Plan_bound_6, sd.1, if_neg (by simp (disch := omega) only [nI_leI]; omega), show (5 : Int32) = nI 5 from rfl, pk_mul, nI_add, ald_24 (by omega), h1.1, ald_23 (by omega), sd.2.2.2 i hi]
    simp only [obind, b2_some, bs_eq]
    rw [sub_nI hd (by omega), pk_mul, nI_add, mmin_N (by omega) (by omega), nI_1]
    rfl
theorem pre_of {d : Nat} {p : Nat → Nat} {a b c : Nat} (hT : T ≤ 3) (hd : d ≤ T) (hM : M ≤ 120) (pr : PR d M p) (h : cd T M a b c) (h1 : lo d p ≤ rk a b c) (h2 : rk a b c < lo d p + wd d) : (1 ≤ d → a = p 0) ∧ (2 ≤ d → b = p 1) ∧ (3 ≤ d → c = p 2) := by
  obtain ⟨p1, p2, p3, p4, p5⟩ := h
  have hb : b < 120 := by
    by_cases n2 : 2 ≤ T
    · have := p2 n2; omega
    · have := p3 n2; omega
  have hc : c < 120 := by
    by_cases n3 : 3 ≤ T
    · have := p4 n3; omega
    · have := p5 n3; omega
  have : d = 0 ∨ d = 1 ∨ d = 2 ∨ d = 3 := by omega
  unfold lo wd at *
  unfold rk at *
  rcases this with r | r | r | r <;> subst r
  · exact ⟨fun z => by omega, fun z => by omega, fun z => by omega⟩
  · simp (decide := true) only [if_true, if_false] at h1 h2
    exact ⟨fun z => by omega, fun z => by omega, fun z => by omega⟩
  · have q1 := pr.1 1 (by omega)
    simp (decide := true) only [if_true, if_false] at h1 h2
    exact ⟨fun z => by omega, fun z => by omega, fun z => by omega⟩
  · have q1 := pr.1 1 (by omega)
    have q2 := pr.1 2 (by omega)
    simp (decide := true) only [if_true, if_false] at h1 h2
    exact ⟨fun z => by omega, fun z => by omega, fun z => by omega⟩
theorem ob_bound {d : Nat} {p : Nat → Nat} {a b c : Nat} (hT : T ≤ 3) (hT1 : 1 ≤ T) (hd : d ≤ T) (hM : M ≤ 120) (pr : PR d M p) (hy : ∀ k, k < M → ∀ i, i < N → y k i ≤ most i) (h : cd T M a b c) (h1 : lo d p ≤ rk a b c) (h2 : rk a b c < lo d p + wd d) : ob T N y a b c ≤ minf 24 (fun i => Sm y p i d + (T - d) * most i) N := by
  obtain ⟨e1, e2, e3⟩ := pre_of hT hd hM pr h h1 h2
  obtain ⟨p1, p2, p3, p4, p5⟩ := h
  unfold ob
  refine minf_mono (fun i hi => ?_)
  have ya := hy a p1 i hi
  have yb : 2 ≤ T → y b i ≤ most i := fun z => hy b (p2 z).2 i hi
  have yc : 3 ≤ T → y c i ≤ most i := fun z => hy c (p4 z).2 i hi
  have s0 : ∀ q, Sm y q i 0 = 0 := fun _ => rfl
  have s1 : ∀ q, Sm y q i 1 = y (q 0) i := fun q => by show Sm y q i 0 + y (q 0) i = _; rw [s0]; omega
  have s2 : ∀ q, Sm y q i 2 = y (q 0) i + y (q 1) i := fun q => by show Sm y q i 1 + y (q 1) i = _; rw [s1]
  have s3 : ∀ q, Sm y q i 3 = y (q 0) i + y (q 1) i + y (q 2) i := fun q => by show Sm y q i 2 + y (q 2) i = _; rw [s2]
  have : T = 1 ∨ T = 2 ∨ T = 3 := by omega
  rcases this with r | r | r <;> subst r
  · rw [if_neg (by omega), if_neg (by omega)]
    have hd' : d = 0 ∨ d = 1 := by omega
    rcases hd' with r | r <;> subst r
    · rw [s0]; omega
    · rw [s1, ← e1 (by omega)]; omega
  · have yb := yb (by omega)
    rw [if_pos (by omega), if_neg (by omega)]
    have hd' : d = 0 ∨ d = 1 ∨ d = 2 := by omega
    rcases hd' with r | r | r <;> subst r
    · rw [s0]; omega
    · rw [s1, ← e1 (by omega)]; omega
    · rw [s2, ← e1 (by omega), ← e2 (by omega)]; omega
  · have yb := yb (by omega)
    have yc := yc (by omega)
    rw [if_pos (by omega), if_pos (by omega)]
    have hd' : d = 0 ∨ d = 1 ∨ d = 2 ∨ d = 3 := by omega
    rcases hd' with r | r | r | r <;> subst r
    · rw [s0]; omega
    · rw [s1, ← e1 (by omega)]; omega
    · rw [s2, ← e1 (by omega), ← e2 (by omega)]; omega
    · rw [s3, ← e1 (by omega), ← e2 (by omega), ← e3 (by omega)]; omega
theorem leaf_ob {p : Nat → Nat} (hT : T ≤ 3) (hT1 : 1 ≤ T) : minf 24 (fun i => Sm y p i T + (T - T) * most i) N = ob T N y (p 0) (if 2 ≤ T then p 1 else 0) (if 3 ≤ T then p 2 else 0) := by
  unfold ob
  refine minf_cong (fun i hi => ?_)
  have s0 : ∀ q, Sm y q i 0 = 0 := fun _ => rfl
  have s1 : ∀ q, Sm y q i 1 = y (q 0) i := fun q => by show Sm y q i 0 + y (q 0) i = _; rw [s0]; omega
  have s2 : ∀ q, Sm y q i 2 = y (q 0) i + y (q 1) i := fun q => by show Sm y q i 1 + y (q 1) i = _; rw [s1]
  have s3 : ∀ q, Sm y q i 3 = y (q 0) i + y (q 1) i + y (q 2) i := fun q => by show Sm y q i 2 + y (q 2) i = _; rw [s2]
  rw [Nat.sub_self, Nat.zero_mul, Nat.add_zero]
  have : T = 1 ∨ T = 2 ∨ T = 3 := by omega
  rcases this with r | r | r <;> subst r
  · rw [s1]
    simp (decide := true) only [if_true, if_false]
    omega
  · rw [s2]
    simp (decide := true) only [if_true, if_false]
    omega
  · rw [s3]
    simp (decide := true) only [if_true]
theorem lo_up {d : Nat} {p : Nat → Nat} {k : Nat} (hd : d < 3) : lo (d + 1) (up p d k) + wd (d + 1) = lo (d + 1) (up p d (k + 1)) := by
  have : d = 0 ∨ d = 1 ∨ d = 2 := by omega
  unfold lo wd up
  rcases this with r | r | r <;> subst r <;> simp (decide := true) only [if_true, if_false] <;> omega
theorem lo_in {d : Nat} {p : Nat → Nat} {k : Nat} (hd : d < 3) : lo (d + 1) (up p d k) = lo d p + k * wd (d + 1) := by
  have : d = 0 ∨ d = 1 ∨ d = 2 := by omega
  unfold lo wd up
  rcases this with r | r | r <;> subst r <;> simp (decide := true) only [if_true, if_false] <;> omega
theorem dfs (hN : N ≤ 5) (hM : M ≤ 120) (hT : T ≤ 3) (hT1 : 1 ≤ T) (hm : ∀ i, i < N → most i ≤ 8) (hy : ∀ k, k < M → ∀ i, i < N → y k i ≤ most i) (hn : 200 < n) : ∀ e dp d p fm σ, d + e = T → e < dp → PR d M p → (fm = if d = 0 then 0 else p (d - 1)) → SD N M y most σ → (∀ j, j < d → σ.1 25 0 j = nI (p j)) → (∀ i, i < N → σ.1 24 0 (d * 5 + i) = nI (Sm y p i d)) → CB T N M y (lo d p) σ → ∃ s, F_Plan_chooseFrom n dp (nI fm) (nI d) (nI T) σ = some s ∧ FRM d σ s ∧ CB T N M y (lo d p + wd d) s := by
  intro e
  induction e with
  | zero =>
    intro dp d p fm σ hde hdp pr hf sd h25 h24 cb
    obtain ⟨dp, rfl⟩ : ∃ q, dp = q + 1 := ⟨dp - 1, by omega⟩
    have hd : d = T := by omega
    subst hd
    have hS : ∀ i, i < N → Sm y p i d ≤ 24 := fun i hi => by
      have := Sm_le (y := y) (p := p) (i := i) (d := d) (fun j hj => by have a := hy _ (pr.1 j hj) i hi; have b := hm i hi; omega)
      omega
    have hwd : 1 ≤ wd d := by unfold wd; split; omega; split; omega; split <;> omega
    rw [F_Plan_chooseFrom]
    unfold F_Plan_chooseFrom_b
    rw [bound_eq (S := fun i => Sm y p i d) hN (Nat.le_refl _) hT sd hm (fun i hi => ⟨h24 i hi, hS i hi⟩) (by omega), leaf_ob (y := y) (most := most) hT hT1]
    simp only [obind, b2_some, bs_eq]
    obtain ⟨ta, tb, tc, bi, bt⟩ := cb
    generalize hz : ob d N y (p 0) (if 2 ≤ d then p 1 else 0) (if 3 ≤ d then p 2 else 0) = z
    have hz24 : z ≤ 24 := by rw [← hz]; exact ob_le _ _ _ _ _ _
    have one : ∀ a b c, cd d M a b c → lo d p ≤ rk a b c → rk a b c < lo d p + wd d → a = p 0 ∧ b = (if 2 ≤ d then p 1 else 0) ∧ c = (if 3 ≤ d then p 2 else 0) := by
      intro a b c h h1 h2
      obtain ⟨e1, e2, e3⟩ := pre_of hT (Nat.le_refl _) hM pr h h1 h2
      obtain ⟨p1, p2, p3, p4, p5⟩ := h
      refine ⟨e1 hT1, ?_, ?_⟩
      · by_cases g : 2 ≤ d
        · rw [if_pos g]; exact e2 g
        · rw [if_neg g]; exact p3 g
      · by_cases g : 3 ≤ d
        · rw [if_pos g]; exact e3 g
        · rw [if_neg g]; exact p5 g
    by_cases g : σ.1 20 0 6 < nI z
    · rw [if_pos g, if_neg (by simp (disch := omega) only [nI_ltI]; omega), show (0 : Int32) = nI 0 from rfl, acp_in (g := 25) (t := 0) (g' := 26) (t' := 0) (s := 0) (d := 0) (m := d) (show 0 + d ≤ 3 by omega) (show 0 + d ≤ 3 by omega) (show 3 < 2 ^ 31 by decide) (show 3 < 2 ^ 31 by decide)]
      simp only [obind, b2_some, bs_eq]
      refine ⟨_, rfl, ⟨fun g u a => by rw [sa_ne (by omega), si_ne (by omega)], rfl, fun j a => by rw [sa_ne (by omega), si_g, if_neg (fun q => a q.2)], fun q _ => by rw [sa_ne (by omega), si_ne (by omega)], fun j _ => by rw [sa_ne (by omega), si_ne (by omega)]⟩, p 0, if 2 ≤ d then p 1 else 0, if 3 ≤ d then p 2 else 0, ?_, ?_⟩
      · rw [sa_ne (by omega), si_g, if_pos (by omega), ← hz]
        have hk : cd d M (p 0) (if 2 ≤ d then p 1 else 0) (if 3 ≤ d then p 2 else 0) := by
          refine ⟨pr.1 0 (by omega), fun n2 => ?_, fun n2 => by rw [if_neg n2], fun n3 => ?_, fun n3 => by rw [if_neg n3]⟩
          · rw [if_pos n2]; exact ⟨pr.2 0 (by omega), pr.1 1 (by omega)⟩
          · rw [if_pos n3, if_pos (by omega)]; exact ⟨pr.2 1 (by omega), pr.1 2 (by omega)⟩
        have hrk : rk (p 0) (if 2 ≤ d then p 1 else 0) (if 3 ≤ d then p 2 else 0) = lo d p := by
          unfold rk lo
          have : d = 1 ∨ d = 2 ∨ d = 3 := by omega
          rcases this with r | r | r <;> subst r <;> simp (decide := true) only [if_true, if_false]
        exact bi.take hk (by omega) (by omega) (by rw [hz]; exact g) one
      · intro _
        have e25 : ∀ j, j < d → (si σ 20 0 6 (nI z)).1 25 0 j = nI (p j) := fun j hj => by rw [si_ne (by omega)]; exact h25 j hj
        rw [sa_at]
        unfold va_cpy
        refine ⟨?_, fun n2 => ?_, fun n3 => ?_⟩
        · rw [if_pos (by omega)]
          exact e25 0 (by omega)
        · rw [if_pos (by omega), if_pos n2]
          exact e25 1 (by omega)
        · rw [if_pos (by omega), if_pos n3]
          exact e25 2 (by omega)
    · rw [if_neg g]
      refine ⟨σ, rfl, FRM.rf d σ, ta, tb, tc, bi.prune hz24 (by omega) g (fun a b c h h1 h2 => ?_), bt⟩
      obtain ⟨q1, q2, q3⟩ := one a b c h h1 h2
      rw [q1, q2, q3, hz]
      exact Nat.le_refl _
  | succ e ih =>
    intro dp d p fm σ hde hdp pr hf sd h25 h24 cb
    obtain ⟨dp, rfl⟩ : ∃ q, dp = q + 1 := ⟨dp - 1, by omega⟩
    have hd3 : d < 3 := by omega
    have hS : ∀ i, i < N → Sm y p i d ≤ 24 := fun i hi => by
      have := Sm_le (y := y) (p := p) (i := i) (d := d) (fun j hj => by have a := hy _ (pr.1 j hj) i hi; have b := hm i hi; omega)
      omega
    have hfm : fm ≤ M := by
      by_cases g : d = 0
      · rw [if_pos g] at hf; omega
      · rw [if_neg g] at hf
        have := pr.1 (d - 1) (by omega)
        omega
    rw [F_Plan_chooseFrom]
    unfold F_Plan_chooseFrom_b
    rw [bound_eq (S := fun i => Sm y p i d) hN (by omega) hT sd hm (fun i hi => ⟨h24 i hi, hS i hi⟩) (by omega)]
    simp only [obind, b2_some, bs_eq]
    obtain ⟨ta, tb, tc, bi, bt⟩ := id cb
    have hw : wd (d + 1) * 120 = wd d := by
      have : d = 0 ∨ d = 1 ∨ d = 2 := by omega
      rcases this with r | r | r <;> subst r <;> rfl
    by_cases g : σ.1 20 0 6 < nI (minf 24 (fun i => Sm y p i d + (T - d) * most i) N)
    · rw [if_pos g, if_pos (by simp (disch := omega) only [nI_ltI]; omega), show (5 : Int32) = nI 5 from rfl, pk_mul]
      have next : ∀ a b c, cd T M a b c → lo d p ≤ rk a b c → rk a b c < lo d p + wd d → ∃ q, fm ≤ q ∧ q < M ∧ lo d p + q * wd (d + 1) ≤ rk a b c ∧ rk a b c < lo d p + (q + 1) * wd (d + 1) := by
        intro a b c h h1 h2
        obtain ⟨e1, e2, e3⟩ := pre_of hT (by omega) hM pr h h1 h2
        obtain ⟨p1, p2, p3, p4, p5⟩ := h
        have hb : b < 120 := by
          by_cases n2 : 2 ≤ T
          · have := p2 n2; omega
          · have := p3 n2; omega
        have hc : c < 120 := by
          by_cases n3 : 3 ≤ T
          · have := p4 n3; omega
          · have := p5 n3; omega
        have hd' : d = 0 ∨ d = 1 ∨ d = 2 := by omega
        unfold lo wd rk at *
        rcases hd' with r | r | r <;> subst r <;> simp (decide := true) only [if_true, if_false] at hf h1 h2 ⊢
        · exact ⟨a, by omega, p1, by omega, by omega⟩
        · have e1 := e1 (by omega)
          have p2 := p2 (by omega)
          have hf : fm = p 0 := hf
          exact ⟨b, by omega, p2.2, by omega, by omega⟩
        · have e1 := e1 (by omega)
          have e2 := e2 (by omega)
          have p4 := p4 (by omega)
          have hf : fm = p 1 := hf
          exact ⟨c, by omega, p4.2, by omega, by omega⟩
      have key := loop_inv (fun k i (_ : Unit) s => F_Plan_chooseFrom_52 n dp (F_Plan_chooseFrom n dp) k (nI d) (nI T) (nI (d * 5)) (nI (fm + i)) s) (M - fm) (fun _ => ()) (fun i s => FRM d σ s ∧ CB T N M y (lo d p + (fm + i) * wd (d + 1)) s) (fun s => FRM d σ s ∧ CB T N M y (lo d p + wd d) s) (fun k s is => by
        refine ⟨s, ?_, is.1, ?_⟩
        · rw [F_Plan_chooseFrom_52, (sd.fr is.1).2.1, if_pos (by simp (disch := omega) only [nI_leI]; omega)]
        · obtain ⟨ua, ub, uc, v1, v2⟩ := is.2
          rw [show fm + (M - fm) = M by omega] at v1
          refine ⟨ua, ub, uc, v1.skip ?_ (fun a b c h h1 h2 => ?_), v2⟩
          · rw [← hw]
            have : M * wd (d + 1) ≤ 120 * wd (d + 1) := Nat.mul_le_mul_right _ hM
            rw [Nat.mul_comm (wd (d + 1)) 120]
            omega
          · obtain ⟨q, q1, q2, q3, q4⟩ := next a b c h (by omega) h2
            have : (q + 1) * wd (d + 1) ≤ M * wd (d + 1) := Nat.mul_le_mul_right _ (by omega)
            omega) (fun k i s hi is => by
        have sd' := sd.fr is.1
        have hk : fm + i < M := by omega
        -- the row of sums
        obtain ⟨s1, a1, a2, a3⟩ : ∃ s1, F_Plan_chooseFrom_64 n dp (F_Plan_chooseFrom n dp) (F_Plan_chooseFrom_52 n dp (F_Plan_chooseFrom n dp) k) n (nI d) (nI T) (nI (d * 5)) (nI (fm + i)) (nI 0) s = ((ast s1 25 0 (nI d) (nI (fm + i))).bind fun σ2 => (F_Plan_chooseFrom n dp (nI (fm + i)) (nI (d + 1)) (nI T) σ2).bind fun σ3 => F_Plan_chooseFrom_52 n dp (F_Plan_chooseFrom n dp) k (nI d) (nI T) (nI (d * 5)) (nI (fm + i + 1)) σ3) ∧ (s1 = sa s 24 0 (fun j => if (d * 5 + 5) ≤ j ∧ j < (d * 5 + 5) + N then nI (Sm y (up p d (fm + i)) (j - (d * 5 + 5)) (d + 1)) else s.1 24 0 j)) ∧ True := by
          have fg := fill_gen (fun q j s => F_Plan_chooseFrom_64 n dp (F_Plan_chooseFrom n dp) (F_Plan_chooseFrom_52 n dp (F_Plan_chooseFrom n dp) k) q (nI d) (nI T) (nI (d * 5)) (nI (fm + i)) (nI j) s) (fun s1 => (ast s1 25 0 (nI d) (nI (fm + i))).bind fun σ2 => (F_Plan_chooseFrom n dp (nI (fm + i)) (nI (d + 1)) (nI T) σ2).bind fun σ3 => F_Plan_chooseFrom_52 n dp (F_Plan_chooseFrom n dp) k (nI d) (nI T) (nI (d * 5)) (nI (fm + i + 1)) σ3) (fun s1 => (∀ g u, ¬ (g = 24 ∧ u = 0) → s1.1 g u = s.1 g u) ∧ ∀ q, q < d * 5 + 5 → s1.1 24 0 q = s.1 24 0 q) 24 0 (d * 5 + 5) N (fun j => nI (Sm y (up p d (fm + i)) j (d + 1))) (fun q s' hs' => by
            rw [F_Plan_chooseFrom_64, hs'.1 20 0 (by omega), sd'.1, if_pos (by simp (disch := omega) only [nI_leI]; omega), nI_1, nI_1]) (fun j s' hj hs' => ⟨fun g u z => by rw [si_ne z]; exact hs'.1 g u z, fun q hq => by rw [si_g, if_neg (by omega)]; exact hs'.2 q hq⟩) (fun q j s' hj hs' => by
            rw [F_Plan_chooseFrom_64, hs'.1 20 0 (by omega), sd'.1, if_neg (by simp (disch := omega) only [nI_leI]; omega), nI_add, ald_24 (by omega), hs'.2 _ (by omega), is.1.2.2.2.1 _ (by omega), h24 j hj]
            simp only [obind, b2_some, bs_eq]
            rw [show (5 : Int32) = nI 5 from rfl, pk_mul, nI_add, ald_22 (by omega), hs'.1 22 0 (by omega), sd'.2.2.1 _ hk j hj]
            simp only [obind, b2_some, bs_eq]
            rw [nI_add, nI_add, nI_add, ast_24 (by omega)]
            simp only [obind, b2_some, bs_eq, nI_1]
            have e : Sm y (up p d (fm + i)) j (d + 1) = Sm y p j d + y (fm + i) j := by
              show Sm y (up p d (fm + i)) j d + y (up p d (fm + i) d) j = _
              rw [Sm_cong (p := p) (fun j hj => by unfold up; rw [if_neg (by omega)])]
              unfold up
              rw [if_pos rfl]
            rw [e]) n 0 s (by omega) (by omega) ⟨fun _ _ _ => rfl, fun _ _ => rfl⟩
          simp only [Nat.add_zero] at fg
          exact ⟨_, fg, rfl, trivial⟩
        have s1o : ∀ g u, ¬ (g = 24 ∧ u = 0) → s1.1 g u = s.1 g u := fun g u z => by rw [a2, sa_ne z]
        have f1 : FRM d s (si s1 25 0 d (nI (fm + i))) := ⟨fun g u z => by rw [si_ne (by omega), s1o g u (by omega)], by rw [si_2, a2, sa_2], fun j z => by rw [si_ne (by omega), s1o 20 0 (by omega)], fun q hq => by rw [si_ne (by omega), a2, sa_at, if_neg (by omega)], fun j hj => by rw [si_g, if_neg (by omega), s1o 25 0 (by omega)]⟩
        have pr' : PR (d + 1) M (up p d (fm + i)) := by
          refine ⟨fun j hj => ?_, fun j hj => ?_⟩
          · unfold up
            by_cases z : j = d
            · rw [if_pos z]; exact hk
            · rw [if_neg z]; exact pr.1 j (by omega)
          · unfold up
            rw [if_neg (by omega)]
            by_cases z : j + 1 = d
            · rw [if_pos z]
              have : p j = fm := by
                rw [if_neg (by omega)] at hf
                rw [hf, show d - 1 = j by omega]
              omega
            · rw [if_neg z]; exact pr.2 j (by omega)
        obtain ⟨s3, b1, b2, b3⟩ := ih dp (d + 1) (up p d (fm + i)) (fm + i) (si s1 25 0 d (nI (fm + i))) (by omega) (by omega) pr' (by rw [if_neg (by omega), show d + 1 - 1 = d by omega]; unfold up; rw [if_pos rfl]) (sd'.fr f1) (fun j hj => by
          unfold up
          rw [si_g]
          by_cases z : j = d
          · rw [if_pos (by omega), if_pos z]
          · rw [if_neg (by omega), if_neg z, s1o 25 0 (by omega), is.1.2.2.2.2 j (by omega)]
            exact h25 j (by omega)) (fun j hj => by
          rw [si_ne (by omega), a2, sa_at, if_pos (by omega), show (d + 1) * 5 + j - (d * 5 + 5) = j by omega]) (by
          rw [lo_in hd3]
          obtain ⟨ua, ub, uc, v1, v2⟩ := is.2
          refine ⟨ua, ub, uc, ?_, ?_⟩
          · rw [si_ne (by omega), s1o 20 0 (by omega)]; exact v1
          · rw [si_ne (by omega), si_ne (by omega), s1o 20 0 (by omega), s1o 26 0 (by omega)]; exact v2)
        refine ⟨s3, ?_, is.1.tr (f1.tr b2.wk), ?_⟩
        · rw [F_Plan_chooseFrom_52, sd'.2.1, if_neg (by simp (disch := omega) only [nI_leI]; omega), show (0 : Int32) = nI 0 from rfl, a1, ast_25 (by omega)]
          simp only [obind, b2_some, bs_eq]
          rw [b1]
          rfl
        · rw [lo_in hd3] at b3
          rw [show lo d p + (fm + (i + 1)) * wd (d + 1) = lo d p + (fm + i) * wd (d + 1) + wd (d + 1) by rw [show fm + (i + 1) = fm + i + 1 by omega, Nat.add_mul, Nat.one_mul]; omega]
          exact b3) n 0 σ (by omega) (by omega) ⟨FRM.rf d σ, ta, tb, tc, bi.skip (by omega) (fun a b c h h1 h2 => by
          have h2' : rk a b c < lo d p + wd d := by
            have : (fm + 0) * wd (d + 1) ≤ 120 * wd (d + 1) := Nat.mul_le_mul_right _ (by omega)
            rw [← hw, Nat.mul_comm (wd (d + 1)) 120]
            omega
          obtain ⟨q, q1, q2, q3, q4⟩ := next a b c h h1 h2'
          have : (fm + 0) * wd (d + 1) ≤ q * wd (d + 1) := Nat.mul_le_mul_right _ (by omega)
          omega), bt⟩
      simp only [Nat.add_zero] at key
      exact key
    · rw [if_neg g]
      have hz24 := minf_le 24 (fun i => Sm y p i d + (T - d) * most i) N
      exact ⟨σ, rfl, FRM.rf d σ, ta, tb, tc, bi.prune hz24 (by omega) g (fun a b c h h1 h2 => ob_bound hT hT1 (by omega) hM pr hy h h1 h2), bt⟩
end CH
