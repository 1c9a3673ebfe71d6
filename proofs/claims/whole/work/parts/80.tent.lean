-- FAULT and TENT
theorem RF.sc {σ s : St} (h : RF σ s) : SC σ s := ⟨fun g u a => h.1 g u (by unfold keepG at a; omega), h.2⟩
theorem op_fault {n : Nat} {σ : St} (a1 : Int32) (hn : 2000 ≤ n) (h : RR σ) : ∃ r σ1 σ2, F_Tent_fault n a1 σ = some (r, σ1) ∧ F_Mod_fault n a1 σ1 = some (r, σ2) ∧ RR σ2 := by
  unfold F_Tent_fault F_Mod_fault
  rcases ix_of 4 (by decide) a1 with g | ⟨k, hk, rfl⟩
  · refine ⟨-1, σ, σ, ?_, ?_, h⟩
    · rw [rm_out (t := 1) g]; simp only [obind, b2_some, bs_eq, if_neg m1_ne]
    · rw [isText_out g]; simp only [obind, b2_some, bs_eq, if_true]
  · obtain ⟨t1, t2⟩ := h.2.1
    obtain ⟨e1, e2⟩ := t2 k hk
    rcases e2 with e2 | ⟨z, hz, e2, e3⟩
    · refine ⟨-3, cF 1 σ, mF 1 (cF 1 σ), ?_, ?_, h.found (by omega)⟩
      · rw [rm_none (t := 1) hk e2]; simp only [obind, b2_some, bs_eq, if_neg m3_ne]
      · rw [isText_in hk]
        simp only [obind, b2_some, bs_eq, if_neg one_ne]
        rw [ald_37 hk]
        have : (cF 1 σ).1 37 0 = σ.1 37 0 := by unfold cF; rw [si_ne (by omega), si_ne (by omega)]
        rw [this, e1, e2]
        simp only [obind, b2_some, bs_eq, if_neg m1_nle]
        rw [show (1 : Int32) = nI 1 from rfl, find_eq (by omega)]
        rfl
    · obtain ⟨w, c1, c2, -⟩ := readC (b := fun j => σ.1 3 1 (60 * k + j)) hn hk hz t1 e2 (fun _ _ => rfl) (fun j hj => (e3 j hj).2)
      have w37 : w.1 37 0 = σ.1 37 0 := c2.1 37 0 (by omega)
      have w38 : w.1 38 0 = σ.1 38 0 := c2.1 38 0 (by omega)
      have w30 : w.1 30 0 = σ.1 30 0 := c2.1 30 0 (by omega)
      obtain ⟨v, m1, m2, -⟩ := faultM (b := fun j => σ.1 3 1 (60 * k + j)) (s := w) hn hk hz (by rw [w37, e1, e2]) (fun j hj => by rw [w38]; exact (e3 j hj).1) (fun j hj => (e3 j hj).2)
      refine ⟨(allR (fun j => σ.1 3 1 (60 * k + j)) z).1, w, v, ?_, ?_, h.both c2.sc.cw0 ⟨fun g u a => m2.1 g u (by unfold keepG at a; omega) (by unfold keepG at a; omega) (by unfold keepG at a; omega), m2.2.1, ?_, fun j a => m2.2.2 j (by omega) (by omega) (by omega) (by omega)⟩⟩
      · rw [rm_in (t := 1) hk e2 (by omega)]
        simp only [obind, b2_some, bs_eq, if_true]
        rw [c1]
        rfl
      · rw [isText_in hk]
        simp only [obind, b2_some, bs_eq, if_neg one_ne]
        rw [ald_37 hk, w37, e1, e2]
        simp only [obind, b2_some, bs_eq]
        rw [if_pos (nI_ge0 (by omega)), m1]
        rfl
      · rw [m2.2.2 9 (by omega) (by omega) (by omega) (by omega), w30]
        exact h.2.2.1.1
theorem outR_le (b : Nat → Int32) (z p0 : Nat) : ∀ k q, q + k ≤ 5 → (outR b z p0 k q).2 ≤ 5
  | 0, q, h => h
  | k + 1, q, h => by
    unfold outR
    split
    · show q ≤ 5; omega
    · split
      · exact outR_le b z p0 k (q + 1) (by omega)
      · show q ≤ 5; omega
theorem allR_9 {b : Nat → Int32} {z : Nat} (hz : z ≤ 60) (h : (allR b z).1 = -9) : cdB b z = true ∧ (allR b z).2 ≤ 5 := by
  unfold allR at *
  by_cases g : cdB b z = true
  · rw [if_pos g]
    exact ⟨g, outR_le b z _ 5 0 (by omega)⟩
  · rw [if_neg g] at h
    have hle := (skp_le (b := b) (z := z) (p := 0) (by omega)).2
    have rl := runF_le b z (skp b z 0 + 1) 8
    have : cdP b z < 2 ^ 31 := by
      unfold cdP
      split <;> omega
    exact absurd h (nI_n9 this)
def bgs (X : St) : Nat → St
  | 0 => X
  | i + 1 => bg (1 + i) (bgs X i)
theorem bgs_ne {X : St} {g u : Nat} (h : ¬ (g = 4 ∧ 1 ≤ u)) : ∀ i, (bgs X i).1 g u = X.1 g u
  | 0 => rfl
  | i + 1 => by rw [bgs, bg_ne (by omega), bgs_ne h i]
theorem bgs_2 {X : St} : ∀ i, (bgs X i).2 = X.2
  | 0 => rfl
  | i + 1 => by rw [bgs]; exact bgs_2 i
theorem bgs_at {X : St} {k : Nat} : ∀ i, k < i → (bgs X i).1 4 (1 + k) 10 = 0
  | 0, h => by omega
  | i + 1, h => by
    rw [bgs]
    by_cases e : k = i
    · rw [e, bg_at (by omega) (by omega)]
    · rw [bg_ne (by omega)]
      exact bgs_at i (by omega)
theorem tent52 {n : Nat} {X : St} (hn : 2000 ≤ n) : F_Tent_tent_52 n n 0 X = some ((bgs X 3).1 4 0 10, bgs X 3) := by
  refine loop_gen (fun q i (s : St) => F_Tent_tent_52 n q (nI i) s) 3 (bgs X) _ (fun q => ?_) (fun q i hi => ?_) n 0 (by omega) (by omega)
  · rw [F_Tent_tent_52, if_pos (by decide)]
  · rw [F_Tent_tent_52, if_neg (by rw [show (3 : Int32) = nI 3 from rfl]; simp (disch := omega) only [nI_leI]; omega), kld_in hi]
    simp only [obind, b2_some, bs_eq]
    rw [cbegin_eq]
    simp only [obind, b2_some, bs_eq]
    rw [nI_1]
    rfl
theorem takeW5 {w : St} : ∃ f, F_Camp_takeWhole 0 5 w = some (sa (si (tkP 0 5 w) 4 0 16 (w.1 4 5 16)) 14 0 f) := by
  unfold F_Camp_takeWhole
  rw [take_eq]
  simp only [obind, b2_some, bs_eq]
  rw [show mmin (nI (lenOf 14 5)) (nI (lenOf 14 0)) = nI 0 by decide, show (0 : Int32) = nI 0 from rfl, acp_in (by omega) (by omega) (by decide) (by decide)]
  simp only [obind, b2_some, bs_eq]
  rw [tkP_ne (g := 4) (u := 5) (by omega)]
  exact ⟨_, rfl⟩
def mk5 (s : St) : Nat → St
  | 0 => s
  | i + 1 => si (si (si (si (mk5 s i) 32 0 i (s.1 41 0 (3 * i))) 33 0 i (s.1 41 0 (3 * i + 1))) 31 0 (6 + i) (s.1 41 0 (3 * i + 2))) 31 0 (1 + i) (nI i)
section M5
variable {s : St} {g u t j : Nat}
theorem mk5_ne (h : ¬ ((31 ≤ g ∧ g ≤ 33) ∧ u = 0)) : ∀ i, (mk5 s i).1 g u = s.1 g u
  | 0 => rfl
  | i + 1 => by rw [mk5, si_ne (by omega), si_ne (by omega), si_ne (by omega), si_ne (by omega), mk5_ne h i]
theorem mk5_2 : ∀ i, (mk5 s i).2 = s.2
  | 0 => rfl
  | i + 1 => by rw [mk5, si_2, si_2, si_2, si_2, mk5_2 i]
theorem mk5_32 : ∀ i, t < i → (mk5 s i).1 32 0 t = s.1 41 0 (3 * t)
  | 0, h => by omega
  | i + 1, h => by
    rw [mk5, si_ne (by omega), si_ne (by omega), si_ne (by omega), si_g]
    by_cases e : t = i
    · rw [if_pos (by omega), e]
    · rw [if_neg (by omega)]
      exact mk5_32 i (by omega)
theorem mk5_33 : ∀ i, t < i → (mk5 s i).1 33 0 t = s.1 41 0 (3 * t + 1)
  | 0, h => by omega
  | i + 1, h => by
    rw [mk5, si_ne (by omega), si_ne (by omega), si_g]
    by_cases e : t = i
    · rw [if_pos (by omega), e]
    · rw [if_neg (by omega), si_ne (by omega)]
      exact mk5_33 i (by omega)
theorem mk5_6 : ∀ i, i ≤ 5 → t < i → (mk5 s i).1 31 0 (6 + t) = s.1 41 0 (3 * t + 2)
  | 0, _, h => by omega
  | i + 1, h5, h => by
    rw [mk5, si_g, if_neg (by omega), si_g]
    by_cases e : t = i
    · rw [if_pos (by omega), e]
    · rw [if_neg (by omega), si_ne (by omega), si_ne (by omega)]
      exact mk5_6 i (by omega) (by omega)
theorem mk5_1 : ∀ i, i ≤ 5 → t < i → (mk5 s i).1 31 0 (1 + t) = nI t
  | 0, _, h => by omega
  | i + 1, h5, h => by
    rw [mk5, si_g]
    by_cases e : t = i
    · rw [if_pos (by omega), e]
    · rw [if_neg (by omega), si_g, if_neg (by omega), si_ne (by omega), si_ne (by omega)]
      exact mk5_1 i (by omega) (by omega)
theorem mk5_o (hj : j = 0 ∨ 11 ≤ j) : ∀ i, i ≤ 5 → (mk5 s i).1 31 0 j = s.1 31 0 j
  | 0, _ => rfl
  | i + 1, h5 => by
    rw [mk5, si_g, if_neg (by omega), si_g, if_neg (by omega), si_ne (by omega), si_ne (by omega)]
    exact mk5_o hj i (by omega)
end M5
def tz (s : St) : Nat → St
  | 0 => s
  | i + 1 => si (tz s i) 31 0 (1026 * (1 + i)) (-1)
theorem tz_ne {s : St} {g u : Nat} (h : ¬ (g = 31 ∧ u = 0)) : ∀ i, (tz s i).1 g u = s.1 g u
  | 0 => rfl
  | i + 1 => by rw [tz, si_ne h, tz_ne h i]
theorem tz_2 {s : St} : ∀ i, (tz s i).2 = s.2
  | 0 => rfl
  | i + 1 => by rw [tz, si_2, tz_2 i]
theorem tz_lo {s : St} {j : Nat} (h : j < 1026) : ∀ i, (tz s i).1 31 0 j = s.1 31 0 j
  | 0 => rfl
  | i + 1 => by rw [tz, si_g, if_neg (by omega), tz_lo h i]
theorem tz_at {s : St} {k : Nat} : ∀ i, k < i → (tz s i).1 31 0 (1026 * (1 + k)) = -1
  | 0, h => by omega
  | i + 1, h => by
    rw [tz, si_g]
    by_cases e : k = i
    · rw [if_pos (by omega)]
    · rw [if_neg (by omega)]
      exact tz_at i (by omega)
theorem tent169 {n : Nat} {s : St} (hn : 2000 ≤ n) : F_Mod_tent_169 n n 1 s = some ((tz s 3).1 30 0 1, tz s 3) := by
  refine loop_gen (fun q i (s : St) => F_Mod_tent_169 n q (nI (1 + i)) s) 3 (tz s) _ (fun q => ?_) (fun q i hi => ?_) n 0 (by omega) (by omega)
  · rw [F_Mod_tent_169, if_pos (by decide)]
  · rw [F_Mod_tent_169, if_neg (by rw [show (4 : Int32) = nI 4 from rfl]; simp (disch := omega) only [nI_leI]; omega), show (1026 : Int32) = nI 1026 from rfl, show (0 : Int32) = nI 0 from rfl, pk_mul, nI_add, Nat.add_zero, ast_31 (by omega)]
    simp only [obind, b2_some, bs_eq]
    rw [nI_1, Nat.add_assoc]
    rfl
theorem tent95 {n N : Nat} {s : St} (hn : 2000 ≤ n) (hN : N ≤ 5) (h : s.1 30 0 1 = nI N) : F_Mod_tent_95 n n 0 s = F_Mod_tent_169 n n 1 (mk5 s N) := by
  refine loop_gen (fun q i (s : St) => F_Mod_tent_95 n q (nI i) s) N (mk5 s) _ (fun q => ?_) (fun q i hi => ?_) n 0 (by omega) (by omega)
  · rw [F_Mod_tent_95, mk5_ne (by omega), h, if_pos (by simp (disch := omega) only [nI_leI]; omega)]
  · rw [F_Mod_tent_95, mk5_ne (g := 30) (by omega), h, if_neg (by simp (disch := omega) only [nI_leI]; omega), show (3 : Int32) = nI 3 from rfl, show (1 : Int32) = nI 1 from rfl, show (2 : Int32) = nI 2 from rfl, show (6 : Int32) = nI 6 from rfl, pk_mul]
    simp only [nI_add]
    rw [ald_41 (by omega), mk5_ne (by omega)]
    simp only [obind, b2_some, bs_eq]
    rw [ast_32 (by omega)]
    simp only [obind, b2_some, bs_eq]
    rw [ald_41 (by omega), si_ne (by omega), mk5_ne (by omega)]
    simp only [obind, b2_some, bs_eq]
    rw [ast_33 (by omega)]
    simp only [obind, b2_some, bs_eq]
    rw [ald_41 (by omega), si_ne (by omega), si_ne (by omega), mk5_ne (by omega)]
    simp only [obind, b2_some, bs_eq]
    rw [ast_31 (by omega)]
    simp only [obind, b2_some, bs_eq]
    rw [ast_31 (by omega)]
    rfl
theorem tent73 {n : Nat} {s : St} (hn : 2000 ≤ n) : F_Mod_tent_73 n n 0 s = F_Mod_tent_95 n n 0 (sa s 31 0 (fun j => if 0 + 0 ≤ j ∧ j < 0 + 1026 then 0 else s.1 31 0 j)) := by
  refine fill_gen (fun k i s => F_Mod_tent_73 n k (nI i) s) (fun s => F_Mod_tent_95 n n 0 s) (fun _ => True) 31 0 0 1026 (fun _ => 0) (fun k s _ => ?_) (fun _ _ _ _ => trivial) (fun k i s hi _ => ?_) n 0 s (by omega) (by omega) trivial
  · rw [F_Mod_tent_73, if_pos (by decide)]
  · rw [F_Mod_tent_73, if_neg (by rw [show (1026 : Int32) = nI 1026 from rfl]; simp (disch := omega) only [nI_leI]; omega), ast_31 (by omega)]
    simp only [obind, b2_some, bs_eq]
    rw [nI_1, Nat.zero_add]
theorem tent47 {n : Nat} {s : St} (hn : 2000 ≤ n) : F_Mod_tent_47 n n 0 s = F_Mod_tent_73 n n 0 (sa s 34 0 (fun j => if 0 + 0 ≤ j ∧ j < 0 + 8 then s.1 40 0 (j - 0) else s.1 34 0 j)) := by
  refine fill_gen (fun k i s => F_Mod_tent_47 n k (nI i) s) (fun s => F_Mod_tent_73 n n 0 s) (fun s' => s'.1 40 0 = s.1 40 0) 34 0 0 8 (fun i => s.1 40 0 i) (fun k s _ => ?_) (fun _ s' _ e => by rw [si_ne (by omega)]; exact e) (fun k i s' hi e => ?_) n 0 s (by omega) (by omega) rfl
  · rw [F_Mod_tent_47, if_pos (by decide)]
  · rw [F_Mod_tent_47, if_neg (by rw [show (8 : Int32) = nI 8 from rfl]; simp (disch := omega) only [nI_leI]; omega), ald_40 (by omega), e]
    simp only [obind, b2_some, bs_eq]
    rw [ast_34 (by omega)]
    simp only [obind, b2_some, bs_eq]
    rw [nI_1, Nat.zero_add]
def newS (v : St) (N : Nat) : St := tz (mk5 (sa (sa (si v 30 0 1 (nI N)) 34 0 (fun j => if 0 + 0 ≤ j ∧ j < 0 + 8 then (si v 30 0 1 (nI N)).1 40 0 (j - 0) else (si v 30 0 1 (nI N)).1 34 0 j)) 31 0 (fun j => if 0 + 0 ≤ j ∧ j < 0 + 1026 then 0 else (sa (si v 30 0 1 (nI N)) 34 0 (fun j => if 0 + 0 ≤ j ∧ j < 0 + 8 then (si v 30 0 1 (nI N)).1 40 0 (j - 0) else (si v 30 0 1 (nI N)).1 34 0 j)).1 31 0 j)) N) 3
/-- a tent newly read, on both sides -/
theorem newT {b : Nat → Int32} {z p0 N : Nat} {w X Y v Z : St} {f : Nat → Int32} (hN : N ≤ 5) (c5 : C5 b z p0 N w) (cc : ∀ j, j < 8 → w.1 5 5 j = b (skp b z 0 + 1 + j) - 48) (hX : X = sa (si (tkP 0 5 w) 4 0 16 (w.1 4 5 16)) 14 0 f) (hY : Y = bgs X 3) (mf : MFd Y v) (m41 : C41 b z p0 N v) (m40 : ∀ j, j < 8 → v.1 40 0 j = b (skp b z 0 + 1 + j) - 48) (hZ : Z = newS v N) (h24 : w.1 30 0 24 = -9) (h25 : w.1 30 0 25 = -9) : Tnt Z := by
  unfold newS at hZ
  have y4 : ∀ q, 10 ≤ q → q ≤ 16 → Y.1 4 0 q = w.1 4 5 q := fun q a c => by
    rw [hY, bgs_ne (by omega), hX, sa_ne (by omega), si_g]
    by_cases e : q = 16
    · rw [if_pos (by omega), e]
    · rw [if_neg (by omega), tkP_4 (by omega), if_pos (by omega)]
  have yg : ∀ g, 6 ≤ g → g ≤ 12 → ∀ q, q < 5 → Y.1 g 0 q = w.1 g 5 q := fun g a c q hq => by
    rw [hY, bgs_ne (by omega), hX, sa_ne (by omega), si_ne (by omega), tkP_g (by omega) a c hq]
  have y5 : ∀ q, q < 8 → Y.1 5 0 q = w.1 5 5 q := fun q hq => by
    rw [hY, bgs_ne (by omega), hX, sa_ne (by omega), si_ne (by omega), tkP_5 hq]
  have yo : Y.1 30 0 = w.1 30 0 := by
    rw [hY, bgs_ne (by omega), hX, sa_ne (by omega), si_ne (by omega), tkP_ne (by omega)]
  have yk : ∀ k, k < 3 → Y.1 4 (1 + k) 10 = 0 := fun k hk => by rw [hY, bgs_at 3 hk]
  have zc : ∀ g u, g < 30 → Z.1 g u = Y.1 g u := fun g u a => by
    rw [hZ, tz_ne (by omega), mk5_ne (by omega), sa_ne (by omega), sa_ne (by omega), si_ne (by omega), mf.1 g u (by omega) (by omega) (by omega)]
  have z30 : ∀ j, j ≠ 1 → j ≠ 14 → j ≠ 15 → j ≠ 16 → j ≠ 19 → Z.1 30 0 j = w.1 30 0 j := fun j a1 a2 a3 a4 a5 => by
    rw [hZ, tz_ne (by omega), mk5_ne (by omega), sa_ne (by omega), sa_ne (by omega), si_g, if_neg (by omega), mf.2.2 j a2 a3 a4 a5, yo]
  have z1 : Z.1 30 0 1 = nI N := by
    rw [hZ, tz_ne (by omega), mk5_ne (by omega), sa_ne (by omega), sa_ne (by omega), si_g, if_pos (by omega)]
  have z32 : ∀ i, i < N → Z.1 32 0 i = v.1 41 0 (3 * i) := fun i hi => by
    rw [hZ, tz_ne (by omega), mk5_32 N hi, sa_ne (by omega), sa_ne (by omega), si_ne (by omega)]
  have z33 : ∀ i, i < N → Z.1 33 0 i = v.1 41 0 (3 * i + 1) := fun i hi => by
    rw [hZ, tz_ne (by omega), mk5_33 N hi, sa_ne (by omega), sa_ne (by omega), si_ne (by omega)]
  have z34 : ∀ j, j < 8 → Z.1 34 0 j = v.1 40 0 j := fun j hj => by
    rw [hZ, tz_ne (by omega), mk5_ne (by omega), sa_ne (by omega), sa_at, if_pos (by omega), si_ne (by omega), Nat.sub_zero]
  have z6 : ∀ i, i < N → Z.1 31 0 (6 + i) = v.1 41 0 (3 * i + 2) := fun i hi => by
    rw [hZ, tz_lo (by omega), mk5_6 N hN hi, sa_ne (by omega), sa_ne (by omega), si_ne (by omega)]
  have zw : ∀ i, i < N → Z.1 31 0 (1 + i) = nI i := fun i hi => by
    rw [hZ, tz_lo (by omega), mk5_1 N hN hi]
  have zo : ∀ j, (j = 0 ∨ 11 ≤ j) → j < 1026 → Z.1 31 0 j = 0 := fun j a c => by
    rw [hZ, tz_lo c, mk5_o a N hN, sa_at, if_pos (by omega)]
  have zk : ∀ k, k < 3 → Z.1 31 0 (1026 * (1 + k)) = -1 := fun k hk => by rw [hZ, tz_at 3 hk]
  clear hZ hX hY
  have w4 : ∀ q, 11 ≤ q → q ≤ 16 → w.1 4 5 q = 0 := fun q a c => by rw [c5.1 q, if_neg (by omega), if_pos ⟨a, c⟩]
  have n0 : (0 : Int32) = nI 0 := rfl
  refine ⟨N, hN, z1, ⟨fun i hi => ⟨?_, ?_⟩, fun j hj => ?_⟩, ⟨?_, ⟨0, by omega, ?_, ?_, fun _ => rfl, fun k hk => by omega⟩, ⟨⟨fun i => i, fun i => i, fun i hi => ⟨?_, hi, rfl⟩, fun p hp => ⟨?_, hp, rfl⟩⟩, fun i hi => ⟨?_, ?_, ?_⟩, ⟨?_, ?_⟩, ⟨?_, 0, ?_, by omega⟩, ⟨?_, 0, by omega, ?_⟩, ⟨?_, 0, by omega, ?_⟩, ⟨?_, 0, by omega, ?_⟩⟩, fun p hp => ?_⟩, ⟨by rw [z30 24 (by omega) (by omega) (by omega) (by omega) (by omega)]; exact h24, by rw [z30 25 (by omega) (by omega) (by omega) (by omega) (by omega)]; exact h25⟩, fun k hk => Or.inl ⟨by rw [zc 4 _ (by omega)]; exact yk k hk, zk k hk⟩⟩
  · rw [z32 i hi, zc 6 0 (by omega), yg 6 (by omega) (by omega) i (by omega), (m41 i hi).1, (c5.2 i hi).1]
  · rw [z33 i hi, zc 7 0 (by omega), yg 7 (by omega) (by omega) i (by omega), (m41 i hi).2.1, (c5.2 i hi).2.1]
  · rw [z34 j hj, zc 5 0 (by omega), y5 j hj, m40 j hj, cc j hj]
  · rw [zc 4 0 (by omega), y4 10 (by omega) (by omega), c5.sz]
  · rw [zc 4 0 (by omega), y4 16 (by omega) (by omega), w4 16 (by omega) (by omega)]; rfl
  · exact zo 0 (by omega) (by omega)
  · rw [zc 9 0 (by omega), yg 9 (by omega) (by omega) i (by omega), (c5.2 i hi).2.2.2.1]
  · show Z.1 31 0 (0 + 1 + p) = nI p
    rw [show 0 + 1 + p = 1 + p by omega, zw p hp]
  · show Z.1 31 0 (0 + 1 + (5 + i)) = _
    rw [show 0 + 1 + (5 + i) = 6 + i by omega, z6 i hi, zc 8 0 (by omega), yg 8 (by omega) (by omega) i (by omega), (m41 i hi).2.2, (c5.2 i hi).2.2.1]
  · show Z.1 31 0 (0 + 1 + (15 + i)) = _
    rw [zo _ (by omega) (by omega), zc 11 0 (by omega), yg 11 (by omega) (by omega) i (by omega), (c5.2 i hi).2.2.2.2.2.1]
  · show Z.1 31 0 (0 + 1 + (20 + i)) = _
    rw [zo _ (by omega) (by omega), zc 12 0 (by omega), yg 12 (by omega) (by omega) i (by omega), (c5.2 i hi).2.2.2.2.2.2]
  · show Z.1 31 0 (0 + 1 + 10) = _
    rw [zo _ (by omega) (by omega), zc 4 0 (by omega), y4 11 (by omega) (by omega), w4 11 (by omega) (by omega)]
  · rw [zc 4 0 (by omega), y4 11 (by omega) (by omega), w4 11 (by omega) (by omega)]
    exact Or.inl rfl
  · show Z.1 31 0 (0 + 1 + 11) = _
    rw [zo _ (by omega) (by omega), zc 4 0 (by omega), y4 12 (by omega) (by omega), w4 12 (by omega) (by omega)]
  · rw [zc 4 0 (by omega), y4 12 (by omega) (by omega), w4 12 (by omega) (by omega)]
    rfl
  · show Z.1 31 0 (0 + 1 + 12) = _
    rw [zo _ (by omega) (by omega), zc 4 0 (by omega), y4 13 (by omega) (by omega), w4 13 (by omega) (by omega)]
  · rw [zc 4 0 (by omega), y4 13 (by omega) (by omega), w4 13 (by omega) (by omega)]
    rfl
  · show Z.1 31 0 (0 + 1 + 13) = _
    rw [zo _ (by omega) (by omega), zc 4 0 (by omega), y4 15 (by omega) (by omega), w4 15 (by omega) (by omega)]
  · rw [zc 4 0 (by omega), y4 15 (by omega) (by omega), w4 15 (by omega) (by omega)]
    rfl
  · show Z.1 31 0 (0 + 1 + 14) = _
    rw [zo _ (by omega) (by omega), zc 4 0 (by omega), y4 14 (by omega) (by omega), w4 14 (by omega) (by omega)]
  · rw [zc 4 0 (by omega), y4 14 (by omega) (by omega), w4 14 (by omega) (by omega)]
    rfl
  · show Z.1 10 0 p = Z.1 31 0 (0 + 1 + p)
    rw [show 0 + 1 + p = 1 + p by omega, zw p hp, zc 10 0 (by omega), yg 10 (by omega) (by omega) p (by omega), (c5.2 p hp).2.2.2.2.1]
theorem Tnt.q24 {σ : St} (h : Tnt σ) : σ.1 30 0 24 = -9 ∧ σ.1 30 0 25 = -9 := by
  obtain ⟨N, -, -, -, -, h4, -⟩ := h
  exact h4
theorem op_tent {n : Nat} {σ : St} (a1 : Int32) (hn : 2000 ≤ n) (h : RR σ) : ∃ r σ1 σ2, F_Tent_tent n a1 σ = some (r, σ1) ∧ F_Mod_tent n a1 σ1 = some (r, σ2) ∧ RR σ2 := by
  unfold F_Tent_tent F_Mod_tent
  rcases ix_of 4 (by decide) a1 with g | ⟨k, hk, rfl⟩
  · refine ⟨-1, σ, σ, ?_, ?_, h⟩
    · rw [rm_out (t := 1) g]; simp only [obind, b2_some, bs_eq, if_neg m1_ne]
    · rw [isText_out g]; simp only [obind, b2_some, bs_eq, if_true]
  · obtain ⟨t1, t2⟩ := h.2.1
    obtain ⟨e1, e2⟩ := t2 k hk
    rcases e2 with e2 | ⟨z, hz, e2, e3⟩
    · refine ⟨-3, cF 1 σ, mF 1 (cF 1 σ), ?_, ?_, h.found (by omega)⟩
      · rw [rm_none (t := 1) hk e2]; simp only [obind, b2_some, bs_eq, if_neg m3_ne]
      · rw [isText_in hk]
        simp only [obind, b2_some, bs_eq, if_neg one_ne]
        rw [ald_37 hk]
        have : (cF 1 σ).1 37 0 = σ.1 37 0 := by unfold cF; rw [si_ne (by omega), si_ne (by omega)]
        rw [this, e1, e2]
        simp only [obind, b2_some, bs_eq, if_neg m1_nle]
        rw [show (1 : Int32) = nI 1 from rfl, find_eq (by omega)]
        rfl
    · obtain ⟨b, hbd⟩ : ∃ b : Nat → Int32, ∀ j, b j = σ.1 3 1 (60 * k + j) := ⟨fun j => σ.1 3 1 (60 * k + j), fun _ => rfl⟩
      have hB : ∀ j, j < z → isB (b j) := fun j hj => by rw [hbd]; exact (e3 j hj).2
      obtain ⟨w, c1, c2, c3⟩ := readC hn hk hz t1 e2 (fun j _ => (hbd j).symm) hB
      have mdl : ∀ Y : St, (∀ g, 30 ≤ g → Y.1 g 0 = σ.1 g 0) → ∃ v, (∀ K : Int32 → St → Option (Int32 × St), ((F_Mod_isText (nI k)).bind fun v1 => if v1 = 0 then some ((-1), Y) else (ald Y 37 0 (nI k)).bind fun v2 => if 0 ≤ v2 then b2 (F_Mod_faultOf n (nI k) Y) K else b2 (F_Mod_find 1 Y) fun v17 σ18 => some (v17, σ18)) = K (allR b z).1 v) ∧ MFd Y v ∧ (cdB b z = true → v.1 30 0 19 = nI (allR b z).2 ∧ C41 b z (skp b z 0 + 9) (allR b z).2 v ∧ ∀ j, j < 8 → v.1 40 0 j = b (skp b z 0 + 1 + j) - 48) := by
        intro Y hY
        obtain ⟨v, m1, m2, m3⟩ := faultM (b := b) (s := Y) hn hk hz (by rw [hY 37 (by omega), e1, e2]) (fun j hj => by rw [hY 38 (by omega), hbd]; exact (e3 j hj).1) hB
        refine ⟨v, fun K => ?_, m2, m3⟩
        rw [isText_in hk]
        simp only [obind, b2_some, bs_eq, if_neg one_ne]
        rw [ald_37 hk, hY 37 (by omega), e1, e2]
        simp only [obind, b2_some, bs_eq]
        rw [if_pos (nI_ge0 (by omega)), m1]
        rfl
      rw [rm_in (t := 1) hk e2 (by omega)]
      simp only [obind, b2_some, bs_eq, if_true]
      rw [c1]
      simp only [obind, b2_some, bs_eq]
      have w30 : w.1 30 0 = σ.1 30 0 := c2.1 30 0 (by omega)
      by_cases g9 : (allR b z).1 = -9
      · obtain ⟨cd, hN⟩ := allR_9 hz g9
        obtain ⟨c5, cc⟩ := c3 cd
        obtain ⟨f, tw⟩ := takeW5 (w := w)
        rw [if_pos g9, tw]
        simp only [obind, b2_some, bs_eq]
        rw [tent52 hn]
        generalize hX : sa (si (tkP 0 5 w) 4 0 16 (w.1 4 5 16)) 14 0 f = X
        generalize hY : bgs X 3 = Y
        have yo : ∀ g u, ¬ ((4 ≤ g ∧ g ≤ 14) ∧ u ≤ 3) → Y.1 g u = w.1 g u := fun g u a => by
          have b3 : (bgs X 3).1 g u = X.1 g u := by
            show (bg 3 (bg 2 (bg 1 X))).1 g u = _
            rw [bg_ne (by omega), bg_ne (by omega), bg_ne (by omega)]
          rw [← hY, b3, ← hX, sa_ne (by omega), si_ne (by omega), tkP_ne (by omega)]
        have y2 : Y.2 = σ.2 := by
          rw [← hY, bgs_2, ← hX, sa_2, si_2, tkP_2]
          exact c2.2
        have y10 : Y.1 4 0 10 = nI (allR b z).2 := by
          rw [← hY, bgs_ne (by omega), ← hX, sa_ne (by omega), si_g, if_neg (by omega), tkP_4 (by omega), if_pos (by omega), c5.sz]
        obtain ⟨v, m1, m2, m3⟩ := mdl Y (fun g a => by rw [yo g 0 (by omega)]; exact c2.1 g 0 (by omega))
        obtain ⟨m19, m41, m40⟩ := m3 cd
        rw [y10]
        generalize (allR b z).2 = N at *
        refine ⟨nI N, Y, newS v N, rfl, ?_, ?_⟩
        · rw [m1, if_pos g9, m19, tent47 hn, tent73 hn, tent95 hn hN (by rw [sa_ne (by omega), sa_ne (by omega), si_g, if_pos (by omega)]), tent169 hn]
          have : ∀ s : St, s.1 30 0 1 = nI N → some (s.1 30 0 1, s) = some (nI N, s) := fun s e => by rw [e]
          exact this _ (by rw [tz_ne (by omega), mk5_ne (by omega), sa_ne (by omega), sa_ne (by omega), si_g, if_pos (by omega)])
        · have hT := newT (f := f) hN c5 cc hX.symm hY.symm m2 m41 m40 rfl (by rw [w30]; exact h.2.2.2.q24.1) (by rw [w30]; exact h.2.2.2.q24.2)
          unfold newS at hT ⊢
          refine h.tnt (fun g u a => ?_) ?_ ?_ ?_ ?_ hT
          · rw [tz_ne (by omega), mk5_ne (by omega), sa_ne (by omega), sa_ne (by omega), si_ne (by omega), m2.1 g u (by omega) (by omega) (by omega), yo g u (by omega), c2.1 g u (by omega)]
          · rw [tz_2, mk5_2, sa_2, sa_2, si_2, m2.2.1, y2]
          · rw [tz_ne (by omega), mk5_ne (by omega), sa_ne (by omega), sa_ne (by omega), si_g, if_neg (by omega), m2.2.2 9 (by omega) (by omega) (by omega) (by omega), tz_ne (by omega), mk5_ne (by omega), sa_ne (by omega), sa_ne (by omega), si_ne (by omega), m2.1 0 0 (by omega) (by omega) (by omega), yo 30 0 (by omega), yo 0 0 (by omega), w30, c2.1 0 0 (by omega)]
            exact h.2.2.1.1
          · rw [tz_ne (by omega), mk5_ne (by omega), sa_ne (by omega), sa_ne (by omega), si_ne (by omega), m2.1 0 0 (by omega) (by omega) (by omega), yo 0 0 (by omega), c2.1 0 0 (by omega)]
          · rw [tz_ne (by omega), mk5_ne (by omega), sa_ne (by omega), sa_ne (by omega), si_g, if_neg (by omega), m2.2.2 12 (by omega) (by omega) (by omega) (by omega), yo 30 0 (by omega), w30]
      · obtain ⟨v, m1, m2, -⟩ := mdl w (fun g a => c2.1 g 0 (by omega))
        rw [if_neg g9]
        refine ⟨-4, w, v, rfl, by rw [m1, if_neg g9], h.both c2.sc.cw0 ⟨fun g u a => m2.1 g u (by unfold keepG at a; omega) (by unfold keepG at a; omega) (by unfold keepG at a; omega), m2.2.1, ?_, fun j a => m2.2.2 j (by omega) (by omega) (by omega) (by omega)⟩⟩
        rw [m2.2.2 9 (by omega) (by omega) (by omega) (by omega), w30]
        exact h.2.2.1.1
