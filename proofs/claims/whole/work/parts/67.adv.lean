-- THE NEXT ORDER, on lists
def getL (L : List Int32) (i : Int32) : Option Int32 := if inb i L.length = true then some (L.getD i.toNatClampNeg 0) else none
def setL (L : List Int32) (i v : Int32) : Option (List Int32) := if inb i L.length = true then some (L.set i.toNatClampNeg v) else none
def swapL (L : List Int32) (i j : Int32) : Option (List Int32) := (getL L i).bind fun v1 => (getL L j).bind fun v2 => (setL L i v2).bind fun L3 => setL L3 j v1
def adv94 : Nat → Int32 → Int32 → List Int32 → Option (Int32 × List Int32)
  | 0, _, _, _ => none
  | k + 1, l3, l4, L => if l4 ≤ l3 then some (1, L) else (swapL L l3 l4).bind fun L2 => adv94 k (l3 + 1) (l4 + (-1)) L2
def adv73 (l1 l2 : Int32) (L : List Int32) : Option (Int32 × List Int32) := (swapL L l1 l2).bind fun L1 => adv94 10 (l1 + 1) (nI L1.length - 1) L1
def adv47 : Nat → Int32 → Int32 → List Int32 → Option (Int32 × List Int32)
  | 0, _, _, _ => none
  | k + 1, l1, l2, L => if l2 ≤ l1 then adv73 l1 l2 L else (getL L l2).bind fun v3 => (getL L l1).bind fun v4 => if v4 ≤ v3 then adv73 l1 l2 L else adv47 k l1 (l2 + (-1)) L
def adv34 (l1 : Int32) (L : List Int32) : Option (Int32 × List Int32) := if 0 ≤ l1 then adv47 10 l1 (nI L.length - 1) L else some (0, L)
def adv7 : Nat → Int32 → List Int32 → Option (Int32 × List Int32)
  | 0, _, _ => none
  | k + 1, l1, L => if l1 < 0 then adv34 l1 L else (getL L l1).bind fun v5 => (getL L (l1 + 1)).bind fun v6 => if v5 ≤ v6 then adv34 l1 L else adv7 k (l1 + (-1)) L
def advL (L : List Int32) : Option (Int32 × List Int32) := adv7 10 (nI L.length - 2) L
def RL (L : List Int32) (σ : St) : Prop := L.length ≤ 5 ∧ σ.1 18 0 1 = nI L.length ∧ ∀ p, p < L.length → σ.1 19 0 p = L.getD p 0
def F19 (σ σ' : St) : Prop := (∀ g u, ¬ (g = 19 ∧ u = 0) → σ'.1 g u = σ.1 g u) ∧ σ'.2 = σ.2
theorem F19.rf (σ : St) : F19 σ σ := ⟨fun _ _ _ => rfl, rfl⟩
theorem F19.tr {σ s s' : St} (h : F19 σ s) (h' : F19 s s') : F19 σ s' := ⟨fun g u a => (h'.1 g u a).trans (h.1 g u a), h'.2.trans h.2⟩
theorem inb_lt {i : Int32} {m : Nat} (h : inb i m = true) : i.toNatClampNeg < m := by
  unfold inb at h
  simp only [Bool.and_eq_true, decide_eq_true_eq] at h
  show i.toInt.toNat < m
  omega
theorem inb_le {i : Int32} {m m' : Nat} (h : inb i m = true) (hm : m ≤ m') : inb i m' = true := by
  unfold inb at *
  simp only [Bool.and_eq_true, decide_eq_true_eq] at *
  exact ⟨h.1, by omega⟩
theorem ln_get {L : List Int32} {σ : St} {i v : Int32} (h : getL L i = some v) (r : RL L σ) : ald σ 19 0 i = some v := by
  unfold getL at h
  by_cases g : inb i L.length = true
  · rw [if_pos g] at h
    unfold ald
    rw [if_pos (inb_le g (show L.length ≤ lenOf 19 0 from r.1)), r.2.2 _ (inb_lt g)]
    exact h
  · rw [if_neg g] at h
    exact absurd h (by simp)
theorem ln_set {L L' : List Int32} {σ : St} {i v : Int32} (h : setL L i v = some L') (r : RL L σ) : ∃ σ', ast σ 19 0 i v = some σ' ∧ RL L' σ' ∧ F19 σ σ' := by
  unfold setL at h
  by_cases g : inb i L.length = true
  · rw [if_pos g] at h
    have h := Option.some.inj h
    subst h
    unfold ast
    rw [if_pos (inb_le g (show L.length ≤ lenOf 19 0 from r.1))]
    refine ⟨_, rfl, ⟨by rw [List.length_set]; exact r.1, by rw [List.length_set, si_ne (by omega)]; exact r.2.1, fun p hp => ?_⟩, fun g u a => si_ne a, rfl⟩
    rw [List.length_set] at hp
    rw [si_g, List.getD_eq_getElem?_getD, List.getElem?_set]
    by_cases e : p = i.toNatClampNeg
    · rw [if_pos (by omega), if_pos e.symm, if_pos (by omega)]
      rfl
    · rw [if_neg (by omega), if_neg (fun z => e z.symm), r.2.2 p hp, List.getD_eq_getElem?_getD]
  · rw [if_neg g] at h
    exact absurd h (by simp)
theorem ln_swap {L L' : List Int32} {σ : St} {i j : Int32} (h : swapL L i j = some L') (r : RL L σ) : ∃ σ', F_Tent_swap 19 0 i j σ = some σ' ∧ RL L' σ' ∧ F19 σ σ' := by
  unfold swapL at h
  obtain ⟨v1, a1, h⟩ := bind_v h
  obtain ⟨v2, a2, h⟩ := bind_v h
  obtain ⟨L3, a3, h⟩ := bind_v h
  obtain ⟨σ1, b1, b2, b3⟩ := ln_set a3 r
  obtain ⟨σ2, c1, c2, c3⟩ := ln_set h b2
  refine ⟨σ2, ?_, c2, b3.tr c3⟩
  unfold F_Tent_swap
  rw [ln_get a1 r, ln_get a2 r]
  simp only [obind, b2_some, bs_eq]
  rw [b1]
  simp only [obind, b2_some, bs_eq]
  rw [c1]
  rfl
theorem ln_94 {n : Nat} : ∀ k k' l3 l4 L w σ, k ≤ k' → adv94 k l3 l4 L = some w → RL L σ → ∃ σ', F_Orders_advance_94 n k' l3 l4 σ = some (w.1, σ') ∧ RL w.2 σ' ∧ F19 σ σ'
  | 0, _, _, _, _, _, _, _, h, _ => by rw [adv94] at h; exact absurd h (by simp)
  | k + 1, 0, _, _, _, _, _, hk, _, _ => by omega
  | k + 1, k' + 1, l3, l4, L, w, σ, hk, h, r => by
    rw [F_Orders_advance_94]
    rw [adv94] at h
    by_cases e : l4 ≤ l3
    · rw [if_pos e] at *
      have h := Option.some.inj h
      subst h
      exact ⟨σ, rfl, r, F19.rf σ⟩
    · rw [if_neg e] at *
      obtain ⟨L2, a1, h⟩ := bind_v h
      obtain ⟨σ1, b1, b2, b3⟩ := ln_swap a1 r
      obtain ⟨σ2, c1, c2, c3⟩ := ln_94 (n := n) k k' _ _ _ _ σ1 (by omega) h b2
      exact ⟨σ2, by rw [b1]; exact c1, c2, b3.tr c3⟩
theorem ln_73 {n : Nat} (hn : 10 ≤ n) {l1 l2 : Int32} {L : List Int32} {w : Int32 × List Int32} {σ : St} (h : adv73 l1 l2 L = some w) (r : RL L σ) : ∃ σ', F_Orders_advance_73 n l1 l2 σ = some (w.1, σ') ∧ RL w.2 σ' ∧ F19 σ σ' := by
  unfold adv73 at h
  obtain ⟨L1, a1, h⟩ := bind_v h
  obtain ⟨σ1, b1, b2, b3⟩ := ln_swap a1 r
  obtain ⟨σ2, c1, c2, c3⟩ := ln_94 (n := n) 10 n _ _ _ _ σ1 hn h b2
  refine ⟨σ2, ?_, c2, b3.tr c3⟩
  unfold F_Orders_advance_73
  rw [b1]
  simp only [obind, b2_some, bs_eq]
  rw [b2.2.1]
  exact c1
theorem ln_47 {n : Nat} (hn : 10 ≤ n) : ∀ k k' l1 l2 L w σ, k ≤ k' → adv47 k l1 l2 L = some w → RL L σ → ∃ σ', F_Orders_advance_47 n k' l1 l2 σ = some (w.1, σ') ∧ RL w.2 σ' ∧ F19 σ σ'
  | 0, _, _, _, _, _, _, _, h, _ => by rw [adv47] at h; exact absurd h (by simp)
  | k + 1, 0, _, _, _, _, _, hk, _, _ => by omega
  | k + 1, k' + 1, l1, l2, L, w, σ, hk, h, r => by
    rw [F_Orders_advance_47]
    rw [adv47] at h
    by_cases e : l2 ≤ l1
    · rw [if_pos e] at *
      exact ln_73 hn h r
    · rw [if_neg e] at *
      obtain ⟨v3, a1, h⟩ := bind_v h
      obtain ⟨v4, a2, h⟩ := bind_v h
      rw [ln_get a1 r, ln_get a2 r]
      simp only [obind, b2_some, bs_eq]
      by_cases e2 : v4 ≤ v3
      · rw [if_pos e2] at *
        exact ln_73 hn h r
      · rw [if_neg e2] at *
        exact ln_47 hn k k' _ _ _ _ σ (by omega) h r
theorem ln_34 {n : Nat} (hn : 10 ≤ n) {l1 : Int32} {L : List Int32} {w : Int32 × List Int32} {σ : St} (h : adv34 l1 L = some w) (r : RL L σ) : ∃ σ', F_Orders_advance_34 n l1 σ = some (w.1, σ') ∧ RL w.2 σ' ∧ F19 σ σ' := by
  unfold adv34 at h
  unfold F_Orders_advance_34
  by_cases e : 0 ≤ l1
  · rw [if_pos e] at *
    rw [r.2.1]
    exact ln_47 hn 10 n _ _ _ _ σ hn h r
  · rw [if_neg e] at *
    have h := Option.some.inj h
    subst h
    exact ⟨σ, rfl, r, F19.rf σ⟩
theorem ln_7 {n : Nat} (hn : 10 ≤ n) : ∀ k k' l1 L w σ, k ≤ k' → adv7 k l1 L = some w → RL L σ → ∃ σ', F_Orders_advance_7 n k' l1 σ = some (w.1, σ') ∧ RL w.2 σ' ∧ F19 σ σ'
  | 0, _, _, _, _, _, _, h, _ => by rw [adv7] at h; exact absurd h (by simp)
  | k + 1, 0, _, _, _, _, hk, _, _ => by omega
  | k + 1, k' + 1, l1, L, w, σ, hk, h, r => by
    rw [F_Orders_advance_7]
    rw [adv7] at h
    by_cases e : l1 < 0
    · rw [if_pos e] at *
      exact ln_34 hn h r
    · rw [if_neg e] at *
      obtain ⟨v5, a1, h⟩ := bind_v h
      obtain ⟨v6, a2, h⟩ := bind_v h
      rw [ln_get a1 r, ln_get a2 r]
      simp only [obind, b2_some, bs_eq]
      by_cases e2 : v5 ≤ v6
      · rw [if_pos e2] at *
        exact ln_34 hn h r
      · rw [if_neg e2] at *
        exact ln_7 hn k k' _ _ _ σ (by omega) h r
noncomputable def tbl (N m : Nat) : List Int32 := (List.range N).map (fun k => nI (ordN N m k))
noncomputable def tblB (N m : Nat) : Bool := decide (advL (tbl N m) = if m + 1 < fact N then some (1, tbl N (m + 1)) else some (0, tbl N m))
theorem tbl_ok : ∀ N, N < 6 → 0 < N → ∀ m, m < fact N → tblB N m = true := by decide +kernel
theorem ord0 : ∀ N, N < 6 → ∀ p, p < N → ordN N 0 p = p := by decide +kernel
theorem tbl_len (N m : Nat) : (tbl N m).length = N := by unfold tbl; simp
theorem tbl_at {N m p : Nat} (hp : p < N) : (tbl N m).getD p 0 = nI (ordN N m p) := by
  unfold tbl
  rw [List.getD_eq_getElem?_getD]
  simp [hp]
theorem RL_tbl {N m : Nat} {σ : St} (hN : N ≤ 5) : RL (tbl N m) σ ↔ OW N (ordN N m) σ := by
  unfold RL OW
  rw [tbl_len]
  constructor
  · rintro ⟨a, b, c⟩
    exact ⟨b, fun p hp => by rw [c p hp, tbl_at hp]⟩
  · rintro ⟨b, c⟩
    exact ⟨hN, b, fun p hp => by rw [c p hp, tbl_at hp]⟩
theorem adv_eq {n N m : Nat} {σ : St} (hN : N ≤ 5) (h0 : 0 < N) (hm : m < fact N) (ho : OW N (ordN N m) σ) (hn : 10 < n) : ∃ w, F_Orders_advance n σ = some (if m + 1 < fact N then 1 else 0, w) ∧ OW N (ordN N (if m + 1 < fact N then m + 1 else m)) w ∧ F19 σ w := by
  have hb := tbl_ok N (by omega) h0 m hm
  unfold tblB at hb
  have hb := of_decide_eq_true hb
  unfold F_Orders_advance
  have r := (RL_tbl hN).mpr ho
  rw [r.2.1]
  by_cases g : m + 1 < fact N
  · rw [if_pos g] at hb
    obtain ⟨w, a, b, c⟩ := ln_7 (n := n) (by omega) 10 n _ _ _ σ (by omega) hb r
    rw [if_pos g, if_pos g]
    exact ⟨w, a, (RL_tbl hN).mp b, c⟩
  · rw [if_neg g] at hb
    obtain ⟨w, a, b, c⟩ := ln_7 (n := n) (by omega) 10 n _ _ _ σ (by omega) hb r
    rw [if_neg g, if_neg g]
    exact ⟨w, a, (RL_tbl hN).mp b, c⟩
theorem begin_eq {n N : Nat} {σ : St} (hN : N ≤ 5) (hn : 10 < n) : ∃ w, F_Orders_begin n (nI N) σ = some w ∧ (∀ g u, ¬ ((g = 18 ∨ g = 19) ∧ u = 0) → w.1 g u = σ.1 g u) ∧ w.2 = σ.2 ∧ OW N (ordN N 0) w := by
  unfold F_Orders_begin
  rw [min5 hN]
  simp only [obind, b2_some, bs_eq]
  refine loop_inv (fun q k (_ : Unit) s => F_Orders_begin_11 n q (nI k) s) N (fun _ => ()) (fun k s => (∀ g u, ¬ ((g = 18 ∨ g = 19) ∧ u = 0) → s.1 g u = σ.1 g u) ∧ s.2 = σ.2 ∧ s.1 18 0 1 = nI N ∧ ∀ p, p < k → s.1 19 0 p = nI p) (fun w => (∀ g u, ¬ ((g = 18 ∨ g = 19) ∧ u = 0) → w.1 g u = σ.1 g u) ∧ w.2 = σ.2 ∧ OW N (ordN N 0) w) (fun q s hs => ?_) (fun q k s hk hs => ?_) n 0 _ (by omega) (by omega) ⟨fun g u a => si_ne (by omega), rfl, by rw [si_g, if_pos (by omega)], fun p hp => by omega⟩
  · refine ⟨s, ?_, hs.1, hs.2.1, hs.2.2.1, fun p hp => by rw [hs.2.2.2 p hp, ord0 N (by omega) p hp]⟩
    rw [F_Orders_begin_11, hs.2.2.1, if_pos (by simp (disch := omega) only [nI_leI]; omega)]
  · refine ⟨si s 19 0 k (nI k), ?_, fun g u z => by rw [si_ne (by omega)]; exact hs.1 g u z, hs.2.1, by rw [si_ne (by omega)]; exact hs.2.2.1, fun p hp => ?_⟩
    · rw [F_Orders_begin_11, hs.2.2.1, if_neg (by simp (disch := omega) only [nI_leI]; omega), ast_19 (by omega)]
      simp only [obind, b2_some, bs_eq, nI_1]
    · rw [si_g]
      by_cases e : p = k
      · rw [if_pos (by omega), e]
      · rw [if_neg (by omega)]
        exact hs.2.2.2 p (by omega)
