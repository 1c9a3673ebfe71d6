-- tools for the functions
theorem litN (n : Nat) : (OfNat.ofNat n : Int32) = nI n := rfl
theorem ald_in {σ : St} {g t k : Nat} (h : k < lenOf g t) (hl : lenOf g t < 2 ^ 31) : ald σ g t (nI k) = some (σ.1 g t k) := by
  have h1 : k < 2 ^ 31 := Nat.lt_trans h hl
  have hb : inb (nI k) (lenOf g t) = true := by
    unfold inb
    rw [nI_toInt h1]
    simp only [Bool.and_eq_true, decide_eq_true_eq]
    omega
  unfold ald
  rw [if_pos hb, nI_clamp h1]
theorem ast_in {σ : St} {g t k : Nat} {v : Int32} (h : k < lenOf g t) (hl : lenOf g t < 2 ^ 31) : ast σ g t (nI k) v = some (si σ g t k v) := by
  have h1 : k < 2 ^ 31 := Nat.lt_trans h hl
  have hb : inb (nI k) (lenOf g t) = true := by
    unfold inb
    rw [nI_toInt h1]
    simp only [Bool.and_eq_true, decide_eq_true_eq]
    omega
  unfold ast
  rw [if_pos hb, nI_clamp h1]
theorem kld_in {k : Nat} (h : k < 3) : kld (nI k) = some (1 + k) := by
  have h1 : k < 2 ^ 31 := by omega
  have hb : inb (nI k) 3 = true := by
    unfold inb
    rw [nI_toInt h1]
    simp only [Bool.and_eq_true, decide_eq_true_eq]
    omega
  unfold kld
  rw [if_pos hb, nI_clamp h1]
theorem ald_3 {σ : St} {t k : Nat} (h : k < 240) : ald σ 3 t (nI k) = some (σ.1 3 t k) := ald_in (g := 3) (t := t) h (show 240 < 2 ^ 31 by decide)
theorem ast_3 {σ : St} {t k : Nat} {v : Int32} (h : k < 240) : ast σ 3 t (nI k) v = some (si σ 3 t k v) := ast_in (g := 3) (t := t) h (show 240 < 2 ^ 31 by decide)
theorem ald_5 {σ : St} {t k : Nat} (h : k < 8) : ald σ 5 t (nI k) = some (σ.1 5 t k) := ald_in (g := 5) (t := t) h (show 8 < 2 ^ 31 by decide)
theorem ast_5 {σ : St} {t k : Nat} {v : Int32} (h : k < 8) : ast σ 5 t (nI k) v = some (si σ 5 t k v) := ast_in (g := 5) (t := t) h (show 8 < 2 ^ 31 by decide)
theorem ald_6 {σ : St} {t k : Nat} (h : k < 5) : ald σ 6 t (nI k) = some (σ.1 6 t k) := ald_in (g := 6) (t := t) h (show 5 < 2 ^ 31 by decide)
theorem ast_6 {σ : St} {t k : Nat} {v : Int32} (h : k < 5) : ast σ 6 t (nI k) v = some (si σ 6 t k v) := ast_in (g := 6) (t := t) h (show 5 < 2 ^ 31 by decide)
theorem ald_7 {σ : St} {t k : Nat} (h : k < 5) : ald σ 7 t (nI k) = some (σ.1 7 t k) := ald_in (g := 7) (t := t) h (show 5 < 2 ^ 31 by decide)
theorem ast_7 {σ : St} {t k : Nat} {v : Int32} (h : k < 5) : ast σ 7 t (nI k) v = some (si σ 7 t k v) := ast_in (g := 7) (t := t) h (show 5 < 2 ^ 31 by decide)
theorem ald_8 {σ : St} {t k : Nat} (h : k < 5) : ald σ 8 t (nI k) = some (σ.1 8 t k) := ald_in (g := 8) (t := t) h (show 5 < 2 ^ 31 by decide)
theorem ast_8 {σ : St} {t k : Nat} {v : Int32} (h : k < 5) : ast σ 8 t (nI k) v = some (si σ 8 t k v) := ast_in (g := 8) (t := t) h (show 5 < 2 ^ 31 by decide)
theorem ald_9 {σ : St} {t k : Nat} (h : k < 5) : ald σ 9 t (nI k) = some (σ.1 9 t k) := ald_in (g := 9) (t := t) h (show 5 < 2 ^ 31 by decide)
theorem ast_9 {σ : St} {t k : Nat} {v : Int32} (h : k < 5) : ast σ 9 t (nI k) v = some (si σ 9 t k v) := ast_in (g := 9) (t := t) h (show 5 < 2 ^ 31 by decide)
theorem ald_10 {σ : St} {t k : Nat} (h : k < 5) : ald σ 10 t (nI k) = some (σ.1 10 t k) := ald_in (g := 10) (t := t) h (show 5 < 2 ^ 31 by decide)
theorem ast_10 {σ : St} {t k : Nat} {v : Int32} (h : k < 5) : ast σ 10 t (nI k) v = some (si σ 10 t k v) := ast_in (g := 10) (t := t) h (show 5 < 2 ^ 31 by decide)
theorem ald_11 {σ : St} {t k : Nat} (h : k < 5) : ald σ 11 t (nI k) = some (σ.1 11 t k) := ald_in (g := 11) (t := t) h (show 5 < 2 ^ 31 by decide)
theorem ast_11 {σ : St} {t k : Nat} {v : Int32} (h : k < 5) : ast σ 11 t (nI k) v = some (si σ 11 t k v) := ast_in (g := 11) (t := t) h (show 5 < 2 ^ 31 by decide)
theorem ald_12 {σ : St} {t k : Nat} (h : k < 5) : ald σ 12 t (nI k) = some (σ.1 12 t k) := ald_in (g := 12) (t := t) h (show 5 < 2 ^ 31 by decide)
theorem ast_12 {σ : St} {t k : Nat} {v : Int32} (h : k < 5) : ast σ 12 t (nI k) v = some (si σ 12 t k v) := ast_in (g := 12) (t := t) h (show 5 < 2 ^ 31 by decide)
theorem ald_13 {σ : St} {t k : Nat} (h : k < 5) : ald σ 13 t (nI k) = some (σ.1 13 t k) := ald_in (g := 13) (t := t) h (show 5 < 2 ^ 31 by decide)
theorem ast_13 {σ : St} {t k : Nat} {v : Int32} (h : k < 5) : ast σ 13 t (nI k) v = some (si σ 13 t k v) := ast_in (g := 13) (t := t) h (show 5 < 2 ^ 31 by decide)
theorem ald_17 {σ : St} {t k : Nat} (h : k < 60) : ald σ 17 t (nI k) = some (σ.1 17 t k) := ald_in (g := 17) (t := t) h (show 60 < 2 ^ 31 by decide)
theorem ast_17 {σ : St} {t k : Nat} {v : Int32} (h : k < 60) : ast σ 17 t (nI k) v = some (si σ 17 t k v) := ast_in (g := 17) (t := t) h (show 60 < 2 ^ 31 by decide)
theorem ald_19 {σ : St} {t k : Nat} (h : k < 5) : ald σ 19 t (nI k) = some (σ.1 19 t k) := ald_in (g := 19) (t := t) h (show 5 < 2 ^ 31 by decide)
theorem ast_19 {σ : St} {t k : Nat} {v : Int32} (h : k < 5) : ast σ 19 t (nI k) v = some (si σ 19 t k v) := ast_in (g := 19) (t := t) h (show 5 < 2 ^ 31 by decide)
theorem ald_21 {σ : St} {t k : Nat} (h : k < 120) : ald σ 21 t (nI k) = some (σ.1 21 t k) := ald_in (g := 21) (t := t) h (show 120 < 2 ^ 31 by decide)
theorem ast_21 {σ : St} {t k : Nat} {v : Int32} (h : k < 120) : ast σ 21 t (nI k) v = some (si σ 21 t k v) := ast_in (g := 21) (t := t) h (show 120 < 2 ^ 31 by decide)
theorem ald_22 {σ : St} {t k : Nat} (h : k < 600) : ald σ 22 t (nI k) = some (σ.1 22 t k) := ald_in (g := 22) (t := t) h (show 600 < 2 ^ 31 by decide)
theorem ast_22 {σ : St} {t k : Nat} {v : Int32} (h : k < 600) : ast σ 22 t (nI k) v = some (si σ 22 t k v) := ast_in (g := 22) (t := t) h (show 600 < 2 ^ 31 by decide)
theorem ald_23 {σ : St} {t k : Nat} (h : k < 5) : ald σ 23 t (nI k) = some (σ.1 23 t k) := ald_in (g := 23) (t := t) h (show 5 < 2 ^ 31 by decide)
theorem ast_23 {σ : St} {t k : Nat} {v : Int32} (h : k < 5) : ast σ 23 t (nI k) v = some (si σ 23 t k v) := ast_in (g := 23) (t := t) h (show 5 < 2 ^ 31 by decide)
theorem ald_24 {σ : St} {t k : Nat} (h : k < 20) : ald σ 24 t (nI k) = some (σ.1 24 t k) := ald_in (g := 24) (t := t) h (show 20 < 2 ^ 31 by decide)
theorem ast_24 {σ : St} {t k : Nat} {v : Int32} (h : k < 20) : ast σ 24 t (nI k) v = some (si σ 24 t k v) := ast_in (g := 24) (t := t) h (show 20 < 2 ^ 31 by decide)
theorem ald_25 {σ : St} {t k : Nat} (h : k < 3) : ald σ 25 t (nI k) = some (σ.1 25 t k) := ald_in (g := 25) (t := t) h (show 3 < 2 ^ 31 by decide)
theorem ast_25 {σ : St} {t k : Nat} {v : Int32} (h : k < 3) : ast σ 25 t (nI k) v = some (si σ 25 t k v) := ast_in (g := 25) (t := t) h (show 3 < 2 ^ 31 by decide)
theorem ald_26 {σ : St} {t k : Nat} (h : k < 3) : ald σ 26 t (nI k) = some (σ.1 26 t k) := ald_in (g := 26) (t := t) h (show 3 < 2 ^ 31 by decide)
theorem ast_26 {σ : St} {t k : Nat} {v : Int32} (h : k < 3) : ast σ 26 t (nI k) v = some (si σ 26 t k v) := ast_in (g := 26) (t := t) h (show 3 < 2 ^ 31 by decide)
theorem ald_27 {σ : St} {t k : Nat} (h : k < 6) : ald σ 27 t (nI k) = some (σ.1 27 t k) := ald_in (g := 27) (t := t) h (show 6 < 2 ^ 31 by decide)
theorem ast_27 {σ : St} {t k : Nat} {v : Int32} (h : k < 6) : ast σ 27 t (nI k) v = some (si σ 27 t k v) := ast_in (g := 27) (t := t) h (show 6 < 2 ^ 31 by decide)
theorem ald_31 {σ : St} {t k : Nat} (h : k < 4104) : ald σ 31 t (nI k) = some (σ.1 31 t k) := ald_in (g := 31) (t := t) h (show 4104 < 2 ^ 31 by decide)
theorem ast_31 {σ : St} {t k : Nat} {v : Int32} (h : k < 4104) : ast σ 31 t (nI k) v = some (si σ 31 t k v) := ast_in (g := 31) (t := t) h (show 4104 < 2 ^ 31 by decide)
theorem ald_32 {σ : St} {t k : Nat} (h : k < 5) : ald σ 32 t (nI k) = some (σ.1 32 t k) := ald_in (g := 32) (t := t) h (show 5 < 2 ^ 31 by decide)
theorem ast_32 {σ : St} {t k : Nat} {v : Int32} (h : k < 5) : ast σ 32 t (nI k) v = some (si σ 32 t k v) := ast_in (g := 32) (t := t) h (show 5 < 2 ^ 31 by decide)
theorem ald_33 {σ : St} {t k : Nat} (h : k < 5) : ald σ 33 t (nI k) = some (σ.1 33 t k) := ald_in (g := 33) (t := t) h (show 5 < 2 ^ 31 by decide)
theorem ast_33 {σ : St} {t k : Nat} {v : Int32} (h : k < 5) : ast σ 33 t (nI k) v = some (si σ 33 t k v) := ast_in (g := 33) (t := t) h (show 5 < 2 ^ 31 by decide)
theorem ald_34 {σ : St} {t k : Nat} (h : k < 8) : ald σ 34 t (nI k) = some (σ.1 34 t k) := ald_in (g := 34) (t := t) h (show 8 < 2 ^ 31 by decide)
theorem ast_34 {σ : St} {t k : Nat} {v : Int32} (h : k < 8) : ast σ 34 t (nI k) v = some (si σ 34 t k v) := ast_in (g := 34) (t := t) h (show 8 < 2 ^ 31 by decide)
theorem ald_35 {σ : St} {t k : Nat} (h : k < 6) : ald σ 35 t (nI k) = some (σ.1 35 t k) := ald_in (g := 35) (t := t) h (show 6 < 2 ^ 31 by decide)
theorem ast_35 {σ : St} {t k : Nat} {v : Int32} (h : k < 6) : ast σ 35 t (nI k) v = some (si σ 35 t k v) := ast_in (g := 35) (t := t) h (show 6 < 2 ^ 31 by decide)
theorem ald_36 {σ : St} {t k : Nat} (h : k < 240) : ald σ 36 t (nI k) = some (σ.1 36 t k) := ald_in (g := 36) (t := t) h (show 240 < 2 ^ 31 by decide)
theorem ast_36 {σ : St} {t k : Nat} {v : Int32} (h : k < 240) : ast σ 36 t (nI k) v = some (si σ 36 t k v) := ast_in (g := 36) (t := t) h (show 240 < 2 ^ 31 by decide)
theorem ald_37 {σ : St} {t k : Nat} (h : k < 4) : ald σ 37 t (nI k) = some (σ.1 37 t k) := ald_in (g := 37) (t := t) h (show 4 < 2 ^ 31 by decide)
theorem ast_37 {σ : St} {t k : Nat} {v : Int32} (h : k < 4) : ast σ 37 t (nI k) v = some (si σ 37 t k v) := ast_in (g := 37) (t := t) h (show 4 < 2 ^ 31 by decide)
theorem ald_38 {σ : St} {t k : Nat} (h : k < 240) : ald σ 38 t (nI k) = some (σ.1 38 t k) := ald_in (g := 38) (t := t) h (show 240 < 2 ^ 31 by decide)
theorem ast_38 {σ : St} {t k : Nat} {v : Int32} (h : k < 240) : ast σ 38 t (nI k) v = some (si σ 38 t k v) := ast_in (g := 38) (t := t) h (show 240 < 2 ^ 31 by decide)
theorem ald_39 {σ : St} {t k : Nat} (h : k < 6) : ald σ 39 t (nI k) = some (σ.1 39 t k) := ald_in (g := 39) (t := t) h (show 6 < 2 ^ 31 by decide)
theorem ast_39 {σ : St} {t k : Nat} {v : Int32} (h : k < 6) : ast σ 39 t (nI k) v = some (si σ 39 t k v) := ast_in (g := 39) (t := t) h (show 6 < 2 ^ 31 by decide)
theorem ald_40 {σ : St} {t k : Nat} (h : k < 8) : ald σ 40 t (nI k) = some (σ.1 40 t k) := ald_in (g := 40) (t := t) h (show 8 < 2 ^ 31 by decide)
theorem ast_40 {σ : St} {t k : Nat} {v : Int32} (h : k < 8) : ast σ 40 t (nI k) v = some (si σ 40 t k v) := ast_in (g := 40) (t := t) h (show 8 < 2 ^ 31 by decide)
theorem ald_41 {σ : St} {t k : Nat} (h : k < 15) : ald σ 41 t (nI k) = some (σ.1 41 t k) := ald_in (g := 41) (t := t) h (show 15 < 2 ^ 31 by decide)
theorem ast_41 {σ : St} {t k : Nat} {v : Int32} (h : k < 15) : ast σ 41 t (nI k) v = some (si σ 41 t k v) := ast_in (g := 41) (t := t) h (show 15 < 2 ^ 31 by decide)
theorem ald_42 {σ : St} {t k : Nat} (h : k < 5) : ald σ 42 t (nI k) = some (σ.1 42 t k) := ald_in (g := 42) (t := t) h (show 5 < 2 ^ 31 by decide)
theorem ast_42 {σ : St} {t k : Nat} {v : Int32} (h : k < 5) : ast σ 42 t (nI k) v = some (si σ 42 t k v) := ast_in (g := 42) (t := t) h (show 5 < 2 ^ 31 by decide)
theorem ald_43 {σ : St} {t k : Nat} (h : k < 5) : ald σ 43 t (nI k) = some (σ.1 43 t k) := ald_in (g := 43) (t := t) h (show 5 < 2 ^ 31 by decide)
theorem ast_43 {σ : St} {t k : Nat} {v : Int32} (h : k < 5) : ast σ 43 t (nI k) v = some (si σ 43 t k v) := ast_in (g := 43) (t := t) h (show 5 < 2 ^ 31 by decide)
theorem ald_44 {σ : St} {t k : Nat} (h : k < 5) : ald σ 44 t (nI k) = some (σ.1 44 t k) := ald_in (g := 44) (t := t) h (show 5 < 2 ^ 31 by decide)
theorem ast_44 {σ : St} {t k : Nat} {v : Int32} (h : k < 5) : ast σ 44 t (nI k) v = some (si σ 44 t k v) := ast_in (g := 44) (t := t) h (show 5 < 2 ^ 31 by decide)
theorem ald_45 {σ : St} {t k : Nat} (h : k < 600) : ald σ 45 t (nI k) = some (σ.1 45 t k) := ald_in (g := 45) (t := t) h (show 600 < 2 ^ 31 by decide)
theorem ast_45 {σ : St} {t k : Nat} {v : Int32} (h : k < 600) : ast σ 45 t (nI k) v = some (si σ 45 t k v) := ast_in (g := 45) (t := t) h (show 600 < 2 ^ 31 by decide)
theorem ald_2_0 {σ : St} {k : Nat} (h : k < 6) : ald σ 2 0 (nI k) = some (σ.1 2 0 k) := ald_in (g := 2) (t := 0) h (show 6 < 2 ^ 31 by decide)
theorem ast_2_0 {σ : St} {k : Nat} {v : Int32} (h : k < 6) : ast σ 2 0 (nI k) v = some (si σ 2 0 k v) := ast_in (g := 2) (t := 0) h (show 6 < 2 ^ 31 by decide)
theorem ald_2_1 {σ : St} {k : Nat} (h : k < 4) : ald σ 2 1 (nI k) = some (σ.1 2 1 k) := ald_in (g := 2) (t := 1) h (show 4 < 2 ^ 31 by decide)
theorem ast_2_1 {σ : St} {k : Nat} {v : Int32} (h : k < 4) : ast σ 2 1 (nI k) v = some (si σ 2 1 k v) := ast_in (g := 2) (t := 1) h (show 4 < 2 ^ 31 by decide)
theorem len14 {t : Nat} (h : t ≤ 3) : lenOf 14 t = 1000 := by
  match t, h with
  | 0, _ => rfl
  | 1, _ => rfl
  | 2, _ => rfl
  | 3, _ => rfl
  | t + 4, h => exact absurd h (by omega)
theorem ald_14 {σ : St} {t k : Nat} (ht : t ≤ 3) (h : k < 1000) : ald σ 14 t (nI k) = some (σ.1 14 t k) := ald_in (by rw [len14 ht]; exact h) (by rw [len14 ht]; decide)
theorem ast_14 {σ : St} {t k : Nat} {v : Int32} (ht : t ≤ 3) (h : k < 1000) : ast σ 14 t (nI k) v = some (si σ 14 t k v) := ast_in (by rw [len14 ht]; exact h) (by rw [len14 ht]; decide)
theorem si_g (σ : St) (g t j : Nat) (v : Int32) (g' t' j' : Nat) : (si σ g t j v).1 g' t' j' = if (g' = g ∧ t' = t) ∧ j' = j then v else σ.1 g' t' j' := by
  unfold si
  by_cases h : g' = g ∧ t' = t
  · simp only [if_pos h, h, true_and]
    rfl
  · simp only [if_neg h, h, false_and, if_false]
theorem si_2 (σ : St) (g t j : Nat) (v : Int32) : (si σ g t j v).2 = σ.2 := rfl
theorem sl_1 (σ : St) (g t j : Nat) (v : Int64) : (sl σ g t j v).1 = σ.1 := rfl
theorem sl_g (σ : St) (g t j : Nat) (v : Int64) (g' t' j' : Nat) : (sl σ g t j v).2 g' t' j' = if (g' = g ∧ t' = t) ∧ j' = j then v else σ.2 g' t' j' := by
  unfold sl
  by_cases h : g' = g ∧ t' = t
  · simp only [if_pos h, h, true_and]
    rfl
  · simp only [if_neg h, h, false_and, if_false]
theorem sa_g (σ : St) (g t : Nat) (f : Nat → Int32) (g' t' j' : Nat) : (sa σ g t f).1 g' t' j' = if g' = g ∧ t' = t then f j' else σ.1 g' t' j' := by
  unfold sa
  by_cases h : g' = g ∧ t' = t
  · simp only [if_pos h]
  · simp only [if_neg h]
theorem sa_2 (σ : St) (g t : Nat) (f : Nat → Int32) : (sa σ g t f).2 = σ.2 := rfl
theorem si_sa (σ : St) (g t j : Nat) (v : Int32) : si σ g t j v = sa σ g t (upd (σ.1 g t) j v) := by
  unfold si sa
  congr 1
  funext a b
  by_cases h : a = g ∧ b = t
  · rw [if_pos h, if_pos h, h.1, h.2]
  · rw [if_neg h, if_neg h]
theorem sa_sa (σ : St) (g t : Nat) (f f' : Nat → Int32) : sa (sa σ g t f) g t f' = sa σ g t f' := by
  unfold sa
  congr 1
  funext a b
  by_cases h : a = g ∧ b = t
  · simp only [if_pos h]
  · simp only [if_neg h]
theorem sa_at (σ : St) (g t : Nat) (f : Nat → Int32) : (sa σ g t f).1 g t = f := by
  unfold sa
  simp only [and_self, if_true]
theorem sa_ne {σ : St} {g t : Nat} {f : Nat → Int32} {g' t' : Nat} (h : ¬ (g' = g ∧ t' = t)) : (sa σ g t f).1 g' t' = σ.1 g' t' := by
  unfold sa
  simp only [if_neg h]
theorem si_ne {σ : St} {g t j : Nat} {v : Int32} {g' t' : Nat} (h : ¬ (g' = g ∧ t' = t)) : (si σ g t j v).1 g' t' = σ.1 g' t' := by
  rw [si_sa, sa_ne h]
theorem sa_id (σ : St) (g t : Nat) : sa σ g t (σ.1 g t) = σ := by
  unfold sa
  have : (fun a b => if a = g ∧ b = t then σ.1 g t else σ.1 a b) = σ.1 := by
    funext a b
    by_cases h : a = g ∧ b = t
    · rw [if_pos h, h.1, h.2]
    · rw [if_neg h]
  rw [this]
theorem b2_some {α β : Type} (a : α) (s : St) (k : α → St → Option β) : b2 (some (a, s)) k = k a s := rfl
theorem bs_eq {α : Type} (s : St) (k : St → α) : bs s k = k s := rfl
theorem obind {α β : Type} (a : α) (f : α → Option β) : (some a).bind f = f a := rfl
/-- a loop over 0 .. N - 1 -/
theorem loop_gen {β ρ : Type} (F : Nat → Nat → β → Option ρ) (N : Nat) (S : Nat → β) (res : Option ρ) (hend : ∀ k, F (k + 1) N (S N) = res) (hstep : ∀ k i, i < N → F (k + 1) i (S i) = F k (i + 1) (S (i + 1))) : ∀ k i, i ≤ N → N < k + i → F k i (S i) = res := by
  intro k
  induction k with
  | zero => intro i h1 h2; omega
  | succ k ih =>
    intro i h1 h2
    by_cases h : i = N
    · subst h; exact hend k
    · rw [hstep k i (by omega)]
      exact ih (i + 1) (by omega) (by omega)
theorem in_I (z a b : Int32) : F_Mod_in z.toInt64 a.toInt64 b.toInt64 = some (if a ≤ z ∧ z ≤ b then 1 else 0) := by
  have h1 : ∀ x y : Int32, (x.toInt64 < y.toInt64 ↔ x < y) := fun x y => by
    rw [Int64.lt_iff_toInt_lt, Int32.lt_iff_toInt_lt, Int32.toInt_toInt64, Int32.toInt_toInt64]
  have h2 : ∀ x y : Int32, (x.toInt64 = y.toInt64 ↔ x = y) := fun x y => by
    rw [← Int64.toInt_inj, ← Int32.toInt_inj, Int32.toInt_toInt64, Int32.toInt_toInt64]
  unfold F_Mod_in lg_cmp
  simp only [gt_iff_lt, h1, h2]
  have t : ∀ x y : Int32, x < y ∨ x = y ∨ y < x := fun x y => by
    simp only [Int32.lt_iff_toInt_lt, ← Int32.toInt_inj]; omega
  have e1 : ∀ x y : Int32, (x ≤ y ↔ ¬ y < x) := fun x y => by
    simp only [Int32.lt_iff_toInt_lt, Int32.le_iff_toInt_le]; omega
  have as : ∀ x y : Int32, x < y → ¬ y < x := fun x y => by
    simp only [Int32.lt_iff_toInt_lt]; omega
  have ir : ∀ x : Int32, ¬ x < x := fun x => by
    simp only [Int32.lt_iff_toInt_lt]; omega
  simp only [e1 a z, e1 z b]
  rcases t a z with h | h | h
  · have h' := as _ _ h
    have hne : ¬ z = a := fun e => ir a (by rw [e] at h; exact h)
    rcases t b z with q | q | q
    · simp [h, h', q]
    · subst q; simp [h, h', ir]
    · have q' := as _ _ q
      have qne : ¬ z = b := fun e => ir b (by rw [e] at q; exact q)
      simp [h, h', q, q', qne]
  · subst h
    rcases t b a with q | q | q
    · simp [ir, q]
    · subst q; simp [ir]
    · have q' := as _ _ q
      have qne : ¬ a = b := fun e => ir b (by rw [e] at q; exact q)
      simp [ir, q, q', qne]
  · have h' := as _ _ h
    have hne : ¬ z = a := fun e => ir a (by rw [e] at h; exact h)
    simp [h, h', hne]
-- what a method leaves as it was
def sm (σ σ' : St) (g u : Nat) : Prop := σ'.1 g u = σ.1 g u ∧ σ'.2 g u = σ.2 g u
theorem sm.rf {σ : St} {g u : Nat} : sm σ σ g u := ⟨rfl, rfl⟩
theorem sm.tr {σ σ1 σ2 : St} {g u : Nat} (h1 : sm σ σ1 g u) (h2 : sm σ1 σ2 g u) : sm σ σ2 g u := ⟨h2.1.trans h1.1, h2.2.trans h1.2⟩
theorem sm_rv {σ1 w : St} {g u : Nat} (h : some σ1 = some w) : sm σ1 w g u := by cases h; exact sm.rf
theorem sm_ri {α : Type} {v : α} {σ1 : St} {w : α × St} {g u : Nat} (h : some (v, σ1) = some w) : sm σ1 w.2 g u := by cases h; exact sm.rf
theorem sm_si {σ σ1 : St} {g0 t0 j : Nat} {v : Int32} {g u : Nat} (h : σ1 = si σ g0 t0 j v) (hn : ¬ (g = g0 ∧ u = t0)) : sm σ σ1 g u := by subst h; exact ⟨si_ne hn, rfl⟩
theorem sm_sl {σ σ1 : St} {g0 t0 j : Nat} {v : Int64} {g u : Nat} (h : σ1 = sl σ g0 t0 j v) (hn : ¬ (g = g0 ∧ u = t0)) : sm σ σ1 g u := by
  subst h
  refine ⟨rfl, ?_⟩
  unfold sl
  simp only [if_neg hn]
theorem sm_ast {σ σ1 : St} {g0 t0 : Nat} {i v : Int32} {g u : Nat} (h : ast σ g0 t0 i v = some σ1) (hn : ¬ (g = g0 ∧ u = t0)) : sm σ σ1 g u := by
  obtain ⟨-, rfl⟩ := if_v h
  exact ⟨si_ne hn, rfl⟩
theorem sm_acp {σ σ1 : St} {g1 t1 g0 t0 : Nat} {sp dp n : Int32} {g u : Nat} (h : acp σ g1 t1 sp g0 t0 dp n = some σ1) (hn : ¬ (g = g0 ∧ u = t0)) : sm σ σ1 g u := by
  obtain ⟨-, rfl⟩ := if_v h
  exact ⟨sa_ne hn, rfl⟩
theorem ite_v {α : Type} {c : Prop} {d : Decidable c} {a b w : α} (h : (@ite α c d a b) = w) : a = w ∨ b = w := by
  by_cases hc : c
  · rw [if_pos hc] at h; exact Or.inl h
  · rw [if_neg hc] at h; exact Or.inr h
theorem bs_v {α : Type} {s : St} {k : St → α} {w : α} (h : bs s k = w) : ∃ s1, s1 = s ∧ k s1 = w := ⟨s, rfl, h⟩
theorem kld_v {i : Int32} {q : Nat} (h : kld i = some q) : 1 ≤ q ∧ q ≤ 3 := by
  obtain ⟨h1, rfl⟩ := if_v h
  have h2 := inb_in h1
  have : i.toNatClampNeg < 3 := Nat.not_le.mp fun q => h2 (Or.inr q)
  omega
