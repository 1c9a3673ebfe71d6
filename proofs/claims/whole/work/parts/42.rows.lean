theorem ix_of (m : Nat) (hm : m < 2 ^ 31) (z : Int32) : (z < 0 ∨ nI m ≤ z) ∨ ∃ j, j < m ∧ z = nI j := by
  rcases pk_ix z hm with h | h | h
  · exact Or.inl (Or.inl h)
  · exact Or.inl (Or.inr h)
  · exact Or.inr h
theorem nI_m1 (k : Nat) (h : k < 2 ^ 31) : ¬ nI k = -1 := fun e => by
  have := congrArg Int32.toInt e
  rw [nI_toInt h, m1_t] at this
  omega
theorem fill_gen {ρ : Type} (F : Nat → Nat → St → Option ρ) (fin : St → Option ρ) (Inv : St → Prop) (g t b m : Nat) (v : Nat → Int32) (hend : ∀ k σ, Inv σ → F (k + 1) m σ = fin σ) (hI : ∀ i σ, i < m → Inv σ → Inv (si σ g t (b + i) (v i))) (hstep : ∀ k i σ, i < m → Inv σ → F (k + 1) i σ = F k (i + 1) (si σ g t (b + i) (v i))) : ∀ k i σ, i ≤ m → m < k + i → Inv σ → F k i σ = fin (sa σ g t (fun j => if b + i ≤ j ∧ j < b + m then v (j - b) else σ.1 g t j)) := by
  intro k
  induction k with
  | zero => intro i σ h1 h2; omega
  | succ k ih =>
    intro i σ h1 h2 h3
    by_cases h : i = m
    · subst h
      rw [hend k σ h3]
      have : (fun j => if b + i ≤ j ∧ j < b + i then v (j - b) else σ.1 g t j) = σ.1 g t := by
        funext j
        rw [if_neg (by omega)]
      rw [this, sa_id]
    · rw [hstep k i σ (by omega) h3, ih (i + 1) _ (by omega) (by omega) (hI i σ (by omega) h3), si_sa, sa_sa, sa_at]
      congr 2
      funext j
      by_cases h4 : j = b + i
      · subst h4
        rw [if_neg (by omega), if_pos (by omega)]
        simp [upd]
      · by_cases h5 : b + (i + 1) ≤ j ∧ j < b + m
        · rw [if_pos h5, if_pos (by omega)]
        · rw [if_neg h5, if_neg (by omega)]
          simp [upd, h4]
theorem n9_eq : (-9 : Int32).toInt = -9 := by decide
-- class: making
theorem makeIn_out {n t : Nat} {z a3 v : Int32} {σ : St} (h : z < 0 ∨ nI (lenOf 2 t) ≤ z) : F_Tent_makeIn n t z a3 v σ = some (-1, σ) := by
  unfold F_Tent_makeIn
  simp only [isNum_out h, obind, b2_some, bs_eq, if_true]
theorem makeIn_big {n t k lim : Nat} {a3 v : Int32} {σ : St} (h : k < lenOf 2 t) (hl : σ.1 1 t 0 = nI lim) (h3 : nI lim < a3) : F_Tent_makeIn n t (nI k) a3 v σ = some (-1, σ) := by
  unfold F_Tent_makeIn
  have h4 : ¬ a3 ≤ nI lim := by rw [i32_lt] at h3; rw [i32_le]; omega
  simp only [isNum_in h, obind, b2_some, bs_eq, if_neg one_ne, hl, if_neg h4]
theorem makeIn_neg {n t k lim : Nat} {a3 v : Int32} {σ : St} (h : k < lenOf 2 t) (hl : σ.1 1 t 0 = nI lim) (hlim : lim < 2 ^ 31) (h3 : a3 < 0) : F_Tent_makeIn n t (nI k) a3 v σ = some (-3, cF 5 σ) := by
  unfold F_Tent_makeIn
  have h4 : a3 ≤ nI lim := by rw [i32_lt, z0_t] at h3; rw [i32_le, nI_toInt hlim]; omega
  have h5 : ¬ 0 ≤ a3 := by rw [i32_lt] at h3; rw [i32_le]; omega
  simp only [isNum_in h, obind, b2_some, bs_eq, if_neg one_ne, hl, if_pos h4, if_neg h5]
  rw [show (5 : Int32) = nI 5 from rfl, found_eq (by omega)]
  rfl
theorem makeIn_in {n t k lim z : Nat} {v : Int32} {σ : St} (h : k < lenOf 2 t) (hl : σ.1 1 t 0 = nI lim) (hzl : z ≤ lim) (hb : lim * lenOf 2 t ≤ 240) (hn : 240 < n) (hlim : lim < 2 ^ 31) : F_Tent_makeIn n t (nI k) (nI z) v σ = some (nI z, sa (si σ 2 t k (nI z)) 3 t (fun j => if lim * k ≤ j ∧ j < lim * k + z then v else σ.1 3 t j)) := by
  unfold F_Tent_makeIn
  simp only [isNum_in h, obind, b2_some, bs_eq, if_neg one_ne, hl]
  simp (disch := omega) only [litN, nI_ltI, nI_leI, nI_eq, nI_add, pk_mul, hzl, Nat.zero_le, if_true, make_eq h hl hzl hb hn, obind, b2_some, bs_eq]
/-- a number against 0 .. lim -/
theorem three (lim : Nat) (h : lim < 2 ^ 31 - 1) (z : Int32) : z < 0 ∨ nI lim < z ∨ ∃ j, j ≤ lim ∧ z = nI j := by
  rcases pk_ix z (n := lim + 1) (by omega) with h1 | h1 | ⟨j, h1, h2⟩
  · exact Or.inl h1
  · refine Or.inr (Or.inl ?_)
    rw [i32_le, nI_toInt (by omega)] at h1
    rw [i32_lt, nI_toInt (by omega)]
    omega
  · exact Or.inr (Or.inr ⟨j, by omega, h2⟩)
-- reference: making
theorem mkRow_loop {n r : Nat} (hr : r < 6) (hn : 40 < n) (σ : St) : F_Mod_makeRow_9 n n (nI r) (nI 0) σ = some (sa σ 36 0 (fun j => if 40 * r ≤ j ∧ j < 40 * r + 40 then 0 else σ.1 36 0 j)) := by
  refine (fill_gen (fun k i σ => F_Mod_makeRow_9 n k (nI r) (nI i) σ) some (fun _ => True) 36 0 (40 * r) 40 (fun _ => 0) (fun k σ _ => ?_) (fun _ _ _ _ => trivial) (fun k i σ hi _ => ?_) n 0 σ (by omega) (by omega) trivial).trans ?_
  · rw [F_Mod_makeRow_9]
    simp (disch := omega) only [litN, nI_ltI, nI_leI, nI_eq, nI_add, pk_mul, Nat.le_refl, if_true]
  · rw [F_Mod_makeRow_9]
    simp (disch := omega) only [litN, nI_ltI, nI_leI, nI_eq, nI_add, pk_mul]
    rw [if_neg (by omega), ast_36 (by omega)]
    rfl
  · simp only [Nat.add_zero]
theorem text_loop {n r : Nat} (hr : r < 4) (hn : 60 < n) (v : Int32) (σ : St) : F_Mod_text_34 n n (nI r) v (nI 0) σ = some (v, sa σ 38 0 (fun j => if 60 * r ≤ j ∧ j < 60 * r + 60 then 32 else σ.1 38 0 j)) := by
  refine (fill_gen (fun k i σ => F_Mod_text_34 n k (nI r) v (nI i) σ) (fun σ => some (v, σ)) (fun _ => True) 38 0 (60 * r) 60 (fun _ => 32) (fun k σ _ => ?_) (fun _ _ _ _ => trivial) (fun k i σ hi _ => ?_) n 0 σ (by omega) (by omega) trivial).trans ?_
  · rw [F_Mod_text_34]
    simp (disch := omega) only [litN, nI_ltI, nI_leI, nI_eq, nI_add, pk_mul, Nat.le_refl, if_true]
  · rw [F_Mod_text_34]
    simp (disch := omega) only [litN, nI_ltI, nI_leI, nI_eq, nI_add, pk_mul]
    rw [if_neg (by omega), ast_38 (by omega)]
    rfl
  · simp only [Nat.add_zero]
theorem Shl.mk {t gs gi cnt lim r z : Nat} {ok : Int32 → Prop} {σ σ' : St} {v : Int32} (h : Shl t gs gi cnt lim ok σ) (hr : r < cnt) (hz : z ≤ lim) (hv : ok v) (h1 : σ'.1 1 t 0 = σ.1 1 t 0) (h2 : ∀ q, σ'.1 2 t q = if q = r then nI z else σ.1 2 t q) (h3 : ∀ q, σ'.1 gs 0 q = if q = r then nI z else σ.1 gs 0 q) (h4 : ∀ j, σ'.1 3 t j = if lim * r ≤ j ∧ j < lim * r + z then v else σ.1 3 t j) (h5 : ∀ j, σ'.1 gi 0 j = if lim * r ≤ j ∧ j < lim * r + lim then v else σ.1 gi 0 j) : Shl t gs gi cnt lim ok σ' := by
  obtain ⟨a1, a2⟩ := h
  refine ⟨by rw [h1]; exact a1, fun q hq => ?_⟩
  obtain ⟨b1, b2⟩ := a2 q hq
  rw [h2, h3]
  by_cases e : q = r
  · subst e
    simp only [if_true, true_and]
    refine Or.inr ⟨z, hz, rfl, fun j hj => ?_⟩
    rw [h4, h5, if_pos (by omega), if_pos (by omega)]
    exact ⟨rfl, hv⟩
  · simp only [if_neg e]
    refine ⟨b1, ?_⟩
    rcases b2 with b2 | ⟨y, c1, c2, c3⟩
    · exact Or.inl b2
    · refine Or.inr ⟨y, c1, c2, fun j hj => ?_⟩
      have hd : lim * q + j < lim * r ∨ lim * r + lim ≤ lim * q + j := by
        rcases Nat.lt_or_ge q r with g | g
        · left
          have := Nat.mul_le_mul_left lim (show q + 1 ≤ r from g)
          rw [Nat.mul_succ] at this
          omega
        · right
          have := Nat.mul_le_mul_left lim (show r + 1 ≤ q by omega)
          rw [Nat.mul_succ] at this
          omega
      rw [h4, h5, if_neg (by omega), if_neg (by omega)]
      exact c3 j hj
def cMk (t lim k z : Nat) (v : Int32) (σ : St) : St := sa (si σ 2 t k (nI z)) 3 t (fun j => if lim * k ≤ j ∧ j < lim * k + z then v else σ.1 3 t j)
def mMk (gs gi lim k z : Nat) (v : Int32) (σ : St) : St := sa (si σ gs 0 k (nI z)) gi 0 (fun j => if lim * k ≤ j ∧ j < lim * k + lim then v else σ.1 gi 0 j)
section MK
variable {t gs gi lim k z : Nat} {v : Int32} {σ : St}
theorem mk_o {g u : Nat} (h1 : ¬ (g = 2 ∧ u = t)) (h2 : ¬ (g = 3 ∧ u = t)) (h3 : ¬ (g = gs ∧ u = 0)) (h4 : ¬ (g = gi ∧ u = 0)) : (mMk gs gi lim k z v (cMk t lim k z v σ)).1 g u = σ.1 g u := by
  unfold mMk cMk
  rw [sa_ne h4, si_ne h3, sa_ne h2, si_ne h1]
theorem mk_1 (hg : 30 ≤ gs ∧ 30 ≤ gi ∧ gs ≠ gi) : (mMk gs gi lim k z v (cMk t lim k z v σ)).1 1 t 0 = σ.1 1 t 0 := congrFun (mk_o (by omega) (by omega) (by omega) (by omega)) _
theorem mk_2 {hg : 30 ≤ gs ∧ 30 ≤ gi ∧ gs ≠ gi} (q : Nat) : (mMk gs gi lim k z v (cMk t lim k z v σ)).1 2 t q = if q = k then nI z else σ.1 2 t q := by
  unfold mMk cMk
  rw [sa_ne (by omega), si_ne (by omega), sa_ne (by omega), si_g]
  simp
theorem mk_3 (hg : 30 ≤ gs ∧ 30 ≤ gi ∧ gs ≠ gi) (q : Nat) : (mMk gs gi lim k z v (cMk t lim k z v σ)).1 gs 0 q = if q = k then nI z else σ.1 gs 0 q := by
  unfold mMk cMk
  rw [sa_ne (by omega), si_g, sa_ne (by omega), si_ne (by omega)]
  simp
theorem mk_4 {hg : 30 ≤ gs ∧ 30 ≤ gi ∧ gs ≠ gi} (j : Nat) : (mMk gs gi lim k z v (cMk t lim k z v σ)).1 3 t j = if lim * k ≤ j ∧ j < lim * k + z then v else σ.1 3 t j := by
  unfold mMk cMk
  rw [sa_ne (by omega), si_ne (by omega), sa_at]
theorem mk_5 (hg : 30 ≤ gs ∧ 30 ≤ gi ∧ gs ≠ gi) (j : Nat) : (mMk gs gi lim k z v (cMk t lim k z v σ)).1 gi 0 j = if lim * k ≤ j ∧ j < lim * k + lim then v else σ.1 gi 0 j := by
  unfold mMk cMk
  rw [sa_at, sa_ne (by omega), si_ne (by omega)]
theorem mk_T (hs : 35 ≤ gs ∧ 35 ≤ gi) (ht : t ≤ 1) : TF σ (mMk gs gi lim k z v (cMk t lim k z v σ)) :=
  ⟨fun g u a b c => mk_o (by omega) (by omega) (by omega) (by omega), mk_o (by omega) (by omega) (by omega) (by omega), mk_o (by omega) (by omega) (by omega) (by omega), mk_o (by omega) (by omega) (by omega) (by omega), mk_o (by omega) (by omega) (by omega) (by omega), congrFun (mk_o (by omega) (by omega) (by omega) (by omega)) _, congrFun (mk_o (by omega) (by omega) (by omega) (by omega)) _, congrFun (mk_o (by omega) (by omega) (by omega) (by omega)) _⟩
end MK
theorem l20 : lenOf 2 0 = 6 := rfl
theorem l21 : lenOf 2 1 = 4 := rfl
theorem op_row {n : Nat} {σ : St} (a1 a2 : Int32) (hn : 2000 ≤ n) (h : RR σ) : ∃ r σ1 σ2, F_Tent_row n a1 a2 σ = some (r, σ1) ∧ F_Mod_row n a1 a2 σ1 = some (r, σ2) ∧ RR σ2 := by
  obtain ⟨hr, ht, hl, hT⟩ := id h
  unfold F_Tent_row F_Mod_row
  rcases ix_of 6 (by decide) a1 with h1 | ⟨k, hk, rfl⟩
  · exact ⟨-1, σ, σ, by simp only [makeIn_out (t := 0) h1, obind, b2_some, bs_eq], by simp only [isRow_out h1, obind, b2_some, bs_eq, if_true], h⟩
  · rcases three 40 (by decide) a2 with h2 | h2 | ⟨z, hz, rfl⟩
    · refine ⟨-3, cF 5 σ, mF 5 (cF 5 σ), by simp only [makeIn_neg (t := 0) hk hr.1 (by decide) h2, obind, b2_some, bs_eq], ?_, h.found (by omega)⟩
      have h4 : a2 ≤ 40 := by rw [i32_lt, z0_t] at h2; rw [i32_le, show (40 : Int32).toInt = 40 from by decide]; omega
      have h5 : ¬ 0 ≤ a2 := by rw [i32_lt] at h2; rw [i32_le]; omega
      simp only [isRow_in hk, obind, b2_some, bs_eq, if_neg one_ne, if_pos h4, if_neg h5]
      rw [show (5 : Int32) = nI 5 from rfl, find_eq (by omega)]
      rfl
    · refine ⟨-1, σ, σ, by simp only [makeIn_big (t := 0) hk hr.1 h2, obind, b2_some, bs_eq], ?_, h⟩
      have h4 : ¬ a2 ≤ 40 := by rw [i32_lt, nI_toInt (by decide)] at h2; rw [i32_le, show (40 : Int32).toInt = 40 from by decide]; omega
      simp only [isRow_in hk, obind, b2_some, bs_eq, if_neg one_ne, if_neg h4]
    · refine ⟨nI z, cMk 0 40 k z 0 σ, mMk 35 36 40 k z 0 (cMk 0 40 k z 0 σ), by rw [makeIn_in (t := 0) hk hr.1 hz (by decide) (by omega) (by decide)]; rfl, ?_, ?_⟩
      · simp only [isRow_in hk, obind, b2_some, bs_eq, if_neg one_ne]
        simp (disch := omega) only [litN, nI_ltI, nI_leI, nI_eq, nI_add, pk_mul, hz, Nat.zero_le, if_true, F_Mod_makeRow, ast_35 hk, obind, b2_some, bs_eq]
        rw [mkRow_loop hk (by omega), si_ne (by omega)]
        rfl
      · exact ⟨hr.mk hk hz trivial (mk_1 (by omega)) (mk_2 (hg := by omega)) (mk_3 (by omega)) (mk_4 (hg := by omega)) (mk_5 (by omega)), ht.cg (mk_o (by omega) (by omega) (by omega) (by omega)) (mk_o (by omega) (by omega) (by omega) (by omega)) (mk_o (by omega) (by omega) (by omega) (by omega)) (mk_o (by omega) (by omega) (by omega) (by omega)) (mk_o (by omega) (by omega) (by omega) (by omega)), hl.cg (mk_o (by omega) (by omega) (by omega) (by omega)) rfl (mk_o (by omega) (by omega) (by omega) (by omega)) (congrFun (mk_o (by omega) (by omega) (by omega) (by omega)) _) (congrFun (mk_o (by omega) (by omega) (by omega) (by omega)) _) rfl (mk_o (by omega) (by omega) (by omega) (by omega)), hT.cg (mk_T (by omega) (by omega))⟩
theorem op_text {n : Nat} {σ : St} (a1 a2 : Int32) (hn : 2000 ≤ n) (h : RR σ) : ∃ r σ1 σ2, F_Tent_text n a1 a2 σ = some (r, σ1) ∧ F_Mod_text n a1 a2 σ1 = some (r, σ2) ∧ RR σ2 := by
  obtain ⟨hr, ht, hl, hT⟩ := id h
  unfold F_Tent_text F_Mod_text
  rcases ix_of 4 (by decide) a1 with h1 | ⟨k, hk, rfl⟩
  · exact ⟨-1, σ, σ, by simp only [makeIn_out (t := 1) h1, obind, b2_some, bs_eq], by simp only [isText_out h1, obind, b2_some, bs_eq, if_true], h⟩
  · rcases three 60 (by decide) a2 with h2 | h2 | ⟨z, hz, rfl⟩
    · refine ⟨-3, cF 5 σ, mF 5 (cF 5 σ), by simp only [makeIn_neg (t := 1) hk ht.1 (by decide) h2, obind, b2_some, bs_eq], ?_, h.found (by omega)⟩
      have h4 : a2 ≤ 60 := by rw [i32_lt, z0_t] at h2; rw [i32_le, show (60 : Int32).toInt = 60 from by decide]; omega
      have h5 : ¬ 0 ≤ a2 := by rw [i32_lt] at h2; rw [i32_le]; omega
      simp only [isText_in hk, obind, b2_some, bs_eq, if_neg one_ne, if_pos h4, if_neg h5]
      rw [show (5 : Int32) = nI 5 from rfl, find_eq (by omega)]
      rfl
    · refine ⟨-1, σ, σ, by simp only [makeIn_big (t := 1) hk ht.1 h2, obind, b2_some, bs_eq], ?_, h⟩
      have h4 : ¬ a2 ≤ 60 := by rw [i32_lt, nI_toInt (by decide)] at h2; rw [i32_le, show (60 : Int32).toInt = 60 from by decide]; omega
      simp only [isText_in hk, obind, b2_some, bs_eq, if_neg one_ne, if_neg h4]
    · refine ⟨nI z, cMk 1 60 k z 32 σ, mMk 37 38 60 k z 32 (cMk 1 60 k z 32 σ), by rw [makeIn_in (t := 1) hk ht.1 hz (by decide) (by omega) (by decide)]; rfl, ?_, ?_⟩
      · simp only [isText_in hk, obind, b2_some, bs_eq, if_neg one_ne]
        have e0 : (0 : Int32) = nI 0 := rfl
        have e60 : (60 : Int32) = nI 60 := rfl
        rw [e0, e60]
        simp (disch := omega) only [nI_leI, hz, Nat.zero_le, if_true, ast_37 hk, obind, b2_some, bs_eq]
        rw [text_loop hk (by omega), si_ne (by omega)]
        rfl
      · exact ⟨hr.cg (mk_o (by omega) (by omega) (by omega) (by omega)) (mk_o (by omega) (by omega) (by omega) (by omega)) (mk_o (by omega) (by omega) (by omega) (by omega)) (mk_o (by omega) (by omega) (by omega) (by omega)) (mk_o (by omega) (by omega) (by omega) (by omega)), ht.mk hk hz ⟨by decide, by decide⟩ (mk_1 (by omega)) (mk_2 (hg := by omega)) (mk_3 (by omega)) (mk_4 (hg := by omega)) (mk_5 (by omega)), hl.cg (mk_o (by omega) (by omega) (by omega) (by omega)) rfl (mk_o (by omega) (by omega) (by omega) (by omega)) (congrFun (mk_o (by omega) (by omega) (by omega) (by omega)) _) (congrFun (mk_o (by omega) (by omega) (by omega) (by omega)) _) rfl (mk_o (by omega) (by omega) (by omega) (by omega)), hT.cg (mk_T (by omega) (by omega))⟩
