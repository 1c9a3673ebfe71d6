-- SHELVES: rows and texts of the class beside those of the reference
def Shl (t gs gi cnt lim : Nat) (ok : Int32 → Prop) (σ : St) : Prop :=
  σ.1 1 t 0 = nI lim ∧ ∀ r, r < cnt → σ.1 gs 0 r = σ.1 2 t r ∧ (σ.1 2 t r = -1 ∨ ∃ z, z ≤ lim ∧ σ.1 2 t r = nI z ∧ ∀ j, j < z → σ.1 gi 0 (lim * r + j) = σ.1 3 t (lim * r + j) ∧ ok (σ.1 3 t (lim * r + j)))
theorem len2 (t : Nat) : lenOf 2 t ≤ 6 := by
  unfold lenOf
  show (bif Nat.beq t 0 then 6 else 4) ≤ 6
  cases Nat.beq t 0 <;> decide
theorem isNum_in {t k : Nat} {σ : St} (h : k < lenOf 2 t) : F_Shelf_isNumber t (nI k) σ = some 1 := by
  have := len2 t
  unfold F_Shelf_isNumber
  simp (disch := omega) only [litN, nI_ltI, nI_leI, nI_eq, nI_add, pk_mul, Nat.not_lt_zero, if_false]
  rw [if_neg (by omega)]
theorem isNum_out {t : Nat} {z : Int32} {σ : St} (h : z < 0 ∨ nI (lenOf 2 t) ≤ z) : F_Shelf_isNumber t z σ = some 0 := by
  unfold F_Shelf_isNumber
  rcases h with h | h
  · rw [if_pos h]
  · by_cases h0 : z < 0
    · rw [if_pos h0]
    · rw [if_neg h0, if_pos h]
theorem ald2 {t k : Nat} {σ : St} (h : k < lenOf 2 t) : ald σ 2 t (nI k) = some (σ.1 2 t k) := ald_in h (Nat.lt_of_le_of_lt (len2 t) (by decide))
theorem ast2 {t k : Nat} {σ : St} {v : Int32} (h : k < lenOf 2 t) : ast σ 2 t (nI k) v = some (si σ 2 t k v) := ast_in h (Nat.lt_of_le_of_lt (len2 t) (by decide))
theorem one_ne : ¬ (1 : Int32) = 0 := by decide
theorem sizeOf_in {t k : Nat} {σ : St} (h : k < lenOf 2 t) : F_Shelf_sizeOf t (nI k) σ = some (σ.1 2 t k) := by
  unfold F_Shelf_sizeOf
  simp only [isNum_in h, obind, b2_some, bs_eq, ald2 h, if_neg one_ne]
theorem isThere_in {t k : Nat} {σ : St} (h : k < lenOf 2 t) : F_Shelf_isThere t (nI k) σ = some (if σ.1 2 t k < 0 then 0 else 1) := by
  unfold F_Shelf_isThere
  simp only [sizeOf_in h, obind, b2_some, bs_eq]
  split <;> rfl
theorem hasPlace_in {t k : Nat} {σ : St} (h : k < lenOf 2 t) (i : Int32) : F_Shelf_hasPlace t (nI k) i σ = some (if i < 0 ∨ σ.1 2 t k ≤ i then 0 else 1) := by
  unfold F_Shelf_hasPlace
  by_cases h0 : i < 0
  · simp only [h0, true_or, if_true]
  · simp only [h0, false_or, if_false, sizeOf_in h, obind, b2_some, bs_eq]
    split <;> rfl
theorem i32_lt (a b : Int32) : a < b ↔ a.toInt < b.toInt := Int32.lt_iff_toInt_lt
theorem i32_le (a b : Int32) : a ≤ b ↔ a.toInt ≤ b.toInt := Int32.le_iff_toInt_le
theorem i32_eq (a b : Int32) : a = b ↔ a.toInt = b.toInt := Int32.toInt_inj.symm
theorem m1_t : (-1 : Int32).toInt = -1 := by decide
theorem z0_t : (0 : Int32).toInt = 0 := by decide
theorem len3 (t : Nat) : lenOf 3 t = 240 := rfl
theorem get_in {t k lim z j : Nat} {σ : St} (h : k < lenOf 2 t) (hl : σ.1 1 t 0 = nI lim) (hz : σ.1 2 t k = nI z) (hzl : z ≤ lim) (hb : lim * lenOf 2 t ≤ 240) (hj : j < z) : F_Shelf_get t (nI k) (nI j) σ = some (σ.1 3 t (lim * k + j)) := by
  have hlim : lim * (k + 1) ≤ 240 := Nat.le_trans (Nat.mul_le_mul_left lim h) hb
  rw [Nat.mul_succ] at hlim
  have h6 := len2 t
  unfold F_Shelf_get
  have hp : ¬ (nI j < 0 ∨ nI z ≤ nI j) := by
    simp (disch := omega) only [litN, nI_ltI, nI_leI, nI_eq, nI_add, pk_mul]
    omega
  simp only [hasPlace_in h, hz, if_neg hp, obind, b2_some, bs_eq, if_neg one_ne, hl]
  rw [pk_mul, nI_add, Nat.mul_comm k lim, ald_3 (by omega)]
  rfl
theorem set_in {t k lim z j : Nat} {σ : St} {v : Int32} (h : k < lenOf 2 t) (hl : σ.1 1 t 0 = nI lim) (hz : σ.1 2 t k = nI z) (hzl : z ≤ lim) (hb : lim * lenOf 2 t ≤ 240) (hj : j < z) : F_Shelf_set t (nI k) (nI j) v σ = some (si σ 3 t (lim * k + j) v) := by
  have hlim : lim * (k + 1) ≤ 240 := Nat.le_trans (Nat.mul_le_mul_left lim h) hb
  rw [Nat.mul_succ] at hlim
  have h6 := len2 t
  unfold F_Shelf_set
  have hp : ¬ (nI j < 0 ∨ nI z ≤ nI j) := by
    simp (disch := omega) only [litN, nI_ltI, nI_leI, nI_eq, nI_add, pk_mul]
    omega
  simp only [hasPlace_in h, hz, if_neg hp, obind, b2_some, bs_eq, if_neg one_ne, hl]
  rw [pk_mul, nI_add, Nat.mul_comm k lim, ast_3 (by omega)]
  rfl
theorem fill4_loop {n g t b : Nat} {v : Int32} (hb : b ≤ lenOf g t) (hl : lenOf g t < 2 ^ 31) : ∀ (k i : Nat) (σ : St), i ≤ b → b < k + i → F_Arrays_fill4_10 n g t k (nI b) v (nI i) σ = some (sa σ g t (fun j => if i ≤ j ∧ j < b then v else σ.1 g t j)) := by
  intro k
  induction k with
  | zero => intro i σ h1 h2; omega
  | succ k ih =>
    intro i σ h1 h2
    rw [F_Arrays_fill4_10]
    by_cases h : i = b
    · subst h
      simp (disch := omega) only [litN, nI_ltI, nI_leI, nI_eq, nI_add, pk_mul, Nat.le_refl, if_true]
      have : (fun j => if i ≤ j ∧ j < i then v else σ.1 g t j) = σ.1 g t := by
        funext j
        rw [if_neg (by omega)]
      rw [this, sa_id]
    · simp (disch := omega) only [litN, nI_ltI, nI_leI, nI_eq, nI_add, pk_mul]
      rw [if_neg (by omega), ast_in (by omega) hl]
      simp only [obind, b2_some, bs_eq]
      rw [ih (i + 1) _ (by omega) (by omega), si_sa, sa_sa, sa_at]
      congr 2
      funext j
      by_cases h3 : j = i
      · subst h3
        rw [if_neg (by omega), if_pos (by omega)]
        simp [upd]
      · by_cases h4 : i + 1 ≤ j ∧ j < b
        · rw [if_pos h4, if_pos (by omega)]
        · rw [if_neg h4, if_neg (by omega)]
          simp [upd, h3]
theorem fill4_eq {n g t a b : Nat} {v : Int32} {σ : St} (hab : a ≤ b) (hb : b ≤ lenOf g t) (hl : lenOf g t < 2 ^ 31) (hn : b < n + a) : F_Arrays_fill4 n g t (nI a) (nI b) v σ = some (sa σ g t (fun j => if a ≤ j ∧ j < b then v else σ.1 g t j)) := by
  unfold F_Arrays_fill4 F_Arrays_rangeCheck
  simp (disch := omega) only [litN, nI_ltI, nI_leI, nI_eq, nI_add, pk_mul, hab, hb, Nat.zero_le, if_true, obind, b2_some, bs_eq]
  exact fill4_loop hb hl n a σ hab hn
theorem make_eq {n t k lim z : Nat} {σ : St} {v : Int32} (h : k < lenOf 2 t) (hl : σ.1 1 t 0 = nI lim) (hzl : z ≤ lim) (hb : lim * lenOf 2 t ≤ 240) (hn : 240 < n) : F_Shelf_make n t (nI k) (nI z) v σ = some (sa (si σ 2 t k (nI z)) 3 t (fun j => if lim * k ≤ j ∧ j < lim * k + z then v else σ.1 3 t j)) := by
  have hlim : lim * (k + 1) ≤ 240 := Nat.le_trans (Nat.mul_le_mul_left lim h) hb
  rw [Nat.mul_succ] at hlim
  have h6 := len2 t
  unfold F_Shelf_make
  have e1 : (si σ 2 t k (nI z)).1 1 t 0 = nI lim := by rw [si_g]; simp [hl]
  have e2 : (si σ 2 t k (nI z)).1 3 t = σ.1 3 t := si_ne (by omega)
  simp (disch := omega) only [isNum_in h, obind, b2_some, bs_eq, if_neg one_ne, hl, ast2 h, e1, litN, nI_ltI, nI_leI, nI_eq, nI_add, pk_mul, Nat.not_lt_zero, if_false]
  rw [if_neg (by omega), Nat.mul_comm k lim, fill4_eq (by omega) (by rw [len3]; omega) (by rw [len3]; decide) (by omega), e2]
  rw [if_neg (by omega)]
  rfl
-- the answers of refusals
def cF (k : Nat) (σ : St) : St := si (si σ 0 0 9 (nI k)) 27 0 k (σ.1 27 0 k + 1)
def mF (k : Nat) (σ : St) : St := si (si σ 30 0 12 (nI k)) 39 0 k (σ.1 39 0 k + 1)
theorem found_eq {k : Nat} {σ : St} (h : k < 6) : F_Tent_found (nI k) σ = some (-3, cF k σ) := by
  unfold F_Tent_found cF
  have e : (si σ 0 0 9 (nI k)).1 27 0 = σ.1 27 0 := si_ne (by omega)
  simp only [obind, b2_some, bs_eq, ald_27 h, ast_27 h, e]
theorem find_eq {k : Nat} {σ : St} (h : k < 6) : F_Mod_find (nI k) σ = some (-3, mF k σ) := by
  unfold F_Mod_find mF
  have e : (si σ 30 0 12 (nI k)).1 39 0 = σ.1 39 0 := si_ne (by omega)
  simp only [obind, b2_some, bs_eq, ald_39 h, ast_39 h, e]
def Tld (σ : St) : Prop := σ.1 30 0 9 = σ.1 0 0 10 ∧ σ.2 30 0 10 = σ.2 0 0 11 ∧ σ.2 30 0 11 = σ.2 0 0 12 ∧ σ.1 30 0 12 = σ.1 0 0 9 ∧ ∀ f, f < 6 → σ.1 39 0 f = σ.1 27 0 f
theorem Tld.found {k : Nat} {σ : St} (h : Tld σ) (hk : k < 6) : Tld (mF k (cF k σ)) := by
  obtain ⟨h1, h2, h3, h4, h5⟩ := h
  refine ⟨?_, h2, h3, ?_, fun f hf => ?_⟩
  · simp [mF, cF, si_g, h1]
  · simp [mF, cF, si_g]
  · simp only [mF, cF, si_g]
    by_cases e : f = k
    · subst e; simp [h5 f hf]
    · simp [e, h5 f hf]
theorem Tld.cg {σ σ' : St} (h : Tld σ) (h0 : σ'.1 0 0 = σ.1 0 0) (h1 : σ'.2 0 0 = σ.2 0 0) (h2 : σ'.1 27 0 = σ.1 27 0) (h3 : σ'.1 30 0 9 = σ.1 30 0 9) (h4 : σ'.1 30 0 12 = σ.1 30 0 12) (h5 : σ'.2 30 0 = σ.2 30 0) (h6 : σ'.1 39 0 = σ.1 39 0) : Tld σ' := by
  unfold Tld
  rw [h0, h1, h2, h3, h4, h5, h6]
  exact h
theorem Shl.cg {t gs gi cnt lim : Nat} {ok : Int32 → Prop} {σ σ' : St} (h : Shl t gs gi cnt lim ok σ) (h1 : σ'.1 1 t = σ.1 1 t) (h2 : σ'.1 2 t = σ.1 2 t) (h3 : σ'.1 3 t = σ.1 3 t) (h4 : σ'.1 gs 0 = σ.1 gs 0) (h5 : σ'.1 gi 0 = σ.1 gi 0) : Shl t gs gi cnt lim ok σ' := by
  unfold Shl
  rw [h1, h2, h3, h4, h5]
  exact h
theorem isRow_in {k : Nat} (h : k < 6) : F_Mod_isRow (nI k) = some 1 := by
  unfold F_Mod_isRow
  rw [show (0 : Int64) = (nI 0).toInt64 from by decide, show (5 : Int64) = (nI 5).toInt64 from by decide, in_I]
  rw [if_pos (by simp (disch := omega) only [litN, nI_ltI, nI_leI, nI_eq, nI_add, pk_mul]; omega)]
  rfl
theorem isText_in {k : Nat} (h : k < 4) : F_Mod_isText (nI k) = some 1 := by
  unfold F_Mod_isText
  rw [show (0 : Int64) = (nI 0).toInt64 from by decide, show (3 : Int64) = (nI 3).toInt64 from by decide, in_I]
  rw [if_pos (by simp (disch := omega) only [litN, nI_ltI, nI_leI, nI_eq, nI_add, pk_mul]; omega)]
  rfl
theorem isRow_out {z : Int32} (h : z < 0 ∨ nI 6 ≤ z) : F_Mod_isRow z = some 0 := by
  unfold F_Mod_isRow
  rw [show (0 : Int64) = (nI 0).toInt64 from by decide, show (5 : Int64) = (nI 5).toInt64 from by decide, in_I]
  have e0 : (nI 0).toInt = 0 := by decide
  have e5 : (nI 5).toInt = 5 := by decide
  have e6 : (nI 6).toInt = 6 := by decide
  rw [if_neg (by simp only [i32_lt, i32_le, z0_t, e0, e5, e6] at h ⊢; omega)]
  rfl
theorem isText_out {z : Int32} (h : z < 0 ∨ nI 4 ≤ z) : F_Mod_isText z = some 0 := by
  unfold F_Mod_isText
  rw [show (0 : Int64) = (nI 0).toInt64 from by decide, show (3 : Int64) = (nI 3).toInt64 from by decide, in_I]
  have e0 : (nI 0).toInt = 0 := by decide
  have e5 : (nI 3).toInt = 3 := by decide
  have e6 : (nI 4).toInt = 4 := by decide
  rw [if_neg (by simp only [i32_lt, i32_le, z0_t, e0, e5, e6] at h ⊢; omega)]
  rfl
