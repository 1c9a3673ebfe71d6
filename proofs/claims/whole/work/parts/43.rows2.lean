theorem m3_ne : ¬ (-3 : Int32) = 0 := by decide
theorem m1_ne : ¬ (-1 : Int32) = 0 := by decide
theorem m1_neg : (-1 : Int32) < 0 := by decide
theorem m1_nle : ¬ (0 : Int32) ≤ -1 := by decide
theorem nI_nneg {z : Nat} (h : z < 2 ^ 31) : ¬ nI z < 0 := nI_pos h
theorem nI_ge0 {z : Nat} (h : z < 2 ^ 31) : (0 : Int32) ≤ nI z := nI_pos' h
section RM
variable {t k z : Nat} {σ : St} {i y : Int32}
theorem rm_out (h : y < 0 ∨ nI (lenOf 2 t) ≤ y) : F_Tent_refuseMissing t y σ = some (-1, σ) := by
  unfold F_Tent_refuseMissing
  simp only [isNum_out h, obind, b2_some, bs_eq, if_true]
theorem rm_none (h : k < lenOf 2 t) (hs : σ.1 2 t k = -1) : F_Tent_refuseMissing t (nI k) σ = some (-3, cF 1 σ) := by
  unfold F_Tent_refuseMissing
  simp only [isNum_in h, obind, b2_some, bs_eq, if_neg one_ne, isThere_in h, hs, if_pos m1_neg, if_true]
  rw [show (1 : Int32) = nI 1 from rfl, found_eq (by omega)]
  rfl
theorem rm_in (h : k < lenOf 2 t) (hs : σ.1 2 t k = nI z) (hz : z < 2 ^ 31) : F_Tent_refuseMissing t (nI k) σ = some (0, σ) := by
  unfold F_Tent_refuseMissing
  simp only [isNum_in h, obind, b2_some, bs_eq, if_neg one_ne, isThere_in h, hs, if_neg (nI_nneg hz)]
theorem rp_out (h : y < 0 ∨ nI (lenOf 2 t) ≤ y) : F_Tent_refusePlace t y i σ = some (-1, σ) := by
  unfold F_Tent_refusePlace
  simp only [rm_out h, obind, b2_some, bs_eq, if_neg m1_ne]
theorem rp_none (h : k < lenOf 2 t) (hs : σ.1 2 t k = -1) : F_Tent_refusePlace t (nI k) i σ = some (-3, cF 1 σ) := by
  unfold F_Tent_refusePlace
  simp only [rm_none h hs, obind, b2_some, bs_eq, if_neg m3_ne]
theorem rp_bey (h : k < lenOf 2 t) (hs : σ.1 2 t k = nI z) (hz : z < 2 ^ 31) (hi : i < 0 ∨ nI z ≤ i) : F_Tent_refusePlace t (nI k) i σ = some (-3, cF 2 σ) := by
  unfold F_Tent_refusePlace
  simp only [rm_in h hs hz, obind, b2_some, bs_eq, if_true, hasPlace_in h, hs, if_pos hi]
  rw [show (2 : Int32) = nI 2 from rfl, found_eq (by omega)]
  rfl
theorem rp_in {j : Nat} (h : k < lenOf 2 t) (hs : σ.1 2 t k = nI z) (hz : z < 2 ^ 31) (hi : j < z) : F_Tent_refusePlace t (nI k) (nI j) σ = some (0, σ) := by
  unfold F_Tent_refusePlace
  have hp : ¬ (nI j < 0 ∨ nI z ≤ nI j) := by
    simp (disch := omega) only [litN, nI_ltI, nI_leI, nI_eq, nI_add, pk_mul]
    omega
  simp only [rm_in h hs hz, obind, b2_some, bs_eq, if_true, hasPlace_in h, hs, if_neg hp, if_neg one_ne]
end RM
theorem nI_sub1 (z : Nat) (hz : z < 2 ^ 31) : (nI z - 1).toInt = (z : Int) - 1 := by
  cases z with
  | zero => decide
  | succ y => rw [nI_pred, nI_toInt (by omega)]; omega
theorem in_place {z : Nat} {i : Int32} (hz : z < 2 ^ 31) : F_Mod_in i.toInt64 0 ((nI z - 1).toInt64) = some (if i < 0 ∨ nI z ≤ i then 0 else 1) := by
  rw [show (0 : Int64) = (0 : Int32).toInt64 from by decide, in_I]
  congr 1
  have e1 := nI_sub1 z hz
  by_cases h : i < 0 ∨ nI z ≤ i
  · rw [if_pos h, if_neg]
    simp only [i32_lt, i32_le, z0_t, e1, nI_toInt hz] at h ⊢
    omega
  · rw [if_neg h, if_pos]
    simp only [i32_lt, i32_le, z0_t, e1, nI_toInt hz] at h ⊢
    omega
section RF
variable {k z : Nat} {σ : St} {i y : Int32}
theorem rf_out (h : y < 0 ∨ nI 6 ≤ y) : F_Mod_refused y i σ = some (-1, σ) := by
  unfold F_Mod_refused
  simp only [isRow_out h, obind, b2_some, bs_eq, if_true]
theorem rf_none (h : k < 6) (hs : σ.1 35 0 k = -1) : F_Mod_refused (nI k) i σ = some (-3, mF 1 σ) := by
  unfold F_Mod_refused
  simp only [isRow_in h, obind, b2_some, bs_eq, if_neg one_ne, ald_35 h, hs, if_neg m1_nle]
  rw [show (1 : Int32) = nI 1 from rfl, find_eq (by omega)]
  rfl
theorem rf_bey (h : k < 6) (hs : σ.1 35 0 k = nI z) (hz : z < 2 ^ 31) (hi : i < 0 ∨ nI z ≤ i) : F_Mod_refused (nI k) i σ = some (-3, mF 2 σ) := by
  unfold F_Mod_refused
  simp only [isRow_in h, obind, b2_some, bs_eq, if_neg one_ne, ald_35 h, hs, if_pos (nI_ge0 hz), in_place hz, if_pos hi, if_true]
  rw [show (2 : Int32) = nI 2 from rfl, find_eq (by omega)]
  rfl
theorem rf_in {j : Nat} (h : k < 6) (hs : σ.1 35 0 k = nI z) (hz : z < 2 ^ 31) (hi : j < z) : F_Mod_refused (nI k) (nI j) σ = some (0, σ) := by
  unfold F_Mod_refused
  have hp : ¬ (nI j < 0 ∨ nI z ≤ nI j) := by
    simp (disch := omega) only [litN, nI_ltI, nI_leI, nI_eq, nI_add, pk_mul]
    omega
  simp only [isRow_in h, obind, b2_some, bs_eq, if_neg one_ne, ald_35 h, hs, if_pos (nI_ge0 hz), in_place hz, if_neg hp]
end RF
/-- the latest number told, on both sides -/
def tl (v : Int32) (σ : St) : St := si (si σ 0 0 10 v) 30 0 9 v
theorem RR.cgT {σ σ' : St} (h : RR σ) (h0 : ∀ g u, ¬ (g = 0 ∧ u = 0) → ¬ (g = 30 ∧ u = 0) → σ'.1 g u = σ.1 g u) (hT : Tld σ') (h1 : σ'.1 30 0 1 = σ.1 30 0 1) (h2 : σ'.1 30 0 24 = σ.1 30 0 24) (h3 : σ'.1 30 0 25 = σ.1 30 0 25) : RR σ' := by
  obtain ⟨a, b, c, d⟩ := h
  exact ⟨a.cg (h0 _ _ (by omega) (by omega)) (h0 _ _ (by omega) (by omega)) (h0 _ _ (by omega) (by omega)) (h0 _ _ (by omega) (by omega)) (h0 _ _ (by omega) (by omega)), b.cg (h0 _ _ (by omega) (by omega)) (h0 _ _ (by omega) (by omega)) (h0 _ _ (by omega) (by omega)) (h0 _ _ (by omega) (by omega)) (h0 _ _ (by omega) (by omega)), hT, d.cg ⟨fun g t _ _ _ => h0 _ _ (by omega) (by omega), h0 _ _ (by omega) (by omega), h0 _ _ (by omega) (by omega), h0 _ _ (by omega) (by omega), h0 _ _ (by omega) (by omega), h1, h2, h3⟩⟩
theorem RR.tell {σ : St} (h : RR σ) (v : Int32) : RR (si (si σ 0 0 10 v) 30 0 9 v) := by
  refine h.cgT (fun g u a b => by rw [si_ne b, si_ne a]) ?_ (by simp [si_g]) (by simp [si_g]) (by simp [si_g])
  obtain ⟨h1, h2, h3, h4, h5⟩ := h.2.2.1
  refine ⟨by simp [si_g], h2, h3, by simp [si_g, h4], fun f hf => ?_⟩
  rw [si_ne (by omega), si_ne (by omega), si_ne (by omega), si_ne (by omega)]
  exact h5 f hf
theorem tell_eq {σ : St} {v : Int32} : F_Mod_tell v σ = some (1, si σ 30 0 9 v) := rfl
theorem op_at {σ : St} (a1 a2 : Int32) (h : RR σ) : ∃ r σ1 σ2, F_Tent_at a1 a2 σ = some (r, σ1) ∧ F_Mod_at a1 a2 σ1 = some (r, σ2) ∧ RR σ2 := by
  obtain ⟨hr, ht, hl, hT⟩ := id h
  unfold F_Tent_at F_Mod_at
  rcases ix_of 6 (by decide) a1 with h1 | ⟨k, hk, rfl⟩
  · exact ⟨-1, σ, σ, by simp only [rp_out (t := 0) h1, obind, b2_some, bs_eq, if_neg m1_ne], by simp only [rf_out h1, obind, b2_some, bs_eq, if_neg m1_ne], h⟩
  · obtain ⟨e1, e2⟩ := hr.2 k hk
    rcases e2 with e2 | ⟨z, hz, e2, e3⟩
    · exact ⟨-3, cF 1 σ, mF 1 (cF 1 σ), by simp only [rp_none (t := 0) hk e2, obind, b2_some, bs_eq, if_neg m3_ne], by
        have e4 : (cF 1 σ).1 35 0 k = -1 := by unfold cF; rw [si_ne (by omega), si_ne (by omega), e1, e2]
        simp only [rf_none hk e4, obind, b2_some, bs_eq, if_neg m3_ne], h.found (by omega)⟩
    · rcases ix_of z (by omega) a2 with h2 | ⟨j, hj, rfl⟩
      · exact ⟨-3, cF 2 σ, mF 2 (cF 2 σ), by simp only [rp_bey (t := 0) hk e2 (by omega) h2, obind, b2_some, bs_eq, if_neg m3_ne], by
          have e4 : (cF 2 σ).1 35 0 k = nI z := by unfold cF; rw [si_ne (by omega), si_ne (by omega), e1, e2]
          simp only [rf_bey hk e4 (by omega) h2, obind, b2_some, bs_eq, if_neg m3_ne], h.found (by omega)⟩
      · obtain ⟨e5, -⟩ := e3 j hj
        refine ⟨1, si σ 0 0 10 (σ.1 3 0 (40 * k + j)), si (si σ 0 0 10 (σ.1 3 0 (40 * k + j))) 30 0 9 (σ.1 3 0 (40 * k + j)), ?_, ?_, h.tell _⟩
        · simp only [rp_in (t := 0) hk e2 (by omega) hj, obind, b2_some, bs_eq, if_true, get_in (t := 0) hk hr.1 e2 hz (by decide) hj]
        · have e4 : (si σ 0 0 10 (σ.1 3 0 (40 * k + j))).1 35 0 k = nI z := by rw [si_ne (by omega), e1, e2]
          simp only [rf_in hk e4 (by omega) hj, obind, b2_some, bs_eq, if_true]
          rw [show (40 : Int32) = nI 40 from rfl, pk_mul, nI_add, ald_36 (by omega)]
          simp only [obind, b2_some, bs_eq, tell_eq]
          rw [si_ne (by omega), e5]
theorem Shl.put {t gs gi cnt lim r y : Nat} {ok : Int32 → Prop} {σ σ' : St} {v : Int32} (h : Shl t gs gi cnt lim ok σ) (hy : ∃ j, j < lim ∧ y = lim * r + j) (hv : ok v) (h1 : σ'.1 1 t = σ.1 1 t) (h2 : σ'.1 2 t = σ.1 2 t) (h3 : σ'.1 gs 0 = σ.1 gs 0) (h4 : ∀ j, σ'.1 3 t j = if j = y then v else σ.1 3 t j) (h5 : ∀ j, σ'.1 gi 0 j = if j = y then v else σ.1 gi 0 j) : Shl t gs gi cnt lim ok σ' := by
  obtain ⟨a1, a2⟩ := h
  refine ⟨by rw [h1]; exact a1, fun q hq => ?_⟩
  obtain ⟨b1, b2⟩ := a2 q hq
  rw [h2, h3]
  refine ⟨b1, ?_⟩
  rcases b2 with b2 | ⟨z, c1, c2, c3⟩
  · exact Or.inl b2
  · refine Or.inr ⟨z, c1, c2, fun j hj => ?_⟩
    rw [h4, h5]
    by_cases e : lim * q + j = y
    · simp only [e, if_true]; exact ⟨trivial, hv⟩
    · simp only [e, if_false]; exact c3 j hj
theorem op_lay {σ : St} (a1 a2 a3 : Int32) (h : RR σ) : ∃ r σ1 σ2, F_Tent_lay a1 a2 a3 σ = some (r, σ1) ∧ F_Mod_lay a1 a2 a3 σ1 = some (r, σ2) ∧ RR σ2 := by
  obtain ⟨hr, ht, hl, hT⟩ := id h
  unfold F_Tent_lay F_Mod_lay
  rcases ix_of 6 (by decide) a1 with h1 | ⟨k, hk, rfl⟩
  · exact ⟨-1, σ, σ, by simp only [rp_out (t := 0) h1, obind, b2_some, bs_eq, if_neg m1_ne], by simp only [rf_out h1, obind, b2_some, bs_eq, if_neg m1_ne], h⟩
  · obtain ⟨e1, e2⟩ := hr.2 k hk
    rcases e2 with e2 | ⟨z, hz, e2, e3⟩
    · exact ⟨-3, cF 1 σ, mF 1 (cF 1 σ), by simp only [rp_none (t := 0) hk e2, obind, b2_some, bs_eq, if_neg m3_ne], by
        have e4 : (cF 1 σ).1 35 0 k = -1 := by unfold cF; rw [si_ne (by omega), si_ne (by omega), e1, e2]
        simp only [rf_none hk e4, obind, b2_some, bs_eq, if_neg m3_ne], h.found (by omega)⟩
    · rcases ix_of z (by omega) a2 with h2 | ⟨j, hj, rfl⟩
      · exact ⟨-3, cF 2 σ, mF 2 (cF 2 σ), by simp only [rp_bey (t := 0) hk e2 (by omega) h2, obind, b2_some, bs_eq, if_neg m3_ne], by
          have e4 : (cF 2 σ).1 35 0 k = nI z := by unfold cF; rw [si_ne (by omega), si_ne (by omega), e1, e2]
          simp only [rf_bey hk e4 (by omega) h2, obind, b2_some, bs_eq, if_neg m3_ne], h.found (by omega)⟩
      · obtain ⟨e5, -⟩ := e3 j hj
        obtain ⟨v, hv⟩ : ∃ v, v = σ.1 3 0 (40 * k + j) := ⟨_, rfl⟩
        refine ⟨1, si (si σ 0 0 10 v) 3 0 (40 * k + j) a3, si (si (si (si σ 0 0 10 v) 3 0 (40 * k + j) a3) 36 0 (40 * k + j) a3) 30 0 9 v, ?_, ?_, ?_⟩
        · simp only [rp_in (t := 0) hk e2 (by omega) hj, obind, b2_some, bs_eq, if_true, get_in (t := 0) hk hr.1 e2 hz (by decide) hj, ← hv]
          rw [set_in (t := 0) (lim := 40) (z := z) hk (by rw [si_ne (by omega)]; exact hr.1) (by rw [si_ne (by omega)]; exact e2) hz (by decide) hj]
          rfl
        · have e4 : (si (si σ 0 0 10 v) 3 0 (40 * k + j) a3).1 35 0 k = nI z := by rw [si_ne (by omega), si_ne (by omega), e1, e2]
          simp only [rf_in hk e4 (by omega) hj, obind, b2_some, bs_eq, if_true]
          rw [show (40 : Int32) = nI 40 from rfl, pk_mul, nI_add, ald_36 (by omega), ast_36 (by omega)]
          simp only [obind, b2_some, bs_eq, tell_eq]
          rw [si_ne (by omega), si_ne (by omega), e5, hv]
        · have hh : RR (si (si σ 0 0 10 v) 30 0 9 v) := h.tell v
          obtain ⟨g1, g2, g3, g4⟩ := hh
          refine ⟨g1.put (v := a3) (y := 40 * k + j) (r := k) ⟨j, by omega, rfl⟩ trivial ?_ ?_ ?_ (fun q => ?_) (fun q => ?_), g2.cg ?_ ?_ ?_ ?_ ?_, g3.cg ?_ ?_ ?_ ?_ ?_ ?_ ?_, g4.cg ⟨fun g t a b c => ?_, ?_, ?_, ?_, ?_, ?_, ?_, ?_⟩⟩
          all_goals first
            | rfl
            | (simp [si_g]; done)
            | (iterate 8 (try rw [si_ne (by omega)]))
theorem Shl.none {t gs gi cnt lim r : Nat} {ok : Int32 → Prop} {σ σ' : St} (h : Shl t gs gi cnt lim ok σ) (h1 : σ'.1 1 t = σ.1 1 t) (h2 : ∀ q, σ'.1 2 t q = if q = r then -1 else σ.1 2 t q) (h3 : ∀ q, σ'.1 gs 0 q = if q = r then -1 else σ.1 gs 0 q) (h4 : σ'.1 3 t = σ.1 3 t) (h5 : σ'.1 gi 0 = σ.1 gi 0) : Shl t gs gi cnt lim ok σ' := by
  obtain ⟨a1, a2⟩ := h
  refine ⟨by rw [h1]; exact a1, fun q hq => ?_⟩
  rw [h2, h3, h4, h5]
  by_cases e : q = r
  · simp only [e, if_true, true_and]; exact Or.inl trivial
  · simp only [e, if_false]; exact a2 q hq
theorem op_tear {σ : St} (a1 : Int32) (h : RR σ) : ∃ r σ1 σ2, F_Tent_tear a1 σ = some (r, σ1) ∧ F_Mod_tear a1 σ1 = some (r, σ2) ∧ RR σ2 := by
  obtain ⟨hr, ht, hl, hT⟩ := id h
  unfold F_Tent_tear F_Mod_tear
  rcases ix_of 6 (by decide) a1 with h1 | ⟨k, hk, rfl⟩
  · exact ⟨-1, σ, σ, by simp only [rm_out (t := 0) h1, obind, b2_some, bs_eq, if_neg m1_ne], by simp only [isRow_out h1, obind, b2_some, bs_eq, if_true], h⟩
  · obtain ⟨e1, e2⟩ := hr.2 k hk
    rcases e2 with e2 | ⟨z, hz, e2, e3⟩
    · refine ⟨-3, cF 1 σ, mF 1 (cF 1 σ), by simp only [rm_none (t := 0) hk e2, obind, b2_some, bs_eq, if_neg m3_ne], ?_, h.found (by omega)⟩
      have e4 : (cF 1 σ).1 35 0 k = -1 := by unfold cF; rw [si_ne (by omega), si_ne (by omega), e1, e2]
      simp only [isRow_in hk, obind, b2_some, bs_eq, if_neg one_ne, ald_35 hk, e4, if_neg m1_nle]
      rw [show (1 : Int32) = nI 1 from rfl, find_eq (by omega)]
      rfl
    · refine ⟨1, si σ 2 0 k (-1), si (si σ 2 0 k (-1)) 35 0 k (-1), ?_, ?_, ?_⟩
      · simp only [rm_in (t := 0) hk e2 (by omega), obind, b2_some, bs_eq, if_true, F_Shelf_remove, isNum_in (t := 0) hk, if_neg one_ne, ast_2_0 hk]
      · have e4 : (si σ 2 0 k (-1)).1 35 0 k = nI z := by rw [si_ne (by omega), e1, e2]
        simp only [isRow_in hk, obind, b2_some, bs_eq, if_neg one_ne, ald_35 hk, e4, if_pos (nI_ge0 (show z < 2 ^ 31 by omega)), ast_35 hk]
      · refine ⟨hr.none (r := k) ?_ (fun q => ?_) (fun q => ?_) ?_ ?_, ht.cg ?_ ?_ ?_ ?_ ?_, hl.cg ?_ ?_ ?_ ?_ ?_ ?_ ?_, hT.cg ⟨fun g t a b c => ?_, ?_, ?_, ?_, ?_, ?_, ?_, ?_⟩⟩
        all_goals first
          | rfl
          | (simp [si_g]; done)
          | (iterate 8 (try rw [si_ne (by omega)]))
theorem byte_ok (v : Int32) : isB v.toInt8.toInt32 := by
  unfold isB
  rw [Int8.toInt_toInt32]
  have h1 := Int8.le_toInt v.toInt8
  have h2 := Int8.toInt_lt v.toInt8
  constructor <;> omega
theorem op_put {σ : St} (a1 a2 a3 : Int32) (h : RR σ) : ∃ r σ1 σ2, F_Tent_put a1 a2 a3 σ = some (r, σ1) ∧ F_Mod_put a1 a2 a3 σ1 = some (r, σ2) ∧ RR σ2 := by
  obtain ⟨hr, ht, hl, hT⟩ := id h
  unfold F_Tent_put F_Mod_put
  rcases ix_of 4 (by decide) a1 with h1 | ⟨k, hk, rfl⟩
  · exact ⟨-1, σ, σ, by simp only [rp_out (t := 1) h1, obind, b2_some, bs_eq, if_neg m1_ne], by simp only [isText_out h1, obind, b2_some, bs_eq, if_true], h⟩
  · obtain ⟨e1, e2⟩ := ht.2 k hk
    rcases e2 with e2 | ⟨z, hz, e2, e3⟩
    · refine ⟨-3, cF 1 σ, mF 1 (cF 1 σ), by simp only [rp_none (t := 1) hk e2, obind, b2_some, bs_eq, if_neg m3_ne], ?_, h.found (by omega)⟩
      have e4 : (cF 1 σ).1 37 0 k = -1 := by unfold cF; rw [si_ne (by omega), si_ne (by omega), e1, e2]
      simp only [isText_in hk, obind, b2_some, bs_eq, if_neg one_ne, ald_37 hk, e4, if_neg m1_nle]
      rw [show (1 : Int32) = nI 1 from rfl, find_eq (by omega)]
      rfl
    · rcases ix_of z (by omega) a2 with h2 | ⟨j, hj, rfl⟩
      · refine ⟨-3, cF 2 σ, mF 2 (cF 2 σ), by simp only [rp_bey (t := 1) hk e2 (by omega) h2, obind, b2_some, bs_eq, if_neg m3_ne], ?_, h.found (by omega)⟩
        have e4 : (cF 2 σ).1 37 0 k = nI z := by unfold cF; rw [si_ne (by omega), si_ne (by omega), e1, e2]
        simp only [isText_in hk, obind, b2_some, bs_eq, if_neg one_ne, ald_37 hk, e4, if_pos (nI_ge0 (show z < 2 ^ 31 by omega)), in_place (show z < 2 ^ 31 by omega), if_pos h2, if_true]
        rw [show (2 : Int32) = nI 2 from rfl, find_eq (by omega)]
        rfl
      · obtain ⟨e5, -⟩ := e3 j hj
        refine ⟨σ.1 3 1 (60 * k + j) + 1000, si σ 3 1 (60 * k + j) a3.toInt8.toInt32, si (si σ 3 1 (60 * k + j) a3.toInt8.toInt32) 38 0 (60 * k + j) a3.toInt8.toInt32, ?_, ?_, ?_⟩
        · simp only [rp_in (t := 1) hk e2 (by omega) hj, obind, b2_some, bs_eq, if_true, get_in (t := 1) hk ht.1 e2 hz (by decide) hj, set_in (t := 1) hk ht.1 e2 hz (by decide) hj]
        · have e4 : (si σ 3 1 (60 * k + j) a3.toInt8.toInt32).1 37 0 k = nI z := by rw [si_ne (by omega), e1, e2]
          have hp : ¬ (nI j < 0 ∨ nI z ≤ nI j) := by
            simp (disch := omega) only [litN, nI_ltI, nI_leI, nI_eq, nI_add, pk_mul]
            omega
          simp only [isText_in hk, obind, b2_some, bs_eq, if_neg one_ne, ald_37 hk, e4, if_pos (nI_ge0 (show z < 2 ^ 31 by omega)), in_place (show z < 2 ^ 31 by omega), if_neg hp]
          rw [show (60 : Int32) = nI 60 from rfl, pk_mul, nI_add, ald_38 (by omega), ast_38 (by omega)]
          simp only [obind, b2_some, bs_eq]
          rw [si_ne (by omega), e5]
        · refine ⟨hr.cg ?_ ?_ ?_ ?_ ?_, ht.put (v := a3.toInt8.toInt32) (y := 60 * k + j) (r := k) ⟨j, by omega, rfl⟩ (byte_ok a3) ?_ ?_ ?_ (fun q => ?_) (fun q => ?_), hl.cg ?_ ?_ ?_ ?_ ?_ ?_ ?_, hT.cg ⟨fun g t a b c => ?_, ?_, ?_, ?_, ?_, ?_, ?_, ?_⟩⟩
          all_goals first
            | rfl
            | (simp [si_g]; done)
            | (iterate 8 (try rw [si_ne (by omega)]))
