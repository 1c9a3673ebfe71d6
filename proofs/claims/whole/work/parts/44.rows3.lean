-- copy, mean
def spn (z : Nat) (i m : Int32) : Prop := 0 ≤ i.toInt ∧ i.toInt + m.toInt ≤ z
theorem sub_toInt {z : Nat} {m : Int32} (hz : z < 2 ^ 30) (hm : 0 ≤ m.toInt) : (nI z - m).toInt = z - m.toInt := by
  obtain ⟨j, hj, rfl⟩ := nI_of (x := m) (by rw [i32_lt, z0_t]; omega)
  rw [Int32.toInt_sub, nI_toInt (by omega), nI_toInt hj]
  rw [Int.bmod_def]
  split <;> omega
theorem hasSpan_eq {t k z : Nat} {σ : St} {i m : Int32} (h : k < lenOf 2 t) (hs : σ.1 2 t k = nI z) (hz : z ≤ 60) (hm : 0 ≤ m.toInt) : F_Shelf_hasSpan t (nI k) i m σ = some (if 0 ≤ i.toInt ∧ i.toInt + m.toInt ≤ z then 1 else 0) := by
  unfold F_Shelf_hasSpan
  have e1 := sub_toInt (z := z) (m := m) (by omega) hm
  have hm0 : ¬ m < 0 := by rw [i32_lt, z0_t]; omega
  by_cases h0 : i < 0
  · rw [if_pos h0, if_neg]
    rw [i32_lt, z0_t] at h0; omega
  · rw [if_neg h0, if_neg hm0]
    simp only [sizeOf_in h, hs, obind, b2_some, bs_eq]
    rw [i32_lt, z0_t] at h0
    by_cases h1 : nI z - m < i
    · rw [if_pos h1, if_neg]
      rw [i32_lt, e1] at h1; omega
    · rw [if_neg h1, if_pos]
      rw [i32_lt, e1] at h1; omega
theorem isSpan_eq {k z : Nat} {σ : St} {i m : Int32} (h : k < 6) (hs : σ.1 35 0 k = nI z) (hz : z ≤ 60) (hm : 0 ≤ m.toInt) : F_Mod_isSpan (nI k) i m σ = some (if 0 ≤ i.toInt ∧ i.toInt + m.toInt ≤ z then 1 else 0) := by
  unfold F_Mod_isSpan
  have f1 := Int32.le_toInt i
  have f2 := Int32.le_toInt m
  have f3 := Int32.toInt_lt i
  have f4 := Int32.toInt_lt m
  have e1 : (i.toInt64 + m.toInt64).toInt = i.toInt + m.toInt := by
    rw [Int64.toInt_add, Int32.toInt_toInt64, Int32.toInt_toInt64, Int.bmod_def]
    split <;> omega
  by_cases h0 : i < 0
  · rw [if_pos h0, if_neg]
    rw [i32_lt, z0_t] at h0; omega
  · rw [if_neg h0]
    simp only [ald_35 h, hs, obind, b2_some, bs_eq]
    rw [i32_lt, z0_t] at h0
    have e2 : (0 < lg_cmp (i.toInt64 + m.toInt64) (nI z).toInt64) ↔ (z : Int) < i.toInt + m.toInt := by
      unfold lg_cmp
      by_cases q : i.toInt64 + m.toInt64 > (nI z).toInt64
      · rw [if_pos q]
        rw [gt_iff_lt, Int64.lt_iff_toInt_lt, e1, Int32.toInt_toInt64, nI_toInt (by omega)] at q
        exact ⟨fun _ => q, fun _ => by decide⟩
      · rw [if_neg q]
        rw [gt_iff_lt, Int64.lt_iff_toInt_lt, e1, Int32.toInt_toInt64, nI_toInt (by omega)] at q
        refine ⟨fun g => ?_, fun g => absurd g q⟩
        split at g
        · exact absurd g (by decide)
        · exact absurd g (by decide)
    by_cases h1 : 0 < lg_cmp (i.toInt64 + m.toInt64) (nI z).toInt64
    · rw [if_pos h1, if_neg]
      rw [e2] at h1; omega
    · rw [if_neg h1, if_pos]
      rw [e2] at h1; omega
theorem cpy_loop {n r i to j m : Nat} {σ : St} (hr : r < 6) (ht : to < 6) (hi : i + m ≤ 40) (hj : j + m ≤ 40) (hn : 40 < n) : F_Mod_copy_96 n n (nI r) (nI i) (nI to) (nI j) (nI m) (if nI j ≤ nI i then 0 else 1) (nI 0) σ = some (1, sa σ 36 0 (va_cpy (σ.1 36 0) (σ.1 36 0) (40 * r + i) (40 * to + j) m)) := by
  obtain ⟨f, hf⟩ : ∃ f, f = σ.1 36 0 := ⟨_, rfl⟩
  rw [← hf]
  by_cases hb : j ≤ i
  · rw [if_pos (by simp (disch := omega) only [nI_leI]; exact hb)]
    have key := loop_gen (fun k l s => F_Mod_copy_96 n k (nI r) (nI i) (nI to) (nI j) (nI m) 0 (nI l) s) m (fun l => sa σ 36 0 (va_cpy f f (40 * r + i) (40 * to + j) l)) (some (1, sa σ 36 0 (va_cpy f f (40 * r + i) (40 * to + j) m))) (fun k => by
      rw [F_Mod_copy_96]
      simp (disch := omega) only [nI_leI, Nat.le_refl, if_true]) (fun k l hl => by
      rw [F_Mod_copy_96, F_Mod_copy_120]
      simp (disch := omega) only [nI_leI]
      rw [if_neg (by omega)]
      simp only [if_true, show (40 : Int32) = nI 40 from rfl, pk_mul, nI_add]
      rw [ald_36 (by omega)]
      simp only [obind, b2_some, bs_eq]
      rw [ast_36 (by omega)]
      simp only [obind, b2_some, bs_eq, show (1 : Int32) = nI 1 from rfl, nI_add]
      congr 1
      rw [si_sa, sa_sa, sa_at]
      congr 1
      funext q
      unfold va_cpy upd
      by_cases g1 : q = 40 * to + j + l
      · subst g1
        simp only [if_true]
        rw [if_neg (by omega), if_pos (by omega)]
        congr 1; omega
      · simp only [if_neg g1]
        by_cases g2 : 40 * to + j ≤ q ∧ q < 40 * to + j + l
        · rw [if_pos g2, if_pos (by omega)]
        · rw [if_neg g2, if_neg (by omega)]) n 0 (by omega) (by omega)
    have z0 : va_cpy f f (40 * r + i) (40 * to + j) 0 = f := by
      funext q
      unfold va_cpy
      rw [if_neg (by omega)]
    rw [z0, hf, sa_id, ← hf] at key
    exact key
  · rw [if_neg (by simp (disch := omega) only [nI_leI]; exact hb)]
    have key := loop_gen (fun k l s => F_Mod_copy_96 n k (nI r) (nI i) (nI to) (nI j) (nI m) 1 (nI l) s) m (fun l => sa σ 36 0 (fun q => if 40 * to + j + (m - l) ≤ q ∧ q < 40 * to + j + m then f (40 * r + i + (q - (40 * to + j))) else f q)) (some (1, sa σ 36 0 (va_cpy f f (40 * r + i) (40 * to + j) m))) (fun k => by
      rw [F_Mod_copy_96]
      simp (disch := omega) only [nI_leI, Nat.le_refl, if_true]
      congr 3
      funext q
      unfold va_cpy
      rw [show 40 * to + j + (m - m) = 40 * to + j by omega]) (fun k l hl => by
      rw [F_Mod_copy_96, F_Mod_copy_120]
      simp (disch := omega) only [nI_leI]
      rw [if_neg (by omega), if_neg one_ne, show (40 : Int32) = nI 40 from rfl, show (1 : Int32) = nI 1 from rfl]
      rw [pk_sub (by omega), pk_sub (by omega)]
      simp only [pk_mul, nI_add]
      rw [ald_36 (by omega)]
      simp only [obind, b2_some, bs_eq]
      rw [ast_36 (by omega)]
      simp only [obind, b2_some, bs_eq]
      congr 1
      rw [si_sa, sa_sa, sa_at]
      congr 1
      funext q
      unfold upd
      by_cases g1 : q = 40 * to + j + (m - 1 - l)
      · subst g1
        simp only [if_true]
        rw [if_neg (by omega), if_pos (by omega)]
        congr 1; omega
      · simp only [if_neg g1]
        by_cases g2 : 40 * to + j + (m - l) ≤ q ∧ q < 40 * to + j + m
        · rw [if_pos g2, if_pos (by omega)]
        · rw [if_neg g2, if_neg (by omega)]) n 0 (by omega) (by omega)
    have z0 : (fun q => if 40 * to + j + (m - 0) ≤ q ∧ q < 40 * to + j + m then f (40 * r + i + (q - (40 * to + j))) else f q) = f := by
      funext q
      rw [if_neg (by omega)]
    rw [z0, hf, sa_id, ← hf] at key
    exact key
theorem acp_in {σ : St} {g t g' t' s d m : Nat} (h1 : s + m ≤ lenOf g t) (h2 : d + m ≤ lenOf g' t') (h3 : lenOf g t < 2 ^ 31) (h4 : lenOf g' t' < 2 ^ 31) : acp σ g t (nI s) g' t' (nI d) (nI m) = some (sa σ g' t' (va_cpy (σ.1 g t) (σ.1 g' t') s d m)) := by
  unfold acp
  have hb : acpOk (lenOf g t) (lenOf g' t') (nI s) (nI d) (nI m) = true := by
    unfold acpOk
    rw [nI_clamp (by omega), nI_clamp (by omega), nI_clamp (by omega)]
    simp only [Bool.and_eq_true, Bool.not_eq_true', decide_eq_false_iff_not, decide_eq_true_eq]
    exact ⟨nI_nneg (by omega), nI_nneg (by omega), nI_nneg (by omega), h1, h2⟩
  rw [if_pos hb, nI_clamp (by omega), nI_clamp (by omega), nI_clamp (by omega)]
theorem Shl.cpy {σ σ' : St} {r i to j m zr : Nat} (h : Rows σ) (hr : r < 6) (hz : σ.1 2 0 r = nI zr) (hzl : zr ≤ 40) (hi : i + m ≤ zr) (h1 : σ'.1 1 0 = σ.1 1 0) (h2 : σ'.1 2 0 = σ.1 2 0) (h3 : σ'.1 35 0 = σ.1 35 0) (h4 : σ'.1 3 0 = va_cpy (σ.1 3 0) (σ.1 3 0) (40 * r + i) (40 * to + j) m) (h5 : σ'.1 36 0 = va_cpy (σ.1 36 0) (σ.1 36 0) (40 * r + i) (40 * to + j) m) : Rows σ' := by
  obtain ⟨a1, a2⟩ := h
  refine ⟨by rw [h1]; exact a1, fun q hq => ?_⟩
  obtain ⟨b1, b2⟩ := a2 q hq
  rw [h2, h3]
  refine ⟨b1, ?_⟩
  rcases b2 with b2 | ⟨z, c1, c2, c3⟩
  · exact Or.inl b2
  · refine Or.inr ⟨z, c1, c2, fun y hy => ⟨?_, trivial⟩⟩
    rw [h4, h5]
    unfold va_cpy
    by_cases g : 40 * to + j ≤ 40 * q + y ∧ 40 * q + y < 40 * to + j + m
    · rw [if_pos g, if_pos g]
      rcases (a2 r hr).2 with b3 | ⟨z3, d1, d2, d3⟩
      · rw [hz] at b3; exact absurd b3 (nI_m1 _ (by omega))
      · rw [hz] at d2
        have : zr = z3 := (nI_eq (by omega) (by omega)).mp d2
        subst this
        have := (d3 (i + (40 * q + y - (40 * to + j))) (by omega)).1
        rw [← Nat.add_assoc] at this
        exact this
    · rw [if_neg g, if_neg g]
      exact (c3 y hy).1
theorem op_copy {n : Nat} {σ : St} (a1 a2 a3 a4 a5 : Int32) (hn : 2000 ≤ n) (h : RR σ) : ∃ r σ1 σ2, F_Tent_copy a1 a2 a3 a4 a5 σ = some (r, σ1) ∧ F_Mod_copy n a1 a2 a3 a4 a5 σ1 = some (r, σ2) ∧ RR σ2 := by
  obtain ⟨hr, ht, hl, hT⟩ := id h
  have f1 : ∀ s : St, F_Tent_found 1 s = some (-3, cF 1 s) := fun s => found_eq (k := 1) (by omega)
  have f2 : ∀ s : St, F_Tent_found 2 s = some (-3, cF 2 s) := fun s => found_eq (k := 2) (by omega)
  have f5 : ∀ s : St, F_Tent_found 5 s = some (-3, cF 5 s) := fun s => found_eq (k := 5) (by omega)
  have g1 : ∀ s : St, F_Mod_find 1 s = some (-3, mF 1 s) := fun s => find_eq (k := 1) (by omega)
  have g2 : ∀ s : St, F_Mod_find 2 s = some (-3, mF 2 s) := fun s => find_eq (k := 2) (by omega)
  have g5 : ∀ s : St, F_Mod_find 5 s = some (-3, mF 5 s) := fun s => find_eq (k := 5) (by omega)
  have ecf : ∀ k j, (cF k σ).1 35 0 j = σ.1 35 0 j := fun k j => by unfold cF; rw [si_ne (by omega), si_ne (by omega)]
  unfold F_Tent_copy F_Mod_copy F_Tent_copy_57 F_Tent_copy_92 F_Mod_copy_45 F_Mod_copy_74
  rcases ix_of 6 (by decide) a1 with h1 | ⟨k, hk, rfl⟩
  · exact ⟨-1, σ, σ, by simp only [isNum_out (t := 0) h1, obind, b2_some, bs_eq, if_true], by simp only [isRow_out h1, obind, b2_some, bs_eq, if_true], h⟩
  · rcases ix_of 6 (by decide) a3 with h3 | ⟨q, hq, rfl⟩
    · exact ⟨-1, σ, σ, by simp only [isNum_in (t := 0) hk, isNum_out (t := 0) h3, obind, b2_some, bs_eq, if_true, if_neg one_ne], by simp only [isRow_in hk, isRow_out h3, obind, b2_some, bs_eq, if_true, if_neg one_ne], h⟩
    · simp only [isNum_in (t := 0) hk, isNum_in (t := 0) hq, isRow_in hk, isRow_in hq, obind, b2_some, bs_eq, if_neg one_ne, isThere_in (t := 0) hk, isThere_in (t := 0) hq]
      by_cases h5 : 0 ≤ a5
      · have h5' : 0 ≤ a5.toInt := by rw [i32_le, z0_t] at h5; exact h5
        obtain ⟨e1, e2⟩ := hr.2 k hk
        obtain ⟨e1', e2'⟩ := hr.2 q hq
        simp only [if_pos h5]
        rcases e2 with e2 | ⟨z, hz, e2, e3⟩
        · exact ⟨-3, cF 1 σ, mF 1 (cF 1 σ), by simp only [e2, if_pos m1_neg, if_true, f1, obind, b2_some, bs_eq], by simp only [ald_35 hk, ecf, e1, e2, obind, b2_some, bs_eq, if_pos m1_neg, g1], h.found (by omega)⟩
        · rcases e2' with e2' | ⟨z', hz', e2', e3'⟩
          · exact ⟨-3, cF 1 σ, mF 1 (cF 1 σ), by simp only [e2, e2', if_neg (nI_nneg (show z < 2 ^ 31 by omega)), if_neg one_ne, if_pos m1_neg, if_true, f1, obind, b2_some, bs_eq], by simp only [ald_35 hk, ald_35 hq, ecf, e1, e2, e1', e2', obind, b2_some, bs_eq, if_neg (nI_nneg (show z < 2 ^ 31 by omega)), if_neg m1_nle, g1], h.found (by omega)⟩
          · simp only [e2, e2', if_neg (nI_nneg (show z < 2 ^ 31 by omega)), if_neg (nI_nneg (show z' < 2 ^ 31 by omega)), if_neg one_ne]
            rw [hasSpan_eq (t := 0) hk e2 (by omega) h5', hasSpan_eq (t := 0) hq e2' (by omega) h5']
            by_cases c1 : 0 ≤ a2.toInt ∧ a2.toInt + a5.toInt ≤ z
            · by_cases c2 : 0 ≤ a4.toInt ∧ a4.toInt + a5.toInt ≤ z'
              · obtain ⟨i, hi, rfl⟩ := nI_of (x := a2) (by rw [i32_lt, z0_t]; omega)
                obtain ⟨j, hj, rfl⟩ := nI_of (x := a4) (by rw [i32_lt, z0_t]; omega)
                obtain ⟨m, hm, rfl⟩ := nI_of (x := a5) (by rw [i32_lt, z0_t]; omega)
                have c1' : i + m ≤ z := by rw [nI_toInt hi, nI_toInt hm] at c1; omega
                have c2' : j + m ≤ z' := by rw [nI_toInt hj, nI_toInt hm] at c2; omega
                refine ⟨1, sa σ 3 0 (va_cpy (σ.1 3 0) (σ.1 3 0) (40 * k + i) (40 * q + j) m), sa (sa σ 3 0 (va_cpy (σ.1 3 0) (σ.1 3 0) (40 * k + i) (40 * q + j) m)) 36 0 (va_cpy (σ.1 36 0) (σ.1 36 0) (40 * k + i) (40 * q + j) m), ?_, ?_, ?_⟩
                · simp only [if_pos c1, if_pos c2, obind, b2_some, bs_eq, if_neg one_ne, F_Shelf_move]
                  rw [hasSpan_eq (t := 0) hk e2 (by omega) h5', hasSpan_eq (t := 0) hq e2' (by omega) h5']
                  simp only [if_pos c1, if_pos c2, obind, b2_some, bs_eq, if_neg one_ne, hr.1, pk_mul, nI_add]
                  rw [Nat.mul_comm k, Nat.mul_comm q, acp_in (by rw [len3]; omega) (by rw [len3]; omega) (by decide) (by decide)]
                  rfl
                · have e4 : ∀ y, (sa σ 3 0 (va_cpy (σ.1 3 0) (σ.1 3 0) (40 * k + i) (40 * q + j) m)).1 35 0 y = σ.1 35 0 y := fun y => by rw [sa_ne (by omega)]
                  simp only [ald_35 hk, ald_35 hq, e4, e1, e2, e1', e2', obind, b2_some, bs_eq, if_neg (nI_nneg (show z < 2 ^ 31 by omega)), if_pos (nI_ge0 (show z' < 2 ^ 31 by omega))]
                  rw [isSpan_eq hk (by rw [e4, e1, e2]) (by omega) h5', isSpan_eq hq (by rw [e4, e1', e2']) (by omega) h5']
                  simp only [if_pos c1, if_pos c2, obind, b2_some, bs_eq, if_neg one_ne, F_Mod_copy_91]
                  rw [show (0 : Int32) = nI 0 from rfl] at *
                  have := cpy_loop (n := n) (r := k) (i := i) (to := q) (j := j) (m := m) (σ := sa σ 3 0 (va_cpy (σ.1 3 0) (σ.1 3 0) (40 * k + i) (40 * q + j) m)) hk hq (by omega) (by omega) (by omega)
                  rw [sa_ne (by omega)] at this
                  exact this
                · refine ⟨Shl.cpy (r := k) (i := i) (to := q) (j := j) (m := m) hr hk e2 hz c1' ?_ ?_ ?_ ?_ ?_, ht.cg ?_ ?_ ?_ ?_ ?_, hl.cg ?_ ?_ ?_ ?_ ?_ ?_ ?_, hT.cg ⟨fun g t a b c => ?_, ?_, ?_, ?_, ?_, ?_, ?_, ?_⟩⟩
                  all_goals first
                    | rfl
                    | (simp [sa_g]; done)
                    | (iterate 8 (try rw [sa_ne (by omega)]))
                    | (rw [sa_ne (by omega), sa_at])
                    | (rw [sa_at])
              · exact ⟨-3, cF 2 σ, mF 2 (cF 2 σ), by simp only [if_pos c1, if_neg c2, obind, b2_some, bs_eq, if_neg one_ne, if_true, f2], by
                  simp only [ald_35 hk, ald_35 hq, ecf, e1, e2, e1', e2', obind, b2_some, bs_eq, if_neg (nI_nneg (show z < 2 ^ 31 by omega)), if_pos (nI_ge0 (show z' < 2 ^ 31 by omega))]
                  rw [isSpan_eq hk (by rw [ecf, e1, e2]) (by omega) h5', isSpan_eq hq (by rw [ecf, e1', e2']) (by omega) h5']
                  simp only [if_pos c1, if_neg c2, obind, b2_some, bs_eq, if_neg one_ne, if_true, g2], h.found (by omega)⟩
            · exact ⟨-3, cF 2 σ, mF 2 (cF 2 σ), by simp only [if_neg c1, obind, b2_some, bs_eq, if_true, f2], by
                simp only [ald_35 hk, ald_35 hq, ecf, e1, e2, e1', e2', obind, b2_some, bs_eq, if_neg (nI_nneg (show z < 2 ^ 31 by omega)), if_pos (nI_ge0 (show z' < 2 ^ 31 by omega))]
                rw [isSpan_eq hk (by rw [ecf, e1, e2]) (by omega) h5']
                simp only [if_neg c1, obind, b2_some, bs_eq, if_true, g2], h.found (by omega)⟩
      · exact ⟨-3, cF 5 σ, mF 5 (cF 5 σ), by simp only [if_neg h5, f5, obind, b2_some, bs_eq], by simp only [if_neg h5, g5, obind, b2_some, bs_eq], h.found (by omega)⟩
def sm64 (f : Nat → Int32) : Nat → Int64
  | 0 => 0
  | i + 1 => sm64 f i + (f i).toInt64
theorem sm64_cong {f g : Nat → Int32} : ∀ {z : Nat}, (∀ j, j < z → f j = g j) → sm64 f z = sm64 g z
  | 0, _ => rfl
  | z + 1, h => by rw [sm64, sm64, sm64_cong (fun j hj => h j (by omega)), h z (by omega)]
theorem sum_eq {n k z : Nat} {σ : St} (hk : k < 6) (hl : σ.1 1 0 0 = nI 40) (hs : σ.1 2 0 k = nI z) (hz : z ≤ 40) (hn : 40 < n) : F_Shelf_sum n 0 (nI k) σ = some (sm64 (fun j => σ.1 3 0 (40 * k + j)) z) := by
  unfold F_Shelf_sum
  refine loop_gen (fun q i s => F_Shelf_sum_5 n 0 q (nI k) s (nI i) σ) z (fun i => sm64 (fun j => σ.1 3 0 (40 * k + j)) i) _ (fun q => ?_) (fun q i hi => ?_) n 0 (by omega) (by omega)
  · rw [F_Shelf_sum_5]
    simp only [sizeOf_in (t := 0) hk, hs, obind, b2_some, bs_eq]
    simp (disch := omega) only [nI_leI, Nat.le_refl, if_true]
  · rw [F_Shelf_sum_5]
    simp only [sizeOf_in (t := 0) hk, hs, obind, b2_some, bs_eq]
    simp (disch := omega) only [nI_leI]
    rw [if_neg (by omega), get_in (t := 0) hk hl hs hz (by decide) hi]
    simp only [obind, b2_some, bs_eq, show (1 : Int32) = nI 1 from rfl, nI_add]
    rfl
theorem mmean_eq {n k z : Nat} {σ : St} (hk : k < 6) (hs : σ.1 35 0 k = nI z) (hz : z ≤ 40) (hn : 40 < n) (res : Option (Int32 × St)) (hres : (dvL (sm64 (fun j => σ.1 36 0 (40 * k + j)) z) (nI z).toInt64).bind (fun v => some ((1 : Int32), si σ 30 0 9 v.toInt32)) = res) : F_Mod_mean_44 n n (nI k) 0 0 σ = res := by
  refine loop_gen (fun q i s => F_Mod_mean_44 n q (nI k) s (nI i) σ) z (fun i => sm64 (fun j => σ.1 36 0 (40 * k + j)) i) _ (fun q => ?_) (fun q i hi => ?_) n 0 (by omega) (by omega)
  · rw [F_Mod_mean_44]
    simp only [ald_35 hk, hs, obind, b2_some, bs_eq]
    simp (disch := omega) only [nI_leI, Nat.le_refl, if_true, tell_eq, obind, b2_some, bs_eq]
    exact hres
  · rw [F_Mod_mean_44]
    simp only [ald_35 hk, hs, obind, b2_some, bs_eq]
    simp (disch := omega) only [nI_leI]
    rw [if_neg (by omega), show (40 : Int32) = nI 40 from rfl, pk_mul, nI_add, ald_36 (by omega)]
    simp only [obind, b2_some, bs_eq, show (1 : Int32) = nI 1 from rfl, nI_add]
    rfl
theorem op_mean {n : Nat} {σ : St} (a1 : Int32) (hn : 2000 ≤ n) (h : RR σ) : ∃ r σ1 σ2, F_Tent_mean n a1 σ = some (r, σ1) ∧ F_Mod_mean n a1 σ1 = some (r, σ2) ∧ RR σ2 := by
  obtain ⟨hr, ht, hl, hT⟩ := id h
  have f4 : ∀ s : St, F_Tent_found 4 s = some (-3, cF 4 s) := fun s => found_eq (k := 4) (by omega)
  have g1 : ∀ s : St, F_Mod_find 1 s = some (-3, mF 1 s) := fun s => find_eq (k := 1) (by omega)
  have g4 : ∀ s : St, F_Mod_find 4 s = some (-3, mF 4 s) := fun s => find_eq (k := 4) (by omega)
  have ecf : ∀ k j, (cF k σ).1 35 0 j = σ.1 35 0 j := fun k j => by unfold cF; rw [si_ne (by omega), si_ne (by omega)]
  unfold F_Tent_mean F_Mod_mean
  rcases ix_of 6 (by decide) a1 with h1 | ⟨k, hk, rfl⟩
  · exact ⟨-1, σ, σ, by simp only [rm_out (t := 0) h1, obind, b2_some, bs_eq, if_neg m1_ne], by simp only [isRow_out h1, obind, b2_some, bs_eq, if_true], h⟩
  · obtain ⟨e1, e2⟩ := hr.2 k hk
    rcases e2 with e2 | ⟨z, hz, e2, e3⟩
    · exact ⟨-3, cF 1 σ, mF 1 (cF 1 σ), by simp only [rm_none (t := 0) hk e2, obind, b2_some, bs_eq, if_neg m3_ne], by simp only [isRow_in hk, ald_35 hk, ecf, e1, e2, obind, b2_some, bs_eq, if_neg one_ne, if_neg m1_nle, g1], h.found (by omega)⟩
    · simp only [rm_in (t := 0) hk e2 (show z < 2 ^ 31 by omega), obind, b2_some, bs_eq, if_true, sizeOf_in (t := 0) hk, e2]
      by_cases h0 : z = 0
      · subst h0
        exact ⟨-3, cF 4 σ, mF 4 (cF 4 σ), by rw [if_neg (show ¬ (0 : Int32) < nI 0 by decide)]; simp only [f4, obind, b2_some, bs_eq], by
          simp only [isRow_in hk, ald_35 hk, ecf, e1, e2, obind, b2_some, bs_eq, if_neg one_ne]
          rw [if_pos (show (0 : Int32) ≤ nI 0 by decide), if_pos (show nI 0 = 0 from rfl)]
          simp only [g4, obind, b2_some, bs_eq], h.found (by omega)⟩
      · have hp : (0 : Int32) < nI z := by rw [i32_lt, z0_t, nI_toInt (by omega)]; omega
        have hd : ¬ (nI z).toInt64 = 0 := by
          intro e
          have := congrArg Int64.toInt e
          rw [Int32.toInt_toInt64, nI_toInt (by omega), show (0 : Int64).toInt = 0 from by decide] at this
          omega
        have hne : ¬ nI z = 0 := fun e => by
          have := congrArg Int32.toInt e
          rw [nI_toInt (by omega), z0_t] at this
          omega
        obtain ⟨v, hv⟩ : ∃ v, v = (sm64 (fun j => σ.1 3 0 (40 * k + j)) z / (nI z).toInt64).toInt32 := ⟨_, rfl⟩
        refine ⟨1, si σ 0 0 10 v, si (si σ 0 0 10 v) 30 0 9 v, ?_, ?_, h.tell v⟩
        · rw [if_pos hp, sum_eq hk hr.1 e2 hz (by omega)]
          simp only [obind, b2_some, bs_eq, dvL, if_neg hd, ← hv]
        · have e4 : ∀ y, (si σ 0 0 10 v).1 35 0 y = σ.1 35 0 y := fun y => by rw [si_ne (by omega)]
          simp only [isRow_in hk, ald_35 hk, e4, e1, e2, obind, b2_some, bs_eq, if_neg one_ne, if_pos (nI_ge0 (show z < 2 ^ 31 by omega)), if_neg hne]
          refine mmean_eq hk (by rw [e4, e1, e2]) hz (by omega) _ ?_
          have e6 : sm64 (fun j => (si σ 0 0 10 v).1 36 0 (40 * k + j)) z = sm64 (fun j => σ.1 3 0 (40 * k + j)) z := sm64_cong (fun j hj => by
            rw [si_ne (by omega)]
            exact (e3 j hj).1)
          rw [e6]
          simp only [dvL, if_neg hd, obind, b2_some, bs_eq, ← hv]
