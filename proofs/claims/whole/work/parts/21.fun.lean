noncomputable def F_Camp_isOf_15 (l0 : Int32) (l1 : Int32) : Option Int32 :=
  if l1 = 2 then
    if l0 = 5 then
      some 1
    else
    some 0
  else
  some 0
noncomputable def F_Camp_isOf (a1 : Int32) (a2 : Int32) : Option Int32 :=
  if a1 = a2 then
    some 1
  else
  if a2 = 1 then
    if a1 = 4 then
      some 1
    else
    F_Camp_isOf_15 a1 a2
  else
  F_Camp_isOf_15 a1 a2
theorem h_Camp_isOf_15 (w : Int32) (σ : St) (l0 : Int32) (l1 : Int32) (hF : F_Camp_isOf_15 l0 l1 = some w) : J md_Camp_isOf 0 15 [some (mI l0), some (mI l1)] [] σ (some (mI w)) σ := by
  rw [F_Camp_isOf_15] at hF
  refine J.icmp_ne tk_Camp_isOf 2 rfl rfl hF (fun hF => ?_) (fun hF => ?_)
  · exact J.wI hF (J.retz tk_Camp_isOf 1 rfl rfl rfl rfl)
  · refine J.icmp_ne tk_Camp_isOf 2 rfl rfl hF (fun hF => ?_) (fun hF => ?_)
    · exact J.wI hF (J.retz tk_Camp_isOf 1 rfl rfl rfl rfl)
    · exact J.wI hF (J.retz tk_Camp_isOf 2 rfl rfl rfl rfl)
theorem c_Camp_isOf (a1 : Int32) (a2 : Int32) (σ : St) (w : Int32) (hF : F_Camp_isOf a1 a2 = some w) : Call md_Camp_isOf 0 [mI a1, mI a2] σ (some (mI w)) σ := by
  rw [F_Camp_isOf] at hF
  refine Call.of ok_Camp_isOf.1 (Nat.le_of_ble_eq_true rfl) (L := [some (mI a1), some (mI a2)]) rfl ?_
  refine J.icmp_eq tk_Camp_isOf 2 rfl rfl hF (fun hF => ?_) (fun hF => ?_)
  · exact J.wI hF (J.retz tk_Camp_isOf 2 rfl rfl rfl rfl)
  · refine J.icmp_ne tk_Camp_isOf 2 rfl rfl hF (fun hF => ?_) (fun hF => ?_)
    · exact h_Camp_isOf_15 w σ _ _ hF
    · refine J.icmp_eq tk_Camp_isOf 2 rfl rfl hF (fun hF => ?_) (fun hF => ?_)
      · exact J.wI hF (J.retz tk_Camp_isOf 2 rfl rfl rfl rfl)
      · exact h_Camp_isOf_15 w σ _ _ hF
noncomputable def F_Camp_isWithin (t : Nat) (a1 : Int32) (a2 : Int32) (a3 : Int32) (σ : St) : Option Int32 :=
  (ald σ 9 t a1).bind fun v1 =>
  (ald σ 9 t a2).bind fun v2 =>
  if (v1 - v2) = 0 then
    some 0
  else
  if a3 < (v1 - v2) then
    some 0
  else
  if a3 < (-(v1 - v2)) then
    some 0
  else
  some 1
theorem c_Camp_isWithin (t : Nat) (a1 : Int32) (a2 : Int32) (a3 : Int32) (σ : St) (w : Int32) (hF : F_Camp_isWithin t a1 a2 a3 σ = some w) : Call md_Camp_isWithin 0 [mR 4 t, mI a1, mI a2, mI a3] σ (some (mI w)) σ := by
  rw [F_Camp_isWithin] at hF
  refine Call.of ok_Camp_isWithin.1 (Nat.le_of_ble_eq_true rfl) (L := [some (mR 4 t), some (mI a1), some (mI a2), some (mI a3), none]) rfl ?_
  refine J.iald tk_Camp_isWithin 3 rfl rfl hF (fun v1 hF => ?_)
  refine J.iald tk_Camp_isWithin 3 rfl rfl hF (fun v2 hF => ?_)
  refine J.if_eq tk_Camp_isWithin 3 rfl rfl hF (fun hF => ?_) (fun hF => ?_)
  · exact J.wI hF (J.retz tk_Camp_isWithin 1 rfl rfl rfl rfl)
  · refine J.icmp_gt tk_Camp_isWithin 2 rfl rfl hF (fun hF => ?_) (fun hF => ?_)
    · exact J.wI hF (J.retz tk_Camp_isWithin 1 rfl rfl rfl rfl)
    · refine J.icmp_gt tk_Camp_isWithin 3 rfl rfl hF (fun hF => ?_) (fun hF => ?_)
      · exact J.wI hF (J.retz tk_Camp_isWithin 1 rfl rfl rfl rfl)
      · exact J.wI hF (J.retz tk_Camp_isWithin 2 rfl rfl rfl rfl)
noncomputable def F_Camp_hearsWithin (t : Nat) (a1 : Int32) (a2 : Int32) (a3 : Int32) (σ : St) : Option Int32 :=
  (ald σ 6 t a1).bind fun v1 =>
  (F_Camp_isOf v1 2).bind fun v2 =>
  if v2 = 0 then
    (F_Camp_isWithin t a1 a2 a3 σ).bind fun v3 =>
    if v3 = 0 then
      some 0
    else
    some 1
  else
  some 0
theorem c_Camp_hearsWithin (t : Nat) (a1 : Int32) (a2 : Int32) (a3 : Int32) (σ : St) (w : Int32) (hF : F_Camp_hearsWithin t a1 a2 a3 σ = some w) : Call md_Camp_hearsWithin 1 [mR 4 t, mI a1, mI a2, mI a3] σ (some (mI w)) σ := by
  rw [F_Camp_hearsWithin] at hF
  refine Call.of ok_Camp_hearsWithin.1 (Nat.le_of_ble_eq_true rfl) (L := [some (mR 4 t), some (mI a1), some (mI a2), some (mI a3)]) rfl ?_
  refine J.iald tk_Camp_hearsWithin 3 rfl rfl hF (fun v1 hF => ?_)
  refine J.cpI tk_Camp_hearsWithin (as := [mI v1, mI 2]) (rest := []) 1 rfl rfl rfl (ckS (md' := md_Camp_isOf) lk_0_97 ok_Camp_isOf rfl) rfl (by decide) (fun v1 h => c_Camp_isOf _ _ _ _ h) hF (fun v2 hF => ?_)
  refine J.if_ne tk_Camp_hearsWithin 0 rfl rfl hF (fun hF => ?_) (fun hF => ?_)
  · exact J.wI hF (J.retz tk_Camp_hearsWithin 1 rfl rfl rfl rfl)
  · refine J.cpI tk_Camp_hearsWithin (as := [mR 4 t, mI a1, mI a2, mI a3]) (rest := []) 4 rfl rfl rfl (ckV (md' := md_Camp_isWithin) lk_0_101 ok_Camp_isWithin rfl rfl rfl) rfl (by decide) (fun v1 h => c_Camp_isWithin _ _ _ _ _ _ h) hF (fun v3 hF => ?_)
    refine J.if_eq tk_Camp_hearsWithin 0 rfl rfl hF (fun hF => ?_) (fun hF => ?_)
    · exact J.wI hF (J.retz tk_Camp_hearsWithin 1 rfl rfl rfl rfl)
    · exact J.wI hF (J.retz tk_Camp_hearsWithin 2 rfl rfl rfl rfl)
noncomputable def F_Camp_reach (a1 : Int32) : Option Int32 :=
  if a1 = 4 then
    some 2
  else
  if a1 = 1 then
    some 1
  else
  some 0
theorem c_Camp_reach (a1 : Int32) (σ : St) (w : Int32) (hF : F_Camp_reach a1 = some w) : Call md_Camp_reach 0 [mI a1] σ (some (mI w)) σ := by
  rw [F_Camp_reach] at hF
  refine Call.of ok_Camp_reach.1 (Nat.le_of_ble_eq_true rfl) (L := [some (mI a1)]) rfl ?_
  refine J.icmp_ne tk_Camp_reach 2 rfl rfl hF (fun hF => ?_) (fun hF => ?_)
  · refine J.icmp_ne tk_Camp_reach 2 rfl rfl hF (fun hF => ?_) (fun hF => ?_)
    · exact J.wI hF (J.reti tk_Camp_reach 1 rfl rfl rfl)
    · exact J.wI hF (J.reti tk_Camp_reach 2 rfl rfl rfl)
  · exact J.wI hF (J.reti tk_Camp_reach 2 rfl rfl rfl)
noncomputable def F_Camp_hearersOf_36 (n : Nat) (t : Nat) (K4 : Int32 → Int32 → Int32 → St → Option Int32) (l1 : Int32) (l3 : Int32) (s0 : Int32) (s1 : Int32) (σ : St) : Option Int32 :=
  K4 l1 (s0 + s1) (l3 + 1) σ
noncomputable def F_Camp_hearersOf_4 (n : Nat) (t : Nat) : Nat → Int32 → Int32 → Int32 → St → Option Int32
  | 0, _, _, _, _ => none
  | k + 1, l1, l2, l3, σ =>
    if σ.1 4 t 10 ≤ l3 then
      some l2
    else
    (ald σ 6 t l1).bind fun v1 =>
    (F_Camp_reach v1).bind fun v2 =>
    (F_Camp_hearsWithin t l3 l1 v2 σ).bind fun v3 =>
    F_Camp_hearersOf_36 n t (F_Camp_hearersOf_4 n t k) l1 l3 l2 (if v3 = 0 then 0 else 1) σ
noncomputable def F_Camp_hearersOf (n : Nat) (t : Nat) (a1 : Int32) (σ : St) : Option Int32 :=
  F_Camp_hearersOf_4 n t n a1 0 0 σ
theorem h_Camp_hearersOf_36 (n : Nat) (t : Nat) (w : Int32) (K4 : Int32 → Int32 → Int32 → St → Option Int32) (hK4 : ∀ (l1 : Int32) (l2 : Int32) (l3 : Int32) (σ : St), K4 l1 l2 l3 σ = some w → J md_Camp_hearersOf 2 4 [some (mR 4 t), some (mI l1), some (mI l2), some (mI l3)] [] σ (some (mI w)) σ) (l1 : Int32) (l3 : Int32) (s0 : Int32) (s1 : Int32) (σ : St) (hF : F_Camp_hearersOf_36 n t K4 l1 l3 s0 s1 σ = some w) : J md_Camp_hearersOf 2 36 [some (mR 4 t), some (mI l1), none, some (mI l3)] [mI s1, mI s0] σ (some (mI w)) σ := by
  rw [F_Camp_hearersOf_36] at hF
  exact J.run tk_Camp_hearersOf 4 rfl (hK4 _ _ _ _ hF)
theorem h_Camp_hearersOf_4 (n : Nat) (t : Nat) (w : Int32) : ∀ (k : Nat) (l1 : Int32) (l2 : Int32) (l3 : Int32) (σ : St), F_Camp_hearersOf_4 n t k l1 l2 l3 σ = some w → J md_Camp_hearersOf 2 4 [some (mR 4 t), some (mI l1), some (mI l2), some (mI l3)] [] σ (some (mI w)) σ := by
  intro k
  induction k with
  | zero => intro l1 l2 l3 σ hF; exact no_s hF
  | succ k ih =>
    intro l1 l2 l3 σ hF
    rw [F_Camp_hearersOf_4] at hF
    refine J.icmp_ge tk_Camp_hearersOf 3 rfl rfl hF (fun hF => ?_) (fun hF => ?_)
    · exact J.wI hF (J.reti tk_Camp_hearersOf 1 rfl rfl rfl)
    · refine J.iald tk_Camp_hearersOf 7 rfl rfl hF (fun v1 hF => ?_)
      refine J.cpI tk_Camp_hearersOf (as := [mI v1]) (rest := [mI l1, mI l3, mR 4 t, mI l2]) 0 rfl rfl rfl (ckS (md' := md_Camp_reach) lk_0_105 ok_Camp_reach rfl) rfl (by decide) (fun v1 h => c_Camp_reach _ _ _ h) hF (fun v2 hF => ?_)
      refine J.cpI tk_Camp_hearersOf (as := [mR 4 t, mI l3, mI l1, mI v2]) (rest := [mI l2]) 0 rfl rfl rfl (ckV (md' := md_Camp_hearsWithin) lk_0_108 ok_Camp_hearsWithin rfl rfl rfl) rfl (by decide) (fun v1 h => c_Camp_hearsWithin _ _ _ _ _ _ h) hF (fun v3 hF => ?_)
      by_cases hc : v3 = 0
      · simp only [if_pos hc] at hF
        exact J.if_eqT' tk_Camp_hearersOf 0 rfl rfl hc (J.run tk_Camp_hearersOf 1 rfl (J.fgt [true, true, false, true] (h_Camp_hearersOf_36 n t w (F_Camp_hearersOf_4 n t k) ih _ _ _ _ _ hF)))
      · simp only [if_neg hc] at hF
        exact J.if_eqF' tk_Camp_hearersOf 0 rfl rfl hc (J.run tk_Camp_hearersOf 2 rfl (J.fgt [true, true, false, true] (h_Camp_hearersOf_36 n t w (F_Camp_hearersOf_4 n t k) ih _ _ _ _ _ hF)))
theorem c_Camp_hearersOf (n : Nat) (t : Nat) (a1 : Int32) (σ : St) (w : Int32) (hF : F_Camp_hearersOf n t a1 σ = some w) : Call md_Camp_hearersOf 2 [mR 4 t, mI a1] σ (some (mI w)) σ := by
  rw [F_Camp_hearersOf] at hF
  refine Call.of ok_Camp_hearersOf.1 (Nat.le_of_ble_eq_true rfl) (L := [some (mR 4 t), some (mI a1), none, none]) rfl ?_
  exact J.run tk_Camp_hearersOf 4 rfl (h_Camp_hearersOf_4 n t w n _ _ _ _ hF)
noncomputable def F_Camp_snorers_31 (n : Nat) (t : Nat) (K4 : Int32 → Int32 → St → Option Int32) (l2 : Int32) (s0 : Int32) (s1 : Int32) (σ : St) : Option Int32 :=
  K4 (s0 + s1) (l2 + 1) σ
noncomputable def F_Camp_snorers_4 (n : Nat) (t : Nat) : Nat → Int32 → Int32 → St → Option Int32
  | 0, _, _, _ => none
  | k + 1, l1, l2, σ =>
    if σ.1 4 t 10 ≤ l2 then
      some l1
    else
    (ald σ 6 t l2).bind fun v1 =>
    (F_Camp_isOf v1 1).bind fun v2 =>
    F_Camp_snorers_31 n t (F_Camp_snorers_4 n t k) l2 l1 (if v2 = 0 then 0 else 1) σ
noncomputable def F_Camp_snorers (n : Nat) (t : Nat) (σ : St) : Option Int32 :=
  F_Camp_snorers_4 n t n 0 0 σ
theorem h_Camp_snorers_31 (n : Nat) (t : Nat) (w : Int32) (K4 : Int32 → Int32 → St → Option Int32) (hK4 : ∀ (l1 : Int32) (l2 : Int32) (σ : St), K4 l1 l2 σ = some w → J md_Camp_snorers 1 4 [some (mR 4 t), some (mI l1), some (mI l2)] [] σ (some (mI w)) σ) (l2 : Int32) (s0 : Int32) (s1 : Int32) (σ : St) (hF : F_Camp_snorers_31 n t K4 l2 s0 s1 σ = some w) : J md_Camp_snorers 1 31 [some (mR 4 t), none, some (mI l2)] [mI s1, mI s0] σ (some (mI w)) σ := by
  rw [F_Camp_snorers_31] at hF
  exact J.run tk_Camp_snorers 4 rfl (hK4 _ _ _ hF)
theorem h_Camp_snorers_4 (n : Nat) (t : Nat) (w : Int32) : ∀ (k : Nat) (l1 : Int32) (l2 : Int32) (σ : St), F_Camp_snorers_4 n t k l1 l2 σ = some w → J md_Camp_snorers 1 4 [some (mR 4 t), some (mI l1), some (mI l2)] [] σ (some (mI w)) σ := by
  intro k
  induction k with
  | zero => intro l1 l2 σ hF; exact no_s hF
  | succ k ih =>
    intro l1 l2 σ hF
    rw [F_Camp_snorers_4] at hF
    refine J.icmp_ge tk_Camp_snorers 3 rfl rfl hF (fun hF => ?_) (fun hF => ?_)
    · exact J.wI hF (J.reti tk_Camp_snorers 1 rfl rfl rfl)
    · refine J.iald tk_Camp_snorers 4 rfl rfl hF (fun v1 hF => ?_)
      refine J.cpI tk_Camp_snorers (as := [mI v1, mI 1]) (rest := [mI l1]) 1 rfl rfl rfl (ckS (md' := md_Camp_isOf) lk_0_97 ok_Camp_isOf rfl) rfl (by decide) (fun v1 h => c_Camp_isOf _ _ _ _ h) hF (fun v2 hF => ?_)
      by_cases hc : v2 = 0
      · simp only [if_pos hc] at hF
        exact J.if_eqT' tk_Camp_snorers 0 rfl rfl hc (J.run tk_Camp_snorers 1 rfl (J.fgt [true, false, true] (h_Camp_snorers_31 n t w (F_Camp_snorers_4 n t k) ih _ _ _ _ hF)))
      · simp only [if_neg hc] at hF
        exact J.if_eqF' tk_Camp_snorers 0 rfl rfl hc (J.run tk_Camp_snorers 2 rfl (J.fgt [true, false, true] (h_Camp_snorers_31 n t w (F_Camp_snorers_4 n t k) ih _ _ _ _ hF)))
theorem c_Camp_snorers (n : Nat) (t : Nat) (σ : St) (w : Int32) (hF : F_Camp_snorers n t σ = some w) : Call md_Camp_snorers 1 [mR 4 t] σ (some (mI w)) σ := by
  rw [F_Camp_snorers] at hF
  refine Call.of ok_Camp_snorers.1 (Nat.le_of_ble_eq_true rfl) (L := [some (mR 4 t), none, none]) rfl ?_
  exact J.run tk_Camp_snorers 4 rfl (h_Camp_snorers_4 n t w n _ _ _ hF)
noncomputable def F_Camp_snorersNear_36 (n : Nat) (t : Nat) (K4 : Int32 → Int32 → Int32 → St → Option Int32) (l1 : Int32) (l3 : Int32) (s0 : Int32) (s1 : Int32) (σ : St) : Option Int32 :=
  K4 l1 (s0 + s1) (l3 + 1) σ
noncomputable def F_Camp_snorersNear_4 (n : Nat) (t : Nat) : Nat → Int32 → Int32 → Int32 → St → Option Int32
  | 0, _, _, _, _ => none
  | k + 1, l1, l2, l3, σ =>
    if σ.1 4 t 10 ≤ l3 then
      some l2
    else
    (ald σ 6 t l3).bind fun v1 =>
    (F_Camp_reach v1).bind fun v2 =>
    (F_Camp_isWithin t l1 l3 v2 σ).bind fun v3 =>
    F_Camp_snorersNear_36 n t (F_Camp_snorersNear_4 n t k) l1 l3 l2 (if v3 = 0 then 0 else 1) σ
noncomputable def F_Camp_snorersNear (n : Nat) (t : Nat) (a1 : Int32) (σ : St) : Option Int32 :=
  F_Camp_snorersNear_4 n t n a1 0 0 σ
theorem h_Camp_snorersNear_36 (n : Nat) (t : Nat) (w : Int32) (K4 : Int32 → Int32 → Int32 → St → Option Int32) (hK4 : ∀ (l1 : Int32) (l2 : Int32) (l3 : Int32) (σ : St), K4 l1 l2 l3 σ = some w → J md_Camp_snorersNear 1 4 [some (mR 4 t), some (mI l1), some (mI l2), some (mI l3)] [] σ (some (mI w)) σ) (l1 : Int32) (l3 : Int32) (s0 : Int32) (s1 : Int32) (σ : St) (hF : F_Camp_snorersNear_36 n t K4 l1 l3 s0 s1 σ = some w) : J md_Camp_snorersNear 1 36 [some (mR 4 t), some (mI l1), none, some (mI l3)] [mI s1, mI s0] σ (some (mI w)) σ := by
  rw [F_Camp_snorersNear_36] at hF
  exact J.run tk_Camp_snorersNear 4 rfl (hK4 _ _ _ _ hF)
theorem h_Camp_snorersNear_4 (n : Nat) (t : Nat) (w : Int32) : ∀ (k : Nat) (l1 : Int32) (l2 : Int32) (l3 : Int32) (σ : St), F_Camp_snorersNear_4 n t k l1 l2 l3 σ = some w → J md_Camp_snorersNear 1 4 [some (mR 4 t), some (mI l1), some (mI l2), some (mI l3)] [] σ (some (mI w)) σ := by
  intro k
  induction k with
  | zero => intro l1 l2 l3 σ hF; exact no_s hF
  | succ k ih =>
    intro l1 l2 l3 σ hF
    rw [F_Camp_snorersNear_4] at hF
    refine J.icmp_ge tk_Camp_snorersNear 3 rfl rfl hF (fun hF => ?_) (fun hF => ?_)
    · exact J.wI hF (J.reti tk_Camp_snorersNear 1 rfl rfl rfl)
    · refine J.iald tk_Camp_snorersNear 7 rfl rfl hF (fun v1 hF => ?_)
      refine J.cpI tk_Camp_snorersNear (as := [mI v1]) (rest := [mI l3, mI l1, mR 4 t, mI l2]) 0 rfl rfl rfl (ckS (md' := md_Camp_reach) lk_0_105 ok_Camp_reach rfl) rfl (by decide) (fun v1 h => c_Camp_reach _ _ _ h) hF (fun v2 hF => ?_)
      refine J.cpI tk_Camp_snorersNear (as := [mR 4 t, mI l1, mI l3, mI v2]) (rest := [mI l2]) 0 rfl rfl rfl (ckV (md' := md_Camp_isWithin) lk_0_101 ok_Camp_isWithin rfl rfl rfl) rfl (by decide) (fun v1 h => c_Camp_isWithin _ _ _ _ _ _ h) hF (fun v3 hF => ?_)
      by_cases hc : v3 = 0
      · simp only [if_pos hc] at hF
        exact J.if_eqT' tk_Camp_snorersNear 0 rfl rfl hc (J.run tk_Camp_snorersNear 1 rfl (J.fgt [true, true, false, true] (h_Camp_snorersNear_36 n t w (F_Camp_snorersNear_4 n t k) ih _ _ _ _ _ hF)))
      · simp only [if_neg hc] at hF
        exact J.if_eqF' tk_Camp_snorersNear 0 rfl rfl hc (J.run tk_Camp_snorersNear 2 rfl (J.fgt [true, true, false, true] (h_Camp_snorersNear_36 n t w (F_Camp_snorersNear_4 n t k) ih _ _ _ _ _ hF)))
theorem c_Camp_snorersNear (n : Nat) (t : Nat) (a1 : Int32) (σ : St) (w : Int32) (hF : F_Camp_snorersNear n t a1 σ = some w) : Call md_Camp_snorersNear 1 [mR 4 t, mI a1] σ (some (mI w)) σ := by
  rw [F_Camp_snorersNear] at hF
  refine Call.of ok_Camp_snorersNear.1 (Nat.le_of_ble_eq_true rfl) (L := [some (mR 4 t), some (mI a1), none, none]) rfl ?_
  exact J.run tk_Camp_snorersNear 4 rfl (h_Camp_snorersNear_4 n t w n _ _ _ _ hF)
noncomputable def F_Integer_bitCount (a1 : Int32) : Option Int32 :=
  some ((((((((a1 - (((a1.toUInt32 >>> ((1 : Int32).toUInt32 &&& Int32.toUInt32 31)).toInt32) &&& 1431655765)) &&& 858993459) + ((((a1 - (((a1.toUInt32 >>> ((1 : Int32).toUInt32 &&& Int32.toUInt32 31)).toInt32) &&& 1431655765)).toUInt32 >>> ((2 : Int32).toUInt32 &&& Int32.toUInt32 31)).toInt32) &&& 858993459)) + (((((a1 - (((a1.toUInt32 >>> ((1 : Int32).toUInt32 &&& Int32.toUInt32 31)).toInt32) &&& 1431655765)) &&& 858993459) + ((((a1 - (((a1.toUInt32 >>> ((1 : Int32).toUInt32 &&& Int32.toUInt32 31)).toInt32) &&& 1431655765)).toUInt32 >>> ((2 : Int32).toUInt32 &&& Int32.toUInt32 31)).toInt32) &&& 858993459)).toUInt32 >>> ((4 : Int32).toUInt32 &&& Int32.toUInt32 31)).toInt32)) &&& 252645135) + (((((((a1 - (((a1.toUInt32 >>> ((1 : Int32).toUInt32 &&& Int32.toUInt32 31)).toInt32) &&& 1431655765)) &&& 858993459) + ((((a1 - (((a1.toUInt32 >>> ((1 : Int32).toUInt32 &&& Int32.toUInt32 31)).toInt32) &&& 1431655765)).toUInt32 >>> ((2 : Int32).toUInt32 &&& Int32.toUInt32 31)).toInt32) &&& 858993459)) + (((((a1 - (((a1.toUInt32 >>> ((1 : Int32).toUInt32 &&& Int32.toUInt32 31)).toInt32) &&& 1431655765)) &&& 858993459) + ((((a1 - (((a1.toUInt32 >>> ((1 : Int32).toUInt32 &&& Int32.toUInt32 31)).toInt32) &&& 1431655765)).toUInt32 >>> ((2 : Int32).toUInt32 &&& Int32.toUInt32 31)).toInt32) &&& 858993459)).toUInt32 >>> ((4 : Int32).toUInt32 &&& Int32.toUInt32 31)).toInt32)) &&& 252645135).toUInt32 >>> ((8 : Int32).toUInt32 &&& Int32.toUInt32 31)).toInt32)) + ((((((((a1 - (((a1.toUInt32 >>> ((1 : Int32).toUInt32 &&& Int32.toUInt32 31)).toInt32) &&& 1431655765)) &&& 858993459) + ((((a1 - (((a1.toUInt32 >>> ((1 : Int32).toUInt32 &&& Int32.toUInt32 31)).toInt32) &&& 1431655765)).toUInt32 >>> ((2 : Int32).toUInt32 &&& Int32.toUInt32 31)).toInt32) &&& 858993459)) + (((((a1 - (((a1.toUInt32 >>> ((1 : Int32).toUInt32 &&& Int32.toUInt32 31)).toInt32) &&& 1431655765)) &&& 858993459) + ((((a1 - (((a1.toUInt32 >>> ((1 : Int32).toUInt32 &&& Int32.toUInt32 31)).toInt32) &&& 1431655765)).toUInt32 >>> ((2 : Int32).toUInt32 &&& Int32.toUInt32 31)).toInt32) &&& 858993459)).toUInt32 >>> ((4 : Int32).toUInt32 &&& Int32.toUInt32 31)).toInt32)) &&& 252645135) + (((((((a1 - (((a1.toUInt32 >>> ((1 : Int32).toUInt32 &&& Int32.toUInt32 31)).toInt32) &&& 1431655765)) &&& 858993459) + ((((a1 - (((a1.toUInt32 >>> ((1 : Int32).toUInt32 &&& Int32.toUInt32 31)).toInt32) &&& 1431655765)).toUInt32 >>> ((2 : Int32).toUInt32 &&& Int32.toUInt32 31)).toInt32) &&& 858993459)) + (((((a1 - (((a1.toUInt32 >>> ((1 : Int32).toUInt32 &&& Int32.toUInt32 31)).toInt32) &&& 1431655765)) &&& 858993459) + ((((a1 - (((a1.toUInt32 >>> ((1 : Int32).toUInt32 &&& Int32.toUInt32 31)).toInt32) &&& 1431655765)).toUInt32 >>> ((2 : Int32).toUInt32 &&& Int32.toUInt32 31)).toInt32) &&& 858993459)).toUInt32 >>> ((4 : Int32).toUInt32 &&& Int32.toUInt32 31)).toInt32)) &&& 252645135).toUInt32 >>> ((8 : Int32).toUInt32 &&& Int32.toUInt32 31)).toInt32)).toUInt32 >>> ((16 : Int32).toUInt32 &&& Int32.toUInt32 31)).toInt32)) &&& 63)
theorem c_Integer_bitCount (a1 : Int32) (σ : St) (w : Int32) (hF : F_Integer_bitCount a1 = some w) : Call md_Integer_bitCount 0 [mI a1] σ (some (mI w)) σ := by
  rw [F_Integer_bitCount] at hF
  refine Call.of ok_Integer_bitCount.1 (Nat.le_of_ble_eq_true rfl) (L := [some (mI a1)]) rfl ?_
  exact J.wI hF (J.reti tk_Integer_bitCount 41 rfl rfl rfl)
noncomputable def F_Tent_mark (n : Nat) (a1 : Int32) (a2 : Int32) (σ : St) : Option (Int32 × St) :=
  (F_Camp_isSleeper 0 a1 σ).bind fun v1 =>
  if v1 = 0 then
    some ((-1), σ)
  else
  if a2 ≤ 0 then
    some ((-1), σ)
  else
  if a2 < 6 then
    (ald σ 6 0 a1).bind fun v2 =>
    (F_Camp_isOf v2 a2).bind fun v3 =>
    if v3 = 0 then
      b2 (F_Tent_found 3 σ) fun v9 σ10 =>
      some (v9, σ10)
    else
    if a2 = 1 then
      (F_Camp_hearersOf n 0 a1 σ).bind fun v4 =>
      some (v4, σ)
    else
    if a2 = 2 then
      (F_Camp_snorersNear n 0 a1 σ).bind fun v5 =>
      some (v5, σ)
    else
    if a2 = 3 then
      (F_Camp_givenAway 0 a1 σ).bind fun v6 =>
      some (v6, σ)
    else
    if a2 = 4 then
      (F_Camp_snorers n 0 σ).bind fun v7 =>
      some (v7, σ)
    else
    (F_Integer_bitCount (σ.1 4 0 13)).bind fun v8 =>
    some (v8, σ)
  else
  some ((-1), σ)
theorem c_Tent_mark (n : Nat) (a1 : Int32) (a2 : Int32) (σ : St) (w : (Int32 × St)) (hF : F_Tent_mark n a1 a2 σ = some w) : Call md_Tent_mark 3 [mR 0 0, mI a1, mI a2] σ (some (mI w.1)) w.2 := by
  rw [F_Tent_mark] at hF
  refine Call.of ok_Tent_mark.1 (Nat.le_of_ble_eq_true rfl) (L := [some (mR 0 0), some (mI a1), some (mI a2)]) rfl ?_
  refine J.cpI tk_Tent_mark (as := [mR 4 0, mI a1]) (rest := []) 3 rfl rfl rfl (ckV (md' := md_Camp_isSleeper) lk_5_133 ok_Camp_isSleeper rfl rfl rfl) rfl (by decide) (fun v1 h => c_Camp_isSleeper _ _ _ _ h) hF (fun v1 hF => ?_)
  refine J.if_eq tk_Tent_mark 0 rfl rfl hF (fun hF => ?_) (fun hF => ?_)
  · exact J.wsI hF (J.reti tk_Tent_mark 1 rfl rfl rfl)
  · refine J.if_le tk_Tent_mark 1 rfl rfl hF (fun hF => ?_) (fun hF => ?_)
    · exact J.wsI hF (J.reti tk_Tent_mark 1 rfl rfl rfl)
    · refine J.icmp_lt tk_Tent_mark 2 rfl rfl hF (fun hF => ?_) (fun hF => ?_)
      · refine J.iald tk_Tent_mark 4 rfl rfl hF (fun v2 hF => ?_)
        refine J.cpI tk_Tent_mark (as := [mI v2, mI a2]) (rest := []) 1 rfl rfl rfl (ckS (md' := md_Camp_isOf) lk_5_142 ok_Camp_isOf rfl) rfl (by decide) (fun v1 h => c_Camp_isOf _ _ _ _ h) hF (fun v3 hF => ?_)
        refine J.if_ne tk_Tent_mark 0 rfl rfl hF (fun hF => ?_) (fun hF => ?_)
        · by_cases hs1 : a2 = 1
          · rw [if_pos hs1] at hF
            refine J.tswIn tk_Tent_mark 76 1 rfl rfl 1 hs1 (by decide) (by decide) rfl (by decide) ?_
            refine J.cpI tk_Tent_mark (as := [mR 4 0, mI a1]) (rest := []) 3 rfl rfl rfl (ckV (md' := md_Camp_hearersOf) lk_5_146 ok_Camp_hearersOf rfl rfl rfl) rfl (by decide) (fun v1 h => c_Camp_hearersOf n _ _ _ _ h) hF (fun v4 hF => ?_)
            exact J.wsI hF (J.reti tk_Tent_mark 0 rfl rfl rfl)
          rw [if_neg hs1] at hF
          by_cases hs2 : a2 = 2
          · rw [if_pos hs2] at hF
            refine J.tswIn tk_Tent_mark 85 1 rfl rfl 2 hs2 (by decide) (by decide) rfl (by decide) ?_
            refine J.cpI tk_Tent_mark (as := [mR 4 0, mI a1]) (rest := []) 3 rfl rfl rfl (ckV (md' := md_Camp_snorersNear) lk_5_149 ok_Camp_snorersNear rfl rfl rfl) rfl (by decide) (fun v1 h => c_Camp_snorersNear n _ _ _ _ h) hF (fun v5 hF => ?_)
            exact J.wsI hF (J.reti tk_Tent_mark 0 rfl rfl rfl)
          rw [if_neg hs2] at hF
          by_cases hs3 : a2 = 3
          · rw [if_pos hs3] at hF
            refine J.tswIn tk_Tent_mark 94 1 rfl rfl 3 hs3 (by decide) (by decide) rfl (by decide) ?_
            refine J.cpI tk_Tent_mark (as := [mR 4 0, mI a1]) (rest := []) 3 rfl rfl rfl (ckV (md' := md_Camp_givenAway) lk_5_152 ok_Camp_givenAway rfl rfl rfl) rfl (by decide) (fun v1 h => c_Camp_givenAway _ _ _ _ h) hF (fun v6 hF => ?_)
            exact J.wsI hF (J.reti tk_Tent_mark 0 rfl rfl rfl)
          rw [if_neg hs3] at hF
          by_cases hs4 : a2 = 4
          · rw [if_pos hs4] at hF
            refine J.tswIn tk_Tent_mark 103 1 rfl rfl 4 hs4 (by decide) (by decide) rfl (by decide) ?_
            refine J.cpI tk_Tent_mark (as := [mR 4 0]) (rest := []) 2 rfl rfl rfl (ckV (md' := md_Camp_snorers) lk_5_155 ok_Camp_snorers rfl rfl rfl) rfl (by decide) (fun v1 h => c_Camp_snorers n _ _ _ h) hF (fun v7 hF => ?_)
            exact J.wsI hF (J.reti tk_Tent_mark 0 rfl rfl rfl)
          rw [if_neg hs4] at hF
          refine J.tswOut tk_Tent_mark 111 1 rfl rfl (by have z0 := lv_neT hs1 (a := 1) (by decide); have z1 := lv_neT hs2 (a := 2) (by decide); have z2 := lv_neT hs3 (a := 3) (by decide); have z3 := lv_neT hs4 (a := 4) (by decide); omega) (by decide) ?_
          refine J.cpI tk_Tent_mark (as := [mI (σ.1 4 0 13)]) (rest := []) 3 rfl rfl rfl (ckS (md' := md_Integer_bitCount) lk_5_162 ok_Integer_bitCount rfl) rfl (by decide) (fun v1 h => c_Integer_bitCount _ _ _ h) hF (fun v8 hF => ?_)
          exact J.wsI hF (J.reti tk_Tent_mark 0 rfl rfl rfl)
        · refine J.csI tk_Tent_mark (as := [mR 0 0, mI 3]) (rest := []) 2 rfl rfl rfl (ckV (md' := md_Tent_found) lk_5_97 ok_Tent_found rfl rfl rfl) rfl (by decide) (fun v1 s1 h => c_Tent_found _ _ (v1, s1) h) hF (fun v9 σ10 hF => ?_)
          exact J.wsI hF (J.reti tk_Tent_mark 0 rfl rfl rfl)
      · exact J.wsI hF (J.reti tk_Tent_mark 1 rfl rfl rfl)
noncomputable def F_Tent_vent_11 (l1 : Int32) (σ : St) : Option (Int32 × St) :=
  if σ.1 4 0 10 = 0 then
    some ((-4), σ)
  else
  bs (si σ 4 0 11 l1) fun σ1 =>
  some (σ.1 4 0 11, σ1)
noncomputable def F_Tent_vent (a1 : Int32) (σ : St) : Option (Int32 × St) :=
  if a1 = 0 then
    F_Tent_vent_11 a1 σ
  else
  if a1 = 1 then
    F_Tent_vent_11 a1 σ
  else
  some ((-1), σ)
theorem h_Tent_vent_11 (w : (Int32 × St)) (l1 : Int32) (σ : St) (hF : F_Tent_vent_11 l1 σ = some w) : J md_Tent_vent 0 11 [some (mR 0 0), some (mI l1), none] [] σ (some (mI w.1)) w.2 := by
  rw [F_Tent_vent_11] at hF
  refine J.if_ne tk_Tent_vent 3 rfl rfl hF (fun hF => ?_) (fun hF => ?_)
  · refine J.putI tk_Tent_vent 7 rfl rfl rfl rfl rfl ⟨rfl, rfl⟩ hF (fun σ1 hF => ?_)
    exact J.wsI hF (J.reti tk_Tent_vent 1 rfl rfl rfl)
  · exact J.wsI hF (J.reti tk_Tent_vent 1 rfl rfl rfl)
theorem c_Tent_vent (a1 : Int32) (σ : St) (w : (Int32 × St)) (hF : F_Tent_vent a1 σ = some w) : Call md_Tent_vent 0 [mR 0 0, mI a1] σ (some (mI w.1)) w.2 := by
  rw [F_Tent_vent] at hF
  refine Call.of ok_Tent_vent.1 (Nat.le_of_ble_eq_true rfl) (L := [some (mR 0 0), some (mI a1), none]) rfl ?_
  refine J.if_eq tk_Tent_vent 1 rfl rfl hF (fun hF => ?_) (fun hF => ?_)
  · exact h_Tent_vent_11 w _ _ hF
  · refine J.icmp_eq tk_Tent_vent 2 rfl rfl hF (fun hF => ?_) (fun hF => ?_)
    · exact h_Tent_vent_11 w _ _ hF
    · exact J.wsI hF (J.reti tk_Tent_vent 1 rfl rfl rfl)
noncomputable def F_Tent_bottle (a1 : Int32) (σ : St) : Option (Int32 × St) :=
  (F_Camp_isSleeper 0 a1 σ).bind fun v1 =>
  if v1 = 0 then
    some ((-1), σ)
  else
  bs (si σ 4 0 12 a1) fun σ2 =>
  some (σ.1 4 0 12, σ2)
theorem c_Tent_bottle (a1 : Int32) (σ : St) (w : (Int32 × St)) (hF : F_Tent_bottle a1 σ = some w) : Call md_Tent_bottle 1 [mR 0 0, mI a1] σ (some (mI w.1)) w.2 := by
  rw [F_Tent_bottle] at hF
  refine Call.of ok_Tent_bottle.1 (Nat.le_of_ble_eq_true rfl) (L := [some (mR 0 0), some (mI a1), none]) rfl ?_
  refine J.cpI tk_Tent_bottle (as := [mR 4 0, mI a1]) (rest := []) 3 rfl rfl rfl (ckV (md' := md_Camp_isSleeper) lk_5_133 ok_Camp_isSleeper rfl rfl rfl) rfl (by decide) (fun v1 h => c_Camp_isSleeper _ _ _ _ h) hF (fun v1 hF => ?_)
  refine J.if_ne tk_Tent_bottle 0 rfl rfl hF (fun hF => ?_) (fun hF => ?_)
  · refine J.putI tk_Tent_bottle 7 rfl rfl rfl rfl rfl ⟨rfl, rfl⟩ hF (fun σ2 hF => ?_)
    exact J.wsI hF (J.reti tk_Tent_bottle 1 rfl rfl rfl)
  · exact J.wsI hF (J.reti tk_Tent_bottle 1 rfl rfl rfl)
noncomputable def F_Tent_turns (a1 : Int32) (σ : St) : Option (Int32 × St) :=
  if a1 < 0 then
    some ((-1), σ)
  else
  if a1 < 256 then
    if σ.1 4 0 10 = 0 then
      some ((-4), σ)
    else
    bs (si σ 4 0 13 a1) fun σ1 =>
    some (σ.1 4 0 13, σ1)
  else
  some ((-1), σ)
theorem c_Tent_turns (a1 : Int32) (σ : St) (w : (Int32 × St)) (hF : F_Tent_turns a1 σ = some w) : Call md_Tent_turns 0 [mR 0 0, mI a1] σ (some (mI w.1)) w.2 := by
  rw [F_Tent_turns] at hF
  refine Call.of ok_Tent_turns.1 (Nat.le_of_ble_eq_true rfl) (L := [some (mR 0 0), some (mI a1), none]) rfl ?_
  refine J.if_lt tk_Tent_turns 1 rfl rfl hF (fun hF => ?_) (fun hF => ?_)
  · exact J.wsI hF (J.reti tk_Tent_turns 1 rfl rfl rfl)
  · refine J.icmp_lt tk_Tent_turns 2 rfl rfl hF (fun hF => ?_) (fun hF => ?_)
    · refine J.if_ne tk_Tent_turns 3 rfl rfl hF (fun hF => ?_) (fun hF => ?_)
      · refine J.putI tk_Tent_turns 7 rfl rfl rfl rfl rfl ⟨rfl, rfl⟩ hF (fun σ1 hF => ?_)
        exact J.wsI hF (J.reti tk_Tent_turns 1 rfl rfl rfl)
      · exact J.wsI hF (J.reti tk_Tent_turns 1 rfl rfl rfl)
    · exact J.wsI hF (J.reti tk_Tent_turns 1 rfl rfl rfl)
noncomputable def F_Tent_swap (g1 : Nat) (u1 : Nat) (a2 : Int32) (a3 : Int32) (σ : St) : Option St :=
  (ald σ g1 u1 a2).bind fun v1 =>
  (ald σ g1 u1 a3).bind fun v2 =>
  (ast σ g1 u1 a2 v2).bind fun σ3 =>
  (ast σ3 g1 u1 a3 v1).bind fun σ4 =>
  some σ4
theorem c_Tent_swap (g1 : Nat) (u1 : Nat) (a2 : Int32) (a3 : Int32) (σ : St) (w : St) (hF : F_Tent_swap g1 u1 a2 a3 σ = some w) : Call md_Tent_swap 0 [mA g1 u1, mI a2, mI a3] σ none w := by
  rw [F_Tent_swap] at hF
  refine Call.of ok_Tent_swap.1 (Nat.le_of_ble_eq_true rfl) (L := [some (mA g1 u1), some (mI a2), some (mI a3), none]) rfl ?_
  refine J.iald tk_Tent_swap 2 rfl rfl hF (fun v1 hF => ?_)
  refine J.iald tk_Tent_swap 5 rfl rfl hF (fun v2 hF => ?_)
  refine J.iast tk_Tent_swap 0 rfl rfl hF (fun σ3 hF => ?_)
  refine J.iast tk_Tent_swap 3 rfl rfl hF (fun σ4 hF => ?_)
  exact J.wsV hF (J.retv tk_Tent_swap 0 rfl rfl rfl)
noncomputable def F_Camp_fillPlaces_2 (n : Nat) (t : Nat) : Nat → Int32 → St → Option St
  | 0, _, _ => none
  | k + 1, l1, σ =>
    if σ.1 4 t 10 ≤ l1 then
      some σ
    else
    (ald σ 9 t l1).bind fun v1 =>
    (ast σ 10 t v1 l1).bind fun σ2 =>
    (F_Camp_fillPlaces_2 n t k) (l1 + 1) σ2
noncomputable def F_Camp_fillPlaces (n : Nat) (t : Nat) (σ : St) : Option St :=
  F_Camp_fillPlaces_2 n t n 0 σ
theorem h_Camp_fillPlaces_2 (n : Nat) (t : Nat) (w : St) : ∀ (k : Nat) (l1 : Int32) (σ : St), F_Camp_fillPlaces_2 n t k l1 σ = some w → J md_Camp_fillPlaces 0 2 [some (mR 4 t), some (mI l1)] [] σ none w := by
  intro k
  induction k with
  | zero => intro l1 σ hF; exact no_s hF
  | succ k ih =>
    intro l1 σ hF
    rw [F_Camp_fillPlaces_2] at hF
    refine J.icmp_ge tk_Camp_fillPlaces 3 rfl rfl hF (fun hF => ?_) (fun hF => ?_)
    · exact J.wsV hF (J.retv tk_Camp_fillPlaces 0 rfl rfl rfl)
    · refine J.iald tk_Camp_fillPlaces 5 rfl rfl hF (fun v1 hF => ?_)
      refine J.iast tk_Camp_fillPlaces 1 rfl rfl hF (fun σ2 hF => ?_)
      exact J.run tk_Camp_fillPlaces 2 rfl (ih _ _ hF)
theorem c_Camp_fillPlaces (n : Nat) (t : Nat) (σ : St) (w : St) (hF : F_Camp_fillPlaces n t σ = some w) : Call md_Camp_fillPlaces 0 [mR 4 t] σ none w := by
  rw [F_Camp_fillPlaces] at hF
  refine Call.of ok_Camp_fillPlaces.1 (Nat.le_of_ble_eq_true rfl) (L := [some (mR 4 t), none]) rfl ?_
  exact J.run tk_Camp_fillPlaces 2 rfl (h_Camp_fillPlaces_2 n t w n _ _ hF)
noncomputable def F_Tent_change (n : Nat) (a1 : Int32) (a2 : Int32) (σ : St) : Option (Int32 × St) :=
  (F_Camp_isSleeper 0 a1 σ).bind fun v1 =>
  if v1 = 0 then
    some ((-1), σ)
  else
  (F_Camp_isSleeper 0 a2 σ).bind fun v2 =>
  if v2 = 0 then
    some ((-1), σ)
  else
  (F_Tent_swap 9 0 a1 a2 σ).bind fun σ3 =>
  (F_Camp_fillPlaces n 0 σ3).bind fun σ4 =>
  (ald σ4 9 0 a1).bind fun v5 =>
  some (v5, σ4)
theorem c_Tent_change (n : Nat) (a1 : Int32) (a2 : Int32) (σ : St) (w : (Int32 × St)) (hF : F_Tent_change n a1 a2 σ = some w) : Call md_Tent_change 1 [mR 0 0, mI a1, mI a2] σ (some (mI w.1)) w.2 := by
  rw [F_Tent_change] at hF
  refine Call.of ok_Tent_change.1 (Nat.le_of_ble_eq_true rfl) (L := [some (mR 0 0), some (mI a1), some (mI a2)]) rfl ?_
  refine J.cpI tk_Tent_change (as := [mR 4 0, mI a1]) (rest := []) 3 rfl rfl rfl (ckV (md' := md_Camp_isSleeper) lk_5_133 ok_Camp_isSleeper rfl rfl rfl) rfl (by decide) (fun v1 h => c_Camp_isSleeper _ _ _ _ h) hF (fun v1 hF => ?_)
  refine J.if_eq tk_Tent_change 0 rfl rfl hF (fun hF => ?_) (fun hF => ?_)
  · exact J.wsI hF (J.reti tk_Tent_change 1 rfl rfl rfl)
  · refine J.cpI tk_Tent_change (as := [mR 4 0, mI a2]) (rest := []) 3 rfl rfl rfl (ckV (md' := md_Camp_isSleeper) lk_5_133 ok_Camp_isSleeper rfl rfl rfl) rfl (by decide) (fun v1 h => c_Camp_isSleeper _ _ _ _ h) hF (fun v2 hF => ?_)
    refine J.if_ne tk_Tent_change 0 rfl rfl hF (fun hF => ?_) (fun hF => ?_)
    · refine J.csV tk_Tent_change (as := [mA 9 0, mI a1, mI a2]) (rest := []) 5 rfl rfl rfl (ckS (md' := md_Tent_swap) lk_5_176 ok_Tent_swap rfl) rfl (by decide) (fun s1 h => c_Tent_swap _ _ _ _ _ _ h) hF (fun σ3 hF => ?_)
      refine J.csV tk_Tent_change (as := [mR 4 0]) (rest := []) 2 rfl rfl rfl (ckV (md' := md_Camp_fillPlaces) lk_5_180 ok_Camp_fillPlaces rfl rfl rfl) rfl (by decide) (fun s1 h => c_Camp_fillPlaces n _ _ _ h) hF (fun σ4 hF => ?_)
      refine J.iald tk_Tent_change 4 rfl rfl hF (fun v5 hF => ?_)
      exact J.wsI hF (J.reti tk_Tent_change 0 rfl rfl rfl)
    · exact J.wsI hF (J.reti tk_Tent_change 1 rfl rfl rfl)
noncomputable def F_Tent_bags (a1 : Int32) (a2 : Int32) (σ : St) : Option (Int32 × St) :=
  (F_Camp_isSleeper 0 a1 σ).bind fun v1 =>
  if v1 = 0 then
    some ((-1), σ)
  else
  (F_Camp_isSleeper 0 a2 σ).bind fun v2 =>
  if v2 = 0 then
    some ((-1), σ)
  else
  (F_Tent_swap 8 0 a1 a2 σ).bind fun σ3 =>
  (ald σ3 8 0 a1).bind fun v4 =>
  some (v4, σ3)
theorem c_Tent_bags (a1 : Int32) (a2 : Int32) (σ : St) (w : (Int32 × St)) (hF : F_Tent_bags a1 a2 σ = some w) : Call md_Tent_bags 1 [mR 0 0, mI a1, mI a2] σ (some (mI w.1)) w.2 := by
  rw [F_Tent_bags] at hF
  refine Call.of ok_Tent_bags.1 (Nat.le_of_ble_eq_true rfl) (L := [some (mR 0 0), some (mI a1), some (mI a2)]) rfl ?_
  refine J.cpI tk_Tent_bags (as := [mR 4 0, mI a1]) (rest := []) 3 rfl rfl rfl (ckV (md' := md_Camp_isSleeper) lk_5_133 ok_Camp_isSleeper rfl rfl rfl) rfl (by decide) (fun v1 h => c_Camp_isSleeper _ _ _ _ h) hF (fun v1 hF => ?_)
  refine J.if_eq tk_Tent_bags 0 rfl rfl hF (fun hF => ?_) (fun hF => ?_)
  · exact J.wsI hF (J.reti tk_Tent_bags 1 rfl rfl rfl)
  · refine J.cpI tk_Tent_bags (as := [mR 4 0, mI a2]) (rest := []) 3 rfl rfl rfl (ckV (md' := md_Camp_isSleeper) lk_5_133 ok_Camp_isSleeper rfl rfl rfl) rfl (by decide) (fun v1 h => c_Camp_isSleeper _ _ _ _ h) hF (fun v2 hF => ?_)
    refine J.if_ne tk_Tent_bags 0 rfl rfl hF (fun hF => ?_) (fun hF => ?_)
    · refine J.csV tk_Tent_bags (as := [mA 8 0, mI a1, mI a2]) (rest := []) 5 rfl rfl rfl (ckS (md' := md_Tent_swap) lk_5_176 ok_Tent_swap rfl) rfl (by decide) (fun s1 h => c_Tent_swap _ _ _ _ _ _ h) hF (fun σ3 hF => ?_)
      refine J.iald tk_Tent_bags 4 rfl rfl hF (fun v4 hF => ?_)
      exact J.wsI hF (J.reti tk_Tent_bags 0 rfl rfl rfl)
    · exact J.wsI hF (J.reti tk_Tent_bags 1 rfl rfl rfl)
noncomputable def F_Tent_holdsOrder_4 (n : Nat) : Nat → Int32 → Int32 → Int32 → St → Option Int32
  | 0, _, _, _, _ => none
  | k + 1, l1, l2, l3, σ =>
    if σ.1 4 0 10 ≤ l3 then
      some 1
    else
    (F_Shelf_get 0 l1 l3 σ).bind fun v1 =>
    (F_Camp_isSleeper 0 v1 σ).bind fun v2 =>
    if v2 = 0 then
      some 0
    else
    if ((l2 >>> (v1 &&& 31)) &&& 1) = 1 then
      some 0
    else
    (F_Tent_holdsOrder_4 n k) l1 (l2 ||| (1 <<< (v1 &&& 31))) (l3 + 1) σ
noncomputable def F_Tent_holdsOrder (n : Nat) (a1 : Int32) (σ : St) : Option Int32 :=
  F_Tent_holdsOrder_4 n n a1 0 0 σ
theorem h_Tent_holdsOrder_4 (n : Nat) (w : Int32) : ∀ (k : Nat) (l1 : Int32) (l2 : Int32) (l3 : Int32) (σ : St), F_Tent_holdsOrder_4 n k l1 l2 l3 σ = some w → J md_Tent_holdsOrder 4 4 [some (mR 0 0), some (mI l1), some (mI l2), some (mI l3), none] [] σ (some (mI w)) σ := by
  intro k
  induction k with
  | zero => intro l1 l2 l3 σ hF; exact no_s hF
  | succ k ih =>
    intro l1 l2 l3 σ hF
    rw [F_Tent_holdsOrder_4] at hF
    refine J.icmp_ge tk_Tent_holdsOrder 4 rfl rfl hF (fun hF => ?_) (fun hF => ?_)
    · exact J.wI hF (J.retz tk_Tent_holdsOrder 1 rfl rfl rfl rfl)
    · refine J.cpI tk_Tent_holdsOrder (as := [mR 1 0, mI l1, mI l3]) (rest := []) 4 rfl rfl rfl (ckV (md' := md_Shelf_get) lk_5_74 ok_Shelf_get rfl rfl rfl) rfl (by decide) (fun v1 h => c_Shelf_get _ _ _ _ _ h) hF (fun v1 hF => ?_)
      refine J.cpI tk_Tent_holdsOrder (as := [mR 4 0, mI v1]) (rest := []) 4 rfl rfl rfl (ckV (md' := md_Camp_isSleeper) lk_5_133 ok_Camp_isSleeper rfl rfl rfl) rfl (by decide) (fun v1 h => c_Camp_isSleeper _ _ _ _ h) hF (fun v2 hF => ?_)
      refine J.if_eq tk_Tent_holdsOrder 0 rfl rfl hF (fun hF => ?_) (fun hF => ?_)
      · exact J.wI hF (J.retz tk_Tent_holdsOrder 1 rfl rfl rfl rfl)
      · refine J.icmp_ne tk_Tent_holdsOrder 6 rfl rfl hF (fun hF => ?_) (fun hF => ?_)
        · exact J.run tk_Tent_holdsOrder 8 rfl (J.fgt [true, true, true, true, false] (ih _ _ _ _ hF))
        · exact J.wI hF (J.retz tk_Tent_holdsOrder 1 rfl rfl rfl rfl)
theorem c_Tent_holdsOrder (n : Nat) (a1 : Int32) (σ : St) (w : Int32) (hF : F_Tent_holdsOrder n a1 σ = some w) : Call md_Tent_holdsOrder 4 [mR 0 0, mI a1] σ (some (mI w)) σ := by
  rw [F_Tent_holdsOrder] at hF
  refine Call.of ok_Tent_holdsOrder.1 (Nat.le_of_ble_eq_true rfl) (L := [some (mR 0 0), some (mI a1), none, none, none]) rfl ?_
  exact J.run tk_Tent_holdsOrder 4 rfl (h_Tent_holdsOrder_4 n w n _ _ _ _ hF)
noncomputable def F_Tent_refuseRowToFill (a1 : Int32) (σ : St) : Option Int32 :=
  (F_Shelf_isNumber 0 a1 σ).bind fun v1 =>
  if v1 = 0 then
    some (-1)
  else
  if σ.1 4 0 10 = 0 then
    some (-4)
  else
  some 0
theorem c_Tent_refuseRowToFill (a1 : Int32) (σ : St) (w : Int32) (hF : F_Tent_refuseRowToFill a1 σ = some w) : Call md_Tent_refuseRowToFill 1 [mR 0 0, mI a1] σ (some (mI w)) σ := by
  rw [F_Tent_refuseRowToFill] at hF
  refine Call.of ok_Tent_refuseRowToFill.1 (Nat.le_of_ble_eq_true rfl) (L := [some (mR 0 0), some (mI a1)]) rfl ?_
  refine J.cpI tk_Tent_refuseRowToFill (as := [mR 1 0, mI a1]) (rest := []) 3 rfl rfl rfl (ckV (md' := md_Shelf_isNumber) lk_5_93 ok_Shelf_isNumber rfl rfl rfl) rfl (by decide) (fun v1 h => c_Shelf_isNumber _ _ _ _ h) hF (fun v1 hF => ?_)
  refine J.if_ne tk_Tent_refuseRowToFill 0 rfl rfl hF (fun hF => ?_) (fun hF => ?_)
  · refine J.if_ne tk_Tent_refuseRowToFill 3 rfl rfl hF (fun hF => ?_) (fun hF => ?_)
    · exact J.wI hF (J.reti tk_Tent_refuseRowToFill 1 rfl rfl rfl)
    · exact J.wI hF (J.reti tk_Tent_refuseRowToFill 2 rfl rfl rfl)
  · exact J.wI hF (J.reti tk_Tent_refuseRowToFill 1 rfl rfl rfl)
noncomputable def F_Tent_refuseRowForPlaces (a1 : Int32) (σ : St) : Option (Int32 × St) :=
  (F_Tent_refuseRowToFill a1 σ).bind fun v1 =>
  if v1 = 0 then
    (F_Shelf_isThere 0 a1 σ).bind fun v2 =>
    if v2 = 0 then
      b2 (F_Tent_found 1 σ) fun v6 σ7 =>
      some (v6, σ7)
    else
    (F_Shelf_sizeOf 0 a1 σ).bind fun v3 =>
    if v3 = σ.1 4 0 10 then
      some (0, σ)
    else
    b2 (F_Tent_found 5 σ) fun v4 σ5 =>
    some (v4, σ5)
  else
  some (v1, σ)
theorem c_Tent_refuseRowForPlaces (a1 : Int32) (σ : St) (w : (Int32 × St)) (hF : F_Tent_refuseRowForPlaces a1 σ = some w) : Call md_Tent_refuseRowForPlaces 3 [mR 0 0, mI a1] σ (some (mI w.1)) w.2 := by
  rw [F_Tent_refuseRowForPlaces] at hF
  refine Call.of ok_Tent_refuseRowForPlaces.1 (Nat.le_of_ble_eq_true rfl) (L := [some (mR 0 0), some (mI a1), none]) rfl ?_
  refine J.cpI tk_Tent_refuseRowForPlaces (as := [mR 0 0, mI a1]) (rest := []) 2 rfl rfl rfl (ckV (md' := md_Tent_refuseRowToFill) lk_5_263 ok_Tent_refuseRowToFill rfl rfl rfl) rfl (by decide) (fun v1 h => c_Tent_refuseRowToFill _ _ _ h) hF (fun v1 hF => ?_)
  refine J.if_eq tk_Tent_refuseRowForPlaces 2 rfl rfl hF (fun hF => ?_) (fun hF => ?_)
  · refine J.cpI tk_Tent_refuseRowForPlaces (as := [mR 1 0, mI a1]) (rest := []) 3 rfl rfl rfl (ckV (md' := md_Shelf_isThere) lk_5_101 ok_Shelf_isThere rfl rfl rfl) rfl (by decide) (fun v1 h => c_Shelf_isThere _ _ _ _ h) hF (fun v2 hF => ?_)
    refine J.if_ne tk_Tent_refuseRowForPlaces 0 rfl rfl hF (fun hF => ?_) (fun hF => ?_)
    · refine J.cpI tk_Tent_refuseRowForPlaces (as := [mR 1 0, mI a1]) (rest := []) 3 rfl rfl rfl (ckV (md' := md_Shelf_sizeOf) lk_5_112 ok_Shelf_sizeOf rfl rfl rfl) rfl (by decide) (fun v1 h => c_Shelf_sizeOf _ _ _ _ h) hF (fun v3 hF => ?_)
      refine J.icmp_ne tk_Tent_refuseRowForPlaces 3 rfl rfl hF (fun hF => ?_) (fun hF => ?_)
      · refine J.csI tk_Tent_refuseRowForPlaces (as := [mR 0 0, mI 5]) (rest := []) 2 rfl rfl rfl (ckV (md' := md_Tent_found) lk_5_97 ok_Tent_found rfl rfl rfl) rfl (by decide) (fun v1 s1 h => c_Tent_found _ _ (v1, s1) h) hF (fun v4 σ5 hF => ?_)
        exact J.wsI hF (J.reti tk_Tent_refuseRowForPlaces 0 rfl rfl rfl)
      · exact J.wsI hF (J.reti tk_Tent_refuseRowForPlaces 2 rfl rfl rfl)
    · refine J.csI tk_Tent_refuseRowForPlaces (as := [mR 0 0, mI 1]) (rest := []) 2 rfl rfl rfl (ckV (md' := md_Tent_found) lk_5_97 ok_Tent_found rfl rfl rfl) rfl (by decide) (fun v1 s1 h => c_Tent_found _ _ (v1, s1) h) hF (fun v6 σ7 hF => ?_)
      exact J.wsI hF (J.reti tk_Tent_refuseRowForPlaces 0 rfl rfl rfl)
  · exact J.wsI hF (J.reti tk_Tent_refuseRowForPlaces 1 rfl rfl rfl)
noncomputable def F_Camp_layBy_2 (n : Nat) (t : Nat) (g1 : Nat) (u1 : Nat) : Nat → Int32 → St → Option St
  | 0, _, _ => none
  | k + 1, l2, σ =>
    if σ.1 4 t 10 ≤ l2 then
      some σ
    else
    (ald σ g1 u1 l2).bind fun v1 =>
    (ast σ 10 t l2 v1).bind fun σ2 =>
    (ald σ2 g1 u1 l2).bind fun v3 =>
    (ast σ2 9 t v3 l2).bind fun σ4 =>
    (F_Camp_layBy_2 n t g1 u1 k) (l2 + 1) σ4
noncomputable def F_Camp_layBy (n : Nat) (t : Nat) (g1 : Nat) (u1 : Nat) (σ : St) : Option St :=
  F_Camp_layBy_2 n t g1 u1 n 0 σ
theorem h_Camp_layBy_2 (n : Nat) (t : Nat) (g1 : Nat) (u1 : Nat) (w : St) : ∀ (k : Nat) (l2 : Int32) (σ : St), F_Camp_layBy_2 n t g1 u1 k l2 σ = some w → J md_Camp_layBy 0 2 [some (mR 4 t), some (mA g1 u1), some (mI l2)] [] σ none w := by
  intro k
  induction k with
  | zero => intro l2 σ hF; exact no_s hF
  | succ k ih =>
    intro l2 σ hF
    rw [F_Camp_layBy_2] at hF
    refine J.icmp_ge tk_Camp_layBy 3 rfl rfl hF (fun hF => ?_) (fun hF => ?_)
    · exact J.wsV hF (J.retv tk_Camp_layBy 0 rfl rfl rfl)
    · refine J.iald tk_Camp_layBy 5 rfl rfl hF (fun v1 hF => ?_)
      refine J.iast tk_Camp_layBy 0 rfl rfl hF (fun σ2 hF => ?_)
      refine J.iald tk_Camp_layBy 4 rfl rfl hF (fun v3 hF => ?_)
      refine J.iast tk_Camp_layBy 1 rfl rfl hF (fun σ4 hF => ?_)
      exact J.run tk_Camp_layBy 2 rfl (ih _ _ hF)
theorem c_Camp_layBy (n : Nat) (t : Nat) (g1 : Nat) (u1 : Nat) (σ : St) (w : St) (hF : F_Camp_layBy n t g1 u1 σ = some w) : Call md_Camp_layBy 0 [mR 4 t, mA g1 u1] σ none w := by
  rw [F_Camp_layBy] at hF
  refine Call.of ok_Camp_layBy.1 (Nat.le_of_ble_eq_true rfl) (L := [some (mR 4 t), some (mA g1 u1), none]) rfl ?_
  exact J.run tk_Camp_layBy 2 rfl (h_Camp_layBy_2 n t g1 u1 w n _ _ hF)
noncomputable def F_Orders_readFrom_12 (n : Nat) (t1 : Nat) : Nat → Int32 → Int32 → St → Option St
  | 0, _, _, _ => none
  | k + 1, l2, l4, σ =>
    if σ.1 18 0 1 ≤ l4 then
      some σ
    else
    (F_Shelf_get t1 l2 l4 σ).bind fun v2 =>
    (ast σ 19 0 l4 v2).bind fun σ3 =>
    (F_Orders_readFrom_12 n t1 k) l2 (l4 + 1) σ3
noncomputable def F_Orders_readFrom (n : Nat) (t1 : Nat) (a2 : Int32) (a3 : Int32) (σ : St) : Option St :=
  bs (si σ 18 0 1 (mmin a3 5)) fun σ1 =>
  F_Orders_readFrom_12 n t1 n a2 0 σ1
theorem h_Orders_readFrom_12 (n : Nat) (t1 : Nat) (w : St) : ∀ (k : Nat) (l2 : Int32) (l4 : Int32) (σ : St), F_Orders_readFrom_12 n t1 k l2 l4 σ = some w → J md_Orders_readFrom 4 12 [some (mR 18 0), some (mR 1 t1), some (mI l2), none, some (mI l4)] [] σ none w := by
  intro k
  induction k with
  | zero => intro l2 l4 σ hF; exact no_s hF
  | succ k ih =>
    intro l2 l4 σ hF
    rw [F_Orders_readFrom_12] at hF
    refine J.icmp_ge tk_Orders_readFrom 3 rfl rfl hF (fun hF => ?_) (fun hF => ?_)
    · exact J.wsV hF (J.retv tk_Orders_readFrom 0 rfl rfl rfl)
    · refine J.cpI tk_Orders_readFrom (as := [mR 1 t1, mI l2, mI l4]) (rest := [mI l4, mA 19 0]) 6 rfl rfl rfl (ckV (md' := md_Shelf_get) lk_1_40 ok_Shelf_get rfl rfl rfl) rfl (by decide) (fun v1 h => c_Shelf_get _ _ _ _ _ h) hF (fun v2 hF => ?_)
      refine J.iast tk_Orders_readFrom 0 rfl rfl hF (fun σ3 hF => ?_)
      exact J.run tk_Orders_readFrom 2 rfl (ih _ _ _ hF)
theorem c_Orders_readFrom (n : Nat) (t1 : Nat) (a2 : Int32) (a3 : Int32) (σ : St) (w : St) (hF : F_Orders_readFrom n t1 a2 a3 σ = some w) : Call md_Orders_readFrom 4 [mR 18 0, mR 1 t1, mI a2, mI a3] σ none w := by
  rw [F_Orders_readFrom] at hF
  refine Call.of ok_Orders_readFrom.1 (Nat.le_of_ble_eq_true rfl) (L := [some (mR 18 0), some (mR 1 t1), some (mI a2), some (mI a3), none]) rfl ?_
  refine J.mmin tk_Orders_readFrom 3 rfl rfl lk_1_15 rfl rfl ?_
  refine J.putI tk_Orders_readFrom 0 rfl rfl rfl rfl rfl ⟨rfl, rfl⟩ hF (fun σ1 hF => ?_)
  exact J.run tk_Orders_readFrom 2 rfl (J.fgt [true, true, true, false, true] (h_Orders_readFrom_12 n t1 w n _ _ _ hF))
noncomputable def F_Tent_lie (n : Nat) (a1 : Int32) (σ : St) : Option (Int32 × St) :=
  b2 (F_Tent_refuseRowForPlaces a1 σ) fun v1 σ2 =>
  if v1 = 0 then
    (F_Tent_holdsOrder n a1 σ2).bind fun v3 =>
    if v3 = 0 then
      b2 (F_Tent_found 3 σ2) fun v6 σ7 =>
      some (v6, σ7)
    else
    (F_Orders_readFrom n 0 a1 (σ2.1 4 0 10) σ2).bind fun σ4 =>
    (F_Camp_layBy n 0 19 0 σ4).bind fun σ5 =>
    some (1, σ5)
  else
  some (v1, σ2)
theorem c_Tent_lie (n : Nat) (a1 : Int32) (σ : St) (w : (Int32 × St)) (hF : F_Tent_lie n a1 σ = some w) : Call md_Tent_lie 5 [mR 0 0, mI a1] σ (some (mI w.1)) w.2 := by
  rw [F_Tent_lie] at hF
  refine Call.of ok_Tent_lie.1 (Nat.le_of_ble_eq_true rfl) (L := [some (mR 0 0), some (mI a1), none]) rfl ?_
  refine J.csI tk_Tent_lie (as := [mR 0 0, mI a1]) (rest := []) 2 rfl rfl rfl (ckV (md' := md_Tent_refuseRowForPlaces) lk_5_186 ok_Tent_refuseRowForPlaces rfl rfl rfl) rfl (by decide) (fun v1 s1 h => c_Tent_refuseRowForPlaces _ _ (v1, s1) h) hF (fun v1 σ2 hF => ?_)
  refine J.if_eq tk_Tent_lie 2 rfl rfl hF (fun hF => ?_) (fun hF => ?_)
  · refine J.cpI tk_Tent_lie (as := [mR 0 0, mI a1]) (rest := []) 2 rfl rfl rfl (ckV (md' := md_Tent_holdsOrder) lk_5_189 ok_Tent_holdsOrder rfl rfl rfl) rfl (by decide) (fun v1 h => c_Tent_holdsOrder n _ _ _ h) hF (fun v3 hF => ?_)
    refine J.if_ne tk_Tent_lie 0 rfl rfl hF (fun hF => ?_) (fun hF => ?_)
    · refine J.csV tk_Tent_lie (as := [mR 18 0, mR 1 0, mI a1, mI (σ2.1 4 0 10)]) (rest := []) 8 rfl rfl rfl (ckV (md' := md_Orders_readFrom) lk_5_192 ok_Orders_readFrom rfl rfl rfl) rfl (by decide) (fun s1 h => c_Orders_readFrom n _ _ _ _ _ h) hF (fun σ4 hF => ?_)
      refine J.csV tk_Tent_lie (as := [mR 4 0, mA 19 0]) (rest := []) 5 rfl rfl rfl (ckV (md' := md_Camp_layBy) lk_5_199 ok_Camp_layBy rfl rfl rfl) rfl (by decide) (fun s1 h => c_Camp_layBy n _ _ _ _ _ h) hF (fun σ5 hF => ?_)
      exact J.wsI hF (J.reti tk_Tent_lie 1 rfl rfl rfl)
    · refine J.csI tk_Tent_lie (as := [mR 0 0, mI 3]) (rest := []) 2 rfl rfl rfl (ckV (md' := md_Tent_found) lk_5_97 ok_Tent_found rfl rfl rfl) rfl (by decide) (fun v1 s1 h => c_Tent_found _ _ (v1, s1) h) hF (fun v6 σ7 hF => ?_)
      exact J.wsI hF (J.reti tk_Tent_lie 0 rfl rfl rfl)
  · exact J.wsI hF (J.reti tk_Tent_lie 1 rfl rfl rfl)
noncomputable def F_Camp_isAtRim (t : Nat) (a1 : Int32) (σ : St) : Option Int32 :=
  (ald σ 9 t a1).bind fun v1 =>
  if v1 = 0 then
    some 1
  else
  (ald σ 9 t a1).bind fun v2 =>
  if v2 = ((σ.1 4 t 10) - 1) then
    some 1
  else
  some 0
theorem c_Camp_isAtRim (t : Nat) (a1 : Int32) (σ : St) (w : Int32) (hF : F_Camp_isAtRim t a1 σ = some w) : Call md_Camp_isAtRim 0 [mR 4 t, mI a1] σ (some (mI w)) σ := by
  rw [F_Camp_isAtRim] at hF
  refine Call.of ok_Camp_isAtRim.1 (Nat.le_of_ble_eq_true rfl) (L := [some (mR 4 t), some (mI a1)]) rfl ?_
  refine J.iald tk_Camp_isAtRim 3 rfl rfl hF (fun v1 hF => ?_)
  refine J.if_eq tk_Camp_isAtRim 0 rfl rfl hF (fun hF => ?_) (fun hF => ?_)
  · exact J.wI hF (J.retz tk_Camp_isAtRim 2 rfl rfl rfl rfl)
  · refine J.iald tk_Camp_isAtRim 3 rfl rfl hF (fun v2 hF => ?_)
    refine J.icmp_ne tk_Camp_isAtRim 4 rfl rfl hF (fun hF => ?_) (fun hF => ?_)
    · exact J.wI hF (J.retz tk_Camp_isAtRim 1 rfl rfl rfl rfl)
    · exact J.wI hF (J.retz tk_Camp_isAtRim 2 rfl rfl rfl rfl)
noncomputable def F_Camp_remember (t : Nat) (σ : St) : Option St :=
  if ((σ.1 4 t 16) * 25) < 0 then
    some σ
  else
  if (((σ.1 4 t 16) * 25) + 25) ≤ (nI (lenOf 14 t)) then
    (ast σ 14 t ((σ.1 4 t 16) * 25) (σ.1 4 t 14)).bind fun σ1 =>
    (ast σ1 14 t (((σ.1 4 t 16) * 25) + 1) (σ1.1 4 t 15)).bind fun σ2 =>
    (ast σ2 14 t (((σ.1 4 t 16) * 25) + 2) (σ2.1 4 t 11)).bind fun σ3 =>
    (ast σ3 14 t (((σ.1 4 t 16) * 25) + 3) (σ3.1 4 t 12)).bind fun σ4 =>
    (ast σ4 14 t (((σ.1 4 t 16) * 25) + 4) (σ4.1 4 t 13)).bind fun σ5 =>
    (acp σ5 9 t 0 14 t (((σ.1 4 t 16) * 25) + 5) 5).bind fun σ6 =>
    (acp σ6 8 t 0 14 t ((((σ.1 4 t 16) * 25) + 5) + 5) 5).bind fun σ7 =>
    (acp σ7 11 t 0 14 t ((((σ.1 4 t 16) * 25) + 5) + 10) 5).bind fun σ8 =>
    (acp σ8 12 t 0 14 t ((((σ.1 4 t 16) * 25) + 5) + 15) 5).bind fun σ9 =>
    some σ9
  else
  some σ
theorem c_Camp_remember (t : Nat) (σ : St) (w : St) (hF : F_Camp_remember t σ = some w) : Call md_Camp_remember 1 [mR 4 t] σ none w := by
  rw [F_Camp_remember] at hF
  refine Call.of ok_Camp_remember.1 (Nat.le_of_ble_eq_true rfl) (L := [some (mR 4 t), none, none]) rfl ?_
  refine J.if_lt tk_Camp_remember 6 rfl rfl hF (fun hF => ?_) (fun hF => ?_)
  · exact J.wsV hF (J.retv tk_Camp_remember 0 rfl rfl rfl)
  · refine J.icmp_le tk_Camp_remember 6 rfl rfl hF (fun hF => ?_) (fun hF => ?_)
    · refine J.iast tk_Camp_remember 5 rfl rfl hF (fun σ1 hF => ?_)
      refine J.iast tk_Camp_remember 7 rfl rfl hF (fun σ2 hF => ?_)
      refine J.iast tk_Camp_remember 7 rfl rfl hF (fun σ3 hF => ?_)
      refine J.iast tk_Camp_remember 7 rfl rfl hF (fun σ4 hF => ?_)
      refine J.iast tk_Camp_remember 7 rfl rfl hF (fun σ5 hF => ?_)
      refine J.acp tk_Camp_remember 11 rfl rfl lk_0_64 rfl rfl hF (fun σ6 hF => ?_)
      refine J.acp tk_Camp_remember 9 rfl rfl lk_0_64 rfl rfl hF (fun σ7 hF => ?_)
      refine J.acp tk_Camp_remember 9 rfl rfl lk_0_64 rfl rfl hF (fun σ8 hF => ?_)
      refine J.acp tk_Camp_remember 9 rfl rfl lk_0_64 rfl rfl hF (fun σ9 hF => ?_)
      exact J.wsV hF (J.retv tk_Camp_remember 0 rfl rfl rfl)
    · exact J.wsV hF (J.retv tk_Camp_remember 0 rfl rfl rfl)
noncomputable def F_Camp_hourlyFeeling_39 (t : Nat) (l1 : Int32) (l2 : Int32) (s0 : Int32) (σ : St) : Option Int32 :=
  (ald σ 5 t l2).bind fun v2 =>
  if σ.1 4 t 11 = 0 then
    (F_Camp_isAtRim t l1 σ).bind fun v3 =>
    if v3 = 0 then
      some ((s0 - v2) - 0)
    else
    (dvI l2 2).bind fun v4 =>
    some ((s0 - v2) - v4)
  else
  some ((s0 - v2) - 0)
noncomputable def F_Camp_hourlyFeeling_23 (t : Nat) (l1 : Int32) (l2 : Int32) (s0 : Int32) (σ : St) : Option Int32 :=
  (ald σ 9 t l1).bind fun v1 =>
  F_Camp_hourlyFeeling_39 t l1 l2 (if v1 = s0 then 3 else 0) σ
noncomputable def F_Camp_hourlyFeeling (t : Nat) (a1 : Int32) (a2 : Int32) (σ : St) : Option Int32 :=
  if σ.1 4 t 10 ≤ 0 then
    F_Camp_hourlyFeeling_23 t a1 a2 (-9) σ
  else
  (rmI ((σ.1 4 t 12) + a2) (σ.1 4 t 10)).bind fun v5 =>
  F_Camp_hourlyFeeling_23 t a1 a2 v5 σ
theorem h_Camp_hourlyFeeling_39 (t : Nat) (w : Int32) (l1 : Int32) (l2 : Int32) (s0 : Int32) (σ : St) (hF : F_Camp_hourlyFeeling_39 t l1 l2 s0 σ = some w) : J md_Camp_hourlyFeeling 1 39 [some (mR 4 t), some (mI l1), some (mI l2), none] [mI s0] σ (some (mI w)) σ := by
  rw [F_Camp_hourlyFeeling_39] at hF
  refine J.iald tk_Camp_hourlyFeeling 3 rfl rfl hF (fun v2 hF => ?_)
  refine J.if_ne tk_Camp_hourlyFeeling 3 rfl rfl hF (fun hF => ?_) (fun hF => ?_)
  · exact J.wI hF (J.reti tk_Camp_hourlyFeeling 2 rfl rfl rfl)
  · refine J.cpI tk_Camp_hourlyFeeling (as := [mR 4 t, mI l1]) (rest := [mI (s0 - v2)]) 2 rfl rfl rfl (ckV (md' := md_Camp_isAtRim) lk_0_87 ok_Camp_isAtRim rfl rfl rfl) rfl (by decide) (fun v1 h => c_Camp_isAtRim _ _ _ _ h) hF (fun v3 hF => ?_)
    refine J.if_eq tk_Camp_hourlyFeeling 0 rfl rfl hF (fun hF => ?_) (fun hF => ?_)
    · exact J.wI hF (J.reti tk_Camp_hourlyFeeling 2 rfl rfl rfl)
    · refine J.idiv tk_Camp_hourlyFeeling 2 rfl rfl hF (fun v4 hF => ?_)
      exact J.wI hF (J.reti tk_Camp_hourlyFeeling 2 rfl rfl rfl)
theorem h_Camp_hourlyFeeling_23 (t : Nat) (w : Int32) (l1 : Int32) (l2 : Int32) (s0 : Int32) (σ : St) (hF : F_Camp_hourlyFeeling_23 t l1 l2 s0 σ = some w) : J md_Camp_hourlyFeeling 1 23 [some (mR 4 t), some (mI l1), some (mI l2), none] [mI s0] σ (some (mI w)) σ := by
  rw [F_Camp_hourlyFeeling_23] at hF
  refine J.iald tk_Camp_hourlyFeeling 4 rfl rfl hF (fun v1 hF => ?_)
  by_cases hc : v1 = s0
  · simp only [if_pos hc] at hF
    exact J.icmp_neF' tk_Camp_hourlyFeeling 1 rfl rfl hc (J.run tk_Camp_hourlyFeeling 2 rfl (J.fgt [true, true, true, false] (h_Camp_hourlyFeeling_39 t w _ _ _ _ hF)))
  · simp only [if_neg hc] at hF
    exact J.icmp_neT' tk_Camp_hourlyFeeling 1 rfl rfl hc (J.run tk_Camp_hourlyFeeling 1 rfl (J.fgt [true, true, true, false] (h_Camp_hourlyFeeling_39 t w _ _ _ _ hF)))
theorem c_Camp_hourlyFeeling (t : Nat) (a1 : Int32) (a2 : Int32) (σ : St) (w : Int32) (hF : F_Camp_hourlyFeeling t a1 a2 σ = some w) : Call md_Camp_hourlyFeeling 1 [mR 4 t, mI a1, mI a2] σ (some (mI w)) σ := by
  rw [F_Camp_hourlyFeeling] at hF
  refine Call.of ok_Camp_hourlyFeeling.1 (Nat.le_of_ble_eq_true rfl) (L := [some (mR 4 t), some (mI a1), some (mI a2), none]) rfl ?_
  refine J.if_le tk_Camp_hourlyFeeling 2 rfl rfl hF (fun hF => ?_) (fun hF => ?_)
  · exact J.run tk_Camp_hourlyFeeling 1 rfl (h_Camp_hourlyFeeling_23 t w _ _ _ _ hF)
  · refine J.irem tk_Camp_hourlyFeeling 6 rfl rfl hF (fun v5 hF => ?_)
    exact J.run tk_Camp_hourlyFeeling 1 rfl (h_Camp_hourlyFeeling_23 t w _ _ _ _ hF)
noncomputable def F_Camp_steadyFeeling_45 (t : Nat) (s0 : Int32) (s1 : Int32) (σ : St) : Option Int32 :=
  if σ.1 4 t 11 = 1 then
    some ((s0 - s1) - 2)
  else
  some ((s0 - s1) - 0)
noncomputable def F_Camp_steadyFeeling (t : Nat) (a1 : Int32) (σ : St) : Option Int32 :=
  (ald σ 8 t a1).bind fun v1 =>
  (ald σ 9 t a1).bind fun v2 =>
  (F_Camp_givenFrom t (v2 - 1) σ).bind fun v3 =>
  (ald σ 9 t a1).bind fun v4 =>
  (F_Camp_givenFrom t (v4 + 1) σ).bind fun v5 =>
  (F_Camp_isAtRim t a1 σ).bind fun v6 =>
  F_Camp_steadyFeeling_45 t ((v1 + v3) + v5) (if v6 = 0 then 0 else 2) σ
theorem h_Camp_steadyFeeling_45 (t : Nat) (w : Int32) (s0 : Int32) (s1 : Int32) (σ : St) (hF : F_Camp_steadyFeeling_45 t s0 s1 σ = some w) : J md_Camp_steadyFeeling 1 45 [some (mR 4 t), none] [mI s1, mI s0] σ (some (mI w)) σ := by
  rw [F_Camp_steadyFeeling_45] at hF
  refine J.icmp_ne tk_Camp_steadyFeeling 4 rfl rfl hF (fun hF => ?_) (fun hF => ?_)
  · exact J.wI hF (J.reti tk_Camp_steadyFeeling 2 rfl rfl rfl)
  · exact J.wI hF (J.reti tk_Camp_steadyFeeling 3 rfl rfl rfl)
theorem c_Camp_steadyFeeling (t : Nat) (a1 : Int32) (σ : St) (w : Int32) (hF : F_Camp_steadyFeeling t a1 σ = some w) : Call md_Camp_steadyFeeling 1 [mR 4 t, mI a1] σ (some (mI w)) σ := by
  rw [F_Camp_steadyFeeling] at hF
  refine Call.of ok_Camp_steadyFeeling.1 (Nat.le_of_ble_eq_true rfl) (L := [some (mR 4 t), some (mI a1)]) rfl ?_
  refine J.iald tk_Camp_steadyFeeling 3 rfl rfl hF (fun v1 hF => ?_)
  refine J.iald tk_Camp_steadyFeeling 4 rfl rfl hF (fun v2 hF => ?_)
  refine J.cpI tk_Camp_steadyFeeling (as := [mR 4 t, mI (v2 - 1)]) (rest := [mI v1]) 2 rfl rfl rfl (ckV (md' := md_Camp_givenFrom) lk_0_94 ok_Camp_givenFrom rfl rfl rfl) rfl (by decide) (fun v1 h => c_Camp_givenFrom _ _ _ _ h) hF (fun v3 hF => ?_)
  refine J.iald tk_Camp_steadyFeeling 5 rfl rfl hF (fun v4 hF => ?_)
  refine J.cpI tk_Camp_steadyFeeling (as := [mR 4 t, mI (v4 + 1)]) (rest := [mI (v1 + v3)]) 2 rfl rfl rfl (ckV (md' := md_Camp_givenFrom) lk_0_94 ok_Camp_givenFrom rfl rfl rfl) rfl (by decide) (fun v1 h => c_Camp_givenFrom _ _ _ _ h) hF (fun v5 hF => ?_)
  refine J.cpI tk_Camp_steadyFeeling (as := [mR 4 t, mI a1]) (rest := [mI ((v1 + v3) + v5)]) 3 rfl rfl rfl (ckV (md' := md_Camp_isAtRim) lk_0_87 ok_Camp_isAtRim rfl rfl rfl) rfl (by decide) (fun v1 h => c_Camp_isAtRim _ _ _ _ h) hF (fun v6 hF => ?_)
  by_cases hc : v6 = 0
  · simp only [if_pos hc] at hF
    exact J.if_eqT' tk_Camp_steadyFeeling 0 rfl rfl hc (J.run tk_Camp_steadyFeeling 1 rfl (J.fgt [true, false] (h_Camp_steadyFeeling_45 t w _ _ _ hF)))
  · simp only [if_neg hc] at hF
    exact J.if_eqF' tk_Camp_steadyFeeling 0 rfl rfl hc (J.run tk_Camp_steadyFeeling 2 rfl (J.fgt [true, false] (h_Camp_steadyFeeling_45 t w _ _ _ hF)))
noncomputable def F_Camp_feeling (t : Nat) (a1 : Int32) (a2 : Int32) (σ : St) : Option Int32 :=
  (F_Camp_steadyFeeling t a1 σ).bind fun v1 =>
  (F_Camp_hourlyFeeling t a1 a2 σ).bind fun v2 =>
  some (v1 + v2)
theorem c_Camp_feeling (t : Nat) (a1 : Int32) (a2 : Int32) (σ : St) (w : Int32) (hF : F_Camp_feeling t a1 a2 σ = some w) : Call md_Camp_feeling 2 [mR 4 t, mI a1, mI a2] σ (some (mI w)) σ := by
  rw [F_Camp_feeling] at hF
  refine Call.of ok_Camp_feeling.1 (Nat.le_of_ble_eq_true rfl) (L := [some (mR 4 t), some (mI a1), some (mI a2)]) rfl ?_
  refine J.cpI tk_Camp_feeling (as := [mR 4 t, mI a1]) (rest := []) 2 rfl rfl rfl (ckV (md' := md_Camp_steadyFeeling) lk_0_111 ok_Camp_steadyFeeling rfl rfl rfl) rfl (by decide) (fun v1 h => c_Camp_steadyFeeling _ _ _ _ h) hF (fun v1 hF => ?_)
  refine J.cpI tk_Camp_feeling (as := [mR 4 t, mI a1, mI a2]) (rest := [mI v1]) 3 rfl rfl rfl (ckV (md' := md_Camp_hourlyFeeling) lk_0_114 ok_Camp_hourlyFeeling rfl rfl rfl) rfl (by decide) (fun v1 h => c_Camp_hourlyFeeling _ _ _ _ _ h) hF (fun v2 hF => ?_)
  exact J.wI hF (J.reti tk_Camp_feeling 1 rfl rfl rfl)
noncomputable def F_Camp_hearsAny_38 (n : Nat) (t : Nat) (l1 : Int32) (l2 : Int32) (σ : St) : Option Int32 :=
  if l2 = 0 then
    some 0
  else
  (ald σ 6 t l1).bind fun v1 =>
  (F_Camp_isOf v1 2).bind fun v2 =>
  if v2 = 0 then
    some 1
  else
  some 0
noncomputable def F_Camp_hearsAny_4 (n : Nat) (t : Nat) : Nat → Int32 → Int32 → Int32 → St → Option Int32
  | 0, _, _, _, _ => none
  | k + 1, l1, l2, l3, σ =>
    if σ.1 4 t 10 ≤ l3 then
      F_Camp_hearsAny_38 n t l1 l2 σ
    else
    if l2 = 0 then
      (ald σ 6 t l3).bind fun v3 =>
      (F_Camp_reach v3).bind fun v4 =>
      (F_Camp_isWithin t l1 l3 v4 σ).bind fun v5 =>
      (F_Camp_hearsAny_4 n t k) l1 v5 (l3 + 1) σ
    else
    F_Camp_hearsAny_38 n t l1 l2 σ
noncomputable def F_Camp_hearsAny (n : Nat) (t : Nat) (a1 : Int32) (σ : St) : Option Int32 :=
  F_Camp_hearsAny_4 n t n a1 0 0 σ
theorem h_Camp_hearsAny_38 (n : Nat) (t : Nat) (w : Int32) (l1 : Int32) (l2 : Int32) (σ : St) (hF : F_Camp_hearsAny_38 n t l1 l2 σ = some w) : J md_Camp_hearsAny 1 38 [some (mR 4 t), some (mI l1), some (mI l2), none] [] σ (some (mI w)) σ := by
  rw [F_Camp_hearsAny_38] at hF
  refine J.if_eq tk_Camp_hearsAny 1 rfl rfl hF (fun hF => ?_) (fun hF => ?_)
  · exact J.wI hF (J.retz tk_Camp_hearsAny 1 rfl rfl rfl rfl)
  · refine J.iald tk_Camp_hearsAny 3 rfl rfl hF (fun v1 hF => ?_)
    refine J.cpI tk_Camp_hearsAny (as := [mI v1, mI 2]) (rest := []) 1 rfl rfl rfl (ckS (md' := md_Camp_isOf) lk_0_97 ok_Camp_isOf rfl) rfl (by decide) (fun v1 h => c_Camp_isOf _ _ _ _ h) hF (fun v2 hF => ?_)
    refine J.if_ne tk_Camp_hearsAny 0 rfl rfl hF (fun hF => ?_) (fun hF => ?_)
    · exact J.wI hF (J.retz tk_Camp_hearsAny 1 rfl rfl rfl rfl)
    · exact J.wI hF (J.retz tk_Camp_hearsAny 2 rfl rfl rfl rfl)
theorem h_Camp_hearsAny_4 (n : Nat) (t : Nat) (w : Int32) : ∀ (k : Nat) (l1 : Int32) (l2 : Int32) (l3 : Int32) (σ : St), F_Camp_hearsAny_4 n t k l1 l2 l3 σ = some w → J md_Camp_hearsAny 1 4 [some (mR 4 t), some (mI l1), some (mI l2), some (mI l3)] [] σ (some (mI w)) σ := by
  intro k
  induction k with
  | zero => intro l1 l2 l3 σ hF; exact no_s hF
  | succ k ih =>
    intro l1 l2 l3 σ hF
    rw [F_Camp_hearsAny_4] at hF
    refine J.icmp_ge tk_Camp_hearsAny 3 rfl rfl hF (fun hF => ?_) (fun hF => ?_)
    · exact J.fgt [true, true, true, false] (h_Camp_hearsAny_38 n t w _ _ _ hF)
    · refine J.if_ne tk_Camp_hearsAny 1 rfl rfl hF (fun hF => ?_) (fun hF => ?_)
      · exact J.fgt [true, true, true, false] (h_Camp_hearsAny_38 n t w _ _ _ hF)
      · refine J.iald tk_Camp_hearsAny 6 rfl rfl hF (fun v3 hF => ?_)
        refine J.cpI tk_Camp_hearsAny (as := [mI v3]) (rest := [mI l3, mI l1, mR 4 t]) 0 rfl rfl rfl (ckS (md' := md_Camp_reach) lk_0_105 ok_Camp_reach rfl) rfl (by decide) (fun v1 h => c_Camp_reach _ _ _ h) hF (fun v4 hF => ?_)
        refine J.cpI tk_Camp_hearsAny (as := [mR 4 t, mI l1, mI l3, mI v4]) (rest := []) 0 rfl rfl rfl (ckV (md' := md_Camp_isWithin) lk_0_101 ok_Camp_isWithin rfl rfl rfl) rfl (by decide) (fun v1 h => c_Camp_isWithin _ _ _ _ _ _ h) hF (fun v5 hF => ?_)
        exact J.run tk_Camp_hearsAny 3 rfl (ih _ _ _ _ hF)
theorem c_Camp_hearsAny (n : Nat) (t : Nat) (a1 : Int32) (σ : St) (w : Int32) (hF : F_Camp_hearsAny n t a1 σ = some w) : Call md_Camp_hearsAny 1 [mR 4 t, mI a1] σ (some (mI w)) σ := by
  rw [F_Camp_hearsAny] at hF
  refine Call.of ok_Camp_hearsAny.1 (Nat.le_of_ble_eq_true rfl) (L := [some (mR 4 t), some (mI a1), none, none]) rfl ?_
  exact J.run tk_Camp_hearsAny 4 rfl (h_Camp_hearsAny_4 n t w n _ _ _ _ hF)
noncomputable def F_Camp_soreHours_39 (n : Nat) (t : Nat) (K6 : Int32 → Int32 → Int32 → St → Option Int32) (l1 : Int32) (l2 : Int32) (l3 : Int32) (σ : St) : Option Int32 :=
  K6 l1 l2 (l3 + 1) σ
noncomputable def F_Camp_soreHours_26 (n : Nat) (t : Nat) (K6 : Int32 → Int32 → Int32 → St → Option Int32) (l1 : Int32) (l2 : Int32) (l3 : Int32) (σ : St) : Option Int32 :=
  F_Camp_soreHours_39 n t K6 (if (l3 - l2) < 3 then l1 else l1 ||| (1 <<< (l3 &&& 31))) l2 l3 σ
noncomputable def F_Camp_soreHours_6 (n : Nat) (t : Nat) : Nat → Int32 → Int32 → Int32 → St → Option Int32
  | 0, _, _, _, _ => none
  | k + 1, l1, l2, l3, σ =>
    if 8 ≤ l3 then
      some l1
    else
    F_Camp_soreHours_26 n t (F_Camp_soreHours_6 n t k) l1 (if (((σ.1 4 t 13) >>> (l3 &&& 31)) &&& 1) = 1 then l3 else l2) l3 σ
noncomputable def F_Camp_soreHours (n : Nat) (t : Nat) (σ : St) : Option Int32 :=
  F_Camp_soreHours_6 n t n 0 0 0 σ
theorem h_Camp_soreHours_39 (n : Nat) (t : Nat) (w : Int32) (K6 : Int32 → Int32 → Int32 → St → Option Int32) (hK6 : ∀ (l1 : Int32) (l2 : Int32) (l3 : Int32) (σ : St), K6 l1 l2 l3 σ = some w → J md_Camp_soreHours 0 6 [some (mR 4 t), some (mI l1), some (mI l2), some (mI l3)] [] σ (some (mI w)) σ) (l1 : Int32) (l2 : Int32) (l3 : Int32) (σ : St) (hF : F_Camp_soreHours_39 n t K6 l1 l2 l3 σ = some w) : J md_Camp_soreHours 0 39 [some (mR 4 t), some (mI l1), some (mI l2), some (mI l3)] [] σ (some (mI w)) σ := by
  rw [F_Camp_soreHours_39] at hF
  exact J.run tk_Camp_soreHours 2 rfl (hK6 _ _ _ _ hF)
theorem h_Camp_soreHours_26 (n : Nat) (t : Nat) (w : Int32) (K6 : Int32 → Int32 → Int32 → St → Option Int32) (hK6 : ∀ (l1 : Int32) (l2 : Int32) (l3 : Int32) (σ : St), K6 l1 l2 l3 σ = some w → J md_Camp_soreHours 0 6 [some (mR 4 t), some (mI l1), some (mI l2), some (mI l3)] [] σ (some (mI w)) σ) (l1 : Int32) (l2 : Int32) (l3 : Int32) (σ : St) (hF : F_Camp_soreHours_26 n t K6 l1 l2 l3 σ = some w) : J md_Camp_soreHours 0 26 [some (mR 4 t), some (mI l1), some (mI l2), some (mI l3)] [] σ (some (mI w)) σ := by
  rw [F_Camp_soreHours_26] at hF
  by_cases hc : (l3 - l2) < 3
  · simp only [if_pos hc] at hF
    exact J.icmp_ltT' tk_Camp_soreHours 4 rfl rfl hc (h_Camp_soreHours_39 n t w K6 hK6 _ _ _ _ hF)
  · simp only [if_neg hc] at hF
    exact J.icmp_ltF' tk_Camp_soreHours 4 rfl rfl hc (J.run tk_Camp_soreHours 6 rfl (h_Camp_soreHours_39 n t w K6 hK6 _ _ _ _ hF))
theorem h_Camp_soreHours_6 (n : Nat) (t : Nat) (w : Int32) : ∀ (k : Nat) (l1 : Int32) (l2 : Int32) (l3 : Int32) (σ : St), F_Camp_soreHours_6 n t k l1 l2 l3 σ = some w → J md_Camp_soreHours 0 6 [some (mR 4 t), some (mI l1), some (mI l2), some (mI l3)] [] σ (some (mI w)) σ := by
  intro k
  induction k with
  | zero => intro l1 l2 l3 σ hF; exact no_s hF
  | succ k ih =>
    intro l1 l2 l3 σ hF
    rw [F_Camp_soreHours_6] at hF
    refine J.icmp_ge tk_Camp_soreHours 2 rfl rfl hF (fun hF => ?_) (fun hF => ?_)
    · exact J.wI hF (J.reti tk_Camp_soreHours 1 rfl rfl rfl)
    · by_cases hc : (((σ.1 4 t 13) >>> (l3 &&& 31)) &&& 1) = 1
      · simp only [if_pos hc] at hF
        exact J.icmp_neF' tk_Camp_soreHours 7 rfl rfl hc (J.run tk_Camp_soreHours 2 rfl (h_Camp_soreHours_26 n t w (F_Camp_soreHours_6 n t k) ih _ _ _ _ hF))
      · simp only [if_neg hc] at hF
        exact J.icmp_neT' tk_Camp_soreHours 7 rfl rfl hc (h_Camp_soreHours_26 n t w (F_Camp_soreHours_6 n t k) ih _ _ _ _ hF)
theorem c_Camp_soreHours (n : Nat) (t : Nat) (σ : St) (w : Int32) (hF : F_Camp_soreHours n t σ = some w) : Call md_Camp_soreHours 0 [mR 4 t] σ (some (mI w)) σ := by
  rw [F_Camp_soreHours] at hF
  refine Call.of ok_Camp_soreHours.1 (Nat.le_of_ble_eq_true rfl) (L := [some (mR 4 t), none, none, none]) rfl ?_
  exact J.run tk_Camp_soreHours 6 rfl (h_Camp_soreHours_6 n t w n _ _ _ _ hF)
noncomputable def F_Camp_wokenHours (t : Nat) (a1 : Int32) (σ : St) : Option Int32 :=
  (ald σ 6 t a1).bind fun v1 =>
  if v1 = 5 then
    some 0
  else
  some (σ.1 4 t 13)
theorem c_Camp_wokenHours (t : Nat) (a1 : Int32) (σ : St) (w : Int32) (hF : F_Camp_wokenHours t a1 σ = some w) : Call md_Camp_wokenHours 0 [mR 4 t, mI a1] σ (some (mI w)) σ := by
  rw [F_Camp_wokenHours] at hF
  refine Call.of ok_Camp_wokenHours.1 (Nat.le_of_ble_eq_true rfl) (L := [some (mR 4 t), some (mI a1)]) rfl ?_
  refine J.iald tk_Camp_wokenHours 3 rfl rfl hF (fun v1 hF => ?_)
  refine J.icmp_ne tk_Camp_wokenHours 1 rfl rfl hF (fun hF => ?_) (fun hF => ?_)
  · exact J.wI hF (J.reti tk_Camp_wokenHours 2 rfl rfl rfl)
  · exact J.wI hF (J.reti tk_Camp_wokenHours 2 rfl rfl rfl)
noncomputable def F_Camp_reasons_45 (n : Nat) (t : Nat) (l1 : Int32) (l2 : Int32) (s0 : Int32) (s1 : Int32) (σ : St) : Option Int32 :=
  (F_Camp_wokenHours t l1 σ).bind fun v4 =>
  if ((v4 >>> (l2 &&& 31)) &&& 1) = 1 then
    some ((s0 + s1) + 8)
  else
  some ((s0 + s1) + 0)
noncomputable def F_Camp_reasons_27 (n : Nat) (t : Nat) (l1 : Int32) (l2 : Int32) (s0 : Int32) (s1 : Int32) (σ : St) : Option Int32 :=
  (F_Camp_soreHours n t σ).bind fun v3 =>
  F_Camp_reasons_45 n t l1 l2 (s0 + s1) (if ((v3 >>> (l2 &&& 31)) &&& 1) = 1 then 4 else 0) σ
noncomputable def F_Camp_reasons_14 (n : Nat) (t : Nat) (l1 : Int32) (l2 : Int32) (s0 : Int32) (σ : St) : Option Int32 :=
  (F_Camp_hearsAny n t l1 σ).bind fun v2 =>
  F_Camp_reasons_27 n t l1 l2 s0 (if v2 = 0 then 0 else 2) σ
noncomputable def F_Camp_reasons (n : Nat) (t : Nat) (a1 : Int32) (a2 : Int32) (σ : St) : Option Int32 :=
  (F_Camp_feeling t a1 a2 σ).bind fun v1 =>
  F_Camp_reasons_14 n t a1 a2 (if 0 ≤ v1 then 0 else 1) σ
theorem h_Camp_reasons_45 (n : Nat) (t : Nat) (w : Int32) (l1 : Int32) (l2 : Int32) (s0 : Int32) (s1 : Int32) (σ : St) (hF : F_Camp_reasons_45 n t l1 l2 s0 s1 σ = some w) : J md_Camp_reasons 3 45 [some (mR 4 t), some (mI l1), some (mI l2)] [mI s1, mI s0] σ (some (mI w)) σ := by
  rw [F_Camp_reasons_45] at hF
  refine J.cpI tk_Camp_reasons (as := [mR 4 t, mI l1]) (rest := [mI (s0 + s1)]) 3 rfl rfl rfl (ckV (md' := md_Camp_wokenHours) lk_0_127 ok_Camp_wokenHours rfl rfl rfl) rfl (by decide) (fun v1 h => c_Camp_wokenHours _ _ _ _ h) hF (fun v4 hF => ?_)
  refine J.icmp_ne tk_Camp_reasons 5 rfl rfl hF (fun hF => ?_) (fun hF => ?_)
  · exact J.wI hF (J.reti tk_Camp_reasons 2 rfl rfl rfl)
  · exact J.wI hF (J.reti tk_Camp_reasons 3 rfl rfl rfl)
theorem h_Camp_reasons_27 (n : Nat) (t : Nat) (w : Int32) (l1 : Int32) (l2 : Int32) (s0 : Int32) (s1 : Int32) (σ : St) (hF : F_Camp_reasons_27 n t l1 l2 s0 s1 σ = some w) : J md_Camp_reasons 3 27 [some (mR 4 t), some (mI l1), some (mI l2)] [mI s1, mI s0] σ (some (mI w)) σ := by
  rw [F_Camp_reasons_27] at hF
  refine J.cpI tk_Camp_reasons (as := [mR 4 t]) (rest := [mI (s0 + s1)]) 2 rfl rfl rfl (ckV (md' := md_Camp_soreHours) lk_0_123 ok_Camp_soreHours rfl rfl rfl) rfl (by decide) (fun v1 h => c_Camp_soreHours n _ _ _ h) hF (fun v3 hF => ?_)
  by_cases hc : ((v3 >>> (l2 &&& 31)) &&& 1) = 1
  · simp only [if_pos hc] at hF
    exact J.icmp_neF' tk_Camp_reasons 5 rfl rfl hc (J.run tk_Camp_reasons 2 rfl (h_Camp_reasons_45 n t w _ _ _ _ _ hF))
  · simp only [if_neg hc] at hF
    exact J.icmp_neT' tk_Camp_reasons 5 rfl rfl hc (J.run tk_Camp_reasons 1 rfl (h_Camp_reasons_45 n t w _ _ _ _ _ hF))
theorem h_Camp_reasons_14 (n : Nat) (t : Nat) (w : Int32) (l1 : Int32) (l2 : Int32) (s0 : Int32) (σ : St) (hF : F_Camp_reasons_14 n t l1 l2 s0 σ = some w) : J md_Camp_reasons 3 14 [some (mR 4 t), some (mI l1), some (mI l2)] [mI s0] σ (some (mI w)) σ := by
  rw [F_Camp_reasons_14] at hF
  refine J.cpI tk_Camp_reasons (as := [mR 4 t, mI l1]) (rest := [mI s0]) 2 rfl rfl rfl (ckV (md' := md_Camp_hearsAny) lk_0_120 ok_Camp_hearsAny rfl rfl rfl) rfl (by decide) (fun v1 h => c_Camp_hearsAny n _ _ _ _ h) hF (fun v2 hF => ?_)
  by_cases hc : v2 = 0
  · simp only [if_pos hc] at hF
    exact J.if_eqT' tk_Camp_reasons 0 rfl rfl hc (J.run tk_Camp_reasons 1 rfl (h_Camp_reasons_27 n t w _ _ _ _ _ hF))
  · simp only [if_neg hc] at hF
    exact J.if_eqF' tk_Camp_reasons 0 rfl rfl hc (J.run tk_Camp_reasons 2 rfl (h_Camp_reasons_27 n t w _ _ _ _ _ hF))
theorem c_Camp_reasons (n : Nat) (t : Nat) (a1 : Int32) (a2 : Int32) (σ : St) (w : Int32) (hF : F_Camp_reasons n t a1 a2 σ = some w) : Call md_Camp_reasons 3 [mR 4 t, mI a1, mI a2] σ (some (mI w)) σ := by
  rw [F_Camp_reasons] at hF
  refine Call.of ok_Camp_reasons.1 (Nat.le_of_ble_eq_true rfl) (L := [some (mR 4 t), some (mI a1), some (mI a2)]) rfl ?_
  refine J.cpI tk_Camp_reasons (as := [mR 4 t, mI a1, mI a2]) (rest := []) 3 rfl rfl rfl (ckV (md' := md_Camp_feeling) lk_0_117 ok_Camp_feeling rfl rfl rfl) rfl (by decide) (fun v1 h => c_Camp_feeling _ _ _ _ _ h) hF (fun v1 hF => ?_)
  by_cases hc : 0 ≤ v1
  · simp only [if_pos hc] at hF
    exact J.if_geT' tk_Camp_reasons 0 rfl rfl hc (J.run tk_Camp_reasons 1 rfl (h_Camp_reasons_14 n t w _ _ _ _ hF))
  · simp only [if_neg hc] at hF
    exact J.if_geF' tk_Camp_reasons 0 rfl rfl hc (J.run tk_Camp_reasons 2 rfl (h_Camp_reasons_14 n t w _ _ _ _ hF))
noncomputable def F_Camp_sleepingOnes_29 (n : Nat) (t : Nat) (K4 : Int32 → Int32 → Int32 → St → Option Int32) (l1 : Int32) (l3 : Int32) (s0 : Int32) (s1 : Int32) (σ : St) : Option Int32 :=
  K4 l1 (s0 ||| s1) (l3 + 1) σ
noncomputable def F_Camp_sleepingOnes_4 (n : Nat) (t : Nat) : Nat → Int32 → Int32 → Int32 → St → Option Int32
  | 0, _, _, _, _ => none
  | k + 1, l1, l2, l3, σ =>
    if σ.1 4 t 10 ≤ l3 then
      some l2
    else
    (F_Camp_reasons n t l3 l1 σ).bind fun v1 =>
    F_Camp_sleepingOnes_29 n t (F_Camp_sleepingOnes_4 n t k) l1 l3 l2 (if v1 = 0 then 1 <<< (l3 &&& 31) else 0) σ
noncomputable def F_Camp_sleepingOnes (n : Nat) (t : Nat) (a1 : Int32) (σ : St) : Option Int32 :=
  F_Camp_sleepingOnes_4 n t n a1 0 0 σ
theorem h_Camp_sleepingOnes_29 (n : Nat) (t : Nat) (w : Int32) (K4 : Int32 → Int32 → Int32 → St → Option Int32) (hK4 : ∀ (l1 : Int32) (l2 : Int32) (l3 : Int32) (σ : St), K4 l1 l2 l3 σ = some w → J md_Camp_sleepingOnes 4 4 [some (mR 4 t), some (mI l1), some (mI l2), some (mI l3)] [] σ (some (mI w)) σ) (l1 : Int32) (l3 : Int32) (s0 : Int32) (s1 : Int32) (σ : St) (hF : F_Camp_sleepingOnes_29 n t K4 l1 l3 s0 s1 σ = some w) : J md_Camp_sleepingOnes 4 29 [some (mR 4 t), some (mI l1), none, some (mI l3)] [mI s1, mI s0] σ (some (mI w)) σ := by
  rw [F_Camp_sleepingOnes_29] at hF
  exact J.run tk_Camp_sleepingOnes 4 rfl (hK4 _ _ _ _ hF)
theorem h_Camp_sleepingOnes_4 (n : Nat) (t : Nat) (w : Int32) : ∀ (k : Nat) (l1 : Int32) (l2 : Int32) (l3 : Int32) (σ : St), F_Camp_sleepingOnes_4 n t k l1 l2 l3 σ = some w → J md_Camp_sleepingOnes 4 4 [some (mR 4 t), some (mI l1), some (mI l2), some (mI l3)] [] σ (some (mI w)) σ := by
  intro k
  induction k with
  | zero => intro l1 l2 l3 σ hF; exact no_s hF
  | succ k ih =>
    intro l1 l2 l3 σ hF
    rw [F_Camp_sleepingOnes_4] at hF
    refine J.icmp_ge tk_Camp_sleepingOnes 3 rfl rfl hF (fun hF => ?_) (fun hF => ?_)
    · exact J.wI hF (J.reti tk_Camp_sleepingOnes 1 rfl rfl rfl)
    · refine J.cpI tk_Camp_sleepingOnes (as := [mR 4 t, mI l3, mI l1]) (rest := [mI l2]) 4 rfl rfl rfl (ckV (md' := md_Camp_reasons) lk_0_130 ok_Camp_reasons rfl rfl rfl) rfl (by decide) (fun v1 h => c_Camp_reasons n _ _ _ _ _ h) hF (fun v1 hF => ?_)
      by_cases hc : v1 = 0
      · simp only [if_pos hc] at hF
        exact J.if_neF' tk_Camp_sleepingOnes 0 rfl rfl hc (J.run tk_Camp_sleepingOnes 4 rfl (J.fgt [true, true, false, true] (h_Camp_sleepingOnes_29 n t w (F_Camp_sleepingOnes_4 n t k) ih _ _ _ _ _ hF)))
      · simp only [if_neg hc] at hF
        exact J.if_neT' tk_Camp_sleepingOnes 0 rfl rfl hc (J.run tk_Camp_sleepingOnes 1 rfl (J.fgt [true, true, false, true] (h_Camp_sleepingOnes_29 n t w (F_Camp_sleepingOnes_4 n t k) ih _ _ _ _ _ hF)))
theorem c_Camp_sleepingOnes (n : Nat) (t : Nat) (a1 : Int32) (σ : St) (w : Int32) (hF : F_Camp_sleepingOnes n t a1 σ = some w) : Call md_Camp_sleepingOnes 4 [mR 4 t, mI a1] σ (some (mI w)) σ := by
  rw [F_Camp_sleepingOnes] at hF
  refine Call.of ok_Camp_sleepingOnes.1 (Nat.le_of_ble_eq_true rfl) (L := [some (mR 4 t), some (mI a1), none, none]) rfl ?_
  exact J.run tk_Camp_sleepingOnes 4 rfl (h_Camp_sleepingOnes_4 n t w n _ _ _ _ hF)
noncomputable def F_Camp_passHour_57 (n : Nat) (t : Nat) (K15 : Int32 → Int32 → St → Option (Int32 × St)) (l1 : Int32) (l2 : Int32) (s1 : Int32) (s2 : Int32) (s3 : Int32) (σ : St) : Option (Int32 × St) :=
  (ast σ 12 t s1 (s2 + s3)).bind fun σ9 =>
  K15 l1 (l2 + 1) σ9
noncomputable def F_Camp_passHour_15 (n : Nat) (t : Nat) : Nat → Int32 → Int32 → St → Option (Int32 × St)
  | 0, _, _, _ => none
  | k + 1, l1, l2, σ =>
    if σ.1 4 t 10 ≤ l2 then
      bs (si σ 4 t 14 ((σ.1 4 t 14) + 1)) fun σ3 =>
      bs (si σ3 4 t 16 ((σ3.1 4 t 16) + 1)) fun σ4 =>
      some (l1, σ4)
    else
    (ald σ 11 t l2).bind fun v5 =>
    (ast σ 11 t l2 (v5 + ((l1 >>> (l2 &&& 31)) &&& 1))).bind fun σ6 =>
    (ald σ6 12 t l2).bind fun v7 =>
    (F_Camp_isAtRim t l2 σ6).bind fun v8 =>
    F_Camp_passHour_57 n t (F_Camp_passHour_15 n t k) l1 l2 l2 v7 (if v8 = 0 then 0 else 1) σ6
noncomputable def F_Camp_passHour (n : Nat) (t : Nat) (σ : St) : Option (Int32 × St) :=
  (F_Camp_sleepingOnes n t (σ.1 4 t 14) σ).bind fun v1 =>
  (F_Camp_remember t σ).bind fun σ2 =>
  F_Camp_passHour_15 n t n v1 0 σ2
theorem h_Camp_passHour_57 (n : Nat) (t : Nat) (w : (Int32 × St)) (K15 : Int32 → Int32 → St → Option (Int32 × St)) (hK15 : ∀ (l1 : Int32) (l2 : Int32) (σ : St), K15 l1 l2 σ = some w → J md_Camp_passHour 5 15 [some (mR 4 t), some (mI l1), some (mI l2)] [] σ (some (mI w.1)) w.2) (l1 : Int32) (l2 : Int32) (s1 : Int32) (s2 : Int32) (s3 : Int32) (σ : St) (hF : F_Camp_passHour_57 n t K15 l1 l2 s1 s2 s3 σ = some w) : J md_Camp_passHour 5 57 [some (mR 4 t), some (mI l1), some (mI l2)] [mI s3, mI s2, mI s1, mA 12 t] σ (some (mI w.1)) w.2 := by
  rw [F_Camp_passHour_57] at hF
  refine J.iast tk_Camp_passHour 1 rfl rfl hF (fun σ9 hF => ?_)
  exact J.run tk_Camp_passHour 2 rfl (hK15 _ _ _ hF)
theorem h_Camp_passHour_15 (n : Nat) (t : Nat) (w : (Int32 × St)) : ∀ (k : Nat) (l1 : Int32) (l2 : Int32) (σ : St), F_Camp_passHour_15 n t k l1 l2 σ = some w → J md_Camp_passHour 5 15 [some (mR 4 t), some (mI l1), some (mI l2)] [] σ (some (mI w.1)) w.2 := by
  intro k
  induction k with
  | zero => intro l1 l2 σ hF; exact no_s hF
  | succ k ih =>
    intro l1 l2 σ hF
    rw [F_Camp_passHour_15] at hF
    refine J.icmp_ge tk_Camp_passHour 3 rfl rfl hF (fun hF => ?_) (fun hF => ?_)
    · refine J.putI tk_Camp_passHour 5 rfl rfl rfl rfl rfl ⟨rfl, rfl⟩ hF (fun σ3 hF => ?_)
      refine J.putI tk_Camp_passHour 5 rfl rfl rfl rfl rfl ⟨rfl, rfl⟩ hF (fun σ4 hF => ?_)
      exact J.wsI hF (J.reti tk_Camp_passHour 1 rfl rfl rfl)
    · refine J.iald tk_Camp_passHour 4 rfl rfl hF (fun v5 hF => ?_)
      refine J.iast tk_Camp_passHour 6 rfl rfl hF (fun σ6 hF => ?_)
      refine J.iald tk_Camp_passHour 4 rfl rfl hF (fun v7 hF => ?_)
      refine J.cpI tk_Camp_passHour (as := [mR 4 t, mI l2]) (rest := [mI v7, mI l2, mA 12 t]) 2 rfl rfl rfl (ckV (md' := md_Camp_isAtRim) lk_0_87 ok_Camp_isAtRim rfl rfl rfl) rfl (by decide) (fun v1 h => c_Camp_isAtRim _ _ _ _ h) hF (fun v8 hF => ?_)
      by_cases hc : v8 = 0
      · simp only [if_pos hc] at hF
        exact J.if_eqT' tk_Camp_passHour 0 rfl rfl hc (J.run tk_Camp_passHour 1 rfl (h_Camp_passHour_57 n t w (F_Camp_passHour_15 n t k) ih _ _ _ _ _ _ hF))
      · simp only [if_neg hc] at hF
        exact J.if_eqF' tk_Camp_passHour 0 rfl rfl hc (J.run tk_Camp_passHour 2 rfl (h_Camp_passHour_57 n t w (F_Camp_passHour_15 n t k) ih _ _ _ _ _ _ hF))
theorem c_Camp_passHour (n : Nat) (t : Nat) (σ : St) (w : (Int32 × St)) (hF : F_Camp_passHour n t σ = some w) : Call md_Camp_passHour 5 [mR 4 t] σ (some (mI w.1)) w.2 := by
  rw [F_Camp_passHour] at hF
  refine Call.of ok_Camp_passHour.1 (Nat.le_of_ble_eq_true rfl) (L := [some (mR 4 t), none, none]) rfl ?_
  refine J.cpI tk_Camp_passHour (as := [mR 4 t, mI (σ.1 4 t 14)]) (rest := []) 3 rfl rfl rfl (ckV (md' := md_Camp_sleepingOnes) lk_0_80 ok_Camp_sleepingOnes rfl rfl rfl) rfl (by decide) (fun v1 h => c_Camp_sleepingOnes n _ _ _ _ h) hF (fun v1 hF => ?_)
  refine J.csV tk_Camp_passHour (as := [mR 4 t]) (rest := []) 2 rfl rfl rfl (ckV (md' := md_Camp_remember) lk_0_84 ok_Camp_remember rfl rfl rfl) rfl (by decide) (fun s1 h => c_Camp_remember _ _ _ h) hF (fun σ2 hF => ?_)
  exact J.run tk_Camp_passHour 2 rfl (h_Camp_passHour_15 n t w n _ _ _ hF)
noncomputable def F_Tent_hour (n : Nat) (σ : St) : Option (Int32 × St) :=
  if σ.1 4 0 10 = 0 then
    some ((-4), σ)
  else
  if σ.1 4 0 14 < 8 then
    if σ.1 4 0 16 < 40 then
      b2 (F_Camp_passHour n 0 σ) fun v1 σ2 =>
      some (v1, σ2)
    else
    some ((-2), σ)
  else
  some ((-4), σ)
theorem c_Tent_hour (n : Nat) (σ : St) (w : (Int32 × St)) (hF : F_Tent_hour n σ = some w) : Call md_Tent_hour 6 [mR 0 0] σ (some (mI w.1)) w.2 := by
  rw [F_Tent_hour] at hF
  refine Call.of ok_Tent_hour.1 (Nat.le_of_ble_eq_true rfl) (L := [some (mR 0 0)]) rfl ?_
  refine J.if_eq tk_Tent_hour 3 rfl rfl hF (fun hF => ?_) (fun hF => ?_)
  · exact J.wsI hF (J.reti tk_Tent_hour 1 rfl rfl rfl)
  · refine J.icmp_lt tk_Tent_hour 4 rfl rfl hF (fun hF => ?_) (fun hF => ?_)
    · refine J.icmp_lt tk_Tent_hour 4 rfl rfl hF (fun hF => ?_) (fun hF => ?_)
      · refine J.csI tk_Tent_hour (as := [mR 4 0]) (rest := []) 2 rfl rfl rfl (ckV (md' := md_Camp_passHour) lk_5_209 ok_Camp_passHour rfl rfl rfl) rfl (by decide) (fun v1 s1 h => c_Camp_passHour n _ _ (v1, s1) h) hF (fun v1 σ2 hF => ?_)
        exact J.wsI hF (J.reti tk_Tent_hour 0 rfl rfl rfl)
      · exact J.wsI hF (J.reti tk_Tent_hour 1 rfl rfl rfl)
    · exact J.wsI hF (J.reti tk_Tent_hour 1 rfl rfl rfl)
noncomputable def F_Tent_night (σ : St) : Option (Int32 × St) :=
  if σ.1 4 0 10 = 0 then
    some ((-4), σ)
  else
  if σ.1 4 0 15 < 9 then
    bs (si σ 4 0 15 ((σ.1 4 0 15) + 1)) fun σ1 =>
    bs (si σ1 4 0 14 0) fun σ2 =>
    some (σ2.1 4 0 15, σ2)
  else
  some ((-2), σ)
theorem c_Tent_night (σ : St) (w : (Int32 × St)) (hF : F_Tent_night σ = some w) : Call md_Tent_night 0 [mR 0 0] σ (some (mI w.1)) w.2 := by
  rw [F_Tent_night] at hF
  refine Call.of ok_Tent_night.1 (Nat.le_of_ble_eq_true rfl) (L := [some (mR 0 0)]) rfl ?_
  refine J.if_ne tk_Tent_night 3 rfl rfl hF (fun hF => ?_) (fun hF => ?_)
  · refine J.icmp_lt tk_Tent_night 4 rfl rfl hF (fun hF => ?_) (fun hF => ?_)
    · refine J.putI tk_Tent_night 6 rfl rfl rfl rfl rfl ⟨rfl, rfl⟩ hF (fun σ1 hF => ?_)
      refine J.putI tk_Tent_night 3 rfl rfl rfl rfl rfl ⟨rfl, rfl⟩ hF (fun σ2 hF => ?_)
      exact J.wsI hF (J.reti tk_Tent_night 3 rfl rfl rfl)
    · exact J.wsI hF (J.reti tk_Tent_night 1 rfl rfl rfl)
  · exact J.wsI hF (J.reti tk_Tent_night 1 rfl rfl rfl)
noncomputable def F_Camp_recall (n : Nat) (t : Nat) (a1 : Int32) (σ : St) : Option St :=
  if a1 < 0 then
    some σ
  else
  if σ.1 4 t 16 ≤ a1 then
    some σ
  else
  if ((a1 * 25) + 25) ≤ (nI (lenOf 14 t)) then
    bs (si σ 4 t 16 a1) fun σ1 =>
    (ald σ1 14 t (a1 * 25)).bind fun v2 =>
    bs (si σ1 4 t 14 v2) fun σ3 =>
    (ald σ3 14 t ((a1 * 25) + 1)).bind fun v4 =>
    bs (si σ3 4 t 15 v4) fun σ5 =>
    (ald σ5 14 t ((a1 * 25) + 2)).bind fun v6 =>
    bs (si σ5 4 t 11 v6) fun σ7 =>
    (ald σ7 14 t ((a1 * 25) + 3)).bind fun v8 =>
    bs (si σ7 4 t 12 v8) fun σ9 =>
    (ald σ9 14 t ((a1 * 25) + 4)).bind fun v10 =>
    bs (si σ9 4 t 13 v10) fun σ11 =>
    (acp σ11 14 t ((a1 * 25) + 5) 9 t 0 5).bind fun σ12 =>
    (acp σ12 14 t (((a1 * 25) + 5) + 5) 8 t 0 5).bind fun σ13 =>
    (acp σ13 14 t (((a1 * 25) + 5) + 10) 11 t 0 5).bind fun σ14 =>
    (acp σ14 14 t (((a1 * 25) + 5) + 15) 12 t 0 5).bind fun σ15 =>
    (F_Camp_fillPlaces n t σ15).bind fun σ16 =>
    some σ16
  else
  some σ
theorem c_Camp_recall (n : Nat) (t : Nat) (a1 : Int32) (σ : St) (w : St) (hF : F_Camp_recall n t a1 σ = some w) : Call md_Camp_recall 1 [mR 4 t, mI a1] σ none w := by
  rw [F_Camp_recall] at hF
  refine Call.of ok_Camp_recall.1 (Nat.le_of_ble_eq_true rfl) (L := [some (mR 4 t), some (mI a1), none, none]) rfl ?_
  refine J.if_lt tk_Camp_recall 5 rfl rfl hF (fun hF => ?_) (fun hF => ?_)
  · exact J.wsV hF (J.retv tk_Camp_recall 0 rfl rfl rfl)
  · refine J.icmp_ge tk_Camp_recall 3 rfl rfl hF (fun hF => ?_) (fun hF => ?_)
    · exact J.wsV hF (J.retv tk_Camp_recall 0 rfl rfl rfl)
    · refine J.icmp_le tk_Camp_recall 6 rfl rfl hF (fun hF => ?_) (fun hF => ?_)
      · refine J.putI tk_Camp_recall 2 rfl rfl rfl rfl rfl ⟨rfl, rfl⟩ hF (fun σ1 hF => ?_)
        refine J.iald tk_Camp_recall 4 rfl rfl hF (fun v2 hF => ?_)
        refine J.putI tk_Camp_recall 0 rfl rfl rfl rfl rfl ⟨rfl, rfl⟩ hF (fun σ3 hF => ?_)
        refine J.iald tk_Camp_recall 6 rfl rfl hF (fun v4 hF => ?_)
        refine J.putI tk_Camp_recall 0 rfl rfl rfl rfl rfl ⟨rfl, rfl⟩ hF (fun σ5 hF => ?_)
        refine J.iald tk_Camp_recall 6 rfl rfl hF (fun v6 hF => ?_)
        refine J.putI tk_Camp_recall 0 rfl rfl rfl rfl rfl ⟨rfl, rfl⟩ hF (fun σ7 hF => ?_)
        refine J.iald tk_Camp_recall 6 rfl rfl hF (fun v8 hF => ?_)
        refine J.putI tk_Camp_recall 0 rfl rfl rfl rfl rfl ⟨rfl, rfl⟩ hF (fun σ9 hF => ?_)
        refine J.iald tk_Camp_recall 6 rfl rfl hF (fun v10 hF => ?_)
        refine J.putI tk_Camp_recall 0 rfl rfl rfl rfl rfl ⟨rfl, rfl⟩ hF (fun σ11 hF => ?_)
        refine J.acp tk_Camp_recall 11 rfl rfl lk_0_64 rfl rfl hF (fun σ12 hF => ?_)
        refine J.acp tk_Camp_recall 9 rfl rfl lk_0_64 rfl rfl hF (fun σ13 hF => ?_)
        refine J.acp tk_Camp_recall 9 rfl rfl lk_0_64 rfl rfl hF (fun σ14 hF => ?_)
        refine J.acp tk_Camp_recall 9 rfl rfl lk_0_64 rfl rfl hF (fun σ15 hF => ?_)
        refine J.csV tk_Camp_recall (as := [mR 4 t]) (rest := []) 1 rfl rfl rfl (ckV (md' := md_Camp_fillPlaces) lk_0_91 ok_Camp_fillPlaces rfl rfl rfl) rfl (by decide) (fun s1 h => c_Camp_fillPlaces n _ _ _ h) hF (fun σ16 hF => ?_)
        exact J.wsV hF (J.retv tk_Camp_recall 0 rfl rfl rfl)
      · exact J.wsV hF (J.retv tk_Camp_recall 0 rfl rfl rfl)
