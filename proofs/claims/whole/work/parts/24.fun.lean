noncomputable def F_Mod_refused (a1 : Int32) (a2 : Int32) (σ : St) : Option (Int32 × St) :=
  (F_Mod_isRow a1).bind fun v1 =>
  if v1 = 0 then
    some ((-1), σ)
  else
  (ald σ 35 0 a1).bind fun v2 =>
  if 0 ≤ v2 then
    (ald σ 35 0 a1).bind fun v3 =>
    (F_Mod_in a2.toInt64 0 ((v3 - 1).toInt64)).bind fun v4 =>
    if v4 = 0 then
      b2 (F_Mod_find 2 σ) fun v5 σ6 =>
      some (v5, σ6)
    else
    some (0, σ)
  else
  b2 (F_Mod_find 1 σ) fun v7 σ8 =>
  some (v7, σ8)
theorem c_Mod_refused (a1 : Int32) (a2 : Int32) (σ : St) (w : (Int32 × St)) (hF : F_Mod_refused a1 a2 σ = some w) : Call md_Mod_refused 2 [mR 30 0, mI a1, mI a2] σ (some (mI w.1)) w.2 := by
  rw [F_Mod_refused] at hF
  refine Call.of ok_Mod_refused.1 (Nat.le_of_ble_eq_true rfl) (L := [some (mR 30 0), some (mI a1), some (mI a2)]) rfl ?_
  refine J.cpI tk_Mod_refused (as := [mI a1]) (rest := []) 1 rfl rfl rfl (ckS (md' := md_Mod_isRow) lk_6_80 ok_Mod_isRow rfl) rfl (by decide) (fun v1 h => c_Mod_isRow _ _ _ h) hF (fun v1 hF => ?_)
  refine J.if_ne tk_Mod_refused 0 rfl rfl hF (fun hF => ?_) (fun hF => ?_)
  · refine J.iald tk_Mod_refused 3 rfl rfl hF (fun v2 hF => ?_)
    refine J.if_ge tk_Mod_refused 0 rfl rfl hF (fun hF => ?_) (fun hF => ?_)
    · refine J.iald tk_Mod_refused 6 rfl rfl hF (fun v3 hF => ?_)
      refine J.cpI tk_Mod_refused (as := [mL a2.toInt64, mL 0, mL ((v3 - 1).toInt64)]) (rest := []) 3 rfl rfl rfl (ckS (md' := md_Mod_in) lk_6_74 ok_Mod_in rfl) rfl (by decide) (fun v1 h => c_Mod_in _ _ _ _ _ h) hF (fun v4 hF => ?_)
      refine J.if_eq tk_Mod_refused 0 rfl rfl hF (fun hF => ?_) (fun hF => ?_)
      · refine J.csI tk_Mod_refused (as := [mR 30 0, mI 2]) (rest := []) 2 rfl rfl rfl (ckV (md' := md_Mod_find) lk_6_84 ok_Mod_find rfl rfl rfl) rfl (by decide) (fun v1 s1 h => c_Mod_find _ _ (v1, s1) h) hF (fun v5 σ6 hF => ?_)
        exact J.wsI hF (J.reti tk_Mod_refused 0 rfl rfl rfl)
      · exact J.wsI hF (J.reti tk_Mod_refused 2 rfl rfl rfl)
    · refine J.csI tk_Mod_refused (as := [mR 30 0, mI 1]) (rest := []) 2 rfl rfl rfl (ckV (md' := md_Mod_find) lk_6_84 ok_Mod_find rfl rfl rfl) rfl (by decide) (fun v1 s1 h => c_Mod_find _ _ (v1, s1) h) hF (fun v7 σ8 hF => ?_)
      exact J.wsI hF (J.reti tk_Mod_refused 1 rfl rfl rfl)
  · exact J.wsI hF (J.reti tk_Mod_refused 2 rfl rfl rfl)
noncomputable def F_Mod_tell (a1 : Int32) (σ : St) : Option (Int32 × St) :=
  bs (si σ 30 0 9 a1) fun σ1 =>
  some (1, σ1)
theorem c_Mod_tell (a1 : Int32) (σ : St) (w : (Int32 × St)) (hF : F_Mod_tell a1 σ = some w) : Call md_Mod_tell 0 [mR 30 0, mI a1] σ (some (mI w.1)) w.2 := by
  rw [F_Mod_tell] at hF
  refine Call.of ok_Mod_tell.1 (Nat.le_of_ble_eq_true rfl) (L := [some (mR 30 0), some (mI a1)]) rfl ?_
  refine J.putI tk_Mod_tell 2 rfl rfl rfl rfl rfl ⟨rfl, rfl⟩ hF (fun σ1 hF => ?_)
  exact J.wsI hF (J.reti tk_Mod_tell 1 rfl rfl rfl)
noncomputable def F_Mod_lay (a1 : Int32) (a2 : Int32) (a3 : Int32) (σ : St) : Option (Int32 × St) :=
  b2 (F_Mod_refused a1 a2 σ) fun v1 σ2 =>
  if v1 = 0 then
    (ald σ2 36 0 ((40 * a1) + a2)).bind fun v3 =>
    (ast σ2 36 0 ((40 * a1) + a2) a3).bind fun σ4 =>
    b2 (F_Mod_tell v3 σ4) fun v5 σ6 =>
    some (v5, σ6)
  else
  some (v1, σ2)
theorem c_Mod_lay (a1 : Int32) (a2 : Int32) (a3 : Int32) (σ : St) (w : (Int32 × St)) (hF : F_Mod_lay a1 a2 a3 σ = some w) : Call md_Mod_lay 3 [mR 30 0, mI a1, mI a2, mI a3] σ (some (mI w.1)) w.2 := by
  rw [F_Mod_lay] at hF
  refine Call.of ok_Mod_lay.1 (Nat.le_of_ble_eq_true rfl) (L := [some (mR 30 0), some (mI a1), some (mI a2), some (mI a3), none, none]) rfl ?_
  refine J.csI tk_Mod_lay (as := [mR 30 0, mI a1, mI a2]) (rest := []) 3 rfl rfl rfl (ckV (md' := md_Mod_refused) lk_6_92 ok_Mod_refused rfl rfl rfl) rfl (by decide) (fun v1 s1 h => c_Mod_refused _ _ _ (v1, s1) h) hF (fun v1 σ2 hF => ?_)
  refine J.if_eq tk_Mod_lay 2 rfl rfl hF (fun hF => ?_) (fun hF => ?_)
  · refine J.iald tk_Mod_lay 7 rfl rfl hF (fun v3 hF => ?_)
    refine J.iast tk_Mod_lay 9 rfl rfl hF (fun σ4 hF => ?_)
    refine J.csI tk_Mod_lay (as := [mR 30 0, mI v3]) (rest := []) 2 rfl rfl rfl (ckV (md' := md_Mod_tell) lk_6_96 ok_Mod_tell rfl rfl rfl) rfl (by decide) (fun v1 s1 h => c_Mod_tell _ _ (v1, s1) h) hF (fun v5 σ6 hF => ?_)
    exact J.wsI hF (J.reti tk_Mod_lay 0 rfl rfl rfl)
  · exact J.wsI hF (J.reti tk_Mod_lay 1 rfl rfl rfl)
noncomputable def F_Mod_at (a1 : Int32) (a2 : Int32) (σ : St) : Option (Int32 × St) :=
  b2 (F_Mod_refused a1 a2 σ) fun v1 σ2 =>
  if v1 = 0 then
    (ald σ2 36 0 ((40 * a1) + a2)).bind fun v3 =>
    b2 (F_Mod_tell v3 σ2) fun v4 σ5 =>
    some (v4, σ5)
  else
  some (v1, σ2)
theorem c_Mod_at (a1 : Int32) (a2 : Int32) (σ : St) (w : (Int32 × St)) (hF : F_Mod_at a1 a2 σ = some w) : Call md_Mod_at 3 [mR 30 0, mI a1, mI a2] σ (some (mI w.1)) w.2 := by
  rw [F_Mod_at] at hF
  refine Call.of ok_Mod_at.1 (Nat.le_of_ble_eq_true rfl) (L := [some (mR 30 0), some (mI a1), some (mI a2), none]) rfl ?_
  refine J.csI tk_Mod_at (as := [mR 30 0, mI a1, mI a2]) (rest := []) 3 rfl rfl rfl (ckV (md' := md_Mod_refused) lk_6_92 ok_Mod_refused rfl rfl rfl) rfl (by decide) (fun v1 s1 h => c_Mod_refused _ _ _ (v1, s1) h) hF (fun v1 σ2 hF => ?_)
  refine J.if_eq tk_Mod_at 2 rfl rfl hF (fun hF => ?_) (fun hF => ?_)
  · refine J.iald tk_Mod_at 8 rfl rfl hF (fun v3 hF => ?_)
    refine J.csI tk_Mod_at (as := [mR 30 0, mI v3]) (rest := []) 0 rfl rfl rfl (ckV (md' := md_Mod_tell) lk_6_96 ok_Mod_tell rfl rfl rfl) rfl (by decide) (fun v1 s1 h => c_Mod_tell _ _ (v1, s1) h) hF (fun v4 σ5 hF => ?_)
    exact J.wsI hF (J.reti tk_Mod_at 0 rfl rfl rfl)
  · exact J.wsI hF (J.reti tk_Mod_at 2 rfl rfl rfl)
noncomputable def F_Mod_tear (a1 : Int32) (σ : St) : Option (Int32 × St) :=
  (F_Mod_isRow a1).bind fun v1 =>
  if v1 = 0 then
    some ((-1), σ)
  else
  (ald σ 35 0 a1).bind fun v2 =>
  if 0 ≤ v2 then
    (ast σ 35 0 a1 (-1)).bind fun σ3 =>
    some (1, σ3)
  else
  b2 (F_Mod_find 1 σ) fun v4 σ5 =>
  some (v4, σ5)
theorem c_Mod_tear (a1 : Int32) (σ : St) (w : (Int32 × St)) (hF : F_Mod_tear a1 σ = some w) : Call md_Mod_tear 2 [mR 30 0, mI a1] σ (some (mI w.1)) w.2 := by
  rw [F_Mod_tear] at hF
  refine Call.of ok_Mod_tear.1 (Nat.le_of_ble_eq_true rfl) (L := [some (mR 30 0), some (mI a1)]) rfl ?_
  refine J.cpI tk_Mod_tear (as := [mI a1]) (rest := []) 1 rfl rfl rfl (ckS (md' := md_Mod_isRow) lk_6_80 ok_Mod_isRow rfl) rfl (by decide) (fun v1 h => c_Mod_isRow _ _ _ h) hF (fun v1 hF => ?_)
  refine J.if_ne tk_Mod_tear 0 rfl rfl hF (fun hF => ?_) (fun hF => ?_)
  · refine J.iald tk_Mod_tear 3 rfl rfl hF (fun v2 hF => ?_)
    refine J.if_ge tk_Mod_tear 0 rfl rfl hF (fun hF => ?_) (fun hF => ?_)
    · refine J.iast tk_Mod_tear 4 rfl rfl hF (fun σ3 hF => ?_)
      exact J.wsI hF (J.reti tk_Mod_tear 1 rfl rfl rfl)
    · refine J.csI tk_Mod_tear (as := [mR 30 0, mI 1]) (rest := []) 2 rfl rfl rfl (ckV (md' := md_Mod_find) lk_6_84 ok_Mod_find rfl rfl rfl) rfl (by decide) (fun v1 s1 h => c_Mod_find _ _ (v1, s1) h) hF (fun v4 σ5 hF => ?_)
      exact J.wsI hF (J.reti tk_Mod_tear 0 rfl rfl rfl)
  · exact J.wsI hF (J.reti tk_Mod_tear 1 rfl rfl rfl)
noncomputable def F_Mod_isSpan (a1 : Int32) (a2 : Int32) (a3 : Int32) (σ : St) : Option Int32 :=
  if a2 < 0 then
    some 0
  else
  (ald σ 35 0 a1).bind fun v1 =>
  if 0 < (lg_cmp (a2.toInt64 + a3.toInt64) v1.toInt64) then
    some 0
  else
  some 1
theorem c_Mod_isSpan (a1 : Int32) (a2 : Int32) (a3 : Int32) (σ : St) (w : Int32) (hF : F_Mod_isSpan a1 a2 a3 σ = some w) : Call md_Mod_isSpan 0 [mR 30 0, mI a1, mI a2, mI a3] σ (some (mI w)) σ := by
  rw [F_Mod_isSpan] at hF
  refine Call.of ok_Mod_isSpan.1 (Nat.le_of_ble_eq_true rfl) (L := [some (mR 30 0), some (mI a1), some (mI a2), some (mI a3)]) rfl ?_
  refine J.if_lt tk_Mod_isSpan 1 rfl rfl hF (fun hF => ?_) (fun hF => ?_)
  · exact J.wI hF (J.retz tk_Mod_isSpan 1 rfl rfl rfl rfl)
  · refine J.iald tk_Mod_isSpan 8 rfl rfl hF (fun v1 hF => ?_)
    refine J.if_gt tk_Mod_isSpan 2 rfl rfl hF (fun hF => ?_) (fun hF => ?_)
    · exact J.wI hF (J.retz tk_Mod_isSpan 1 rfl rfl rfl rfl)
    · exact J.wI hF (J.retz tk_Mod_isSpan 2 rfl rfl rfl rfl)
noncomputable def F_Mod_copy_45 (n : Nat) (σ : St) : Option (Int32 × St) :=
  b2 (F_Mod_find 1 σ) fun v4 σ5 =>
  some (v4, σ5)
noncomputable def F_Mod_copy_74 (n : Nat) (σ : St) : Option (Int32 × St) :=
  b2 (F_Mod_find 2 σ) fun v8 σ9 =>
  some (v8, σ9)
noncomputable def F_Mod_copy_120 (n : Nat) (K96 : Int32 → Int32 → Int32 → Int32 → Int32 → Int32 → Int32 → St → Option (Int32 × St)) (l1 : Int32) (l2 : Int32) (l3 : Int32) (l4 : Int32) (l5 : Int32) (l6 : Int32) (l7 : Int32) (s0 : Int32) (σ : St) : Option (Int32 × St) :=
  (ald σ 36 0 (((40 * l1) + l2) + s0)).bind fun v11 =>
  (ast σ 36 0 (((40 * l3) + l4) + s0) v11).bind fun σ12 =>
  K96 l1 l2 l3 l4 l5 l6 (l7 + 1) σ12
noncomputable def F_Mod_copy_96 (n : Nat) : Nat → Int32 → Int32 → Int32 → Int32 → Int32 → Int32 → Int32 → St → Option (Int32 × St)
  | 0, _, _, _, _, _, _, _, _ => none
  | k + 1, l1, l2, l3, l4, l5, l6, l7, σ =>
    if l5 ≤ l7 then
      some (1, σ)
    else
    F_Mod_copy_120 n (F_Mod_copy_96 n k) l1 l2 l3 l4 l5 l6 l7 (if l6 = 0 then l7 else (l5 - 1) - l7) σ
noncomputable def F_Mod_copy_91 (n : Nat) (l1 : Int32) (l2 : Int32) (l3 : Int32) (l4 : Int32) (l5 : Int32) (s0 : Int32) (σ : St) : Option (Int32 × St) :=
  F_Mod_copy_96 n n l1 l2 l3 l4 l5 s0 0 σ
noncomputable def F_Mod_copy (n : Nat) (a1 : Int32) (a2 : Int32) (a3 : Int32) (a4 : Int32) (a5 : Int32) (σ : St) : Option (Int32 × St) :=
  (F_Mod_isRow a1).bind fun v1 =>
  if v1 = 0 then
    some ((-1), σ)
  else
  (F_Mod_isRow a3).bind fun v2 =>
  if v2 = 0 then
    some ((-1), σ)
  else
  if 0 ≤ a5 then
    (ald σ 35 0 a1).bind fun v3 =>
    if v3 < 0 then
      F_Mod_copy_45 n σ
    else
    (ald σ 35 0 a3).bind fun v6 =>
    if 0 ≤ v6 then
      (F_Mod_isSpan a1 a2 a5 σ).bind fun v7 =>
      if v7 = 0 then
        F_Mod_copy_74 n σ
      else
      (F_Mod_isSpan a3 a4 a5 σ).bind fun v10 =>
      if v10 = 0 then
        F_Mod_copy_74 n σ
      else
      F_Mod_copy_91 n a1 a2 a3 a4 a5 (if a4 ≤ a2 then 0 else 1) σ
    else
    F_Mod_copy_45 n σ
  else
  b2 (F_Mod_find 5 σ) fun v13 σ14 =>
  some (v13, σ14)
theorem h_Mod_copy_45 (n : Nat) (w : (Int32 × St)) (σ : St) (hF : F_Mod_copy_45 n σ = some w) : J md_Mod_copy 2 45 [some (mR 30 0), none, none, none, none, none, none, none, none] [] σ (some (mI w.1)) w.2 := by
  rw [F_Mod_copy_45] at hF
  refine J.csI tk_Mod_copy (as := [mR 30 0, mI 1]) (rest := []) 2 rfl rfl rfl (ckV (md' := md_Mod_find) lk_6_84 ok_Mod_find rfl rfl rfl) rfl (by decide) (fun v1 s1 h => c_Mod_find _ _ (v1, s1) h) hF (fun v4 σ5 hF => ?_)
  exact J.wsI hF (J.reti tk_Mod_copy 0 rfl rfl rfl)
theorem h_Mod_copy_74 (n : Nat) (w : (Int32 × St)) (σ : St) (hF : F_Mod_copy_74 n σ = some w) : J md_Mod_copy 2 74 [some (mR 30 0), none, none, none, none, none, none, none, none] [] σ (some (mI w.1)) w.2 := by
  rw [F_Mod_copy_74] at hF
  refine J.csI tk_Mod_copy (as := [mR 30 0, mI 2]) (rest := []) 2 rfl rfl rfl (ckV (md' := md_Mod_find) lk_6_84 ok_Mod_find rfl rfl rfl) rfl (by decide) (fun v1 s1 h => c_Mod_find _ _ (v1, s1) h) hF (fun v8 σ9 hF => ?_)
  exact J.wsI hF (J.reti tk_Mod_copy 0 rfl rfl rfl)
theorem h_Mod_copy_120 (n : Nat) (w : (Int32 × St)) (K96 : Int32 → Int32 → Int32 → Int32 → Int32 → Int32 → Int32 → St → Option (Int32 × St)) (hK96 : ∀ (l1 : Int32) (l2 : Int32) (l3 : Int32) (l4 : Int32) (l5 : Int32) (l6 : Int32) (l7 : Int32) (σ : St), K96 l1 l2 l3 l4 l5 l6 l7 σ = some w → J md_Mod_copy 2 96 [some (mR 30 0), some (mI l1), some (mI l2), some (mI l3), some (mI l4), some (mI l5), some (mI l6), some (mI l7), none] [] σ (some (mI w.1)) w.2) (l1 : Int32) (l2 : Int32) (l3 : Int32) (l4 : Int32) (l5 : Int32) (l6 : Int32) (l7 : Int32) (s0 : Int32) (σ : St) (hF : F_Mod_copy_120 n K96 l1 l2 l3 l4 l5 l6 l7 s0 σ = some w) : J md_Mod_copy 2 120 [some (mR 30 0), some (mI l1), some (mI l2), some (mI l3), some (mI l4), some (mI l5), some (mI l6), some (mI l7), none] [mI s0] σ (some (mI w.1)) w.2 := by
  rw [F_Mod_copy_120] at hF
  refine J.iald tk_Mod_copy 19 rfl rfl hF (fun v11 hF => ?_)
  refine J.iast tk_Mod_copy 0 rfl rfl hF (fun σ12 hF => ?_)
  exact J.run tk_Mod_copy 2 rfl (J.fgt [true, true, true, true, true, true, true, true, false] (hK96 _ _ _ _ _ _ _ _ hF))
theorem h_Mod_copy_96 (n : Nat) (w : (Int32 × St)) : ∀ (k : Nat) (l1 : Int32) (l2 : Int32) (l3 : Int32) (l4 : Int32) (l5 : Int32) (l6 : Int32) (l7 : Int32) (σ : St), F_Mod_copy_96 n k l1 l2 l3 l4 l5 l6 l7 σ = some w → J md_Mod_copy 2 96 [some (mR 30 0), some (mI l1), some (mI l2), some (mI l3), some (mI l4), some (mI l5), some (mI l6), some (mI l7), none] [] σ (some (mI w.1)) w.2 := by
  intro k
  induction k with
  | zero => intro l1 l2 l3 l4 l5 l6 l7 σ hF; exact no_s hF
  | succ k ih =>
    intro l1 l2 l3 l4 l5 l6 l7 σ hF
    rw [F_Mod_copy_96] at hF
    refine J.icmp_ge tk_Mod_copy 2 rfl rfl hF (fun hF => ?_) (fun hF => ?_)
    · exact J.wsI hF (J.reti tk_Mod_copy 1 rfl rfl rfl)
    · by_cases hc : l6 = 0
      · simp only [if_pos hc] at hF
        exact J.if_eqT' tk_Mod_copy 1 rfl rfl hc (J.run tk_Mod_copy 1 rfl (h_Mod_copy_120 n w (F_Mod_copy_96 n k) ih _ _ _ _ _ _ _ _ _ hF))
      · simp only [if_neg hc] at hF
        exact J.if_eqF' tk_Mod_copy 1 rfl rfl hc (J.run tk_Mod_copy 6 rfl (h_Mod_copy_120 n w (F_Mod_copy_96 n k) ih _ _ _ _ _ _ _ _ _ hF))
theorem h_Mod_copy_91 (n : Nat) (w : (Int32 × St)) (l1 : Int32) (l2 : Int32) (l3 : Int32) (l4 : Int32) (l5 : Int32) (s0 : Int32) (σ : St) (hF : F_Mod_copy_91 n l1 l2 l3 l4 l5 s0 σ = some w) : J md_Mod_copy 2 91 [some (mR 30 0), some (mI l1), some (mI l2), some (mI l3), some (mI l4), some (mI l5), none, none, none] [mI s0] σ (some (mI w.1)) w.2 := by
  rw [F_Mod_copy_91] at hF
  exact J.run tk_Mod_copy 3 rfl (h_Mod_copy_96 n w n _ _ _ _ _ _ _ _ hF)
theorem c_Mod_copy (n : Nat) (a1 : Int32) (a2 : Int32) (a3 : Int32) (a4 : Int32) (a5 : Int32) (σ : St) (w : (Int32 × St)) (hF : F_Mod_copy n a1 a2 a3 a4 a5 σ = some w) : Call md_Mod_copy 2 [mR 30 0, mI a1, mI a2, mI a3, mI a4, mI a5] σ (some (mI w.1)) w.2 := by
  rw [F_Mod_copy] at hF
  refine Call.of ok_Mod_copy.1 (Nat.le_of_ble_eq_true rfl) (L := [some (mR 30 0), some (mI a1), some (mI a2), some (mI a3), some (mI a4), some (mI a5), none, none, none]) rfl ?_
  refine J.cpI tk_Mod_copy (as := [mI a1]) (rest := []) 1 rfl rfl rfl (ckS (md' := md_Mod_isRow) lk_6_80 ok_Mod_isRow rfl) rfl (by decide) (fun v1 h => c_Mod_isRow _ _ _ h) hF (fun v1 hF => ?_)
  refine J.if_eq tk_Mod_copy 0 rfl rfl hF (fun hF => ?_) (fun hF => ?_)
  · exact J.wsI hF (J.reti tk_Mod_copy 1 rfl rfl rfl)
  · refine J.cpI tk_Mod_copy (as := [mI a3]) (rest := []) 1 rfl rfl rfl (ckS (md' := md_Mod_isRow) lk_6_80 ok_Mod_isRow rfl) rfl (by decide) (fun v1 h => c_Mod_isRow _ _ _ h) hF (fun v2 hF => ?_)
    refine J.if_ne tk_Mod_copy 0 rfl rfl hF (fun hF => ?_) (fun hF => ?_)
    · refine J.if_ge tk_Mod_copy 1 rfl rfl hF (fun hF => ?_) (fun hF => ?_)
      · refine J.iald tk_Mod_copy 3 rfl rfl hF (fun v3 hF => ?_)
        refine J.if_lt tk_Mod_copy 0 rfl rfl hF (fun hF => ?_) (fun hF => ?_)
        · exact J.fgt [true, false, false, false, false, false, false, false, false] (h_Mod_copy_45 n w _ hF)
        · refine J.iald tk_Mod_copy 3 rfl rfl hF (fun v6 hF => ?_)
          refine J.if_ge tk_Mod_copy 0 rfl rfl hF (fun hF => ?_) (fun hF => ?_)
          · refine J.cpI tk_Mod_copy (as := [mR 30 0, mI a1, mI a2, mI a5]) (rest := []) 4 rfl rfl rfl (ckV (md' := md_Mod_isSpan) lk_6_99 ok_Mod_isSpan rfl rfl rfl) rfl (by decide) (fun v1 h => c_Mod_isSpan _ _ _ _ _ h) hF (fun v7 hF => ?_)
            refine J.if_eq tk_Mod_copy 0 rfl rfl hF (fun hF => ?_) (fun hF => ?_)
            · exact J.fgt [true, false, false, false, false, false, false, false, false] (h_Mod_copy_74 n w _ hF)
            · refine J.cpI tk_Mod_copy (as := [mR 30 0, mI a3, mI a4, mI a5]) (rest := []) 4 rfl rfl rfl (ckV (md' := md_Mod_isSpan) lk_6_99 ok_Mod_isSpan rfl rfl rfl) rfl (by decide) (fun v1 h => c_Mod_isSpan _ _ _ _ _ h) hF (fun v10 hF => ?_)
              refine J.if_ne tk_Mod_copy 0 rfl rfl hF (fun hF => ?_) (fun hF => ?_)
              · by_cases hc : a4 ≤ a2
                · simp only [if_pos hc] at hF
                  exact J.icmp_geT' tk_Mod_copy 2 rfl rfl hc (J.run tk_Mod_copy 1 rfl (h_Mod_copy_91 n w _ _ _ _ _ _ _ hF))
                · simp only [if_neg hc] at hF
                  exact J.icmp_geF' tk_Mod_copy 2 rfl rfl hc (J.run tk_Mod_copy 2 rfl (h_Mod_copy_91 n w _ _ _ _ _ _ _ hF))
              · exact J.fgt [true, false, false, false, false, false, false, false, false] (h_Mod_copy_74 n w _ hF)
          · exact J.fgt [true, false, false, false, false, false, false, false, false] (h_Mod_copy_45 n w _ hF)
      · refine J.csI tk_Mod_copy (as := [mR 30 0, mI 5]) (rest := []) 2 rfl rfl rfl (ckV (md' := md_Mod_find) lk_6_84 ok_Mod_find rfl rfl rfl) rfl (by decide) (fun v1 s1 h => c_Mod_find _ _ (v1, s1) h) hF (fun v13 σ14 hF => ?_)
        exact J.wsI hF (J.reti tk_Mod_copy 0 rfl rfl rfl)
    · exact J.wsI hF (J.reti tk_Mod_copy 1 rfl rfl rfl)
noncomputable def F_Mod_mean_44 (n : Nat) : Nat → Int32 → Int64 → Int32 → St → Option (Int32 × St)
  | 0, _, _, _, _ => none
  | k + 1, l1, l2, l4, σ =>
    (ald σ 35 0 l1).bind fun v4 =>
    if v4 ≤ l4 then
      (ald σ 35 0 l1).bind fun v5 =>
      (dvL l2 v5.toInt64).bind fun v6 =>
      b2 (F_Mod_tell v6.toInt32 σ) fun v7 σ8 =>
      some (v7, σ8)
    else
    (ald σ 36 0 ((40 * l1) + l4)).bind fun v9 =>
    (F_Mod_mean_44 n k) l1 (l2 + v9.toInt64) (l4 + 1) σ
noncomputable def F_Mod_mean (n : Nat) (a1 : Int32) (σ : St) : Option (Int32 × St) :=
  (F_Mod_isRow a1).bind fun v1 =>
  if v1 = 0 then
    some ((-1), σ)
  else
  (ald σ 35 0 a1).bind fun v2 =>
  if 0 ≤ v2 then
    (ald σ 35 0 a1).bind fun v3 =>
    if v3 = 0 then
      b2 (F_Mod_find 4 σ) fun v10 σ11 =>
      some (v10, σ11)
    else
    F_Mod_mean_44 n n a1 0 0 σ
  else
  b2 (F_Mod_find 1 σ) fun v12 σ13 =>
  some (v12, σ13)
theorem h_Mod_mean_44 (n : Nat) (w : (Int32 × St)) : ∀ (k : Nat) (l1 : Int32) (l2 : Int64) (l4 : Int32) (σ : St), F_Mod_mean_44 n k l1 l2 l4 σ = some w → J md_Mod_mean 2 44 [some (mR 30 0), some (mI l1), some (mL l2), none, some (mI l4)] [] σ (some (mI w.1)) w.2 := by
  intro k
  induction k with
  | zero => intro l1 l2 l4 σ hF; exact no_s hF
  | succ k ih =>
    intro l1 l2 l4 σ hF
    rw [F_Mod_mean_44] at hF
    refine J.iald tk_Mod_mean 4 rfl rfl hF (fun v4 hF => ?_)
    refine J.icmp_ge tk_Mod_mean 0 rfl rfl hF (fun hF => ?_) (fun hF => ?_)
    · refine J.iald tk_Mod_mean 5 rfl rfl hF (fun v5 hF => ?_)
      refine J.ldiv tk_Mod_mean 1 rfl rfl hF (fun v6 hF => ?_)
      refine J.csI tk_Mod_mean (as := [mR 30 0, mI v6.toInt32]) (rest := []) 1 rfl rfl rfl (ckV (md' := md_Mod_tell) lk_6_96 ok_Mod_tell rfl rfl rfl) rfl (by decide) (fun v1 s1 h => c_Mod_tell _ _ (v1, s1) h) hF (fun v7 σ8 hF => ?_)
      exact J.wsI hF (J.reti tk_Mod_mean 0 rfl rfl rfl)
    · refine J.iald tk_Mod_mean 8 rfl rfl hF (fun v9 hF => ?_)
      exact J.run tk_Mod_mean 5 rfl (ih _ _ _ _ hF)
theorem c_Mod_mean (n : Nat) (a1 : Int32) (σ : St) (w : (Int32 × St)) (hF : F_Mod_mean n a1 σ = some w) : Call md_Mod_mean 2 [mR 30 0, mI a1] σ (some (mI w.1)) w.2 := by
  rw [F_Mod_mean] at hF
  refine Call.of ok_Mod_mean.1 (Nat.le_of_ble_eq_true rfl) (L := [some (mR 30 0), some (mI a1), none, none, none]) rfl ?_
  refine J.cpI tk_Mod_mean (as := [mI a1]) (rest := []) 1 rfl rfl rfl (ckS (md' := md_Mod_isRow) lk_6_80 ok_Mod_isRow rfl) rfl (by decide) (fun v1 h => c_Mod_isRow _ _ _ h) hF (fun v1 hF => ?_)
  refine J.if_ne tk_Mod_mean 0 rfl rfl hF (fun hF => ?_) (fun hF => ?_)
  · refine J.iald tk_Mod_mean 3 rfl rfl hF (fun v2 hF => ?_)
    refine J.if_ge tk_Mod_mean 0 rfl rfl hF (fun hF => ?_) (fun hF => ?_)
    · refine J.iald tk_Mod_mean 3 rfl rfl hF (fun v3 hF => ?_)
      refine J.if_ne tk_Mod_mean 0 rfl rfl hF (fun hF => ?_) (fun hF => ?_)
      · exact J.run tk_Mod_mean 4 rfl (h_Mod_mean_44 n w n _ _ _ _ hF)
      · refine J.csI tk_Mod_mean (as := [mR 30 0, mI 4]) (rest := []) 2 rfl rfl rfl (ckV (md' := md_Mod_find) lk_6_84 ok_Mod_find rfl rfl rfl) rfl (by decide) (fun v1 s1 h => c_Mod_find _ _ (v1, s1) h) hF (fun v10 σ11 hF => ?_)
        exact J.wsI hF (J.reti tk_Mod_mean 0 rfl rfl rfl)
    · refine J.csI tk_Mod_mean (as := [mR 30 0, mI 1]) (rest := []) 2 rfl rfl rfl (ckV (md' := md_Mod_find) lk_6_84 ok_Mod_find rfl rfl rfl) rfl (by decide) (fun v1 s1 h => c_Mod_find _ _ (v1, s1) h) hF (fun v12 σ13 hF => ?_)
      exact J.wsI hF (J.reti tk_Mod_mean 0 rfl rfl rfl)
  · exact J.wsI hF (J.reti tk_Mod_mean 1 rfl rfl rfl)
noncomputable def F_Mod_isText (a1 : Int32) : Option Int32 :=
  (F_Mod_in a1.toInt64 0 3).bind fun v1 =>
  some (v1 &&& 1)
theorem c_Mod_isText (a1 : Int32) (σ : St) (w : Int32) (hF : F_Mod_isText a1 = some w) : Call md_Mod_isText 1 [mI a1] σ (some (mI w)) σ := by
  rw [F_Mod_isText] at hF
  refine Call.of ok_Mod_isText.1 (Nat.le_of_ble_eq_true rfl) (L := [some (mI a1)]) rfl ?_
  refine J.cpI tk_Mod_isText (as := [mL a1.toInt64, mL 0, mL 3]) (rest := []) 4 rfl rfl rfl (ckS (md' := md_Mod_in) lk_6_74 ok_Mod_in rfl) rfl (by decide) (fun v1 h => c_Mod_in _ _ _ _ _ h) hF (fun v1 hF => ?_)
  exact J.wI hF (J.retz tk_Mod_isText 0 rfl rfl rfl rfl)
noncomputable def F_Mod_text_34 (n : Nat) : Nat → Int32 → Int32 → Int32 → St → Option (Int32 × St)
  | 0, _, _, _, _ => none
  | k + 1, l1, l2, l3, σ =>
    if 60 ≤ l3 then
      some (l2, σ)
    else
    (ast σ 38 0 ((60 * l1) + l3) 32).bind fun σ3 =>
    (F_Mod_text_34 n k) l1 l2 (l3 + 1) σ3
noncomputable def F_Mod_text (n : Nat) (a1 : Int32) (a2 : Int32) (σ : St) : Option (Int32 × St) :=
  (F_Mod_isText a1).bind fun v1 =>
  if v1 = 0 then
    some ((-1), σ)
  else
  if a2 ≤ 60 then
    if 0 ≤ a2 then
      (ast σ 37 0 a1 a2).bind fun σ2 =>
      F_Mod_text_34 n n a1 a2 0 σ2
    else
    b2 (F_Mod_find 5 σ) fun v4 σ5 =>
    some (v4, σ5)
  else
  some ((-1), σ)
theorem h_Mod_text_34 (n : Nat) (w : (Int32 × St)) : ∀ (k : Nat) (l1 : Int32) (l2 : Int32) (l3 : Int32) (σ : St), F_Mod_text_34 n k l1 l2 l3 σ = some w → J md_Mod_text 2 34 [some (mR 30 0), some (mI l1), some (mI l2), some (mI l3)] [] σ (some (mI w.1)) w.2 := by
  intro k
  induction k with
  | zero => intro l1 l2 l3 σ hF; exact no_s hF
  | succ k ih =>
    intro l1 l2 l3 σ hF
    rw [F_Mod_text_34] at hF
    refine J.icmp_ge tk_Mod_text 2 rfl rfl hF (fun hF => ?_) (fun hF => ?_)
    · exact J.wsI hF (J.reti tk_Mod_text 1 rfl rfl rfl)
    · refine J.iast tk_Mod_text 8 rfl rfl hF (fun σ3 hF => ?_)
      exact J.run tk_Mod_text 2 rfl (ih _ _ _ _ hF)
theorem c_Mod_text (n : Nat) (a1 : Int32) (a2 : Int32) (σ : St) (w : (Int32 × St)) (hF : F_Mod_text n a1 a2 σ = some w) : Call md_Mod_text 2 [mR 30 0, mI a1, mI a2] σ (some (mI w.1)) w.2 := by
  rw [F_Mod_text] at hF
  refine Call.of ok_Mod_text.1 (Nat.le_of_ble_eq_true rfl) (L := [some (mR 30 0), some (mI a1), some (mI a2), none]) rfl ?_
  refine J.cpI tk_Mod_text (as := [mI a1]) (rest := []) 1 rfl rfl rfl (ckS (md' := md_Mod_isText) lk_6_103 ok_Mod_isText rfl) rfl (by decide) (fun v1 h => c_Mod_isText _ _ _ h) hF (fun v1 hF => ?_)
  refine J.if_eq tk_Mod_text 0 rfl rfl hF (fun hF => ?_) (fun hF => ?_)
  · exact J.wsI hF (J.reti tk_Mod_text 1 rfl rfl rfl)
  · refine J.icmp_le tk_Mod_text 2 rfl rfl hF (fun hF => ?_) (fun hF => ?_)
    · refine J.if_ge tk_Mod_text 1 rfl rfl hF (fun hF => ?_) (fun hF => ?_)
      · refine J.iast tk_Mod_text 4 rfl rfl hF (fun σ2 hF => ?_)
        exact J.run tk_Mod_text 2 rfl (h_Mod_text_34 n w n _ _ _ _ hF)
      · refine J.csI tk_Mod_text (as := [mR 30 0, mI 5]) (rest := []) 2 rfl rfl rfl (ckV (md' := md_Mod_find) lk_6_84 ok_Mod_find rfl rfl rfl) rfl (by decide) (fun v1 s1 h => c_Mod_find _ _ (v1, s1) h) hF (fun v4 σ5 hF => ?_)
        exact J.wsI hF (J.reti tk_Mod_text 0 rfl rfl rfl)
    · exact J.wsI hF (J.reti tk_Mod_text 1 rfl rfl rfl)
noncomputable def F_Mod_put (a1 : Int32) (a2 : Int32) (a3 : Int32) (σ : St) : Option (Int32 × St) :=
  (F_Mod_isText a1).bind fun v1 =>
  if v1 = 0 then
    some ((-1), σ)
  else
  (ald σ 37 0 a1).bind fun v2 =>
  if 0 ≤ v2 then
    (ald σ 37 0 a1).bind fun v3 =>
    (F_Mod_in a2.toInt64 0 ((v3 - 1).toInt64)).bind fun v4 =>
    if v4 = 0 then
      b2 (F_Mod_find 2 σ) fun v7 σ8 =>
      some (v7, σ8)
    else
    (ald σ 38 0 ((60 * a1) + a2)).bind fun v5 =>
    (ast σ 38 0 ((60 * a1) + a2) a3.toInt8.toInt32).bind fun σ6 =>
    some (v5 + 1000, σ6)
  else
  b2 (F_Mod_find 1 σ) fun v9 σ10 =>
  some (v9, σ10)
theorem c_Mod_put (a1 : Int32) (a2 : Int32) (a3 : Int32) (σ : St) (w : (Int32 × St)) (hF : F_Mod_put a1 a2 a3 σ = some w) : Call md_Mod_put 2 [mR 30 0, mI a1, mI a2, mI a3] σ (some (mI w.1)) w.2 := by
  rw [F_Mod_put] at hF
  refine Call.of ok_Mod_put.1 (Nat.le_of_ble_eq_true rfl) (L := [some (mR 30 0), some (mI a1), some (mI a2), some (mI a3), none]) rfl ?_
  refine J.cpI tk_Mod_put (as := [mI a1]) (rest := []) 1 rfl rfl rfl (ckS (md' := md_Mod_isText) lk_6_103 ok_Mod_isText rfl) rfl (by decide) (fun v1 h => c_Mod_isText _ _ _ h) hF (fun v1 hF => ?_)
  refine J.if_ne tk_Mod_put 0 rfl rfl hF (fun hF => ?_) (fun hF => ?_)
  · refine J.iald tk_Mod_put 3 rfl rfl hF (fun v2 hF => ?_)
    refine J.if_ge tk_Mod_put 0 rfl rfl hF (fun hF => ?_) (fun hF => ?_)
    · refine J.iald tk_Mod_put 6 rfl rfl hF (fun v3 hF => ?_)
      refine J.cpI tk_Mod_put (as := [mL a2.toInt64, mL 0, mL ((v3 - 1).toInt64)]) (rest := []) 3 rfl rfl rfl (ckS (md' := md_Mod_in) lk_6_74 ok_Mod_in rfl) rfl (by decide) (fun v1 h => c_Mod_in _ _ _ _ _ h) hF (fun v4 hF => ?_)
      refine J.if_ne tk_Mod_put 0 rfl rfl hF (fun hF => ?_) (fun hF => ?_)
      · refine J.iald tk_Mod_put 7 rfl rfl hF (fun v5 hF => ?_)
        refine J.iast tk_Mod_put 10 rfl rfl hF (fun σ6 hF => ?_)
        exact J.wsI hF (J.reti tk_Mod_put 3 rfl rfl rfl)
      · refine J.csI tk_Mod_put (as := [mR 30 0, mI 2]) (rest := []) 2 rfl rfl rfl (ckV (md' := md_Mod_find) lk_6_84 ok_Mod_find rfl rfl rfl) rfl (by decide) (fun v1 s1 h => c_Mod_find _ _ (v1, s1) h) hF (fun v7 σ8 hF => ?_)
        exact J.wsI hF (J.reti tk_Mod_put 0 rfl rfl rfl)
    · refine J.csI tk_Mod_put (as := [mR 30 0, mI 1]) (rest := []) 2 rfl rfl rfl (ckV (md' := md_Mod_find) lk_6_84 ok_Mod_find rfl rfl rfl) rfl (by decide) (fun v1 s1 h => c_Mod_find _ _ (v1, s1) h) hF (fun v9 σ10 hF => ?_)
      exact J.wsI hF (J.reti tk_Mod_put 0 rfl rfl rfl)
  · exact J.wsI hF (J.reti tk_Mod_put 1 rfl rfl rfl)
noncomputable def F_Mod_here (σ : St) : Option Int32 :=
  (ald σ 38 0 ((σ.1 30 0 14) + (σ.1 30 0 15))).bind fun v1 =>
  some v1
theorem c_Mod_here (σ : St) (w : Int32) (hF : F_Mod_here σ = some w) : Call md_Mod_here 0 [mR 30 0] σ (some (mI w)) σ := by
  rw [F_Mod_here] at hF
  refine Call.of ok_Mod_here.1 (Nat.le_of_ble_eq_true rfl) (L := [some (mR 30 0)]) rfl ?_
  refine J.iald tk_Mod_here 7 rfl rfl hF (fun v1 hF => ?_)
  exact J.wI hF (J.reti tk_Mod_here 0 rfl rfl rfl)
noncomputable def F_Mod_figure (a1 : Int32) (σ : St) : Option (Int32 × St) :=
  if σ.1 30 0 15 = σ.1 30 0 16 then
    some ((-9), σ)
  else
  (F_Mod_here σ).bind fun v1 =>
  (F_Mod_in v1.toInt64 48 ((48 + a1).toInt64)).bind fun v2 =>
  if v2 = 0 then
    some ((-9), σ)
  else
  bs (si σ 30 0 15 ((σ.1 30 0 15) + 1)) fun σ3 =>
  (ald σ3 38 0 (((σ3.1 30 0 14) + (σ3.1 30 0 15)) - 1)).bind fun v4 =>
  some (v4 - 48, σ3)
theorem c_Mod_figure (a1 : Int32) (σ : St) (w : (Int32 × St)) (hF : F_Mod_figure a1 σ = some w) : Call md_Mod_figure 1 [mR 30 0, mI a1] σ (some (mI w.1)) w.2 := by
  rw [F_Mod_figure] at hF
  refine Call.of ok_Mod_figure.1 (Nat.le_of_ble_eq_true rfl) (L := [some (mR 30 0), some (mI a1)]) rfl ?_
  refine J.icmp_eq tk_Mod_figure 4 rfl rfl hF (fun hF => ?_) (fun hF => ?_)
  · exact J.wsI hF (J.reti tk_Mod_figure 1 rfl rfl rfl)
  · refine J.cpI tk_Mod_figure (as := [mR 30 0]) (rest := []) 1 rfl rfl rfl (ckV (md' := md_Mod_here) lk_6_115 ok_Mod_here rfl rfl rfl) rfl (by decide) (fun v1 h => c_Mod_here _ _ h) hF (fun v1 hF => ?_)
    refine J.cpI tk_Mod_figure (as := [mL v1.toInt64, mL 48, mL ((48 + a1).toInt64)]) (rest := []) 6 rfl rfl rfl (ckS (md' := md_Mod_in) lk_6_74 ok_Mod_in rfl) rfl (by decide) (fun v1 h => c_Mod_in _ _ _ _ _ h) hF (fun v2 hF => ?_)
    refine J.if_ne tk_Mod_figure 0 rfl rfl hF (fun hF => ?_) (fun hF => ?_)
    · refine J.putI tk_Mod_figure 5 rfl rfl rfl rfl rfl ⟨rfl, rfl⟩ hF (fun σ3 hF => ?_)
      refine J.iald tk_Mod_figure 9 rfl rfl hF (fun v4 hF => ?_)
      exact J.wsI hF (J.reti tk_Mod_figure 2 rfl rfl rfl)
    · exact J.wsI hF (J.reti tk_Mod_figure 1 rfl rfl rfl)
noncomputable def F_Mod_skip_0 (n : Nat) : Nat → St → Option St
  | 0, _ => none
  | k + 1, σ =>
    if σ.1 30 0 16 ≤ σ.1 30 0 15 then
      some σ
    else
    (F_Mod_here σ).bind fun v1 =>
    if v1 = 32 then
      bs (si σ 30 0 15 ((σ.1 30 0 15) + 1)) fun σ2 =>
      (F_Mod_skip_0 n k) σ2
    else
    some σ
noncomputable def F_Mod_skip (n : Nat) (σ : St) : Option St :=
  F_Mod_skip_0 n n σ
theorem h_Mod_skip_0 (n : Nat) (w : St) : ∀ (k : Nat) (σ : St), F_Mod_skip_0 n k σ = some w → J md_Mod_skip 1 0 [some (mR 30 0)] [] σ none w := by
  intro k
  induction k with
  | zero => intro σ hF; exact no_s hF
  | succ k ih =>
    intro σ hF
    rw [F_Mod_skip_0] at hF
    refine J.icmp_ge tk_Mod_skip 4 rfl rfl hF (fun hF => ?_) (fun hF => ?_)
    · exact J.wsV hF (J.retv tk_Mod_skip 0 rfl rfl rfl)
    · refine J.cpI tk_Mod_skip (as := [mR 30 0]) (rest := []) 1 rfl rfl rfl (ckV (md' := md_Mod_here) lk_6_115 ok_Mod_here rfl rfl rfl) rfl (by decide) (fun v1 h => c_Mod_here _ _ h) hF (fun v1 hF => ?_)
      refine J.icmp_ne tk_Mod_skip 1 rfl rfl hF (fun hF => ?_) (fun hF => ?_)
      · exact J.wsV hF (J.retv tk_Mod_skip 0 rfl rfl rfl)
      · refine J.putI tk_Mod_skip 5 rfl rfl rfl rfl rfl ⟨rfl, rfl⟩ hF (fun σ2 hF => ?_)
        exact J.run tk_Mod_skip 1 rfl (ih _ hF)
theorem c_Mod_skip (n : Nat) (σ : St) (w : St) (hF : F_Mod_skip n σ = some w) : Call md_Mod_skip 1 [mR 30 0] σ none w := by
  rw [F_Mod_skip] at hF
  refine Call.of ok_Mod_skip.1 (Nat.le_of_ble_eq_true rfl) (L := [some (mR 30 0)]) rfl ?_
  exact h_Mod_skip_0 n w n _ hF
noncomputable def F_Mod_readsCold_38 (n : Nat) : Nat → Int32 → St → Option (Int32 × St)
  | 0, _, _ => none
  | k + 1, l1, σ =>
    if 8 ≤ l1 then
      some (1, σ)
    else
    b2 (F_Mod_figure 9 σ) fun v4 σ5 =>
    (ast σ5 40 0 l1 v4).bind fun σ6 =>
    (ald σ6 40 0 l1).bind fun v7 =>
    if v7 = (-9) then
      some (0, σ6)
    else
    (F_Mod_readsCold_38 n k) (l1 + 1) σ6
noncomputable def F_Mod_readsCold (n : Nat) (σ : St) : Option (Int32 × St) :=
  (F_Mod_skip n σ).bind fun σ1 =>
  if σ1.1 30 0 15 = σ1.1 30 0 16 then
    some (0, σ1)
  else
  (F_Mod_here σ1).bind fun v2 =>
  if v2 = 99 then
    bs (si σ1 30 0 15 ((σ1.1 30 0 15) + 1)) fun σ3 =>
    F_Mod_readsCold_38 n n 0 σ3
  else
  some (0, σ1)
theorem h_Mod_readsCold_38 (n : Nat) (w : (Int32 × St)) : ∀ (k : Nat) (l1 : Int32) (σ : St), F_Mod_readsCold_38 n k l1 σ = some w → J md_Mod_readsCold 2 38 [some (mR 30 0), some (mI l1)] [] σ (some (mI w.1)) w.2 := by
  intro k
  induction k with
  | zero => intro l1 σ hF; exact no_s hF
  | succ k ih =>
    intro l1 σ hF
    rw [F_Mod_readsCold_38] at hF
    refine J.icmp_ge tk_Mod_readsCold 2 rfl rfl hF (fun hF => ?_) (fun hF => ?_)
    · exact J.wsI hF (J.retz tk_Mod_readsCold 1 rfl rfl rfl rfl)
    · refine J.csI tk_Mod_readsCold (as := [mR 30 0, mI 9]) (rest := [mI l1, mA 40 0]) 5 rfl rfl rfl (ckV (md' := md_Mod_figure) lk_6_124 ok_Mod_figure rfl rfl rfl) rfl (by decide) (fun v1 s1 h => c_Mod_figure _ _ (v1, s1) h) hF (fun v4 σ5 hF => ?_)
      refine J.iast tk_Mod_readsCold 0 rfl rfl hF (fun σ6 hF => ?_)
      refine J.iald tk_Mod_readsCold 3 rfl rfl hF (fun v7 hF => ?_)
      refine J.icmp_ne tk_Mod_readsCold 1 rfl rfl hF (fun hF => ?_) (fun hF => ?_)
      · exact J.run tk_Mod_readsCold 2 rfl (ih _ _ hF)
      · exact J.wsI hF (J.retz tk_Mod_readsCold 1 rfl rfl rfl rfl)
theorem c_Mod_readsCold (n : Nat) (σ : St) (w : (Int32 × St)) (hF : F_Mod_readsCold n σ = some w) : Call md_Mod_readsCold 2 [mR 30 0] σ (some (mI w.1)) w.2 := by
  rw [F_Mod_readsCold] at hF
  refine Call.of ok_Mod_readsCold.1 (Nat.le_of_ble_eq_true rfl) (L := [some (mR 30 0), none]) rfl ?_
  refine J.csV tk_Mod_readsCold (as := [mR 30 0]) (rest := []) 1 rfl rfl rfl (ckV (md' := md_Mod_skip) lk_6_121 ok_Mod_skip rfl rfl rfl) rfl (by decide) (fun s1 h => c_Mod_skip n _ _ h) hF (fun σ1 hF => ?_)
  refine J.icmp_eq tk_Mod_readsCold 4 rfl rfl hF (fun hF => ?_) (fun hF => ?_)
  · exact J.wsI hF (J.retz tk_Mod_readsCold 1 rfl rfl rfl rfl)
  · refine J.cpI tk_Mod_readsCold (as := [mR 30 0]) (rest := []) 1 rfl rfl rfl (ckV (md' := md_Mod_here) lk_6_115 ok_Mod_here rfl rfl rfl) rfl (by decide) (fun v1 h => c_Mod_here _ _ h) hF (fun v2 hF => ?_)
    refine J.icmp_eq tk_Mod_readsCold 1 rfl rfl hF (fun hF => ?_) (fun hF => ?_)
    · refine J.putI tk_Mod_readsCold 5 rfl rfl rfl rfl rfl ⟨rfl, rfl⟩ hF (fun σ3 hF => ?_)
      exact J.run tk_Mod_readsCold 2 rfl (h_Mod_readsCold_38 n w n _ _ hF)
    · exact J.wsI hF (J.retz tk_Mod_readsCold 1 rfl rfl rfl rfl)
noncomputable def F_Mod_kindHere (σ : St) : Option Int32 :=
  (F_Mod_here σ).bind fun v1 =>
  if v1 = 115 then
    some 0
  else
  if v1 = 110 then
    some 1
  else
  if v1 = 100 then
    some 2
  else
  if v1 = 104 then
    some 3
  else
  if v1 = 116 then
    some 4
  else
  if v1 = 107 then
    some 5
  else
  some (-9)
theorem c_Mod_kindHere (σ : St) (w : Int32) (hF : F_Mod_kindHere σ = some w) : Call md_Mod_kindHere 1 [mR 30 0] σ (some (mI w)) σ := by
  rw [F_Mod_kindHere] at hF
  refine Call.of ok_Mod_kindHere.1 (Nat.le_of_ble_eq_true rfl) (L := [some (mR 30 0), none]) rfl ?_
  refine J.cpI tk_Mod_kindHere (as := [mR 30 0]) (rest := []) 1 rfl rfl rfl (ckV (md' := md_Mod_here) lk_6_115 ok_Mod_here rfl rfl rfl) rfl (by decide) (fun v1 h => c_Mod_here _ _ h) hF (fun v1 hF => ?_)
  refine J.icmp_ne tk_Mod_kindHere 3 rfl rfl hF (fun hF => ?_) (fun hF => ?_)
  · refine J.icmp_ne tk_Mod_kindHere 2 rfl rfl hF (fun hF => ?_) (fun hF => ?_)
    · refine J.icmp_ne tk_Mod_kindHere 2 rfl rfl hF (fun hF => ?_) (fun hF => ?_)
      · refine J.icmp_ne tk_Mod_kindHere 2 rfl rfl hF (fun hF => ?_) (fun hF => ?_)
        · refine J.icmp_ne tk_Mod_kindHere 2 rfl rfl hF (fun hF => ?_) (fun hF => ?_)
          · refine J.icmp_ne tk_Mod_kindHere 2 rfl rfl hF (fun hF => ?_) (fun hF => ?_)
            · exact J.wI hF (J.reti tk_Mod_kindHere 1 rfl rfl rfl)
            · exact J.wI hF (J.reti tk_Mod_kindHere 2 rfl rfl rfl)
          · exact J.wI hF (J.reti tk_Mod_kindHere 2 rfl rfl rfl)
        · exact J.wI hF (J.reti tk_Mod_kindHere 2 rfl rfl rfl)
      · exact J.wI hF (J.reti tk_Mod_kindHere 2 rfl rfl rfl)
    · exact J.wI hF (J.reti tk_Mod_kindHere 2 rfl rfl rfl)
  · exact J.wI hF (J.reti tk_Mod_kindHere 2 rfl rfl rfl)
noncomputable def F_Mod_readsSleeper (n : Nat) (σ : St) : Option (Int32 × St) :=
  (F_Mod_kindHere σ).bind fun v1 =>
  if v1 = (-9) then
    some (0, σ)
  else
  if σ.1 30 0 19 = 5 then
    some (0, σ)
  else
  bs (si σ 30 0 15 ((σ.1 30 0 15) + 1)) fun σ2 =>
  b2 (F_Mod_figure 5 σ2) fun v3 σ4 =>
  if v3 = (-9) then
    some (0, σ4)
  else
  b2 (F_Mod_figure 9 σ4) fun v5 σ6 =>
  if v5 = (-9) then
    some (0, σ6)
  else
  (ast σ6 41 0 (3 * (σ6.1 30 0 19)) v1).bind fun σ7 =>
  (ast σ7 41 0 ((3 * (σ7.1 30 0 19)) + 1) v3).bind fun σ8 =>
  (ast σ8 41 0 ((3 * (σ8.1 30 0 19)) + 2) v5).bind fun σ9 =>
  bs (si σ9 30 0 19 ((σ9.1 30 0 19) + 1)) fun σ10 =>
  (F_Mod_skip n σ10).bind fun σ11 =>
  some (1, σ11)
theorem c_Mod_readsSleeper (n : Nat) (σ : St) (w : (Int32 × St)) (hF : F_Mod_readsSleeper n σ = some w) : Call md_Mod_readsSleeper 2 [mR 30 0] σ (some (mI w.1)) w.2 := by
  rw [F_Mod_readsSleeper] at hF
  refine Call.of ok_Mod_readsSleeper.1 (Nat.le_of_ble_eq_true rfl) (L := [some (mR 30 0), none, none, none]) rfl ?_
  refine J.cpI tk_Mod_readsSleeper (as := [mR 30 0]) (rest := []) 1 rfl rfl rfl (ckV (md' := md_Mod_kindHere) lk_6_127 ok_Mod_kindHere rfl rfl rfl) rfl (by decide) (fun v1 h => c_Mod_kindHere _ _ h) hF (fun v1 hF => ?_)
  refine J.icmp_eq tk_Mod_readsSleeper 3 rfl rfl hF (fun hF => ?_) (fun hF => ?_)
  · exact J.wsI hF (J.retz tk_Mod_readsSleeper 1 rfl rfl rfl rfl)
  · refine J.icmp_ne tk_Mod_readsSleeper 3 rfl rfl hF (fun hF => ?_) (fun hF => ?_)
    · refine J.putI tk_Mod_readsSleeper 5 rfl rfl rfl rfl rfl ⟨rfl, rfl⟩ hF (fun σ2 hF => ?_)
      refine J.csI tk_Mod_readsSleeper (as := [mR 30 0, mI 5]) (rest := []) 2 rfl rfl rfl (ckV (md' := md_Mod_figure) lk_6_124 ok_Mod_figure rfl rfl rfl) rfl (by decide) (fun v1 s1 h => c_Mod_figure _ _ (v1, s1) h) hF (fun v3 σ4 hF => ?_)
      refine J.icmp_ne tk_Mod_readsSleeper 3 rfl rfl hF (fun hF => ?_) (fun hF => ?_)
      · refine J.csI tk_Mod_readsSleeper (as := [mR 30 0, mI 9]) (rest := []) 2 rfl rfl rfl (ckV (md' := md_Mod_figure) lk_6_124 ok_Mod_figure rfl rfl rfl) rfl (by decide) (fun v1 s1 h => c_Mod_figure _ _ (v1, s1) h) hF (fun v5 σ6 hF => ?_)
        refine J.icmp_ne tk_Mod_readsSleeper 3 rfl rfl hF (fun hF => ?_) (fun hF => ?_)
        · refine J.iast tk_Mod_readsSleeper 7 rfl rfl hF (fun σ7 hF => ?_)
          refine J.iast tk_Mod_readsSleeper 9 rfl rfl hF (fun σ8 hF => ?_)
          refine J.iast tk_Mod_readsSleeper 9 rfl rfl hF (fun σ9 hF => ?_)
          refine J.putI tk_Mod_readsSleeper 5 rfl rfl rfl rfl rfl ⟨rfl, rfl⟩ hF (fun σ10 hF => ?_)
          refine J.csV tk_Mod_readsSleeper (as := [mR 30 0]) (rest := []) 1 rfl rfl rfl (ckV (md' := md_Mod_skip) lk_6_121 ok_Mod_skip rfl rfl rfl) rfl (by decide) (fun s1 h => c_Mod_skip n _ _ h) hF (fun σ11 hF => ?_)
          exact J.wsI hF (J.retz tk_Mod_readsSleeper 1 rfl rfl rfl rfl)
        · exact J.wsI hF (J.retz tk_Mod_readsSleeper 1 rfl rfl rfl rfl)
      · exact J.wsI hF (J.retz tk_Mod_readsSleeper 1 rfl rfl rfl rfl)
    · exact J.wsI hF (J.retz tk_Mod_readsSleeper 1 rfl rfl rfl rfl)
noncomputable def F_Mod_faultOf_64 (n : Nat) (l2 : Int32) (σ : St) : Option (Int32 × St) :=
  if l2 = 0 then
    some (σ.1 30 0 15, σ)
  else
  if σ.1 30 0 19 ≤ 0 then
    some (σ.1 30 0 15, σ)
  else
  some ((-9), σ)
noncomputable def F_Mod_faultOf_41 (n : Nat) : Nat → Int32 → St → Option (Int32 × St)
  | 0, _, _ => none
  | k + 1, l2, σ =>
    if l2 = 0 then
      F_Mod_faultOf_64 n l2 σ
    else
    if σ.1 30 0 16 ≤ σ.1 30 0 15 then
      F_Mod_faultOf_64 n l2 σ
    else
    b2 (F_Mod_readsSleeper n σ) fun v8 σ9 =>
    (F_Mod_faultOf_41 n k) v8 σ9
noncomputable def F_Mod_faultOf (n : Nat) (a1 : Int32) (σ : St) : Option (Int32 × St) :=
  bs (si σ 30 0 14 (60 * a1)) fun σ1 =>
  bs (si σ1 30 0 15 0) fun σ2 =>
  (ald σ2 37 0 a1).bind fun v3 =>
  bs (si σ2 30 0 16 v3) fun σ4 =>
  bs (si σ4 30 0 19 0) fun σ5 =>
  b2 (F_Mod_readsCold n σ5) fun v6 σ7 =>
  if v6 = 0 then
    F_Mod_faultOf_41 n n v6 σ7
  else
  (F_Mod_skip n σ7).bind fun σ10 =>
  F_Mod_faultOf_41 n n v6 σ10
theorem h_Mod_faultOf_64 (n : Nat) (w : (Int32 × St)) (l2 : Int32) (σ : St) (hF : F_Mod_faultOf_64 n l2 σ = some w) : J md_Mod_faultOf 3 64 [some (mR 30 0), none, some (mI l2)] [] σ (some (mI w.1)) w.2 := by
  rw [F_Mod_faultOf_64] at hF
  refine J.if_eq tk_Mod_faultOf 1 rfl rfl hF (fun hF => ?_) (fun hF => ?_)
  · exact J.wsI hF (J.reti tk_Mod_faultOf 2 rfl rfl rfl)
  · refine J.if_le tk_Mod_faultOf 2 rfl rfl hF (fun hF => ?_) (fun hF => ?_)
    · exact J.wsI hF (J.reti tk_Mod_faultOf 2 rfl rfl rfl)
    · exact J.wsI hF (J.reti tk_Mod_faultOf 2 rfl rfl rfl)
theorem h_Mod_faultOf_41 (n : Nat) (w : (Int32 × St)) : ∀ (k : Nat) (l2 : Int32) (σ : St), F_Mod_faultOf_41 n k l2 σ = some w → J md_Mod_faultOf 3 41 [some (mR 30 0), none, some (mI l2)] [] σ (some (mI w.1)) w.2 := by
  intro k
  induction k with
  | zero => intro l2 σ hF; exact no_s hF
  | succ k ih =>
    intro l2 σ hF
    rw [F_Mod_faultOf_41] at hF
    refine J.if_eq tk_Mod_faultOf 1 rfl rfl hF (fun hF => ?_) (fun hF => ?_)
    · exact h_Mod_faultOf_64 n w _ _ hF
    · refine J.icmp_ge tk_Mod_faultOf 4 rfl rfl hF (fun hF => ?_) (fun hF => ?_)
      · exact h_Mod_faultOf_64 n w _ _ hF
      · refine J.csI tk_Mod_faultOf (as := [mR 30 0]) (rest := []) 1 rfl rfl rfl (ckV (md' := md_Mod_readsSleeper) lk_6_137 ok_Mod_readsSleeper rfl rfl rfl) rfl (by decide) (fun v1 s1 h => c_Mod_readsSleeper n _ (v1, s1) h) hF (fun v8 σ9 hF => ?_)
        exact J.run tk_Mod_faultOf 2 rfl (ih _ _ hF)
theorem c_Mod_faultOf (n : Nat) (a1 : Int32) (σ : St) (w : (Int32 × St)) (hF : F_Mod_faultOf n a1 σ = some w) : Call md_Mod_faultOf 3 [mR 30 0, mI a1] σ (some (mI w.1)) w.2 := by
  rw [F_Mod_faultOf] at hF
  refine Call.of ok_Mod_faultOf.1 (Nat.le_of_ble_eq_true rfl) (L := [some (mR 30 0), some (mI a1), none]) rfl ?_
  refine J.putI tk_Mod_faultOf 4 rfl rfl rfl rfl rfl ⟨rfl, rfl⟩ hF (fun σ1 hF => ?_)
  refine J.putI tk_Mod_faultOf 2 rfl rfl rfl rfl rfl ⟨rfl, rfl⟩ hF (fun σ2 hF => ?_)
  refine J.iald tk_Mod_faultOf 4 rfl rfl hF (fun v3 hF => ?_)
  refine J.putI tk_Mod_faultOf 0 rfl rfl rfl rfl rfl ⟨rfl, rfl⟩ hF (fun σ4 hF => ?_)
  refine J.putI tk_Mod_faultOf 2 rfl rfl rfl rfl rfl ⟨rfl, rfl⟩ hF (fun σ5 hF => ?_)
  refine J.csI tk_Mod_faultOf (as := [mR 30 0]) (rest := []) 1 rfl rfl rfl (ckV (md' := md_Mod_readsCold) lk_6_133 ok_Mod_readsCold rfl rfl rfl) rfl (by decide) (fun v1 s1 h => c_Mod_readsCold n _ (v1, s1) h) hF (fun v6 σ7 hF => ?_)
  refine J.if_eq tk_Mod_faultOf 2 rfl rfl hF (fun hF => ?_) (fun hF => ?_)
  · exact J.fgt [true, false, true] (h_Mod_faultOf_41 n w n _ _ hF)
  · refine J.csV tk_Mod_faultOf (as := [mR 30 0]) (rest := []) 1 rfl rfl rfl (ckV (md' := md_Mod_skip) lk_6_121 ok_Mod_skip rfl rfl rfl) rfl (by decide) (fun s1 h => c_Mod_skip n _ _ h) hF (fun σ10 hF => ?_)
    exact J.fgt [true, false, true] (h_Mod_faultOf_41 n w n _ _ hF)
noncomputable def F_Mod_fault (n : Nat) (a1 : Int32) (σ : St) : Option (Int32 × St) :=
  (F_Mod_isText a1).bind fun v1 =>
  if v1 = 0 then
    some ((-1), σ)
  else
  (ald σ 37 0 a1).bind fun v2 =>
  if 0 ≤ v2 then
    b2 (F_Mod_faultOf n a1 σ) fun v3 σ4 =>
    some (v3, σ4)
  else
  b2 (F_Mod_find 1 σ) fun v5 σ6 =>
  some (v5, σ6)
theorem c_Mod_fault (n : Nat) (a1 : Int32) (σ : St) (w : (Int32 × St)) (hF : F_Mod_fault n a1 σ = some w) : Call md_Mod_fault 4 [mR 30 0, mI a1] σ (some (mI w.1)) w.2 := by
  rw [F_Mod_fault] at hF
  refine Call.of ok_Mod_fault.1 (Nat.le_of_ble_eq_true rfl) (L := [some (mR 30 0), some (mI a1)]) rfl ?_
  refine J.cpI tk_Mod_fault (as := [mI a1]) (rest := []) 1 rfl rfl rfl (ckS (md' := md_Mod_isText) lk_6_103 ok_Mod_isText rfl) rfl (by decide) (fun v1 h => c_Mod_isText _ _ _ h) hF (fun v1 hF => ?_)
  refine J.if_ne tk_Mod_fault 0 rfl rfl hF (fun hF => ?_) (fun hF => ?_)
  · refine J.iald tk_Mod_fault 3 rfl rfl hF (fun v2 hF => ?_)
    refine J.if_ge tk_Mod_fault 0 rfl rfl hF (fun hF => ?_) (fun hF => ?_)
    · refine J.csI tk_Mod_fault (as := [mR 30 0, mI a1]) (rest := []) 2 rfl rfl rfl (ckV (md' := md_Mod_faultOf) lk_6_140 ok_Mod_faultOf rfl rfl rfl) rfl (by decide) (fun v1 s1 h => c_Mod_faultOf n _ _ (v1, s1) h) hF (fun v3 σ4 hF => ?_)
      exact J.wsI hF (J.reti tk_Mod_fault 0 rfl rfl rfl)
    · refine J.csI tk_Mod_fault (as := [mR 30 0, mI 1]) (rest := []) 2 rfl rfl rfl (ckV (md' := md_Mod_find) lk_6_84 ok_Mod_find rfl rfl rfl) rfl (by decide) (fun v1 s1 h => c_Mod_find _ _ (v1, s1) h) hF (fun v5 σ6 hF => ?_)
      exact J.wsI hF (J.reti tk_Mod_fault 1 rfl rfl rfl)
  · exact J.wsI hF (J.reti tk_Mod_fault 1 rfl rfl rfl)
noncomputable def F_Mod_tent_169 (n : Nat) : Nat → Int32 → St → Option (Int32 × St)
  | 0, _, _ => none
  | k + 1, l2, σ =>
    if 4 ≤ l2 then
      some (σ.1 30 0 1, σ)
    else
    (ast σ 31 0 ((1026 * l2) + 0) (-1)).bind fun σ6 =>
    (F_Mod_tent_169 n k) (l2 + 1) σ6
noncomputable def F_Mod_tent_95 (n : Nat) : Nat → Int32 → St → Option (Int32 × St)
  | 0, _, _ => none
  | k + 1, l2, σ =>
    if σ.1 30 0 1 ≤ l2 then
      F_Mod_tent_169 n n 1 σ
    else
    (ald σ 41 0 (3 * l2)).bind fun v7 =>
    (ast σ 32 0 l2 v7).bind fun σ8 =>
    (ald σ8 41 0 ((3 * l2) + 1)).bind fun v9 =>
    (ast σ8 33 0 l2 v9).bind fun σ10 =>
    (ald σ10 41 0 ((3 * l2) + 2)).bind fun v11 =>
    (ast σ10 31 0 (6 + l2) v11).bind fun σ12 =>
    (ast σ12 31 0 (1 + l2) l2).bind fun σ13 =>
    (F_Mod_tent_95 n k) (l2 + 1) σ13
noncomputable def F_Mod_tent_73 (n : Nat) : Nat → Int32 → St → Option (Int32 × St)
  | 0, _, _ => none
  | k + 1, l2, σ =>
    if 1026 ≤ l2 then
      F_Mod_tent_95 n n 0 σ
    else
    (ast σ 31 0 l2 0).bind fun σ14 =>
    (F_Mod_tent_73 n k) (l2 + 1) σ14
noncomputable def F_Mod_tent_47 (n : Nat) : Nat → Int32 → St → Option (Int32 × St)
  | 0, _, _ => none
  | k + 1, l2, σ =>
    if 8 ≤ l2 then
      F_Mod_tent_73 n n 0 σ
    else
    (ald σ 40 0 l2).bind fun v15 =>
    (ast σ 34 0 l2 v15).bind fun σ16 =>
    (F_Mod_tent_47 n k) (l2 + 1) σ16
noncomputable def F_Mod_tent (n : Nat) (a1 : Int32) (σ : St) : Option (Int32 × St) :=
  (F_Mod_isText a1).bind fun v1 =>
  if v1 = 0 then
    some ((-1), σ)
  else
  (ald σ 37 0 a1).bind fun v2 =>
  if 0 ≤ v2 then
    b2 (F_Mod_faultOf n a1 σ) fun v3 σ4 =>
    if v3 = (-9) then
      bs (si σ4 30 0 1 (σ4.1 30 0 19)) fun σ5 =>
      F_Mod_tent_47 n n 0 σ5
    else
    some ((-4), σ4)
  else
  b2 (F_Mod_find 1 σ) fun v17 σ18 =>
  some (v17, σ18)
theorem h_Mod_tent_169 (n : Nat) (w : (Int32 × St)) : ∀ (k : Nat) (l2 : Int32) (σ : St), F_Mod_tent_169 n k l2 σ = some w → J md_Mod_tent 4 169 [some (mR 30 0), none, some (mI l2)] [] σ (some (mI w.1)) w.2 := by
  intro k
  induction k with
  | zero => intro l2 σ hF; exact no_s hF
  | succ k ih =>
    intro l2 σ hF
    rw [F_Mod_tent_169] at hF
    refine J.icmp_ge tk_Mod_tent 2 rfl rfl hF (fun hF => ?_) (fun hF => ?_)
    · exact J.wsI hF (J.reti tk_Mod_tent 2 rfl rfl rfl)
    · refine J.iast tk_Mod_tent 8 rfl rfl hF (fun σ6 hF => ?_)
      exact J.run tk_Mod_tent 2 rfl (ih _ _ hF)
theorem h_Mod_tent_95 (n : Nat) (w : (Int32 × St)) : ∀ (k : Nat) (l2 : Int32) (σ : St), F_Mod_tent_95 n k l2 σ = some w → J md_Mod_tent 4 95 [some (mR 30 0), none, some (mI l2)] [] σ (some (mI w.1)) w.2 := by
  intro k
  induction k with
  | zero => intro l2 σ hF; exact no_s hF
  | succ k ih =>
    intro l2 σ hF
    rw [F_Mod_tent_95] at hF
    refine J.icmp_ge tk_Mod_tent 3 rfl rfl hF (fun hF => ?_) (fun hF => ?_)
    · exact J.run tk_Mod_tent 2 rfl (h_Mod_tent_169 n w n _ _ hF)
    · refine J.iald tk_Mod_tent 8 rfl rfl hF (fun v7 hF => ?_)
      refine J.iast tk_Mod_tent 0 rfl rfl hF (fun σ8 hF => ?_)
      refine J.iald tk_Mod_tent 10 rfl rfl hF (fun v9 hF => ?_)
      refine J.iast tk_Mod_tent 0 rfl rfl hF (fun σ10 hF => ?_)
      refine J.iald tk_Mod_tent 12 rfl rfl hF (fun v11 hF => ?_)
      refine J.iast tk_Mod_tent 0 rfl rfl hF (fun σ12 hF => ?_)
      refine J.iast tk_Mod_tent 6 rfl rfl hF (fun σ13 hF => ?_)
      exact J.run tk_Mod_tent 2 rfl (ih _ _ hF)
theorem h_Mod_tent_73 (n : Nat) (w : (Int32 × St)) : ∀ (k : Nat) (l2 : Int32) (σ : St), F_Mod_tent_73 n k l2 σ = some w → J md_Mod_tent 4 73 [some (mR 30 0), none, some (mI l2)] [] σ (some (mI w.1)) w.2 := by
  intro k
  induction k with
  | zero => intro l2 σ hF; exact no_s hF
  | succ k ih =>
    intro l2 σ hF
    rw [F_Mod_tent_73] at hF
    refine J.icmp_ge tk_Mod_tent 2 rfl rfl hF (fun hF => ?_) (fun hF => ?_)
    · exact J.run tk_Mod_tent 2 rfl (h_Mod_tent_95 n w n _ _ hF)
    · refine J.iast tk_Mod_tent 4 rfl rfl hF (fun σ14 hF => ?_)
      exact J.run tk_Mod_tent 2 rfl (ih _ _ hF)
theorem h_Mod_tent_47 (n : Nat) (w : (Int32 × St)) : ∀ (k : Nat) (l2 : Int32) (σ : St), F_Mod_tent_47 n k l2 σ = some w → J md_Mod_tent 4 47 [some (mR 30 0), none, some (mI l2)] [] σ (some (mI w.1)) w.2 := by
  intro k
  induction k with
  | zero => intro l2 σ hF; exact no_s hF
  | succ k ih =>
    intro l2 σ hF
    rw [F_Mod_tent_47] at hF
    refine J.icmp_ge tk_Mod_tent 2 rfl rfl hF (fun hF => ?_) (fun hF => ?_)
    · exact J.run tk_Mod_tent 2 rfl (h_Mod_tent_73 n w n _ _ hF)
    · refine J.iald tk_Mod_tent 6 rfl rfl hF (fun v15 hF => ?_)
      refine J.iast tk_Mod_tent 0 rfl rfl hF (fun σ16 hF => ?_)
      exact J.run tk_Mod_tent 2 rfl (ih _ _ hF)
theorem c_Mod_tent (n : Nat) (a1 : Int32) (σ : St) (w : (Int32 × St)) (hF : F_Mod_tent n a1 σ = some w) : Call md_Mod_tent 4 [mR 30 0, mI a1] σ (some (mI w.1)) w.2 := by
  rw [F_Mod_tent] at hF
  refine Call.of ok_Mod_tent.1 (Nat.le_of_ble_eq_true rfl) (L := [some (mR 30 0), some (mI a1), none]) rfl ?_
  refine J.cpI tk_Mod_tent (as := [mI a1]) (rest := []) 1 rfl rfl rfl (ckS (md' := md_Mod_isText) lk_6_103 ok_Mod_isText rfl) rfl (by decide) (fun v1 h => c_Mod_isText _ _ _ h) hF (fun v1 hF => ?_)
  refine J.if_ne tk_Mod_tent 0 rfl rfl hF (fun hF => ?_) (fun hF => ?_)
  · refine J.iald tk_Mod_tent 3 rfl rfl hF (fun v2 hF => ?_)
    refine J.if_ge tk_Mod_tent 0 rfl rfl hF (fun hF => ?_) (fun hF => ?_)
    · refine J.csI tk_Mod_tent (as := [mR 30 0, mI a1]) (rest := []) 2 rfl rfl rfl (ckV (md' := md_Mod_faultOf) lk_6_140 ok_Mod_faultOf rfl rfl rfl) rfl (by decide) (fun v1 s1 h => c_Mod_faultOf n _ _ (v1, s1) h) hF (fun v3 σ4 hF => ?_)
      refine J.icmp_eq tk_Mod_tent 1 rfl rfl hF (fun hF => ?_) (fun hF => ?_)
      · refine J.putI tk_Mod_tent 3 rfl rfl rfl rfl rfl ⟨rfl, rfl⟩ hF (fun σ5 hF => ?_)
        exact J.run tk_Mod_tent 2 rfl (J.fgt [true, false, true] (h_Mod_tent_47 n w n _ _ hF))
      · exact J.wsI hF (J.reti tk_Mod_tent 1 rfl rfl rfl)
    · refine J.csI tk_Mod_tent (as := [mR 30 0, mI 1]) (rest := []) 2 rfl rfl rfl (ckV (md' := md_Mod_find) lk_6_84 ok_Mod_find rfl rfl rfl) rfl (by decide) (fun v1 s1 h => c_Mod_find _ _ (v1, s1) h) hF (fun v17 σ18 hF => ?_)
      exact J.wsI hF (J.reti tk_Mod_tent 0 rfl rfl rfl)
  · exact J.wsI hF (J.reti tk_Mod_tent 1 rfl rfl rfl)
noncomputable def F_Mod_isSleeper (a1 : Int32) (σ : St) : Option Int32 :=
  (F_Mod_in a1.toInt64 0 (((σ.1 30 0 1) - 1).toInt64)).bind fun v1 =>
  some (v1 &&& 1)
theorem c_Mod_isSleeper (a1 : Int32) (σ : St) (w : Int32) (hF : F_Mod_isSleeper a1 σ = some w) : Call md_Mod_isSleeper 1 [mR 30 0, mI a1] σ (some (mI w)) σ := by
  rw [F_Mod_isSleeper] at hF
  refine Call.of ok_Mod_isSleeper.1 (Nat.le_of_ble_eq_true rfl) (L := [some (mR 30 0), some (mI a1)]) rfl ?_
  refine J.cpI tk_Mod_isSleeper (as := [mL a1.toInt64, mL 0, mL (((σ.1 30 0 1) - 1).toInt64)]) (rest := []) 8 rfl rfl rfl (ckS (md' := md_Mod_in) lk_6_74 ok_Mod_in rfl) rfl (by decide) (fun v1 h => c_Mod_in _ _ _ _ _ h) hF (fun v1 hF => ?_)
  exact J.wI hF (J.retz tk_Mod_isSleeper 0 rfl rfl rfl rfl)
noncomputable def F_Mod_kindOf (a1 : Int32) (σ : St) : Option Int32 :=
  if a1 = σ.1 30 0 25 then
    some (σ.1 30 0 26)
  else
  (ald σ 32 0 a1).bind fun v1 =>
  some v1
theorem c_Mod_kindOf (a1 : Int32) (σ : St) (w : Int32) (hF : F_Mod_kindOf a1 σ = some w) : Call md_Mod_kindOf 0 [mR 30 0, mI a1] σ (some (mI w)) σ := by
  rw [F_Mod_kindOf] at hF
  refine Call.of ok_Mod_kindOf.1 (Nat.le_of_ble_eq_true rfl) (L := [some (mR 30 0), some (mI a1)]) rfl ?_
  refine J.icmp_ne tk_Mod_kindOf 3 rfl rfl hF (fun hF => ?_) (fun hF => ?_)
  · refine J.iald tk_Mod_kindOf 3 rfl rfl hF (fun v1 hF => ?_)
    exact J.wI hF (J.reti tk_Mod_kindOf 0 rfl rfl rfl)
  · exact J.wI hF (J.reti tk_Mod_kindOf 3 rfl rfl rfl)
noncomputable def F_Mod_givesOf (a1 : Int32) (σ : St) : Option Int32 :=
  if a1 = σ.1 30 0 24 then
    some 0
  else
  (F_Mod_kindOf a1 σ).bind fun v1 =>
  if v1 = 3 then
    (ald σ 33 0 a1).bind fun v3 =>
    some (2 * v3)
  else
  (ald σ 33 0 a1).bind fun v2 =>
  some v2
theorem c_Mod_givesOf (a1 : Int32) (σ : St) (w : Int32) (hF : F_Mod_givesOf a1 σ = some w) : Call md_Mod_givesOf 1 [mR 30 0, mI a1] σ (some (mI w)) σ := by
  rw [F_Mod_givesOf] at hF
  refine Call.of ok_Mod_givesOf.1 (Nat.le_of_ble_eq_true rfl) (L := [some (mR 30 0), some (mI a1)]) rfl ?_
  refine J.icmp_ne tk_Mod_givesOf 3 rfl rfl hF (fun hF => ?_) (fun hF => ?_)
  · refine J.cpI tk_Mod_givesOf (as := [mR 30 0, mI a1]) (rest := []) 2 rfl rfl rfl (ckV (md' := md_Mod_kindOf) lk_6_155 ok_Mod_kindOf rfl rfl rfl) rfl (by decide) (fun v1 h => c_Mod_kindOf _ _ _ h) hF (fun v1 hF => ?_)
    refine J.icmp_ne tk_Mod_givesOf 1 rfl rfl hF (fun hF => ?_) (fun hF => ?_)
    · refine J.iald tk_Mod_givesOf 3 rfl rfl hF (fun v2 hF => ?_)
      exact J.wI hF (J.reti tk_Mod_givesOf 0 rfl rfl rfl)
    · refine J.iald tk_Mod_givesOf 4 rfl rfl hF (fun v3 hF => ?_)
      exact J.wI hF (J.reti tk_Mod_givesOf 2 rfl rfl rfl)
  · exact J.wI hF (J.reti tk_Mod_givesOf 2 rfl rfl rfl)
noncomputable def F_Mod_layNow_2 (n : Nat) : Nat → Int32 → St → Option St
  | 0, _, _ => none
  | k + 1, l1, σ =>
    if 5 ≤ l1 then
      (ald σ 31 0 13).bind fun v1 =>
      bs (si σ 30 0 22 v1) fun σ2 =>
      (ald σ2 31 0 12).bind fun v3 =>
      bs (si σ2 30 0 23 v3) fun σ4 =>
      some σ4
    else
    (ald σ 31 0 (1 + l1)).bind fun v5 =>
    (ast σ 42 0 l1 v5).bind fun σ6 =>
    (ald σ6 31 0 (6 + l1)).bind fun v7 =>
    (ast σ6 43 0 l1 v7).bind fun σ8 =>
    (F_Mod_layNow_2 n k) (l1 + 1) σ8
noncomputable def F_Mod_layNow (n : Nat) (σ : St) : Option St :=
  F_Mod_layNow_2 n n 0 σ
theorem h_Mod_layNow_2 (n : Nat) (w : St) : ∀ (k : Nat) (l1 : Int32) (σ : St), F_Mod_layNow_2 n k l1 σ = some w → J md_Mod_layNow 0 2 [some (mR 30 0), some (mI l1)] [] σ none w := by
  intro k
  induction k with
  | zero => intro l1 σ hF; exact no_s hF
  | succ k ih =>
    intro l1 σ hF
    rw [F_Mod_layNow_2] at hF
    refine J.icmp_ge tk_Mod_layNow 2 rfl rfl hF (fun hF => ?_) (fun hF => ?_)
    · refine J.iald tk_Mod_layNow 4 rfl rfl hF (fun v1 hF => ?_)
      refine J.putI tk_Mod_layNow 0 rfl rfl rfl rfl rfl ⟨rfl, rfl⟩ hF (fun σ2 hF => ?_)
      refine J.iald tk_Mod_layNow 4 rfl rfl hF (fun v3 hF => ?_)
      refine J.putI tk_Mod_layNow 0 rfl rfl rfl rfl rfl ⟨rfl, rfl⟩ hF (fun σ4 hF => ?_)
      exact J.wsV hF (J.retv tk_Mod_layNow 0 rfl rfl rfl)
    · refine J.iald tk_Mod_layNow 8 rfl rfl hF (fun v5 hF => ?_)
      refine J.iast tk_Mod_layNow 0 rfl rfl hF (fun σ6 hF => ?_)
      refine J.iald tk_Mod_layNow 8 rfl rfl hF (fun v7 hF => ?_)
      refine J.iast tk_Mod_layNow 0 rfl rfl hF (fun σ8 hF => ?_)
      exact J.run tk_Mod_layNow 2 rfl (ih _ _ hF)
theorem c_Mod_layNow (n : Nat) (σ : St) (w : St) (hF : F_Mod_layNow n σ = some w) : Call md_Mod_layNow 0 [mR 30 0] σ none w := by
  rw [F_Mod_layNow] at hF
  refine Call.of ok_Mod_layNow.1 (Nat.le_of_ble_eq_true rfl) (L := [some (mR 30 0), none]) rfl ?_
  exact J.run tk_Mod_layNow 2 rfl (h_Mod_layNow_2 n w n _ _ hF)
noncomputable def F_Mod_placeOf_2 (n : Nat) : Nat → Int32 → Int32 → St → Option Int32
  | 0, _, _, _ => none
  | k + 1, l1, l2, σ =>
    (ald σ 42 0 l2).bind fun v1 =>
    if v1 = l1 then
      some l2
    else
    (F_Mod_placeOf_2 n k) l1 (l2 + 1) σ
noncomputable def F_Mod_placeOf (n : Nat) (a1 : Int32) (σ : St) : Option Int32 :=
  F_Mod_placeOf_2 n n a1 0 σ
theorem h_Mod_placeOf_2 (n : Nat) (w : Int32) : ∀ (k : Nat) (l1 : Int32) (l2 : Int32) (σ : St), F_Mod_placeOf_2 n k l1 l2 σ = some w → J md_Mod_placeOf 0 2 [some (mR 30 0), some (mI l1), some (mI l2)] [] σ (some (mI w)) σ := by
  intro k
  induction k with
  | zero => intro l1 l2 σ hF; exact no_s hF
  | succ k ih =>
    intro l1 l2 σ hF
    rw [F_Mod_placeOf_2] at hF
    refine J.iald tk_Mod_placeOf 3 rfl rfl hF (fun v1 hF => ?_)
    refine J.icmp_eq tk_Mod_placeOf 1 rfl rfl hF (fun hF => ?_) (fun hF => ?_)
    · exact J.wI hF (J.reti tk_Mod_placeOf 1 rfl rfl rfl)
    · exact J.run tk_Mod_placeOf 2 rfl (ih _ _ _ hF)
theorem c_Mod_placeOf (n : Nat) (a1 : Int32) (σ : St) (w : Int32) (hF : F_Mod_placeOf n a1 σ = some w) : Call md_Mod_placeOf 0 [mR 30 0, mI a1] σ (some (mI w)) σ := by
  rw [F_Mod_placeOf] at hF
  refine Call.of ok_Mod_placeOf.1 (Nat.le_of_ble_eq_true rfl) (L := [some (mR 30 0), some (mI a1), none]) rfl ?_
  exact J.run tk_Mod_placeOf 2 rfl (h_Mod_placeOf_2 n w n _ _ _ hF)
noncomputable def F_Mod_toldOf (n : Nat) (a1 : Int32) (a2 : Int32) (σ : St) : Option (Int32 × St) :=
  (F_Mod_layNow n σ).bind fun σ1 =>
  if a2 = 0 then
    (ald σ1 32 0 a1).bind fun v2 =>
    some (v2, σ1)
  else
  if a2 = 1 then
    (F_Mod_givesOf a1 σ1).bind fun v3 =>
    some (v3, σ1)
  else
  if a2 = 2 then
    (ald σ1 43 0 a1).bind fun v4 =>
    some (v4, σ1)
  else
  if a2 = 3 then
    (F_Mod_placeOf n a1 σ1).bind fun v5 =>
    some (v5, σ1)
  else
  if a2 = 4 then
    (ald σ1 31 0 (16 + a1)).bind fun v6 =>
    some (v6, σ1)
  else
  (ald σ1 31 0 (21 + a1)).bind fun v7 =>
  some (v7, σ1)
theorem c_Mod_toldOf (n : Nat) (a1 : Int32) (a2 : Int32) (σ : St) (w : (Int32 × St)) (hF : F_Mod_toldOf n a1 a2 σ = some w) : Call md_Mod_toldOf 2 [mR 30 0, mI a1, mI a2] σ (some (mI w.1)) w.2 := by
  rw [F_Mod_toldOf] at hF
  refine Call.of ok_Mod_toldOf.1 (Nat.le_of_ble_eq_true rfl) (L := [some (mR 30 0), some (mI a1), some (mI a2)]) rfl ?_
  refine J.csV tk_Mod_toldOf (as := [mR 30 0]) (rest := []) 1 rfl rfl rfl (ckV (md' := md_Mod_layNow) lk_6_204 ok_Mod_layNow rfl rfl rfl) rfl (by decide) (fun s1 h => c_Mod_layNow n _ _ h) hF (fun σ1 hF => ?_)
  by_cases hs0 : a2 = 0
  · rw [if_pos hs0] at hF
    refine J.tswIn tk_Mod_toldOf 40 1 rfl rfl 0 hs0 (by decide) (by decide) rfl (by decide) ?_
    refine J.iald tk_Mod_toldOf 3 rfl rfl hF (fun v2 hF => ?_)
    exact J.wsI hF (J.reti tk_Mod_toldOf 0 rfl rfl rfl)
  rw [if_neg hs0] at hF
  by_cases hs1 : a2 = 1
  · rw [if_pos hs1] at hF
    refine J.tswIn tk_Mod_toldOf 47 1 rfl rfl 1 hs1 (by decide) (by decide) rfl (by decide) ?_
    refine J.cpI tk_Mod_toldOf (as := [mR 30 0, mI a1]) (rest := []) 2 rfl rfl rfl (ckV (md' := md_Mod_givesOf) lk_6_161 ok_Mod_givesOf rfl rfl rfl) rfl (by decide) (fun v1 h => c_Mod_givesOf _ _ _ h) hF (fun v3 hF => ?_)
    exact J.wsI hF (J.reti tk_Mod_toldOf 0 rfl rfl rfl)
  rw [if_neg hs1] at hF
  by_cases hs2 : a2 = 2
  · rw [if_pos hs2] at hF
    refine J.tswIn tk_Mod_toldOf 53 1 rfl rfl 2 hs2 (by decide) (by decide) rfl (by decide) ?_
    refine J.iald tk_Mod_toldOf 3 rfl rfl hF (fun v4 hF => ?_)
    exact J.wsI hF (J.reti tk_Mod_toldOf 0 rfl rfl rfl)
  rw [if_neg hs2] at hF
  by_cases hs3 : a2 = 3
  · rw [if_pos hs3] at hF
    refine J.tswIn tk_Mod_toldOf 60 1 rfl rfl 3 hs3 (by decide) (by decide) rfl (by decide) ?_
    refine J.cpI tk_Mod_toldOf (as := [mR 30 0, mI a1]) (rest := []) 2 rfl rfl rfl (ckV (md' := md_Mod_placeOf) lk_6_158 ok_Mod_placeOf rfl rfl rfl) rfl (by decide) (fun v1 h => c_Mod_placeOf n _ _ _ h) hF (fun v5 hF => ?_)
    exact J.wsI hF (J.reti tk_Mod_toldOf 0 rfl rfl rfl)
  rw [if_neg hs3] at hF
  by_cases hs4 : a2 = 4
  · rw [if_pos hs4] at hF
    refine J.tswIn tk_Mod_toldOf 66 1 rfl rfl 4 hs4 (by decide) (by decide) rfl (by decide) ?_
    refine J.iald tk_Mod_toldOf 5 rfl rfl hF (fun v6 hF => ?_)
    exact J.wsI hF (J.reti tk_Mod_toldOf 0 rfl rfl rfl)
  rw [if_neg hs4] at hF
  refine J.tswOut tk_Mod_toldOf 76 1 rfl rfl (by have z0 := lv_neT hs0 (a := 0) (by decide); have z1 := lv_neT hs1 (a := 1) (by decide); have z2 := lv_neT hs2 (a := 2) (by decide); have z3 := lv_neT hs3 (a := 3) (by decide); have z4 := lv_neT hs4 (a := 4) (by decide); omega) (by decide) ?_
  refine J.iald tk_Mod_toldOf 5 rfl rfl hF (fun v7 hF => ?_)
  exact J.wsI hF (J.reti tk_Mod_toldOf 0 rfl rfl rfl)
noncomputable def F_Mod_sleeper (n : Nat) (a1 : Int32) (a2 : Int32) (σ : St) : Option (Int32 × St) :=
  (F_Mod_isSleeper a1 σ).bind fun v1 =>
  if v1 = 0 then
    some ((-1), σ)
  else
  (F_Mod_in a2.toInt64 0 5).bind fun v2 =>
  if v2 = 0 then
    some ((-1), σ)
  else
  b2 (F_Mod_toldOf n a1 a2 σ) fun v3 σ4 =>
  b2 (F_Mod_tell v3 σ4) fun v5 σ6 =>
  some (v5, σ6)
theorem c_Mod_sleeper (n : Nat) (a1 : Int32) (a2 : Int32) (σ : St) (w : (Int32 × St)) (hF : F_Mod_sleeper n a1 a2 σ = some w) : Call md_Mod_sleeper 3 [mR 30 0, mI a1, mI a2] σ (some (mI w.1)) w.2 := by
  rw [F_Mod_sleeper] at hF
  refine Call.of ok_Mod_sleeper.1 (Nat.le_of_ble_eq_true rfl) (L := [some (mR 30 0), some (mI a1), some (mI a2)]) rfl ?_
  refine J.cpI tk_Mod_sleeper (as := [mR 30 0, mI a1]) (rest := []) 2 rfl rfl rfl (ckV (md' := md_Mod_isSleeper) lk_6_198 ok_Mod_isSleeper rfl rfl rfl) rfl (by decide) (fun v1 h => c_Mod_isSleeper _ _ _ h) hF (fun v1 hF => ?_)
  refine J.if_eq tk_Mod_sleeper 0 rfl rfl hF (fun hF => ?_) (fun hF => ?_)
  · exact J.wsI hF (J.reti tk_Mod_sleeper 1 rfl rfl rfl)
  · refine J.cpI tk_Mod_sleeper (as := [mL a2.toInt64, mL 0, mL 5]) (rest := []) 4 rfl rfl rfl (ckS (md' := md_Mod_in) lk_6_74 ok_Mod_in rfl) rfl (by decide) (fun v1 h => c_Mod_in _ _ _ _ _ h) hF (fun v2 hF => ?_)
    refine J.if_ne tk_Mod_sleeper 0 rfl rfl hF (fun hF => ?_) (fun hF => ?_)
    · refine J.csI tk_Mod_sleeper (as := [mR 30 0, mI a1, mI a2]) (rest := [mR 30 0]) 4 rfl rfl rfl (ckV (md' := md_Mod_toldOf) lk_6_201 ok_Mod_toldOf rfl rfl rfl) rfl (by decide) (fun v1 s1 h => c_Mod_toldOf n _ _ _ (v1, s1) h) hF (fun v3 σ4 hF => ?_)
      refine J.csI tk_Mod_sleeper (as := [mR 30 0, mI v3]) (rest := []) 0 rfl rfl rfl (ckV (md' := md_Mod_tell) lk_6_96 ok_Mod_tell rfl rfl rfl) rfl (by decide) (fun v1 s1 h => c_Mod_tell _ _ (v1, s1) h) hF (fun v5 σ6 hF => ?_)
      exact J.wsI hF (J.reti tk_Mod_sleeper 0 rfl rfl rfl)
    · exact J.wsI hF (J.reti tk_Mod_sleeper 1 rfl rfl rfl)
noncomputable def F_Mod_beside_15 (n : Nat) (l2 : Int32) (s0 : Int32) (σ : St) : Option Int32 :=
  if ((σ.1 30 0 1) - 1) ≤ l2 then
    some (s0 + 0)
  else
  some (s0 + 1)
noncomputable def F_Mod_beside (n : Nat) (a1 : Int32) (σ : St) : Option Int32 :=
  (F_Mod_placeOf n a1 σ).bind fun v1 =>
  F_Mod_beside_15 n v1 (if v1 ≤ 0 then 0 else 1) σ
theorem h_Mod_beside_15 (n : Nat) (w : Int32) (l2 : Int32) (s0 : Int32) (σ : St) (hF : F_Mod_beside_15 n l2 s0 σ = some w) : J md_Mod_beside 1 15 [some (mR 30 0), none, some (mI l2)] [mI s0] σ (some (mI w)) σ := by
  rw [F_Mod_beside_15] at hF
  refine J.icmp_ge tk_Mod_beside 5 rfl rfl hF (fun hF => ?_) (fun hF => ?_)
  · exact J.wI hF (J.reti tk_Mod_beside 2 rfl rfl rfl)
  · exact J.wI hF (J.reti tk_Mod_beside 3 rfl rfl rfl)
theorem c_Mod_beside (n : Nat) (a1 : Int32) (σ : St) (w : Int32) (hF : F_Mod_beside n a1 σ = some w) : Call md_Mod_beside 1 [mR 30 0, mI a1] σ (some (mI w)) σ := by
  rw [F_Mod_beside] at hF
  refine Call.of ok_Mod_beside.1 (Nat.le_of_ble_eq_true rfl) (L := [some (mR 30 0), some (mI a1), none]) rfl ?_
  refine J.cpI tk_Mod_beside (as := [mR 30 0, mI a1]) (rest := []) 2 rfl rfl rfl (ckV (md' := md_Mod_placeOf) lk_6_158 ok_Mod_placeOf rfl rfl rfl) rfl (by decide) (fun v1 h => c_Mod_placeOf n _ _ _ h) hF (fun v1 hF => ?_)
  by_cases hc : v1 ≤ 0
  · simp only [if_pos hc] at hF
    exact J.if_leT' tk_Mod_beside 2 rfl rfl hc (J.run tk_Mod_beside 1 rfl (J.fgt [true, false, true] (h_Mod_beside_15 n w _ _ _ hF)))
  · simp only [if_neg hc] at hF
    exact J.if_leF' tk_Mod_beside 2 rfl rfl hc (J.run tk_Mod_beside 2 rfl (J.fgt [true, false, true] (h_Mod_beside_15 n w _ _ _ hF)))
noncomputable def F_Mod_bits_4 (n : Nat) : Nat → Int32 → Int32 → Int32 → Option Int32
  | 0, _, _, _ => none
  | k + 1, l0, l1, l2 =>
    if 8 ≤ l2 then
      some l1
    else
    (F_Mod_bits_4 n k) l0 (l1 + ((l0 >>> (l2 &&& 31)) &&& 1)) (l2 + 1)
noncomputable def F_Mod_bits (n : Nat) (a1 : Int32) : Option Int32 :=
  F_Mod_bits_4 n n a1 0 0
theorem h_Mod_bits_4 (n : Nat) (w : Int32) (σ : St) : ∀ (k : Nat) (l0 : Int32) (l1 : Int32) (l2 : Int32), F_Mod_bits_4 n k l0 l1 l2 = some w → J md_Mod_bits 0 4 [some (mI l0), some (mI l1), some (mI l2)] [] σ (some (mI w)) σ := by
  intro k
  induction k with
  | zero => intro l0 l1 l2 hF; exact no_s hF
  | succ k ih =>
    intro l0 l1 l2 hF
    rw [F_Mod_bits_4] at hF
    refine J.icmp_ge tk_Mod_bits 2 rfl rfl hF (fun hF => ?_) (fun hF => ?_)
    · exact J.wI hF (J.reti tk_Mod_bits 1 rfl rfl rfl)
    · exact J.run tk_Mod_bits 10 rfl (ih _ _ _ hF)
theorem c_Mod_bits (n : Nat) (a1 : Int32) (σ : St) (w : Int32) (hF : F_Mod_bits n a1 = some w) : Call md_Mod_bits 0 [mI a1] σ (some (mI w)) σ := by
  rw [F_Mod_bits] at hF
  refine Call.of ok_Mod_bits.1 (Nat.le_of_ble_eq_true rfl) (L := [some (mI a1), none, none]) rfl ?_
  exact J.run tk_Mod_bits 4 rfl (h_Mod_bits_4 n w σ n _ _ _ hF)
noncomputable def F_Mod_hearsNone (a1 : Int32) : Option Int32 :=
  if a1 = 2 then
    some 1
  else
  if a1 = 5 then
    some 1
  else
  some 0
theorem c_Mod_hearsNone (a1 : Int32) (σ : St) (w : Int32) (hF : F_Mod_hearsNone a1 = some w) : Call md_Mod_hearsNone 0 [mI a1] σ (some (mI w)) σ := by
  rw [F_Mod_hearsNone] at hF
  refine Call.of ok_Mod_hearsNone.1 (Nat.le_of_ble_eq_true rfl) (L := [some (mI a1)]) rfl ?_
  refine J.icmp_eq tk_Mod_hearsNone 2 rfl rfl hF (fun hF => ?_) (fun hF => ?_)
  · exact J.wI hF (J.retz tk_Mod_hearsNone 2 rfl rfl rfl rfl)
  · refine J.icmp_ne tk_Mod_hearsNone 2 rfl rfl hF (fun hF => ?_) (fun hF => ?_)
    · exact J.wI hF (J.retz tk_Mod_hearsNone 1 rfl rfl rfl rfl)
    · exact J.wI hF (J.retz tk_Mod_hearsNone 2 rfl rfl rfl rfl)
noncomputable def F_Mod_isSnoring (a1 : Int32) : Option Int32 :=
  if a1 = 1 then
    some 1
  else
  if a1 = 4 then
    some 1
  else
  some 0
theorem c_Mod_isSnoring (a1 : Int32) (σ : St) (w : Int32) (hF : F_Mod_isSnoring a1 = some w) : Call md_Mod_isSnoring 0 [mI a1] σ (some (mI w)) σ := by
  rw [F_Mod_isSnoring] at hF
  refine Call.of ok_Mod_isSnoring.1 (Nat.le_of_ble_eq_true rfl) (L := [some (mI a1)]) rfl ?_
  refine J.icmp_eq tk_Mod_isSnoring 2 rfl rfl hF (fun hF => ?_) (fun hF => ?_)
  · exact J.wI hF (J.retz tk_Mod_isSnoring 2 rfl rfl rfl rfl)
  · refine J.icmp_ne tk_Mod_isSnoring 2 rfl rfl hF (fun hF => ?_) (fun hF => ?_)
    · exact J.wI hF (J.retz tk_Mod_isSnoring 1 rfl rfl rfl rfl)
    · exact J.wI hF (J.retz tk_Mod_isSnoring 2 rfl rfl rfl rfl)
noncomputable def F_Mod_reaches_14 (l1 : Int32) (l2 : Int32) (s0 : Int32) (σ : St) : Option Int32 :=
  if l1 = σ.1 30 0 24 then
    some 0
  else
  (F_Mod_kindOf l1 σ).bind fun v2 =>
  (F_Mod_isSnoring v2).bind fun v3 =>
  if v3 = 0 then
    some 0
  else
  if l2 = 0 then
    some 0
  else
  (F_Mod_in l2.toInt64 ((-s0).toInt64) s0.toInt64).bind fun v4 =>
  if v4 = 0 then
    some 0
  else
  some 1
noncomputable def F_Mod_reaches (a1 : Int32) (a2 : Int32) (σ : St) : Option Int32 :=
  (F_Mod_kindOf a1 σ).bind fun v1 =>
  F_Mod_reaches_14 a1 a2 (if v1 = 4 then 2 else 1) σ
theorem h_Mod_reaches_14 (w : Int32) (l1 : Int32) (l2 : Int32) (s0 : Int32) (σ : St) (hF : F_Mod_reaches_14 l1 l2 s0 σ = some w) : J md_Mod_reaches 1 14 [some (mR 30 0), some (mI l1), some (mI l2), none] [mI s0] σ (some (mI w)) σ := by
  rw [F_Mod_reaches_14] at hF
  refine J.icmp_eq tk_Mod_reaches 4 rfl rfl hF (fun hF => ?_) (fun hF => ?_)
  · exact J.wI hF (J.retz tk_Mod_reaches 1 rfl rfl rfl rfl)
  · refine J.cpI tk_Mod_reaches (as := [mR 30 0, mI l1]) (rest := []) 2 rfl rfl rfl (ckV (md' := md_Mod_kindOf) lk_6_155 ok_Mod_kindOf rfl rfl rfl) rfl (by decide) (fun v1 h => c_Mod_kindOf _ _ _ h) hF (fun v2 hF => ?_)
    refine J.cpI tk_Mod_reaches (as := [mI v2]) (rest := []) 0 rfl rfl rfl (ckS (md' := md_Mod_isSnoring) lk_6_167 ok_Mod_isSnoring rfl) rfl (by decide) (fun v1 h => c_Mod_isSnoring _ _ _ h) hF (fun v3 hF => ?_)
    refine J.if_eq tk_Mod_reaches 0 rfl rfl hF (fun hF => ?_) (fun hF => ?_)
    · exact J.wI hF (J.retz tk_Mod_reaches 1 rfl rfl rfl rfl)
    · refine J.if_eq tk_Mod_reaches 1 rfl rfl hF (fun hF => ?_) (fun hF => ?_)
      · exact J.wI hF (J.retz tk_Mod_reaches 1 rfl rfl rfl rfl)
      · refine J.cpI tk_Mod_reaches (as := [mL l2.toInt64, mL ((-s0).toInt64), mL s0.toInt64]) (rest := []) 7 rfl rfl rfl (ckS (md' := md_Mod_in) lk_6_74 ok_Mod_in rfl) rfl (by decide) (fun v1 h => c_Mod_in _ _ _ _ _ h) hF (fun v4 hF => ?_)
        refine J.if_eq tk_Mod_reaches 0 rfl rfl hF (fun hF => ?_) (fun hF => ?_)
        · exact J.wI hF (J.retz tk_Mod_reaches 1 rfl rfl rfl rfl)
        · exact J.wI hF (J.retz tk_Mod_reaches 2 rfl rfl rfl rfl)
theorem c_Mod_reaches (a1 : Int32) (a2 : Int32) (σ : St) (w : Int32) (hF : F_Mod_reaches a1 a2 σ = some w) : Call md_Mod_reaches 1 [mR 30 0, mI a1, mI a2] σ (some (mI w)) σ := by
  rw [F_Mod_reaches] at hF
  refine Call.of ok_Mod_reaches.1 (Nat.le_of_ble_eq_true rfl) (L := [some (mR 30 0), some (mI a1), some (mI a2), none]) rfl ?_
  refine J.cpI tk_Mod_reaches (as := [mR 30 0, mI a1]) (rest := []) 2 rfl rfl rfl (ckV (md' := md_Mod_kindOf) lk_6_155 ok_Mod_kindOf rfl rfl rfl) rfl (by decide) (fun v1 h => c_Mod_kindOf _ _ _ h) hF (fun v1 hF => ?_)
  by_cases hc : v1 = 4
  · simp only [if_pos hc] at hF
    exact J.icmp_neF' tk_Mod_reaches 1 rfl rfl hc (J.run tk_Mod_reaches 2 rfl (h_Mod_reaches_14 w _ _ _ _ hF))
  · simp only [if_neg hc] at hF
    exact J.icmp_neT' tk_Mod_reaches 1 rfl rfl hc (J.run tk_Mod_reaches 1 rfl (h_Mod_reaches_14 w _ _ _ _ hF))
noncomputable def F_Mod_heardBy_49 (n : Nat) (K4 : Int32 → Int32 → Int32 → St → Option Int32) (l1 : Int32) (l3 : Int32) (s0 : Int32) (s1 : Int32) (σ : St) : Option Int32 :=
  K4 l1 (s0 + s1) (l3 + 1) σ
noncomputable def F_Mod_heardBy_48 (n : Nat) (K4 : Int32 → Int32 → Int32 → St → Option Int32) (l1 : Int32) (l3 : Int32) (s0 : Int32) (σ : St) : Option Int32 :=
  F_Mod_heardBy_49 n K4 l1 l3 s0 0 σ
noncomputable def F_Mod_heardBy_4 (n : Nat) : Nat → Int32 → Int32 → Int32 → St → Option Int32
  | 0, _, _, _, _ => none
  | k + 1, l1, l2, l3, σ =>
    if σ.1 30 0 1 ≤ l3 then
      some l2
    else
    (ald σ 32 0 l3).bind fun v1 =>
    (F_Mod_hearsNone v1).bind fun v2 =>
    if v2 = 0 then
      (F_Mod_placeOf n l3 σ).bind fun v3 =>
      (F_Mod_placeOf n l1 σ).bind fun v4 =>
      (F_Mod_reaches l1 (v3 - v4) σ).bind fun v5 =>
      F_Mod_heardBy_49 n (F_Mod_heardBy_4 n k) l1 l3 l2 (if v5 = 0 then 0 else 1) σ
    else
    F_Mod_heardBy_48 n (F_Mod_heardBy_4 n k) l1 l3 l2 σ
noncomputable def F_Mod_heardBy (n : Nat) (a1 : Int32) (σ : St) : Option Int32 :=
  F_Mod_heardBy_4 n n a1 0 0 σ
theorem h_Mod_heardBy_49 (n : Nat) (w : Int32) (K4 : Int32 → Int32 → Int32 → St → Option Int32) (hK4 : ∀ (l1 : Int32) (l2 : Int32) (l3 : Int32) (σ : St), K4 l1 l2 l3 σ = some w → J md_Mod_heardBy 2 4 [some (mR 30 0), some (mI l1), some (mI l2), some (mI l3)] [] σ (some (mI w)) σ) (l1 : Int32) (l3 : Int32) (s0 : Int32) (s1 : Int32) (σ : St) (hF : F_Mod_heardBy_49 n K4 l1 l3 s0 s1 σ = some w) : J md_Mod_heardBy 2 49 [some (mR 30 0), some (mI l1), none, some (mI l3)] [mI s1, mI s0] σ (some (mI w)) σ := by
  rw [F_Mod_heardBy_49] at hF
  exact J.run tk_Mod_heardBy 4 rfl (hK4 _ _ _ _ hF)
theorem h_Mod_heardBy_48 (n : Nat) (w : Int32) (K4 : Int32 → Int32 → Int32 → St → Option Int32) (hK4 : ∀ (l1 : Int32) (l2 : Int32) (l3 : Int32) (σ : St), K4 l1 l2 l3 σ = some w → J md_Mod_heardBy 2 4 [some (mR 30 0), some (mI l1), some (mI l2), some (mI l3)] [] σ (some (mI w)) σ) (l1 : Int32) (l3 : Int32) (s0 : Int32) (σ : St) (hF : F_Mod_heardBy_48 n K4 l1 l3 s0 σ = some w) : J md_Mod_heardBy 2 48 [some (mR 30 0), some (mI l1), none, some (mI l3)] [mI s0] σ (some (mI w)) σ := by
  rw [F_Mod_heardBy_48] at hF
  exact J.run tk_Mod_heardBy 1 rfl (h_Mod_heardBy_49 n w K4 hK4 _ _ _ _ _ hF)
theorem h_Mod_heardBy_4 (n : Nat) (w : Int32) : ∀ (k : Nat) (l1 : Int32) (l2 : Int32) (l3 : Int32) (σ : St), F_Mod_heardBy_4 n k l1 l2 l3 σ = some w → J md_Mod_heardBy 2 4 [some (mR 30 0), some (mI l1), some (mI l2), some (mI l3)] [] σ (some (mI w)) σ := by
  intro k
  induction k with
  | zero => intro l1 l2 l3 σ hF; exact no_s hF
  | succ k ih =>
    intro l1 l2 l3 σ hF
    rw [F_Mod_heardBy_4] at hF
    refine J.icmp_ge tk_Mod_heardBy 3 rfl rfl hF (fun hF => ?_) (fun hF => ?_)
    · exact J.wI hF (J.reti tk_Mod_heardBy 1 rfl rfl rfl)
    · refine J.iald tk_Mod_heardBy 4 rfl rfl hF (fun v1 hF => ?_)
      refine J.cpI tk_Mod_heardBy (as := [mI v1]) (rest := [mI l2]) 0 rfl rfl rfl (ckS (md' := md_Mod_hearsNone) lk_6_174 ok_Mod_hearsNone rfl) rfl (by decide) (fun v1 h => c_Mod_hearsNone _ _ _ h) hF (fun v2 hF => ?_)
      refine J.if_ne tk_Mod_heardBy 0 rfl rfl hF (fun hF => ?_) (fun hF => ?_)
      · exact J.fgt [true, true, false, true] (h_Mod_heardBy_48 n w (F_Mod_heardBy_4 n k) ih _ _ _ _ hF)
      · refine J.cpI tk_Mod_heardBy (as := [mR 30 0, mI l3]) (rest := [mI l1, mR 30 0, mI l2]) 4 rfl rfl rfl (ckV (md' := md_Mod_placeOf) lk_6_158 ok_Mod_placeOf rfl rfl rfl) rfl (by decide) (fun v1 h => c_Mod_placeOf n _ _ _ h) hF (fun v3 hF => ?_)
        refine J.cpI tk_Mod_heardBy (as := [mR 30 0, mI l1]) (rest := [mI v3, mI l1, mR 30 0, mI l2]) 2 rfl rfl rfl (ckV (md' := md_Mod_placeOf) lk_6_158 ok_Mod_placeOf rfl rfl rfl) rfl (by decide) (fun v1 h => c_Mod_placeOf n _ _ _ h) hF (fun v4 hF => ?_)
        refine J.cpI tk_Mod_heardBy (as := [mR 30 0, mI l1, mI (v3 - v4)]) (rest := [mI l2]) 1 rfl rfl rfl (ckV (md' := md_Mod_reaches) lk_6_170 ok_Mod_reaches rfl rfl rfl) rfl (by decide) (fun v1 h => c_Mod_reaches _ _ _ _ h) hF (fun v5 hF => ?_)
        by_cases hc : v5 = 0
        · simp only [if_pos hc] at hF
          exact J.if_eqT' tk_Mod_heardBy 0 rfl rfl hc (J.run tk_Mod_heardBy 1 rfl (J.fgt [true, true, false, true] (h_Mod_heardBy_49 n w (F_Mod_heardBy_4 n k) ih _ _ _ _ _ hF)))
        · simp only [if_neg hc] at hF
          exact J.if_eqF' tk_Mod_heardBy 0 rfl rfl hc (J.run tk_Mod_heardBy 2 rfl (J.fgt [true, true, false, true] (h_Mod_heardBy_49 n w (F_Mod_heardBy_4 n k) ih _ _ _ _ _ hF)))
theorem c_Mod_heardBy (n : Nat) (a1 : Int32) (σ : St) (w : Int32) (hF : F_Mod_heardBy n a1 σ = some w) : Call md_Mod_heardBy 2 [mR 30 0, mI a1] σ (some (mI w)) σ := by
  rw [F_Mod_heardBy] at hF
  refine Call.of ok_Mod_heardBy.1 (Nat.le_of_ble_eq_true rfl) (L := [some (mR 30 0), some (mI a1), none, none]) rfl ?_
  exact J.run tk_Mod_heardBy 4 rfl (h_Mod_heardBy_4 n w n _ _ _ _ hF)
noncomputable def F_Mod_isOf_25 (l1 : Int32) (l2 : Int32) (σ : St) : Option Int32 :=
  if l2 = 2 then
    (ald σ 32 0 l1).bind fun v2 =>
    if v2 = 5 then
      some 1
    else
    some 0
  else
  some 0
noncomputable def F_Mod_isOf (a1 : Int32) (a2 : Int32) (σ : St) : Option Int32 :=
  (ald σ 32 0 a1).bind fun v1 =>
  if v1 = a2 then
    some 1
  else
  if a2 = 1 then
    (ald σ 32 0 a1).bind fun v3 =>
    if v3 = 4 then
      some 1
    else
    F_Mod_isOf_25 a1 a2 σ
  else
  F_Mod_isOf_25 a1 a2 σ
theorem h_Mod_isOf_25 (w : Int32) (l1 : Int32) (l2 : Int32) (σ : St) (hF : F_Mod_isOf_25 l1 l2 σ = some w) : J md_Mod_isOf 0 25 [some (mR 30 0), some (mI l1), some (mI l2)] [] σ (some (mI w)) σ := by
  rw [F_Mod_isOf_25] at hF
  refine J.icmp_ne tk_Mod_isOf 2 rfl rfl hF (fun hF => ?_) (fun hF => ?_)
  · exact J.wI hF (J.retz tk_Mod_isOf 1 rfl rfl rfl rfl)
  · refine J.iald tk_Mod_isOf 3 rfl rfl hF (fun v2 hF => ?_)
    refine J.icmp_ne tk_Mod_isOf 1 rfl rfl hF (fun hF => ?_) (fun hF => ?_)
    · exact J.wI hF (J.retz tk_Mod_isOf 1 rfl rfl rfl rfl)
    · exact J.wI hF (J.retz tk_Mod_isOf 2 rfl rfl rfl rfl)
theorem c_Mod_isOf (a1 : Int32) (a2 : Int32) (σ : St) (w : Int32) (hF : F_Mod_isOf a1 a2 σ = some w) : Call md_Mod_isOf 0 [mR 30 0, mI a1, mI a2] σ (some (mI w)) σ := by
  rw [F_Mod_isOf] at hF
  refine Call.of ok_Mod_isOf.1 (Nat.le_of_ble_eq_true rfl) (L := [some (mR 30 0), some (mI a1), some (mI a2)]) rfl ?_
  refine J.iald tk_Mod_isOf 3 rfl rfl hF (fun v1 hF => ?_)
  refine J.icmp_eq tk_Mod_isOf 1 rfl rfl hF (fun hF => ?_) (fun hF => ?_)
  · exact J.wI hF (J.retz tk_Mod_isOf 2 rfl rfl rfl rfl)
  · refine J.icmp_ne tk_Mod_isOf 2 rfl rfl hF (fun hF => ?_) (fun hF => ?_)
    · exact h_Mod_isOf_25 w _ _ _ hF
    · refine J.iald tk_Mod_isOf 3 rfl rfl hF (fun v3 hF => ?_)
      refine J.icmp_eq tk_Mod_isOf 1 rfl rfl hF (fun hF => ?_) (fun hF => ?_)
      · exact J.wI hF (J.retz tk_Mod_isOf 2 rfl rfl rfl rfl)
      · exact h_Mod_isOf_25 w _ _ _ hF
noncomputable def F_Mod_snorers_30 (n : Nat) (K4 : Int32 → Int32 → St → Option Int32) (l2 : Int32) (s0 : Int32) (s1 : Int32) (σ : St) : Option Int32 :=
  K4 (s0 + s1) (l2 + 1) σ
noncomputable def F_Mod_snorers_4 (n : Nat) : Nat → Int32 → Int32 → St → Option Int32
  | 0, _, _, _ => none
  | k + 1, l1, l2, σ =>
    if σ.1 30 0 1 ≤ l2 then
      some l1
    else
    (ald σ 32 0 l2).bind fun v1 =>
    (F_Mod_isSnoring v1).bind fun v2 =>
    F_Mod_snorers_30 n (F_Mod_snorers_4 n k) l2 l1 (if v2 = 0 then 0 else 1) σ
noncomputable def F_Mod_snorers (n : Nat) (σ : St) : Option Int32 :=
  F_Mod_snorers_4 n n 0 0 σ
theorem h_Mod_snorers_30 (n : Nat) (w : Int32) (K4 : Int32 → Int32 → St → Option Int32) (hK4 : ∀ (l1 : Int32) (l2 : Int32) (σ : St), K4 l1 l2 σ = some w → J md_Mod_snorers 1 4 [some (mR 30 0), some (mI l1), some (mI l2)] [] σ (some (mI w)) σ) (l2 : Int32) (s0 : Int32) (s1 : Int32) (σ : St) (hF : F_Mod_snorers_30 n K4 l2 s0 s1 σ = some w) : J md_Mod_snorers 1 30 [some (mR 30 0), none, some (mI l2)] [mI s1, mI s0] σ (some (mI w)) σ := by
  rw [F_Mod_snorers_30] at hF
  exact J.run tk_Mod_snorers 4 rfl (hK4 _ _ _ hF)
theorem h_Mod_snorers_4 (n : Nat) (w : Int32) : ∀ (k : Nat) (l1 : Int32) (l2 : Int32) (σ : St), F_Mod_snorers_4 n k l1 l2 σ = some w → J md_Mod_snorers 1 4 [some (mR 30 0), some (mI l1), some (mI l2)] [] σ (some (mI w)) σ := by
  intro k
  induction k with
  | zero => intro l1 l2 σ hF; exact no_s hF
  | succ k ih =>
    intro l1 l2 σ hF
    rw [F_Mod_snorers_4] at hF
    refine J.icmp_ge tk_Mod_snorers 3 rfl rfl hF (fun hF => ?_) (fun hF => ?_)
    · exact J.wI hF (J.reti tk_Mod_snorers 1 rfl rfl rfl)
    · refine J.iald tk_Mod_snorers 4 rfl rfl hF (fun v1 hF => ?_)
      refine J.cpI tk_Mod_snorers (as := [mI v1]) (rest := [mI l1]) 0 rfl rfl rfl (ckS (md' := md_Mod_isSnoring) lk_6_167 ok_Mod_isSnoring rfl) rfl (by decide) (fun v1 h => c_Mod_isSnoring _ _ _ h) hF (fun v2 hF => ?_)
      by_cases hc : v2 = 0
      · simp only [if_pos hc] at hF
        exact J.if_eqT' tk_Mod_snorers 0 rfl rfl hc (J.run tk_Mod_snorers 1 rfl (J.fgt [true, false, true] (h_Mod_snorers_30 n w (F_Mod_snorers_4 n k) ih _ _ _ _ hF)))
      · simp only [if_neg hc] at hF
        exact J.if_eqF' tk_Mod_snorers 0 rfl rfl hc (J.run tk_Mod_snorers 2 rfl (J.fgt [true, false, true] (h_Mod_snorers_30 n w (F_Mod_snorers_4 n k) ih _ _ _ _ hF)))
theorem c_Mod_snorers (n : Nat) (σ : St) (w : Int32) (hF : F_Mod_snorers n σ = some w) : Call md_Mod_snorers 1 [mR 30 0] σ (some (mI w)) σ := by
  rw [F_Mod_snorers] at hF
  refine Call.of ok_Mod_snorers.1 (Nat.le_of_ble_eq_true rfl) (L := [some (mR 30 0), none, none]) rfl ?_
  exact J.run tk_Mod_snorers 4 rfl (h_Mod_snorers_4 n w n _ _ _ hF)
noncomputable def F_Mod_snorersNear_37 (n : Nat) (K4 : Int32 → Int32 → Int32 → St → Option Int32) (l1 : Int32) (l3 : Int32) (s0 : Int32) (s1 : Int32) (σ : St) : Option Int32 :=
  K4 l1 (s0 + s1) (l3 + 1) σ
noncomputable def F_Mod_snorersNear_4 (n : Nat) : Nat → Int32 → Int32 → Int32 → St → Option Int32
  | 0, _, _, _, _ => none
  | k + 1, l1, l2, l3, σ =>
    if σ.1 30 0 1 ≤ l3 then
      some l2
    else
    (F_Mod_placeOf n l3 σ).bind fun v1 =>
    (F_Mod_placeOf n l1 σ).bind fun v2 =>
    (F_Mod_reaches l3 (v1 - v2) σ).bind fun v3 =>
    F_Mod_snorersNear_37 n (F_Mod_snorersNear_4 n k) l1 l3 l2 (if v3 = 0 then 0 else 1) σ
noncomputable def F_Mod_snorersNear (n : Nat) (a1 : Int32) (σ : St) : Option Int32 :=
  F_Mod_snorersNear_4 n n a1 0 0 σ
theorem h_Mod_snorersNear_37 (n : Nat) (w : Int32) (K4 : Int32 → Int32 → Int32 → St → Option Int32) (hK4 : ∀ (l1 : Int32) (l2 : Int32) (l3 : Int32) (σ : St), K4 l1 l2 l3 σ = some w → J md_Mod_snorersNear 2 4 [some (mR 30 0), some (mI l1), some (mI l2), some (mI l3)] [] σ (some (mI w)) σ) (l1 : Int32) (l3 : Int32) (s0 : Int32) (s1 : Int32) (σ : St) (hF : F_Mod_snorersNear_37 n K4 l1 l3 s0 s1 σ = some w) : J md_Mod_snorersNear 2 37 [some (mR 30 0), some (mI l1), none, some (mI l3)] [mI s1, mI s0] σ (some (mI w)) σ := by
  rw [F_Mod_snorersNear_37] at hF
  exact J.run tk_Mod_snorersNear 4 rfl (hK4 _ _ _ _ hF)
theorem h_Mod_snorersNear_4 (n : Nat) (w : Int32) : ∀ (k : Nat) (l1 : Int32) (l2 : Int32) (l3 : Int32) (σ : St), F_Mod_snorersNear_4 n k l1 l2 l3 σ = some w → J md_Mod_snorersNear 2 4 [some (mR 30 0), some (mI l1), some (mI l2), some (mI l3)] [] σ (some (mI w)) σ := by
  intro k
  induction k with
  | zero => intro l1 l2 l3 σ hF; exact no_s hF
  | succ k ih =>
    intro l1 l2 l3 σ hF
    rw [F_Mod_snorersNear_4] at hF
    refine J.icmp_ge tk_Mod_snorersNear 3 rfl rfl hF (fun hF => ?_) (fun hF => ?_)
    · exact J.wI hF (J.reti tk_Mod_snorersNear 1 rfl rfl rfl)
    · refine J.cpI tk_Mod_snorersNear (as := [mR 30 0, mI l3]) (rest := [mI l3, mR 30 0, mI l2]) 5 rfl rfl rfl (ckV (md' := md_Mod_placeOf) lk_6_158 ok_Mod_placeOf rfl rfl rfl) rfl (by decide) (fun v1 h => c_Mod_placeOf n _ _ _ h) hF (fun v1 hF => ?_)
      refine J.cpI tk_Mod_snorersNear (as := [mR 30 0, mI l1]) (rest := [mI v1, mI l3, mR 30 0, mI l2]) 2 rfl rfl rfl (ckV (md' := md_Mod_placeOf) lk_6_158 ok_Mod_placeOf rfl rfl rfl) rfl (by decide) (fun v1 h => c_Mod_placeOf n _ _ _ h) hF (fun v2 hF => ?_)
      refine J.cpI tk_Mod_snorersNear (as := [mR 30 0, mI l3, mI (v1 - v2)]) (rest := [mI l2]) 1 rfl rfl rfl (ckV (md' := md_Mod_reaches) lk_6_170 ok_Mod_reaches rfl rfl rfl) rfl (by decide) (fun v1 h => c_Mod_reaches _ _ _ _ h) hF (fun v3 hF => ?_)
      by_cases hc : v3 = 0
      · simp only [if_pos hc] at hF
        exact J.if_eqT' tk_Mod_snorersNear 0 rfl rfl hc (J.run tk_Mod_snorersNear 1 rfl (J.fgt [true, true, false, true] (h_Mod_snorersNear_37 n w (F_Mod_snorersNear_4 n k) ih _ _ _ _ _ hF)))
      · simp only [if_neg hc] at hF
        exact J.if_eqF' tk_Mod_snorersNear 0 rfl rfl hc (J.run tk_Mod_snorersNear 2 rfl (J.fgt [true, true, false, true] (h_Mod_snorersNear_37 n w (F_Mod_snorersNear_4 n k) ih _ _ _ _ _ hF)))
theorem c_Mod_snorersNear (n : Nat) (a1 : Int32) (σ : St) (w : Int32) (hF : F_Mod_snorersNear n a1 σ = some w) : Call md_Mod_snorersNear 2 [mR 30 0, mI a1] σ (some (mI w)) σ := by
  rw [F_Mod_snorersNear] at hF
  refine Call.of ok_Mod_snorersNear.1 (Nat.le_of_ble_eq_true rfl) (L := [some (mR 30 0), some (mI a1), none, none]) rfl ?_
  exact J.run tk_Mod_snorersNear 4 rfl (h_Mod_snorersNear_4 n w n _ _ _ _ hF)
