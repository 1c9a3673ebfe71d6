noncomputable def F_Arrays_fill2_5 (n : Nat) (g1 : Nat) (u1 : Nat) : Nat → Int32 → Int32 → Int32 → St → Option St
  | 0, _, _, _, _ => none
  | k + 1, l1, l2, l3, σ =>
    if l3 ≤ l2 then
      some σ
    else
    (ast σ g1 u1 l2 l1).bind fun σ1 =>
    (F_Arrays_fill2_5 n g1 u1 k) l1 (l2 + 1) l3 σ1
noncomputable def F_Arrays_fill2 (n : Nat) (g1 : Nat) (u1 : Nat) (a2 : Int32) (σ : St) : Option St :=
  F_Arrays_fill2_5 n g1 u1 n a2 0 (nI (lenOf g1 u1)) σ
theorem h_Arrays_fill2_5 (n : Nat) (g1 : Nat) (u1 : Nat) (w : St) : ∀ (k : Nat) (l1 : Int32) (l2 : Int32) (l3 : Int32) (σ : St), F_Arrays_fill2_5 n g1 u1 k l1 l2 l3 σ = some w → J md_Arrays_fill2 0 5 [some (mA g1 u1), some (mI l1), some (mI l2), some (mI l3)] [] σ none w := by
  intro k
  induction k with
  | zero => intro l1 l2 l3 σ hF; exact no_s hF
  | succ k ih =>
    intro l1 l2 l3 σ hF
    rw [F_Arrays_fill2_5] at hF
    refine J.icmp_ge tk_Arrays_fill2 2 rfl rfl hF (fun hF => ?_) (fun hF => ?_)
    · exact J.wsV hF (J.retv tk_Arrays_fill2 0 rfl rfl rfl)
    · refine J.iast tk_Arrays_fill2 3 rfl rfl hF (fun σ1 hF => ?_)
      exact J.run tk_Arrays_fill2 2 rfl (ih _ _ _ _ hF)
theorem c_Arrays_fill2 (n : Nat) (g1 : Nat) (u1 : Nat) (a2 : Int32) (σ : St) (w : St) (hF : F_Arrays_fill2 n g1 u1 a2 σ = some w) : Call md_Arrays_fill2 0 [mA g1 u1, mI a2] σ none w := by
  rw [F_Arrays_fill2] at hF
  refine Call.of ok_Arrays_fill2.1 (Nat.le_of_ble_eq_true rfl) (L := [some (mA g1 u1), some (mI a2), none, none]) rfl ?_
  exact J.run tk_Arrays_fill2 5 rfl (h_Arrays_fill2_5 n g1 u1 w n _ _ _ _ hF)
noncomputable def F_Tent_found (a1 : Int32) (σ : St) : Option (Int32 × St) :=
  bs (si σ 0 0 9 a1) fun σ1 =>
  (ald σ1 27 0 a1).bind fun v2 =>
  (ast σ1 27 0 a1 (v2 + 1)).bind fun σ3 =>
  some ((-3), σ3)
theorem c_Tent_found (a1 : Int32) (σ : St) (w : (Int32 × St)) (hF : F_Tent_found a1 σ = some w) : Call md_Tent_found 0 [mR 0 0, mI a1] σ (some (mI w.1)) w.2 := by
  rw [F_Tent_found] at hF
  refine Call.of ok_Tent_found.1 (Nat.le_of_ble_eq_true rfl) (L := [some (mR 0 0), some (mI a1)]) rfl ?_
  refine J.putI tk_Tent_found 2 rfl rfl rfl rfl rfl ⟨rfl, rfl⟩ hF (fun σ1 hF => ?_)
  refine J.iald tk_Tent_found 4 rfl rfl hF (fun v2 hF => ?_)
  refine J.iast tk_Tent_found 2 rfl rfl hF (fun σ3 hF => ?_)
  exact J.wsI hF (J.reti tk_Tent_found 1 rfl rfl rfl)
noncomputable def F_Shelf_isNumber (t : Nat) (a1 : Int32) (σ : St) : Option Int32 :=
  if a1 < 0 then
    some 0
  else
  if (nI (lenOf 2 t)) ≤ a1 then
    some 0
  else
  some 1
theorem c_Shelf_isNumber (t : Nat) (a1 : Int32) (σ : St) (w : Int32) (hF : F_Shelf_isNumber t a1 σ = some w) : Call md_Shelf_isNumber 0 [mR 1 t, mI a1] σ (some (mI w)) σ := by
  rw [F_Shelf_isNumber] at hF
  refine Call.of ok_Shelf_isNumber.1 (Nat.le_of_ble_eq_true rfl) (L := [some (mR 1 t), some (mI a1)]) rfl ?_
  refine J.if_lt tk_Shelf_isNumber 1 rfl rfl hF (fun hF => ?_) (fun hF => ?_)
  · exact J.wI hF (J.retz tk_Shelf_isNumber 1 rfl rfl rfl rfl)
  · refine J.icmp_ge tk_Shelf_isNumber 4 rfl rfl hF (fun hF => ?_) (fun hF => ?_)
    · exact J.wI hF (J.retz tk_Shelf_isNumber 1 rfl rfl rfl rfl)
    · exact J.wI hF (J.retz tk_Shelf_isNumber 2 rfl rfl rfl rfl)
noncomputable def F_Arrays_rangeCheck (a1 : Int32) (a2 : Int32) (a3 : Int32) : Option Unit :=
  if a2 ≤ a3 then
    if 0 ≤ a2 then
      if a3 ≤ a1 then
        some ()
      else
      none
    else
    none
  else
  none
theorem c_Arrays_rangeCheck (a1 : Int32) (a2 : Int32) (a3 : Int32) (σ : St) (w : Unit) (hF : F_Arrays_rangeCheck a1 a2 a3 = some w) : Call md_Arrays_rangeCheck 0 [mI a1, mI a2, mI a3] σ none σ := by
  rw [F_Arrays_rangeCheck] at hF
  refine Call.of ok_Arrays_rangeCheck.1 (Nat.le_of_ble_eq_true rfl) (L := [some (mI a1), some (mI a2), some (mI a3)]) rfl ?_
  refine J.icmp_le tk_Arrays_rangeCheck 2 rfl rfl hF (fun hF => ?_) (fun hF => ?_)
  · refine J.if_ge tk_Arrays_rangeCheck 1 rfl rfl hF (fun hF => ?_) (fun hF => ?_)
    · refine J.icmp_le tk_Arrays_rangeCheck 2 rfl rfl hF (fun hF => ?_) (fun hF => ?_)
      · exact J.retv tk_Arrays_rangeCheck 0 rfl rfl rfl
      · exact no_s hF
    · exact no_s hF
  · exact no_s hF
noncomputable def F_Arrays_fill4_10 (n : Nat) (g1 : Nat) (u1 : Nat) : Nat → Int32 → Int32 → Int32 → St → Option St
  | 0, _, _, _, _ => none
  | k + 1, l2, l3, l4, σ =>
    if l2 ≤ l4 then
      some σ
    else
    (ast σ g1 u1 l4 l3).bind fun σ2 =>
    (F_Arrays_fill4_10 n g1 u1 k) l2 l3 (l4 + 1) σ2
noncomputable def F_Arrays_fill4 (n : Nat) (g1 : Nat) (u1 : Nat) (a2 : Int32) (a3 : Int32) (a4 : Int32) (σ : St) : Option St :=
  (F_Arrays_rangeCheck (nI (lenOf g1 u1)) a2 a3).bind fun z1 =>
  F_Arrays_fill4_10 n g1 u1 n a3 a4 a2 σ
theorem h_Arrays_fill4_10 (n : Nat) (g1 : Nat) (u1 : Nat) (w : St) : ∀ (k : Nat) (l2 : Int32) (l3 : Int32) (l4 : Int32) (σ : St), F_Arrays_fill4_10 n g1 u1 k l2 l3 l4 σ = some w → J md_Arrays_fill4 1 10 [some (mA g1 u1), none, some (mI l2), some (mI l3), some (mI l4)] [] σ none w := by
  intro k
  induction k with
  | zero => intro l2 l3 l4 σ hF; exact no_s hF
  | succ k ih =>
    intro l2 l3 l4 σ hF
    rw [F_Arrays_fill4_10] at hF
    refine J.icmp_ge tk_Arrays_fill4 2 rfl rfl hF (fun hF => ?_) (fun hF => ?_)
    · exact J.wsV hF (J.retv tk_Arrays_fill4 0 rfl rfl rfl)
    · refine J.iast tk_Arrays_fill4 3 rfl rfl hF (fun σ2 hF => ?_)
      exact J.run tk_Arrays_fill4 2 rfl (ih _ _ _ _ hF)
theorem c_Arrays_fill4 (n : Nat) (g1 : Nat) (u1 : Nat) (a2 : Int32) (a3 : Int32) (a4 : Int32) (σ : St) (w : St) (hF : F_Arrays_fill4 n g1 u1 a2 a3 a4 σ = some w) : Call md_Arrays_fill4 1 [mA g1 u1, mI a2, mI a3, mI a4] σ none w := by
  rw [F_Arrays_fill4] at hF
  refine Call.of ok_Arrays_fill4.1 (Nat.le_of_ble_eq_true rfl) (L := [some (mA g1 u1), some (mI a2), some (mI a3), some (mI a4), none]) rfl ?_
  refine J.cpV tk_Arrays_fill4 (as := [mI (nI (lenOf g1 u1)), mI a2, mI a3]) (rest := []) 4 rfl rfl rfl (ckS (md' := md_Arrays_rangeCheck) lk_10_13 ok_Arrays_rangeCheck rfl) rfl (by decide) (fun s1 h => c_Arrays_rangeCheck _ _ _ _ _ h) hF (fun z1 hF => ?_)
  exact J.run tk_Arrays_fill4 2 rfl (J.fgt [true, false, true, true, true] (h_Arrays_fill4_10 n g1 u1 w n _ _ _ _ hF))
noncomputable def F_Shelf_make (n : Nat) (t : Nat) (a1 : Int32) (a2 : Int32) (a3 : Int32) (σ : St) : Option St :=
  (F_Shelf_isNumber t a1 σ).bind fun v1 =>
  if v1 = 0 then
    some σ
  else
  if a2 < 0 then
    some σ
  else
  if σ.1 1 t 0 < a2 then
    some σ
  else
  (ast σ 2 t a1 a2).bind fun σ2 =>
  (F_Arrays_fill4 n 3 t (a1 * (σ2.1 1 t 0)) ((a1 * (σ2.1 1 t 0)) + a2) a3 σ2).bind fun σ3 =>
  some σ3
theorem c_Shelf_make (n : Nat) (t : Nat) (a1 : Int32) (a2 : Int32) (a3 : Int32) (σ : St) (w : St) (hF : F_Shelf_make n t a1 a2 a3 σ = some w) : Call md_Shelf_make 2 [mR 1 t, mI a1, mI a2, mI a3] σ none w := by
  rw [F_Shelf_make] at hF
  refine Call.of ok_Shelf_make.1 (Nat.le_of_ble_eq_true rfl) (L := [some (mR 1 t), some (mI a1), some (mI a2), some (mI a3)]) rfl ?_
  refine J.cpI tk_Shelf_make (as := [mR 1 t, mI a1]) (rest := []) 2 rfl rfl rfl (ckV (md' := md_Shelf_isNumber) lk_4_30 ok_Shelf_isNumber rfl rfl rfl) rfl (by decide) (fun v1 h => c_Shelf_isNumber _ _ _ _ h) hF (fun v1 hF => ?_)
  refine J.if_eq tk_Shelf_make 0 rfl rfl hF (fun hF => ?_) (fun hF => ?_)
  · exact J.wsV hF (J.retv tk_Shelf_make 0 rfl rfl rfl)
  · refine J.if_lt tk_Shelf_make 1 rfl rfl hF (fun hF => ?_) (fun hF => ?_)
    · exact J.wsV hF (J.retv tk_Shelf_make 0 rfl rfl rfl)
    · refine J.icmp_gt tk_Shelf_make 3 rfl rfl hF (fun hF => ?_) (fun hF => ?_)
      · exact J.wsV hF (J.retv tk_Shelf_make 0 rfl rfl rfl)
      · refine J.iast tk_Shelf_make 4 rfl rfl hF (fun σ2 hF => ?_)
        refine J.csV tk_Shelf_make (as := [mA 3 t, mI (a1 * (σ2.1 1 t 0)), mI ((a1 * (σ2.1 1 t 0)) + a2), mI a3]) (rest := []) 13 rfl rfl rfl (ckS (md' := md_Arrays_fill4) lk_4_34 ok_Arrays_fill4 rfl) rfl (by decide) (fun s1 h => c_Arrays_fill4 n _ _ _ _ _ _ _ h) hF (fun σ3 hF => ?_)
        exact J.wsV hF (J.retv tk_Shelf_make 0 rfl rfl rfl)
noncomputable def F_Tent_makeIn (n : Nat) (t1 : Nat) (a2 : Int32) (a3 : Int32) (a4 : Int32) (σ : St) : Option (Int32 × St) :=
  (F_Shelf_isNumber t1 a2 σ).bind fun v1 =>
  if v1 = 0 then
    some ((-1), σ)
  else
  if a3 ≤ σ.1 1 t1 0 then
    if 0 ≤ a3 then
      (F_Shelf_make n t1 a2 a3 a4 σ).bind fun σ2 =>
      some (a3, σ2)
    else
    b2 (F_Tent_found 5 σ) fun v3 σ4 =>
    some (v3, σ4)
  else
  some ((-1), σ)
theorem c_Tent_makeIn (n : Nat) (t1 : Nat) (a2 : Int32) (a3 : Int32) (a4 : Int32) (σ : St) (w : (Int32 × St)) (hF : F_Tent_makeIn n t1 a2 a3 a4 σ = some w) : Call md_Tent_makeIn 3 [mR 0 0, mR 1 t1, mI a2, mI a3, mI a4] σ (some (mI w.1)) w.2 := by
  rw [F_Tent_makeIn] at hF
  refine Call.of ok_Tent_makeIn.1 (Nat.le_of_ble_eq_true rfl) (L := [some (mR 0 0), some (mR 1 t1), some (mI a2), some (mI a3), some (mI a4)]) rfl ?_
  refine J.cpI tk_Tent_makeIn (as := [mR 1 t1, mI a2]) (rest := []) 2 rfl rfl rfl (ckV (md' := md_Shelf_isNumber) lk_5_93 ok_Shelf_isNumber rfl rfl rfl) rfl (by decide) (fun v1 h => c_Shelf_isNumber _ _ _ _ h) hF (fun v1 hF => ?_)
  refine J.if_eq tk_Tent_makeIn 0 rfl rfl hF (fun hF => ?_) (fun hF => ?_)
  · exact J.wsI hF (J.reti tk_Tent_makeIn 1 rfl rfl rfl)
  · refine J.icmp_le tk_Tent_makeIn 3 rfl rfl hF (fun hF => ?_) (fun hF => ?_)
    · refine J.if_ge tk_Tent_makeIn 1 rfl rfl hF (fun hF => ?_) (fun hF => ?_)
      · refine J.csV tk_Tent_makeIn (as := [mR 1 t1, mI a2, mI a3, mI a4]) (rest := []) 4 rfl rfl rfl (ckV (md' := md_Shelf_make) lk_5_337 ok_Shelf_make rfl rfl rfl) rfl (by decide) (fun s1 h => c_Shelf_make n _ _ _ _ _ _ h) hF (fun σ2 hF => ?_)
        exact J.wsI hF (J.reti tk_Tent_makeIn 1 rfl rfl rfl)
      · refine J.csI tk_Tent_makeIn (as := [mR 0 0, mI 5]) (rest := []) 2 rfl rfl rfl (ckV (md' := md_Tent_found) lk_5_97 ok_Tent_found rfl rfl rfl) rfl (by decide) (fun v1 s1 h => c_Tent_found _ _ (v1, s1) h) hF (fun v3 σ4 hF => ?_)
        exact J.wsI hF (J.reti tk_Tent_makeIn 0 rfl rfl rfl)
    · exact J.wsI hF (J.reti tk_Tent_makeIn 1 rfl rfl rfl)
noncomputable def F_Tent_row (n : Nat) (a1 : Int32) (a2 : Int32) (σ : St) : Option (Int32 × St) :=
  b2 (F_Tent_makeIn n 0 a1 a2 0 σ) fun v1 σ2 =>
  some (v1, σ2)
theorem c_Tent_row (n : Nat) (a1 : Int32) (a2 : Int32) (σ : St) (w : (Int32 × St)) (hF : F_Tent_row n a1 a2 σ = some w) : Call md_Tent_row 4 [mR 0 0, mI a1, mI a2] σ (some (mI w.1)) w.2 := by
  rw [F_Tent_row] at hF
  refine Call.of ok_Tent_row.1 (Nat.le_of_ble_eq_true rfl) (L := [some (mR 0 0), some (mI a1), some (mI a2)]) rfl ?_
  refine J.csI tk_Tent_row (as := [mR 0 0, mR 1 0, mI a1, mI a2, mI 0]) (rest := []) 6 rfl rfl rfl (ckV (md' := md_Tent_makeIn) lk_5_66 ok_Tent_makeIn rfl rfl rfl) rfl (by decide) (fun v1 s1 h => c_Tent_makeIn n _ _ _ _ _ (v1, s1) h) hF (fun v1 σ2 hF => ?_)
  exact J.wsI hF (J.reti tk_Tent_row 0 rfl rfl rfl)
noncomputable def F_Shelf_sizeOf (t : Nat) (a1 : Int32) (σ : St) : Option Int32 :=
  (F_Shelf_isNumber t a1 σ).bind fun v1 =>
  if v1 = 0 then
    some (-1)
  else
  (ald σ 2 t a1).bind fun v2 =>
  some v2
theorem c_Shelf_sizeOf (t : Nat) (a1 : Int32) (σ : St) (w : Int32) (hF : F_Shelf_sizeOf t a1 σ = some w) : Call md_Shelf_sizeOf 1 [mR 1 t, mI a1] σ (some (mI w)) σ := by
  rw [F_Shelf_sizeOf] at hF
  refine Call.of ok_Shelf_sizeOf.1 (Nat.le_of_ble_eq_true rfl) (L := [some (mR 1 t), some (mI a1)]) rfl ?_
  refine J.cpI tk_Shelf_sizeOf (as := [mR 1 t, mI a1]) (rest := []) 2 rfl rfl rfl (ckV (md' := md_Shelf_isNumber) lk_4_30 ok_Shelf_isNumber rfl rfl rfl) rfl (by decide) (fun v1 h => c_Shelf_isNumber _ _ _ _ h) hF (fun v1 hF => ?_)
  refine J.if_eq tk_Shelf_sizeOf 0 rfl rfl hF (fun hF => ?_) (fun hF => ?_)
  · exact J.wI hF (J.reti tk_Shelf_sizeOf 1 rfl rfl rfl)
  · refine J.iald tk_Shelf_sizeOf 3 rfl rfl hF (fun v2 hF => ?_)
    exact J.wI hF (J.reti tk_Shelf_sizeOf 1 rfl rfl rfl)
noncomputable def F_Shelf_isThere (t : Nat) (a1 : Int32) (σ : St) : Option Int32 :=
  (F_Shelf_sizeOf t a1 σ).bind fun v1 =>
  if v1 < 0 then
    some 0
  else
  some 1
theorem c_Shelf_isThere (t : Nat) (a1 : Int32) (σ : St) (w : Int32) (hF : F_Shelf_isThere t a1 σ = some w) : Call md_Shelf_isThere 2 [mR 1 t, mI a1] σ (some (mI w)) σ := by
  rw [F_Shelf_isThere] at hF
  refine Call.of ok_Shelf_isThere.1 (Nat.le_of_ble_eq_true rfl) (L := [some (mR 1 t), some (mI a1)]) rfl ?_
  refine J.cpI tk_Shelf_isThere (as := [mR 1 t, mI a1]) (rest := []) 2 rfl rfl rfl (ckV (md' := md_Shelf_sizeOf) lk_4_26 ok_Shelf_sizeOf rfl rfl rfl) rfl (by decide) (fun v1 h => c_Shelf_sizeOf _ _ _ _ h) hF (fun v1 hF => ?_)
  refine J.if_lt tk_Shelf_isThere 0 rfl rfl hF (fun hF => ?_) (fun hF => ?_)
  · exact J.wI hF (J.retz tk_Shelf_isThere 1 rfl rfl rfl rfl)
  · exact J.wI hF (J.retz tk_Shelf_isThere 2 rfl rfl rfl rfl)
noncomputable def F_Tent_refuseMissing (t1 : Nat) (a2 : Int32) (σ : St) : Option (Int32 × St) :=
  (F_Shelf_isNumber t1 a2 σ).bind fun v1 =>
  if v1 = 0 then
    some ((-1), σ)
  else
  (F_Shelf_isThere t1 a2 σ).bind fun v2 =>
  if v2 = 0 then
    b2 (F_Tent_found 1 σ) fun v3 σ4 =>
    some (v3, σ4)
  else
  some (0, σ)
theorem c_Tent_refuseMissing (t1 : Nat) (a2 : Int32) (σ : St) (w : (Int32 × St)) (hF : F_Tent_refuseMissing t1 a2 σ = some w) : Call md_Tent_refuseMissing 3 [mR 0 0, mR 1 t1, mI a2] σ (some (mI w.1)) w.2 := by
  rw [F_Tent_refuseMissing] at hF
  refine Call.of ok_Tent_refuseMissing.1 (Nat.le_of_ble_eq_true rfl) (L := [some (mR 0 0), some (mR 1 t1), some (mI a2)]) rfl ?_
  refine J.cpI tk_Tent_refuseMissing (as := [mR 1 t1, mI a2]) (rest := []) 2 rfl rfl rfl (ckV (md' := md_Shelf_isNumber) lk_5_93 ok_Shelf_isNumber rfl rfl rfl) rfl (by decide) (fun v1 h => c_Shelf_isNumber _ _ _ _ h) hF (fun v1 hF => ?_)
  refine J.if_ne tk_Tent_refuseMissing 0 rfl rfl hF (fun hF => ?_) (fun hF => ?_)
  · refine J.cpI tk_Tent_refuseMissing (as := [mR 1 t1, mI a2]) (rest := []) 2 rfl rfl rfl (ckV (md' := md_Shelf_isThere) lk_5_101 ok_Shelf_isThere rfl rfl rfl) rfl (by decide) (fun v1 h => c_Shelf_isThere _ _ _ _ h) hF (fun v2 hF => ?_)
    refine J.if_eq tk_Tent_refuseMissing 0 rfl rfl hF (fun hF => ?_) (fun hF => ?_)
    · refine J.csI tk_Tent_refuseMissing (as := [mR 0 0, mI 1]) (rest := []) 2 rfl rfl rfl (ckV (md' := md_Tent_found) lk_5_97 ok_Tent_found rfl rfl rfl) rfl (by decide) (fun v1 s1 h => c_Tent_found _ _ (v1, s1) h) hF (fun v3 σ4 hF => ?_)
      exact J.wsI hF (J.reti tk_Tent_refuseMissing 0 rfl rfl rfl)
    · exact J.wsI hF (J.reti tk_Tent_refuseMissing 2 rfl rfl rfl)
  · exact J.wsI hF (J.reti tk_Tent_refuseMissing 1 rfl rfl rfl)
noncomputable def F_Shelf_hasPlace (t : Nat) (a1 : Int32) (a2 : Int32) (σ : St) : Option Int32 :=
  if a2 < 0 then
    some 0
  else
  (F_Shelf_sizeOf t a1 σ).bind fun v1 =>
  if v1 ≤ a2 then
    some 0
  else
  some 1
theorem c_Shelf_hasPlace (t : Nat) (a1 : Int32) (a2 : Int32) (σ : St) (w : Int32) (hF : F_Shelf_hasPlace t a1 a2 σ = some w) : Call md_Shelf_hasPlace 2 [mR 1 t, mI a1, mI a2] σ (some (mI w)) σ := by
  rw [F_Shelf_hasPlace] at hF
  refine Call.of ok_Shelf_hasPlace.1 (Nat.le_of_ble_eq_true rfl) (L := [some (mR 1 t), some (mI a1), some (mI a2)]) rfl ?_
  refine J.if_lt tk_Shelf_hasPlace 1 rfl rfl hF (fun hF => ?_) (fun hF => ?_)
  · exact J.wI hF (J.retz tk_Shelf_hasPlace 1 rfl rfl rfl rfl)
  · refine J.cpI tk_Shelf_hasPlace (as := [mR 1 t, mI a1]) (rest := [mI a2]) 3 rfl rfl rfl (ckV (md' := md_Shelf_sizeOf) lk_4_26 ok_Shelf_sizeOf rfl rfl rfl) rfl (by decide) (fun v1 h => c_Shelf_sizeOf _ _ _ _ h) hF (fun v1 hF => ?_)
    refine J.icmp_ge tk_Shelf_hasPlace 0 rfl rfl hF (fun hF => ?_) (fun hF => ?_)
    · exact J.wI hF (J.retz tk_Shelf_hasPlace 1 rfl rfl rfl rfl)
    · exact J.wI hF (J.retz tk_Shelf_hasPlace 2 rfl rfl rfl rfl)
noncomputable def F_Tent_refusePlace (t1 : Nat) (a2 : Int32) (a3 : Int32) (σ : St) : Option (Int32 × St) :=
  b2 (F_Tent_refuseMissing t1 a2 σ) fun v1 σ2 =>
  if v1 = 0 then
    (F_Shelf_hasPlace t1 a2 a3 σ2).bind fun v3 =>
    if v3 = 0 then
      b2 (F_Tent_found 2 σ2) fun v4 σ5 =>
      some (v4, σ5)
    else
    some (0, σ2)
  else
  some (v1, σ2)
theorem c_Tent_refusePlace (t1 : Nat) (a2 : Int32) (a3 : Int32) (σ : St) (w : (Int32 × St)) (hF : F_Tent_refusePlace t1 a2 a3 σ = some w) : Call md_Tent_refusePlace 4 [mR 0 0, mR 1 t1, mI a2, mI a3] σ (some (mI w.1)) w.2 := by
  rw [F_Tent_refusePlace] at hF
  refine Call.of ok_Tent_refusePlace.1 (Nat.le_of_ble_eq_true rfl) (L := [some (mR 0 0), some (mR 1 t1), some (mI a2), some (mI a3), none]) rfl ?_
  refine J.csI tk_Tent_refusePlace (as := [mR 0 0, mR 1 t1, mI a2]) (rest := []) 3 rfl rfl rfl (ckV (md' := md_Tent_refuseMissing) lk_5_86 ok_Tent_refuseMissing rfl rfl rfl) rfl (by decide) (fun v1 s1 h => c_Tent_refuseMissing _ _ _ (v1, s1) h) hF (fun v1 σ2 hF => ?_)
  refine J.if_eq tk_Tent_refusePlace 2 rfl rfl hF (fun hF => ?_) (fun hF => ?_)
  · refine J.cpI tk_Tent_refusePlace (as := [mR 1 t1, mI a2, mI a3]) (rest := []) 3 rfl rfl rfl (ckV (md' := md_Shelf_hasPlace) lk_5_340 ok_Shelf_hasPlace rfl rfl rfl) rfl (by decide) (fun v1 h => c_Shelf_hasPlace _ _ _ _ _ h) hF (fun v3 hF => ?_)
    refine J.if_eq tk_Tent_refusePlace 0 rfl rfl hF (fun hF => ?_) (fun hF => ?_)
    · refine J.csI tk_Tent_refusePlace (as := [mR 0 0, mI 2]) (rest := []) 2 rfl rfl rfl (ckV (md' := md_Tent_found) lk_5_97 ok_Tent_found rfl rfl rfl) rfl (by decide) (fun v1 s1 h => c_Tent_found _ _ (v1, s1) h) hF (fun v4 σ5 hF => ?_)
      exact J.wsI hF (J.reti tk_Tent_refusePlace 0 rfl rfl rfl)
    · exact J.wsI hF (J.reti tk_Tent_refusePlace 2 rfl rfl rfl)
  · exact J.wsI hF (J.reti tk_Tent_refusePlace 1 rfl rfl rfl)
noncomputable def F_Shelf_get (t : Nat) (a1 : Int32) (a2 : Int32) (σ : St) : Option Int32 :=
  (F_Shelf_hasPlace t a1 a2 σ).bind fun v1 =>
  if v1 = 0 then
    some 0
  else
  (ald σ 3 t ((a1 * (σ.1 1 t 0)) + a2)).bind fun v2 =>
  some v2
theorem c_Shelf_get (t : Nat) (a1 : Int32) (a2 : Int32) (σ : St) (w : Int32) (hF : F_Shelf_get t a1 a2 σ = some w) : Call md_Shelf_get 3 [mR 1 t, mI a1, mI a2] σ (some (mI w)) σ := by
  rw [F_Shelf_get] at hF
  refine Call.of ok_Shelf_get.1 (Nat.le_of_ble_eq_true rfl) (L := [some (mR 1 t), some (mI a1), some (mI a2)]) rfl ?_
  refine J.cpI tk_Shelf_get (as := [mR 1 t, mI a1, mI a2]) (rest := []) 3 rfl rfl rfl (ckV (md' := md_Shelf_hasPlace) lk_4_37 ok_Shelf_hasPlace rfl rfl rfl) rfl (by decide) (fun v1 h => c_Shelf_hasPlace _ _ _ _ _ h) hF (fun v1 hF => ?_)
  refine J.if_eq tk_Shelf_get 0 rfl rfl hF (fun hF => ?_) (fun hF => ?_)
  · exact J.wI hF (J.reti tk_Shelf_get 1 rfl rfl rfl)
  · refine J.iald tk_Shelf_get 8 rfl rfl hF (fun v2 hF => ?_)
    exact J.wI hF (J.reti tk_Shelf_get 1 rfl rfl rfl)
noncomputable def F_Shelf_set (t : Nat) (a1 : Int32) (a2 : Int32) (a3 : Int32) (σ : St) : Option St :=
  (F_Shelf_hasPlace t a1 a2 σ).bind fun v1 =>
  if v1 = 0 then
    some σ
  else
  (ast σ 3 t ((a1 * (σ.1 1 t 0)) + a2) a3).bind fun σ2 =>
  some σ2
theorem c_Shelf_set (t : Nat) (a1 : Int32) (a2 : Int32) (a3 : Int32) (σ : St) (w : St) (hF : F_Shelf_set t a1 a2 a3 σ = some w) : Call md_Shelf_set 3 [mR 1 t, mI a1, mI a2, mI a3] σ none w := by
  rw [F_Shelf_set] at hF
  refine Call.of ok_Shelf_set.1 (Nat.le_of_ble_eq_true rfl) (L := [some (mR 1 t), some (mI a1), some (mI a2), some (mI a3)]) rfl ?_
  refine J.cpI tk_Shelf_set (as := [mR 1 t, mI a1, mI a2]) (rest := []) 3 rfl rfl rfl (ckV (md' := md_Shelf_hasPlace) lk_4_37 ok_Shelf_hasPlace rfl rfl rfl) rfl (by decide) (fun v1 h => c_Shelf_hasPlace _ _ _ _ _ h) hF (fun v1 hF => ?_)
  refine J.if_eq tk_Shelf_set 0 rfl rfl hF (fun hF => ?_) (fun hF => ?_)
  · exact J.wsV hF (J.retv tk_Shelf_set 0 rfl rfl rfl)
  · refine J.iast tk_Shelf_set 9 rfl rfl hF (fun σ2 hF => ?_)
    exact J.wsV hF (J.retv tk_Shelf_set 0 rfl rfl rfl)
noncomputable def F_Tent_lay (a1 : Int32) (a2 : Int32) (a3 : Int32) (σ : St) : Option (Int32 × St) :=
  b2 (F_Tent_refusePlace 0 a1 a2 σ) fun v1 σ2 =>
  if v1 = 0 then
    (F_Shelf_get 0 a1 a2 σ2).bind fun v3 =>
    bs (si σ2 0 0 10 v3) fun σ4 =>
    (F_Shelf_set 0 a1 a2 a3 σ4).bind fun σ5 =>
    some (1, σ5)
  else
  some (v1, σ2)
theorem c_Tent_lay (a1 : Int32) (a2 : Int32) (a3 : Int32) (σ : St) (w : (Int32 × St)) (hF : F_Tent_lay a1 a2 a3 σ = some w) : Call md_Tent_lay 5 [mR 0 0, mI a1, mI a2, mI a3] σ (some (mI w.1)) w.2 := by
  rw [F_Tent_lay] at hF
  refine Call.of ok_Tent_lay.1 (Nat.le_of_ble_eq_true rfl) (L := [some (mR 0 0), some (mI a1), some (mI a2), some (mI a3), none]) rfl ?_
  refine J.csI tk_Tent_lay (as := [mR 0 0, mR 1 0, mI a1, mI a2]) (rest := []) 5 rfl rfl rfl (ckV (md' := md_Tent_refusePlace) lk_5_70 ok_Tent_refusePlace rfl rfl rfl) rfl (by decide) (fun v1 s1 h => c_Tent_refusePlace _ _ _ _ (v1, s1) h) hF (fun v1 σ2 hF => ?_)
  refine J.if_eq tk_Tent_lay 2 rfl rfl hF (fun hF => ?_) (fun hF => ?_)
  · refine J.cpI tk_Tent_lay (as := [mR 1 0, mI a1, mI a2]) (rest := [mR 0 0]) 5 rfl rfl rfl (ckV (md' := md_Shelf_get) lk_5_74 ok_Shelf_get rfl rfl rfl) rfl (by decide) (fun v1 h => c_Shelf_get _ _ _ _ _ h) hF (fun v3 hF => ?_)
    refine J.putI tk_Tent_lay 0 rfl rfl rfl rfl rfl ⟨rfl, rfl⟩ hF (fun σ4 hF => ?_)
    refine J.csV tk_Tent_lay (as := [mR 1 0, mI a1, mI a2, mI a3]) (rest := []) 5 rfl rfl rfl (ckV (md' := md_Shelf_set) lk_5_82 ok_Shelf_set rfl rfl rfl) rfl (by decide) (fun s1 h => c_Shelf_set _ _ _ _ _ _ h) hF (fun σ5 hF => ?_)
    exact J.wsI hF (J.reti tk_Tent_lay 1 rfl rfl rfl)
  · exact J.wsI hF (J.reti tk_Tent_lay 1 rfl rfl rfl)
noncomputable def F_Tent_at (a1 : Int32) (a2 : Int32) (σ : St) : Option (Int32 × St) :=
  b2 (F_Tent_refusePlace 0 a1 a2 σ) fun v1 σ2 =>
  if v1 = 0 then
    (F_Shelf_get 0 a1 a2 σ2).bind fun v3 =>
    bs (si σ2 0 0 10 v3) fun σ4 =>
    some (1, σ4)
  else
  some (v1, σ2)
theorem c_Tent_at (a1 : Int32) (a2 : Int32) (σ : St) (w : (Int32 × St)) (hF : F_Tent_at a1 a2 σ = some w) : Call md_Tent_at 5 [mR 0 0, mI a1, mI a2] σ (some (mI w.1)) w.2 := by
  rw [F_Tent_at] at hF
  refine Call.of ok_Tent_at.1 (Nat.le_of_ble_eq_true rfl) (L := [some (mR 0 0), some (mI a1), some (mI a2), none]) rfl ?_
  refine J.csI tk_Tent_at (as := [mR 0 0, mR 1 0, mI a1, mI a2]) (rest := []) 5 rfl rfl rfl (ckV (md' := md_Tent_refusePlace) lk_5_70 ok_Tent_refusePlace rfl rfl rfl) rfl (by decide) (fun v1 s1 h => c_Tent_refusePlace _ _ _ _ (v1, s1) h) hF (fun v1 σ2 hF => ?_)
  refine J.if_eq tk_Tent_at 2 rfl rfl hF (fun hF => ?_) (fun hF => ?_)
  · refine J.cpI tk_Tent_at (as := [mR 1 0, mI a1, mI a2]) (rest := [mR 0 0]) 5 rfl rfl rfl (ckV (md' := md_Shelf_get) lk_5_74 ok_Shelf_get rfl rfl rfl) rfl (by decide) (fun v1 h => c_Shelf_get _ _ _ _ _ h) hF (fun v3 hF => ?_)
    refine J.putI tk_Tent_at 0 rfl rfl rfl rfl rfl ⟨rfl, rfl⟩ hF (fun σ4 hF => ?_)
    exact J.wsI hF (J.reti tk_Tent_at 1 rfl rfl rfl)
  · exact J.wsI hF (J.reti tk_Tent_at 1 rfl rfl rfl)
noncomputable def F_Shelf_remove (t : Nat) (a1 : Int32) (σ : St) : Option St :=
  (F_Shelf_isNumber t a1 σ).bind fun v1 =>
  if v1 = 0 then
    some σ
  else
  (ast σ 2 t a1 (-1)).bind fun σ2 =>
  some σ2
theorem c_Shelf_remove (t : Nat) (a1 : Int32) (σ : St) (w : St) (hF : F_Shelf_remove t a1 σ = some w) : Call md_Shelf_remove 1 [mR 1 t, mI a1] σ none w := by
  rw [F_Shelf_remove] at hF
  refine Call.of ok_Shelf_remove.1 (Nat.le_of_ble_eq_true rfl) (L := [some (mR 1 t), some (mI a1)]) rfl ?_
  refine J.cpI tk_Shelf_remove (as := [mR 1 t, mI a1]) (rest := []) 2 rfl rfl rfl (ckV (md' := md_Shelf_isNumber) lk_4_30 ok_Shelf_isNumber rfl rfl rfl) rfl (by decide) (fun v1 h => c_Shelf_isNumber _ _ _ _ h) hF (fun v1 hF => ?_)
  refine J.if_eq tk_Shelf_remove 0 rfl rfl hF (fun hF => ?_) (fun hF => ?_)
  · exact J.wsV hF (J.retv tk_Shelf_remove 0 rfl rfl rfl)
  · refine J.iast tk_Shelf_remove 4 rfl rfl hF (fun σ2 hF => ?_)
    exact J.wsV hF (J.retv tk_Shelf_remove 0 rfl rfl rfl)
noncomputable def F_Tent_tear (a1 : Int32) (σ : St) : Option (Int32 × St) :=
  b2 (F_Tent_refuseMissing 0 a1 σ) fun v1 σ2 =>
  if v1 = 0 then
    (F_Shelf_remove 0 a1 σ2).bind fun σ3 =>
    some (1, σ3)
  else
  some (v1, σ2)
theorem c_Tent_tear (a1 : Int32) (σ : St) (w : (Int32 × St)) (hF : F_Tent_tear a1 σ = some w) : Call md_Tent_tear 4 [mR 0 0, mI a1] σ (some (mI w.1)) w.2 := by
  rw [F_Tent_tear] at hF
  refine Call.of ok_Tent_tear.1 (Nat.le_of_ble_eq_true rfl) (L := [some (mR 0 0), some (mI a1), none]) rfl ?_
  refine J.csI tk_Tent_tear (as := [mR 0 0, mR 1 0, mI a1]) (rest := []) 4 rfl rfl rfl (ckV (md' := md_Tent_refuseMissing) lk_5_86 ok_Tent_refuseMissing rfl rfl rfl) rfl (by decide) (fun v1 s1 h => c_Tent_refuseMissing _ _ _ (v1, s1) h) hF (fun v1 σ2 hF => ?_)
  refine J.if_eq tk_Tent_tear 2 rfl rfl hF (fun hF => ?_) (fun hF => ?_)
  · refine J.csV tk_Tent_tear (as := [mR 1 0, mI a1]) (rest := []) 3 rfl rfl rfl (ckV (md' := md_Shelf_remove) lk_5_90 ok_Shelf_remove rfl rfl rfl) rfl (by decide) (fun s1 h => c_Shelf_remove _ _ _ _ h) hF (fun σ3 hF => ?_)
    exact J.wsI hF (J.reti tk_Tent_tear 1 rfl rfl rfl)
  · exact J.wsI hF (J.reti tk_Tent_tear 1 rfl rfl rfl)
noncomputable def F_Shelf_hasSpan (t : Nat) (a1 : Int32) (a2 : Int32) (a3 : Int32) (σ : St) : Option Int32 :=
  if a2 < 0 then
    some 0
  else
  if a3 < 0 then
    some 0
  else
  (F_Shelf_sizeOf t a1 σ).bind fun v1 =>
  if (v1 - a3) < a2 then
    some 0
  else
  some 1
theorem c_Shelf_hasSpan (t : Nat) (a1 : Int32) (a2 : Int32) (a3 : Int32) (σ : St) (w : Int32) (hF : F_Shelf_hasSpan t a1 a2 a3 σ = some w) : Call md_Shelf_hasSpan 2 [mR 1 t, mI a1, mI a2, mI a3] σ (some (mI w)) σ := by
  rw [F_Shelf_hasSpan] at hF
  refine Call.of ok_Shelf_hasSpan.1 (Nat.le_of_ble_eq_true rfl) (L := [some (mR 1 t), some (mI a1), some (mI a2), some (mI a3)]) rfl ?_
  refine J.if_lt tk_Shelf_hasSpan 1 rfl rfl hF (fun hF => ?_) (fun hF => ?_)
  · exact J.wI hF (J.retz tk_Shelf_hasSpan 1 rfl rfl rfl rfl)
  · refine J.if_lt tk_Shelf_hasSpan 1 rfl rfl hF (fun hF => ?_) (fun hF => ?_)
    · exact J.wI hF (J.retz tk_Shelf_hasSpan 1 rfl rfl rfl rfl)
    · refine J.cpI tk_Shelf_hasSpan (as := [mR 1 t, mI a1]) (rest := [mI a2]) 3 rfl rfl rfl (ckV (md' := md_Shelf_sizeOf) lk_4_26 ok_Shelf_sizeOf rfl rfl rfl) rfl (by decide) (fun v1 h => c_Shelf_sizeOf _ _ _ _ h) hF (fun v1 hF => ?_)
      refine J.icmp_gt tk_Shelf_hasSpan 2 rfl rfl hF (fun hF => ?_) (fun hF => ?_)
      · exact J.wI hF (J.retz tk_Shelf_hasSpan 1 rfl rfl rfl rfl)
      · exact J.wI hF (J.retz tk_Shelf_hasSpan 2 rfl rfl rfl rfl)
noncomputable def F_Shelf_move (t : Nat) (a1 : Int32) (a2 : Int32) (a3 : Int32) (a4 : Int32) (a5 : Int32) (σ : St) : Option St :=
  (F_Shelf_hasSpan t a1 a2 a5 σ).bind fun v1 =>
  if v1 = 0 then
    some σ
  else
  (F_Shelf_hasSpan t a3 a4 a5 σ).bind fun v2 =>
  if v2 = 0 then
    some σ
  else
  (acp σ 3 t ((a1 * (σ.1 1 t 0)) + a2) 3 t ((a3 * (σ.1 1 t 0)) + a4) a5).bind fun σ3 =>
  some σ3
theorem c_Shelf_move (t : Nat) (a1 : Int32) (a2 : Int32) (a3 : Int32) (a4 : Int32) (a5 : Int32) (σ : St) (w : St) (hF : F_Shelf_move t a1 a2 a3 a4 a5 σ = some w) : Call md_Shelf_move 3 [mR 1 t, mI a1, mI a2, mI a3, mI a4, mI a5] σ none w := by
  rw [F_Shelf_move] at hF
  refine Call.of ok_Shelf_move.1 (Nat.le_of_ble_eq_true rfl) (L := [some (mR 1 t), some (mI a1), some (mI a2), some (mI a3), some (mI a4), some (mI a5)]) rfl ?_
  refine J.cpI tk_Shelf_move (as := [mR 1 t, mI a1, mI a2, mI a5]) (rest := []) 4 rfl rfl rfl (ckV (md' := md_Shelf_hasSpan) lk_4_41 ok_Shelf_hasSpan rfl rfl rfl) rfl (by decide) (fun v1 h => c_Shelf_hasSpan _ _ _ _ _ _ h) hF (fun v1 hF => ?_)
  refine J.if_eq tk_Shelf_move 0 rfl rfl hF (fun hF => ?_) (fun hF => ?_)
  · exact J.wsV hF (J.retv tk_Shelf_move 0 rfl rfl rfl)
  · refine J.cpI tk_Shelf_move (as := [mR 1 t, mI a3, mI a4, mI a5]) (rest := []) 4 rfl rfl rfl (ckV (md' := md_Shelf_hasSpan) lk_4_41 ok_Shelf_hasSpan rfl rfl rfl) rfl (by decide) (fun v1 h => c_Shelf_hasSpan _ _ _ _ _ _ h) hF (fun v2 hF => ?_)
    refine J.if_eq tk_Shelf_move 0 rfl rfl hF (fun hF => ?_) (fun hF => ?_)
    · exact J.wsV hF (J.retv tk_Shelf_move 0 rfl rfl rfl)
    · refine J.acp tk_Shelf_move 17 rfl rfl lk_4_45 rfl rfl hF (fun σ3 hF => ?_)
      exact J.wsV hF (J.retv tk_Shelf_move 0 rfl rfl rfl)
noncomputable def F_Tent_copy_57 (σ : St) : Option (Int32 × St) :=
  b2 (F_Tent_found 1 σ) fun v4 σ5 =>
  some (v4, σ5)
noncomputable def F_Tent_copy_92 (σ : St) : Option (Int32 × St) :=
  b2 (F_Tent_found 2 σ) fun v8 σ9 =>
  some (v8, σ9)
noncomputable def F_Tent_copy (a1 : Int32) (a2 : Int32) (a3 : Int32) (a4 : Int32) (a5 : Int32) (σ : St) : Option (Int32 × St) :=
  (F_Shelf_isNumber 0 a1 σ).bind fun v1 =>
  if v1 = 0 then
    some ((-1), σ)
  else
  (F_Shelf_isNumber 0 a3 σ).bind fun v2 =>
  if v2 = 0 then
    some ((-1), σ)
  else
  if 0 ≤ a5 then
    (F_Shelf_isThere 0 a1 σ).bind fun v3 =>
    if v3 = 0 then
      F_Tent_copy_57 σ
    else
    (F_Shelf_isThere 0 a3 σ).bind fun v6 =>
    if v6 = 0 then
      F_Tent_copy_57 σ
    else
    (F_Shelf_hasSpan 0 a1 a2 a5 σ).bind fun v7 =>
    if v7 = 0 then
      F_Tent_copy_92 σ
    else
    (F_Shelf_hasSpan 0 a3 a4 a5 σ).bind fun v10 =>
    if v10 = 0 then
      F_Tent_copy_92 σ
    else
    (F_Shelf_move 0 a1 a2 a3 a4 a5 σ).bind fun σ11 =>
    some (1, σ11)
  else
  b2 (F_Tent_found 5 σ) fun v12 σ13 =>
  some (v12, σ13)
theorem h_Tent_copy_57 (w : (Int32 × St)) (σ : St) (hF : F_Tent_copy_57 σ = some w) : J md_Tent_copy 4 57 [some (mR 0 0), none, none, none, none, none] [] σ (some (mI w.1)) w.2 := by
  rw [F_Tent_copy_57] at hF
  refine J.csI tk_Tent_copy (as := [mR 0 0, mI 1]) (rest := []) 2 rfl rfl rfl (ckV (md' := md_Tent_found) lk_5_97 ok_Tent_found rfl rfl rfl) rfl (by decide) (fun v1 s1 h => c_Tent_found _ _ (v1, s1) h) hF (fun v4 σ5 hF => ?_)
  exact J.wsI hF (J.reti tk_Tent_copy 0 rfl rfl rfl)
theorem h_Tent_copy_92 (w : (Int32 × St)) (σ : St) (hF : F_Tent_copy_92 σ = some w) : J md_Tent_copy 4 92 [some (mR 0 0), none, none, none, none, none] [] σ (some (mI w.1)) w.2 := by
  rw [F_Tent_copy_92] at hF
  refine J.csI tk_Tent_copy (as := [mR 0 0, mI 2]) (rest := []) 2 rfl rfl rfl (ckV (md' := md_Tent_found) lk_5_97 ok_Tent_found rfl rfl rfl) rfl (by decide) (fun v1 s1 h => c_Tent_found _ _ (v1, s1) h) hF (fun v8 σ9 hF => ?_)
  exact J.wsI hF (J.reti tk_Tent_copy 0 rfl rfl rfl)
theorem c_Tent_copy (a1 : Int32) (a2 : Int32) (a3 : Int32) (a4 : Int32) (a5 : Int32) (σ : St) (w : (Int32 × St)) (hF : F_Tent_copy a1 a2 a3 a4 a5 σ = some w) : Call md_Tent_copy 4 [mR 0 0, mI a1, mI a2, mI a3, mI a4, mI a5] σ (some (mI w.1)) w.2 := by
  rw [F_Tent_copy] at hF
  refine Call.of ok_Tent_copy.1 (Nat.le_of_ble_eq_true rfl) (L := [some (mR 0 0), some (mI a1), some (mI a2), some (mI a3), some (mI a4), some (mI a5)]) rfl ?_
  refine J.cpI tk_Tent_copy (as := [mR 1 0, mI a1]) (rest := []) 3 rfl rfl rfl (ckV (md' := md_Shelf_isNumber) lk_5_93 ok_Shelf_isNumber rfl rfl rfl) rfl (by decide) (fun v1 h => c_Shelf_isNumber _ _ _ _ h) hF (fun v1 hF => ?_)
  refine J.if_eq tk_Tent_copy 0 rfl rfl hF (fun hF => ?_) (fun hF => ?_)
  · exact J.wsI hF (J.reti tk_Tent_copy 1 rfl rfl rfl)
  · refine J.cpI tk_Tent_copy (as := [mR 1 0, mI a3]) (rest := []) 3 rfl rfl rfl (ckV (md' := md_Shelf_isNumber) lk_5_93 ok_Shelf_isNumber rfl rfl rfl) rfl (by decide) (fun v1 h => c_Shelf_isNumber _ _ _ _ h) hF (fun v2 hF => ?_)
    refine J.if_ne tk_Tent_copy 0 rfl rfl hF (fun hF => ?_) (fun hF => ?_)
    · refine J.if_ge tk_Tent_copy 1 rfl rfl hF (fun hF => ?_) (fun hF => ?_)
      · refine J.cpI tk_Tent_copy (as := [mR 1 0, mI a1]) (rest := []) 3 rfl rfl rfl (ckV (md' := md_Shelf_isThere) lk_5_101 ok_Shelf_isThere rfl rfl rfl) rfl (by decide) (fun v1 h => c_Shelf_isThere _ _ _ _ h) hF (fun v3 hF => ?_)
        refine J.if_eq tk_Tent_copy 0 rfl rfl hF (fun hF => ?_) (fun hF => ?_)
        · exact J.fgt [true, false, false, false, false, false] (h_Tent_copy_57 w _ hF)
        · refine J.cpI tk_Tent_copy (as := [mR 1 0, mI a3]) (rest := []) 3 rfl rfl rfl (ckV (md' := md_Shelf_isThere) lk_5_101 ok_Shelf_isThere rfl rfl rfl) rfl (by decide) (fun v1 h => c_Shelf_isThere _ _ _ _ h) hF (fun v6 hF => ?_)
          refine J.if_ne tk_Tent_copy 0 rfl rfl hF (fun hF => ?_) (fun hF => ?_)
          · refine J.cpI tk_Tent_copy (as := [mR 1 0, mI a1, mI a2, mI a5]) (rest := []) 5 rfl rfl rfl (ckV (md' := md_Shelf_hasSpan) lk_5_104 ok_Shelf_hasSpan rfl rfl rfl) rfl (by decide) (fun v1 h => c_Shelf_hasSpan _ _ _ _ _ _ h) hF (fun v7 hF => ?_)
            refine J.if_eq tk_Tent_copy 0 rfl rfl hF (fun hF => ?_) (fun hF => ?_)
            · exact J.fgt [true, false, false, false, false, false] (h_Tent_copy_92 w _ hF)
            · refine J.cpI tk_Tent_copy (as := [mR 1 0, mI a3, mI a4, mI a5]) (rest := []) 5 rfl rfl rfl (ckV (md' := md_Shelf_hasSpan) lk_5_104 ok_Shelf_hasSpan rfl rfl rfl) rfl (by decide) (fun v1 h => c_Shelf_hasSpan _ _ _ _ _ _ h) hF (fun v10 hF => ?_)
              refine J.if_ne tk_Tent_copy 0 rfl rfl hF (fun hF => ?_) (fun hF => ?_)
              · refine J.csV tk_Tent_copy (as := [mR 1 0, mI a1, mI a2, mI a3, mI a4, mI a5]) (rest := []) 7 rfl rfl rfl (ckV (md' := md_Shelf_move) lk_5_108 ok_Shelf_move rfl rfl rfl) rfl (by decide) (fun s1 h => c_Shelf_move _ _ _ _ _ _ _ _ h) hF (fun σ11 hF => ?_)
                exact J.wsI hF (J.reti tk_Tent_copy 1 rfl rfl rfl)
              · exact J.fgt [true, false, false, false, false, false] (h_Tent_copy_92 w _ hF)
          · exact J.fgt [true, false, false, false, false, false] (h_Tent_copy_57 w _ hF)
      · refine J.csI tk_Tent_copy (as := [mR 0 0, mI 5]) (rest := []) 2 rfl rfl rfl (ckV (md' := md_Tent_found) lk_5_97 ok_Tent_found rfl rfl rfl) rfl (by decide) (fun v1 s1 h => c_Tent_found _ _ (v1, s1) h) hF (fun v12 σ13 hF => ?_)
        exact J.wsI hF (J.reti tk_Tent_copy 0 rfl rfl rfl)
    · exact J.wsI hF (J.reti tk_Tent_copy 1 rfl rfl rfl)
noncomputable def F_Shelf_sum_5 (n : Nat) (t : Nat) : Nat → Int32 → Int64 → Int32 → St → Option Int64
  | 0, _, _, _, _ => none
  | k + 1, l1, l2, l4, σ =>
    (F_Shelf_sizeOf t l1 σ).bind fun v1 =>
    if v1 ≤ l4 then
      some l2
    else
    (F_Shelf_get t l1 l4 σ).bind fun v2 =>
    (F_Shelf_sum_5 n t k) l1 (l2 + v2.toInt64) (l4 + 1) σ
noncomputable def F_Shelf_sum (n : Nat) (t : Nat) (a1 : Int32) (σ : St) : Option Int64 :=
  F_Shelf_sum_5 n t n a1 0 0 σ
theorem h_Shelf_sum_5 (n : Nat) (t : Nat) (w : Int64) : ∀ (k : Nat) (l1 : Int32) (l2 : Int64) (l4 : Int32) (σ : St), F_Shelf_sum_5 n t k l1 l2 l4 σ = some w → J md_Shelf_sum 4 5 [some (mR 1 t), some (mI l1), some (mL l2), none, some (mI l4)] [] σ (some (mL w)) σ := by
  intro k
  induction k with
  | zero => intro l1 l2 l4 σ hF; exact no_s hF
  | succ k ih =>
    intro l1 l2 l4 σ hF
    rw [F_Shelf_sum_5] at hF
    refine J.cpI tk_Shelf_sum (as := [mR 1 t, mI l1]) (rest := [mI l4]) 3 rfl rfl rfl (ckV (md' := md_Shelf_sizeOf) lk_4_26 ok_Shelf_sizeOf rfl rfl rfl) rfl (by decide) (fun v1 h => c_Shelf_sizeOf _ _ _ _ h) hF (fun v1 hF => ?_)
    refine J.icmp_ge tk_Shelf_sum 0 rfl rfl hF (fun hF => ?_) (fun hF => ?_)
    · exact J.wL hF (J.retl tk_Shelf_sum 1 rfl rfl rfl)
    · refine J.cpI tk_Shelf_sum (as := [mR 1 t, mI l1, mI l4]) (rest := [mL l2]) 4 rfl rfl rfl (ckV (md' := md_Shelf_get) lk_4_51 ok_Shelf_get rfl rfl rfl) rfl (by decide) (fun v1 h => c_Shelf_get _ _ _ _ _ h) hF (fun v2 hF => ?_)
      exact J.run tk_Shelf_sum 5 rfl (ih _ _ _ _ hF)
theorem c_Shelf_sum (n : Nat) (t : Nat) (a1 : Int32) (σ : St) (w : Int64) (hF : F_Shelf_sum n t a1 σ = some w) : Call md_Shelf_sum 4 [mR 1 t, mI a1] σ (some (mL w)) σ := by
  rw [F_Shelf_sum] at hF
  refine Call.of ok_Shelf_sum.1 (Nat.le_of_ble_eq_true rfl) (L := [some (mR 1 t), some (mI a1), none, none, none]) rfl ?_
  exact J.run tk_Shelf_sum 4 rfl (h_Shelf_sum_5 n t w n _ _ _ _ hF)
noncomputable def F_Tent_mean (n : Nat) (a1 : Int32) (σ : St) : Option (Int32 × St) :=
  b2 (F_Tent_refuseMissing 0 a1 σ) fun v1 σ2 =>
  if v1 = 0 then
    (F_Shelf_sizeOf 0 a1 σ2).bind fun v3 =>
    if 0 < v3 then
      (F_Shelf_sum n 0 a1 σ2).bind fun v4 =>
      (dvL v4 v3.toInt64).bind fun v5 =>
      bs (si σ2 0 0 10 v5.toInt32) fun σ6 =>
      some (1, σ6)
    else
    b2 (F_Tent_found 4 σ2) fun v7 σ8 =>
    some (v7, σ8)
  else
  some (v1, σ2)
theorem c_Tent_mean (n : Nat) (a1 : Int32) (σ : St) (w : (Int32 × St)) (hF : F_Tent_mean n a1 σ = some w) : Call md_Tent_mean 5 [mR 0 0, mI a1] σ (some (mI w.1)) w.2 := by
  rw [F_Tent_mean] at hF
  refine Call.of ok_Tent_mean.1 (Nat.le_of_ble_eq_true rfl) (L := [some (mR 0 0), some (mI a1), none, none]) rfl ?_
  refine J.csI tk_Tent_mean (as := [mR 0 0, mR 1 0, mI a1]) (rest := []) 4 rfl rfl rfl (ckV (md' := md_Tent_refuseMissing) lk_5_86 ok_Tent_refuseMissing rfl rfl rfl) rfl (by decide) (fun v1 s1 h => c_Tent_refuseMissing _ _ _ (v1, s1) h) hF (fun v1 σ2 hF => ?_)
  refine J.if_eq tk_Tent_mean 2 rfl rfl hF (fun hF => ?_) (fun hF => ?_)
  · refine J.cpI tk_Tent_mean (as := [mR 1 0, mI a1]) (rest := []) 3 rfl rfl rfl (ckV (md' := md_Shelf_sizeOf) lk_5_112 ok_Shelf_sizeOf rfl rfl rfl) rfl (by decide) (fun v1 h => c_Shelf_sizeOf _ _ _ _ h) hF (fun v3 hF => ?_)
    refine J.if_gt tk_Tent_mean 2 rfl rfl hF (fun hF => ?_) (fun hF => ?_)
    · refine J.cpL tk_Tent_mean (as := [mR 1 0, mI a1]) (rest := [mR 0 0]) 4 rfl rfl rfl (ckV (md' := md_Shelf_sum) lk_5_115 ok_Shelf_sum rfl rfl rfl) rfl (by decide) (fun v1 h => c_Shelf_sum n _ _ _ _ h) hF (fun v4 hF => ?_)
      refine J.ldiv tk_Tent_mean 2 rfl rfl hF (fun v5 hF => ?_)
      refine J.putI tk_Tent_mean 1 rfl rfl rfl rfl rfl ⟨rfl, rfl⟩ hF (fun σ6 hF => ?_)
      exact J.wsI hF (J.reti tk_Tent_mean 1 rfl rfl rfl)
    · refine J.csI tk_Tent_mean (as := [mR 0 0, mI 4]) (rest := []) 2 rfl rfl rfl (ckV (md' := md_Tent_found) lk_5_97 ok_Tent_found rfl rfl rfl) rfl (by decide) (fun v1 s1 h => c_Tent_found _ _ (v1, s1) h) hF (fun v7 σ8 hF => ?_)
      exact J.wsI hF (J.reti tk_Tent_mean 0 rfl rfl rfl)
  · exact J.wsI hF (J.reti tk_Tent_mean 1 rfl rfl rfl)
noncomputable def F_Tent_text (n : Nat) (a1 : Int32) (a2 : Int32) (σ : St) : Option (Int32 × St) :=
  b2 (F_Tent_makeIn n 1 a1 a2 32 σ) fun v1 σ2 =>
  some (v1, σ2)
theorem c_Tent_text (n : Nat) (a1 : Int32) (a2 : Int32) (σ : St) (w : (Int32 × St)) (hF : F_Tent_text n a1 a2 σ = some w) : Call md_Tent_text 4 [mR 0 0, mI a1, mI a2] σ (some (mI w.1)) w.2 := by
  rw [F_Tent_text] at hF
  refine Call.of ok_Tent_text.1 (Nat.le_of_ble_eq_true rfl) (L := [some (mR 0 0), some (mI a1), some (mI a2)]) rfl ?_
  refine J.csI tk_Tent_text (as := [mR 0 0, mR 1 1, mI a1, mI a2, mI 32]) (rest := []) 6 rfl rfl rfl (ckV (md' := md_Tent_makeIn) lk_5_66 ok_Tent_makeIn rfl rfl rfl) rfl (by decide) (fun v1 s1 h => c_Tent_makeIn n _ _ _ _ _ (v1, s1) h) hF (fun v1 σ2 hF => ?_)
  exact J.wsI hF (J.reti tk_Tent_text 0 rfl rfl rfl)
noncomputable def F_Tent_put (a1 : Int32) (a2 : Int32) (a3 : Int32) (σ : St) : Option (Int32 × St) :=
  b2 (F_Tent_refusePlace 1 a1 a2 σ) fun v1 σ2 =>
  if v1 = 0 then
    (F_Shelf_get 1 a1 a2 σ2).bind fun v3 =>
    (F_Shelf_set 1 a1 a2 a3.toInt8.toInt32 σ2).bind fun σ4 =>
    some (v3 + 1000, σ4)
  else
  some (v1, σ2)
theorem c_Tent_put (a1 : Int32) (a2 : Int32) (a3 : Int32) (σ : St) (w : (Int32 × St)) (hF : F_Tent_put a1 a2 a3 σ = some w) : Call md_Tent_put 5 [mR 0 0, mI a1, mI a2, mI a3] σ (some (mI w.1)) w.2 := by
  rw [F_Tent_put] at hF
  refine Call.of ok_Tent_put.1 (Nat.le_of_ble_eq_true rfl) (L := [some (mR 0 0), some (mI a1), some (mI a2), some (mI a3), none, none]) rfl ?_
  refine J.csI tk_Tent_put (as := [mR 0 0, mR 1 1, mI a1, mI a2]) (rest := []) 5 rfl rfl rfl (ckV (md' := md_Tent_refusePlace) lk_5_70 ok_Tent_refusePlace rfl rfl rfl) rfl (by decide) (fun v1 s1 h => c_Tent_refusePlace _ _ _ _ (v1, s1) h) hF (fun v1 σ2 hF => ?_)
  refine J.if_eq tk_Tent_put 2 rfl rfl hF (fun hF => ?_) (fun hF => ?_)
  · refine J.cpI tk_Tent_put (as := [mR 1 1, mI a1, mI a2]) (rest := []) 4 rfl rfl rfl (ckV (md' := md_Shelf_get) lk_5_74 ok_Shelf_get rfl rfl rfl) rfl (by decide) (fun v1 h => c_Shelf_get _ _ _ _ _ h) hF (fun v3 hF => ?_)
    refine J.csV tk_Tent_put (as := [mR 1 1, mI a1, mI a2, mI a3.toInt8.toInt32]) (rest := []) 7 rfl rfl rfl (ckV (md' := md_Shelf_set) lk_5_82 ok_Shelf_set rfl rfl rfl) rfl (by decide) (fun s1 h => c_Shelf_set _ _ _ _ _ _ h) hF (fun σ4 hF => ?_)
    exact J.wsI hF (J.reti tk_Tent_put 3 rfl rfl rfl)
  · exact J.wsI hF (J.reti tk_Tent_put 1 rfl rfl rfl)
noncomputable def F_Camp_begin (t : Nat) (σ : St) : Option St :=
  bs (si σ 4 t 10 0) fun σ1 =>
  bs (si σ1 4 t 11 0) fun σ2 =>
  bs (si σ2 4 t 12 0) fun σ3 =>
  bs (si σ3 4 t 13 0) fun σ4 =>
  bs (si σ4 4 t 14 0) fun σ5 =>
  bs (si σ5 4 t 15 0) fun σ6 =>
  bs (si σ6 4 t 16 0) fun σ7 =>
  some σ7
theorem c_Camp_begin (t : Nat) (σ : St) (w : St) (hF : F_Camp_begin t σ = some w) : Call md_Camp_begin 0 [mR 4 t] σ none w := by
  rw [F_Camp_begin] at hF
  refine Call.of ok_Camp_begin.1 (Nat.le_of_ble_eq_true rfl) (L := [some (mR 4 t)]) rfl ?_
  refine J.putI tk_Camp_begin 2 rfl rfl rfl rfl rfl ⟨rfl, rfl⟩ hF (fun σ1 hF => ?_)
  refine J.putI tk_Camp_begin 2 rfl rfl rfl rfl rfl ⟨rfl, rfl⟩ hF (fun σ2 hF => ?_)
  refine J.putI tk_Camp_begin 2 rfl rfl rfl rfl rfl ⟨rfl, rfl⟩ hF (fun σ3 hF => ?_)
  refine J.putI tk_Camp_begin 2 rfl rfl rfl rfl rfl ⟨rfl, rfl⟩ hF (fun σ4 hF => ?_)
  refine J.putI tk_Camp_begin 2 rfl rfl rfl rfl rfl ⟨rfl, rfl⟩ hF (fun σ5 hF => ?_)
  refine J.putI tk_Camp_begin 2 rfl rfl rfl rfl rfl ⟨rfl, rfl⟩ hF (fun σ6 hF => ?_)
  refine J.putI tk_Camp_begin 2 rfl rfl rfl rfl rfl ⟨rfl, rfl⟩ hF (fun σ7 hF => ?_)
  exact J.wsV hF (J.retv tk_Camp_begin 0 rfl rfl rfl)
noncomputable def F_Reader_sign (σ : St) : Option Int32 :=
  if σ.1 16 0 2 ≤ σ.1 16 0 3 then
    some 1000
  else
  (ald σ 17 0 (σ.1 16 0 3)).bind fun v1 =>
  some v1
theorem c_Reader_sign (σ : St) (w : Int32) (hF : F_Reader_sign σ = some w) : Call md_Reader_sign 0 [mR 16 0] σ (some (mI w)) σ := by
  rw [F_Reader_sign] at hF
  refine Call.of ok_Reader_sign.1 (Nat.le_of_ble_eq_true rfl) (L := [some (mR 16 0)]) rfl ?_
  refine J.icmp_ge tk_Reader_sign 4 rfl rfl hF (fun hF => ?_) (fun hF => ?_)
  · exact J.wI hF (J.reti tk_Reader_sign 1 rfl rfl rfl)
  · refine J.iald tk_Reader_sign 4 rfl rfl hF (fun v1 hF => ?_)
    exact J.wI hF (J.reti tk_Reader_sign 1 rfl rfl rfl)
noncomputable def F_Reader_readFigure (a1 : Int32) (σ : St) : Option (Int32 × St) :=
  (F_Reader_sign σ).bind fun v1 =>
  if (v1 - 48) < 0 then
    some (1000, σ)
  else
  if (v1 - 48) ≤ a1 then
    bs (si σ 16 0 3 ((σ.1 16 0 3) + 1)) fun σ2 =>
    some (v1 - 48, σ2)
  else
  some (1000, σ)
theorem c_Reader_readFigure (a1 : Int32) (σ : St) (w : (Int32 × St)) (hF : F_Reader_readFigure a1 σ = some w) : Call md_Reader_readFigure 1 [mR 16 0, mI a1] σ (some (mI w.1)) w.2 := by
  rw [F_Reader_readFigure] at hF
  refine Call.of ok_Reader_readFigure.1 (Nat.le_of_ble_eq_true rfl) (L := [some (mR 16 0), some (mI a1), none]) rfl ?_
  refine J.cpI tk_Reader_readFigure (as := [mR 16 0]) (rest := []) 1 rfl rfl rfl (ckV (md' := md_Reader_sign) lk_3_42 ok_Reader_sign rfl rfl rfl) rfl (by decide) (fun v1 h => c_Reader_sign _ _ h) hF (fun v1 hF => ?_)
  refine J.if_lt tk_Reader_readFigure 4 rfl rfl hF (fun hF => ?_) (fun hF => ?_)
  · exact J.wsI hF (J.reti tk_Reader_readFigure 1 rfl rfl rfl)
  · refine J.icmp_le tk_Reader_readFigure 2 rfl rfl hF (fun hF => ?_) (fun hF => ?_)
    · refine J.putI tk_Reader_readFigure 5 rfl rfl rfl rfl rfl ⟨rfl, rfl⟩ hF (fun σ2 hF => ?_)
      exact J.wsI hF (J.reti tk_Reader_readFigure 1 rfl rfl rfl)
    · exact J.wsI hF (J.reti tk_Reader_readFigure 1 rfl rfl rfl)
noncomputable def F_Reader_skipBlanks_0 (n : Nat) : Nat → St → Option St
  | 0, _ => none
  | k + 1, σ =>
    if σ.1 16 0 2 ≤ σ.1 16 0 3 then
      some σ
    else
    (F_Reader_sign σ).bind fun v1 =>
    if v1 = 32 then
      bs (si σ 16 0 3 ((σ.1 16 0 3) + 1)) fun σ2 =>
      (F_Reader_skipBlanks_0 n k) σ2
    else
    some σ
noncomputable def F_Reader_skipBlanks (n : Nat) (σ : St) : Option St :=
  F_Reader_skipBlanks_0 n n σ
theorem h_Reader_skipBlanks_0 (n : Nat) (w : St) : ∀ (k : Nat) (σ : St), F_Reader_skipBlanks_0 n k σ = some w → J md_Reader_skipBlanks 1 0 [some (mR 16 0)] [] σ none w := by
  intro k
  induction k with
  | zero => intro σ hF; exact no_s hF
  | succ k ih =>
    intro σ hF
    rw [F_Reader_skipBlanks_0] at hF
    refine J.icmp_ge tk_Reader_skipBlanks 4 rfl rfl hF (fun hF => ?_) (fun hF => ?_)
    · exact J.wsV hF (J.retv tk_Reader_skipBlanks 0 rfl rfl rfl)
    · refine J.cpI tk_Reader_skipBlanks (as := [mR 16 0]) (rest := []) 1 rfl rfl rfl (ckV (md' := md_Reader_sign) lk_3_42 ok_Reader_sign rfl rfl rfl) rfl (by decide) (fun v1 h => c_Reader_sign _ _ h) hF (fun v1 hF => ?_)
      refine J.icmp_ne tk_Reader_skipBlanks 1 rfl rfl hF (fun hF => ?_) (fun hF => ?_)
      · exact J.wsV hF (J.retv tk_Reader_skipBlanks 0 rfl rfl rfl)
      · refine J.putI tk_Reader_skipBlanks 5 rfl rfl rfl rfl rfl ⟨rfl, rfl⟩ hF (fun σ2 hF => ?_)
        exact J.run tk_Reader_skipBlanks 1 rfl (ih _ hF)
theorem c_Reader_skipBlanks (n : Nat) (σ : St) (w : St) (hF : F_Reader_skipBlanks n σ = some w) : Call md_Reader_skipBlanks 1 [mR 16 0] σ none w := by
  rw [F_Reader_skipBlanks] at hF
  refine Call.of ok_Reader_skipBlanks.1 (Nat.le_of_ble_eq_true rfl) (L := [some (mR 16 0)]) rfl ?_
  exact h_Reader_skipBlanks_0 n w n _ hF
noncomputable def F_Reader_readCold_27 (n : Nat) : Nat → Int32 → St → Option (Int32 × St)
  | 0, _, _ => none
  | k + 1, l1, σ =>
    if 8 ≤ l1 then
      some (1, σ)
    else
    b2 (F_Reader_readFigure 9 σ) fun v4 σ5 =>
    if v4 = 1000 then
      some (0, σ5)
    else
    (ast σ5 5 5 l1 v4).bind fun σ6 =>
    (F_Reader_readCold_27 n k) (l1 + 1) σ6
noncomputable def F_Reader_readCold (n : Nat) (σ : St) : Option (Int32 × St) :=
  (F_Reader_skipBlanks n σ).bind fun σ1 =>
  (F_Reader_sign σ1).bind fun v2 =>
  if v2 = 99 then
    bs (si σ1 16 0 3 ((σ1.1 16 0 3) + 1)) fun σ3 =>
    F_Reader_readCold_27 n n 0 σ3
  else
  some (0, σ1)
theorem h_Reader_readCold_27 (n : Nat) (w : (Int32 × St)) : ∀ (k : Nat) (l1 : Int32) (σ : St), F_Reader_readCold_27 n k l1 σ = some w → J md_Reader_readCold 2 27 [some (mR 16 0), some (mI l1), none] [] σ (some (mI w.1)) w.2 := by
  intro k
  induction k with
  | zero => intro l1 σ hF; exact no_s hF
  | succ k ih =>
    intro l1 σ hF
    rw [F_Reader_readCold_27] at hF
    refine J.icmp_ge tk_Reader_readCold 2 rfl rfl hF (fun hF => ?_) (fun hF => ?_)
    · exact J.wsI hF (J.retz tk_Reader_readCold 1 rfl rfl rfl rfl)
    · refine J.csI tk_Reader_readCold (as := [mR 16 0, mI 9]) (rest := []) 2 rfl rfl rfl (ckV (md' := md_Reader_readFigure) lk_3_67 ok_Reader_readFigure rfl rfl rfl) rfl (by decide) (fun v1 s1 h => c_Reader_readFigure _ _ (v1, s1) h) hF (fun v4 σ5 hF => ?_)
      refine J.icmp_ne tk_Reader_readCold 3 rfl rfl hF (fun hF => ?_) (fun hF => ?_)
      · refine J.iast tk_Reader_readCold 5 rfl rfl hF (fun σ6 hF => ?_)
        exact J.run tk_Reader_readCold 2 rfl (J.fgt [true, true, false] (ih _ _ hF))
      · exact J.wsI hF (J.retz tk_Reader_readCold 1 rfl rfl rfl rfl)
theorem c_Reader_readCold (n : Nat) (σ : St) (w : (Int32 × St)) (hF : F_Reader_readCold n σ = some w) : Call md_Reader_readCold 2 [mR 16 0] σ (some (mI w.1)) w.2 := by
  rw [F_Reader_readCold] at hF
  refine Call.of ok_Reader_readCold.1 (Nat.le_of_ble_eq_true rfl) (L := [some (mR 16 0), none, none]) rfl ?_
  refine J.csV tk_Reader_readCold (as := [mR 16 0]) (rest := []) 1 rfl rfl rfl (ckV (md' := md_Reader_skipBlanks) lk_3_39 ok_Reader_skipBlanks rfl rfl rfl) rfl (by decide) (fun s1 h => c_Reader_skipBlanks n _ _ h) hF (fun σ1 hF => ?_)
  refine J.cpI tk_Reader_readCold (as := [mR 16 0]) (rest := []) 1 rfl rfl rfl (ckV (md' := md_Reader_sign) lk_3_42 ok_Reader_sign rfl rfl rfl) rfl (by decide) (fun v1 h => c_Reader_sign _ _ h) hF (fun v2 hF => ?_)
  refine J.icmp_eq tk_Reader_readCold 1 rfl rfl hF (fun hF => ?_) (fun hF => ?_)
  · refine J.putI tk_Reader_readCold 5 rfl rfl rfl rfl rfl ⟨rfl, rfl⟩ hF (fun σ3 hF => ?_)
    exact J.run tk_Reader_readCold 2 rfl (h_Reader_readCold_27 n w n _ _ hF)
  · exact J.wsI hF (J.retz tk_Reader_readCold 1 rfl rfl rfl rfl)
noncomputable def F_Camp_add (t : Nat) (a1 : Int32) (a2 : Int32) (a3 : Int32) (σ : St) : Option St :=
  if 5 ≤ σ.1 4 t 10 then
    some σ
  else
  (ast σ 6 t (σ.1 4 t 10) a1).bind fun σ1 =>
  (ast σ1 7 t (σ1.1 4 t 10) a2).bind fun σ2 =>
  (ast σ2 8 t (σ2.1 4 t 10) a3).bind fun σ3 =>
  (ast σ3 9 t (σ3.1 4 t 10) (σ3.1 4 t 10)).bind fun σ4 =>
  (ast σ4 10 t (σ4.1 4 t 10) (σ4.1 4 t 10)).bind fun σ5 =>
  (ast σ5 11 t (σ5.1 4 t 10) 0).bind fun σ6 =>
  (ast σ6 12 t (σ6.1 4 t 10) 0).bind fun σ7 =>
  bs (si σ7 4 t 10 ((σ7.1 4 t 10) + 1)) fun σ8 =>
  some σ8
theorem c_Camp_add (t : Nat) (a1 : Int32) (a2 : Int32) (a3 : Int32) (σ : St) (w : St) (hF : F_Camp_add t a1 a2 a3 σ = some w) : Call md_Camp_add 0 [mR 4 t, mI a1, mI a2, mI a3] σ none w := by
  rw [F_Camp_add] at hF
  refine Call.of ok_Camp_add.1 (Nat.le_of_ble_eq_true rfl) (L := [some (mR 4 t), some (mI a1), some (mI a2), some (mI a3)]) rfl ?_
  refine J.icmp_ge tk_Camp_add 3 rfl rfl hF (fun hF => ?_) (fun hF => ?_)
  · exact J.wsV hF (J.retv tk_Camp_add 0 rfl rfl rfl)
  · refine J.iast tk_Camp_add 5 rfl rfl hF (fun σ1 hF => ?_)
    refine J.iast tk_Camp_add 5 rfl rfl hF (fun σ2 hF => ?_)
    refine J.iast tk_Camp_add 5 rfl rfl hF (fun σ3 hF => ?_)
    refine J.iast tk_Camp_add 6 rfl rfl hF (fun σ4 hF => ?_)
    refine J.iast tk_Camp_add 6 rfl rfl hF (fun σ5 hF => ?_)
    refine J.iast tk_Camp_add 5 rfl rfl hF (fun σ6 hF => ?_)
    refine J.iast tk_Camp_add 5 rfl rfl hF (fun σ7 hF => ?_)
    refine J.putI tk_Camp_add 5 rfl rfl rfl rfl rfl ⟨rfl, rfl⟩ hF (fun σ8 hF => ?_)
    exact J.wsV hF (J.retv tk_Camp_add 0 rfl rfl rfl)
noncomputable def F_Reader_kindOf (a1 : Int32) : Option Int32 :=
  if a1 = 100 then
    some 2
  else
  if a1 = 104 then
    some 3
  else
  if a1 = 107 then
    some 5
  else
  if a1 = 110 then
    some 1
  else
  if a1 = 115 then
    some 0
  else
  if a1 = 116 then
    some 4
  else
  some (-9)
theorem c_Reader_kindOf (a1 : Int32) (σ : St) (w : Int32) (hF : F_Reader_kindOf a1 = some w) : Call md_Reader_kindOf 0 [mI a1] σ (some (mI w)) σ := by
  rw [F_Reader_kindOf] at hF
  refine Call.of ok_Reader_kindOf.1 (Nat.le_of_ble_eq_true rfl) (L := [some (mI a1)]) rfl ?_
  by_cases hs100 : a1 = 100
  · rw [if_pos hs100] at hF
    refine J.tswIn tk_Reader_kindOf 88 1 rfl rfl 100 hs100 (by decide) (by decide) rfl (by decide) ?_
    exact J.wI hF (J.reti tk_Reader_kindOf 1 rfl rfl rfl)
  rw [if_neg hs100] at hF
  by_cases hs104 : a1 = 104
  · rw [if_pos hs104] at hF
    refine J.tswIn tk_Reader_kindOf 90 1 rfl rfl 104 hs104 (by decide) (by decide) rfl (by decide) ?_
    exact J.wI hF (J.reti tk_Reader_kindOf 1 rfl rfl rfl)
  rw [if_neg hs104] at hF
  by_cases hs107 : a1 = 107
  · rw [if_pos hs107] at hF
    refine J.tswIn tk_Reader_kindOf 94 1 rfl rfl 107 hs107 (by decide) (by decide) rfl (by decide) ?_
    exact J.wI hF (J.reti tk_Reader_kindOf 1 rfl rfl rfl)
  rw [if_neg hs107] at hF
  by_cases hs110 : a1 = 110
  · rw [if_pos hs110] at hF
    refine J.tswIn tk_Reader_kindOf 86 1 rfl rfl 110 hs110 (by decide) (by decide) rfl (by decide) ?_
    exact J.wI hF (J.reti tk_Reader_kindOf 1 rfl rfl rfl)
  rw [if_neg hs110] at hF
  by_cases hs115 : a1 = 115
  · rw [if_pos hs115] at hF
    refine J.tswIn tk_Reader_kindOf 84 1 rfl rfl 115 hs115 (by decide) (by decide) rfl (by decide) ?_
    exact J.wI hF (J.reti tk_Reader_kindOf 1 rfl rfl rfl)
  rw [if_neg hs115] at hF
  by_cases hs116 : a1 = 116
  · rw [if_pos hs116] at hF
    refine J.tswIn tk_Reader_kindOf 92 1 rfl rfl 116 hs116 (by decide) (by decide) rfl (by decide) ?_
    exact J.wI hF (J.reti tk_Reader_kindOf 1 rfl rfl rfl)
  rw [if_neg hs116] at hF
  have hD : J md_Reader_kindOf 0 96 [some (mI a1)] [] σ (some (mI w)) σ := by
    exact J.wI hF (J.reti tk_Reader_kindOf 1 rfl rfl rfl)
  by_cases hg101 : a1 = 101
  · exact J.tswIn tk_Reader_kindOf 96 1 rfl rfl 101 hg101 (by decide) (by decide) rfl (by decide) hD
  by_cases hg102 : a1 = 102
  · exact J.tswIn tk_Reader_kindOf 96 1 rfl rfl 102 hg102 (by decide) (by decide) rfl (by decide) hD
  by_cases hg103 : a1 = 103
  · exact J.tswIn tk_Reader_kindOf 96 1 rfl rfl 103 hg103 (by decide) (by decide) rfl (by decide) hD
  by_cases hg105 : a1 = 105
  · exact J.tswIn tk_Reader_kindOf 96 1 rfl rfl 105 hg105 (by decide) (by decide) rfl (by decide) hD
  by_cases hg106 : a1 = 106
  · exact J.tswIn tk_Reader_kindOf 96 1 rfl rfl 106 hg106 (by decide) (by decide) rfl (by decide) hD
  by_cases hg108 : a1 = 108
  · exact J.tswIn tk_Reader_kindOf 96 1 rfl rfl 108 hg108 (by decide) (by decide) rfl (by decide) hD
  by_cases hg109 : a1 = 109
  · exact J.tswIn tk_Reader_kindOf 96 1 rfl rfl 109 hg109 (by decide) (by decide) rfl (by decide) hD
  by_cases hg111 : a1 = 111
  · exact J.tswIn tk_Reader_kindOf 96 1 rfl rfl 111 hg111 (by decide) (by decide) rfl (by decide) hD
  by_cases hg112 : a1 = 112
  · exact J.tswIn tk_Reader_kindOf 96 1 rfl rfl 112 hg112 (by decide) (by decide) rfl (by decide) hD
  by_cases hg113 : a1 = 113
  · exact J.tswIn tk_Reader_kindOf 96 1 rfl rfl 113 hg113 (by decide) (by decide) rfl (by decide) hD
  by_cases hg114 : a1 = 114
  · exact J.tswIn tk_Reader_kindOf 96 1 rfl rfl 114 hg114 (by decide) (by decide) rfl (by decide) hD
  exact J.tswOut tk_Reader_kindOf 96 1 rfl rfl (by have z0 := lv_neT hs100 (a := 100) (by decide); have z1 := lv_neT hs104 (a := 104) (by decide); have z2 := lv_neT hs107 (a := 107) (by decide); have z3 := lv_neT hs110 (a := 110) (by decide); have z4 := lv_neT hs115 (a := 115) (by decide); have z5 := lv_neT hs116 (a := 116) (by decide); have z6 := lv_neT hg101 (a := 101) (by decide); have z7 := lv_neT hg102 (a := 102) (by decide); have z8 := lv_neT hg103 (a := 103) (by decide); have z9 := lv_neT hg105 (a := 105) (by decide); have z10 := lv_neT hg106 (a := 106) (by decide); have z11 := lv_neT hg108 (a := 108) (by decide); have z12 := lv_neT hg109 (a := 109) (by decide); have z13 := lv_neT hg111 (a := 111) (by decide); have z14 := lv_neT hg112 (a := 112) (by decide); have z15 := lv_neT hg113 (a := 113) (by decide); have z16 := lv_neT hg114 (a := 114) (by decide); omega) (by decide) hD
noncomputable def F_Reader_readSleeper (σ : St) : Option (Int32 × St) :=
  (F_Reader_sign σ).bind fun v1 =>
  (F_Reader_kindOf v1).bind fun v2 =>
  if v2 = (-9) then
    some (0, σ)
  else
  bs (si σ 16 0 3 ((σ.1 16 0 3) + 1)) fun σ3 =>
  b2 (F_Reader_readFigure 5 σ3) fun v4 σ5 =>
  if v4 = 1000 then
    some (0, σ5)
  else
  b2 (F_Reader_readFigure 9 σ5) fun v6 σ7 =>
  if v6 = 1000 then
    some (0, σ7)
  else
  (F_Camp_add 5 v2 v4 v6 σ7).bind fun σ8 =>
  some (1, σ8)
theorem c_Reader_readSleeper (σ : St) (w : (Int32 × St)) (hF : F_Reader_readSleeper σ = some w) : Call md_Reader_readSleeper 2 [mR 16 0] σ (some (mI w.1)) w.2 := by
  rw [F_Reader_readSleeper] at hF
  refine Call.of ok_Reader_readSleeper.1 (Nat.le_of_ble_eq_true rfl) (L := [some (mR 16 0), none, none, none]) rfl ?_
  refine J.cpI tk_Reader_readSleeper (as := [mR 16 0]) (rest := []) 1 rfl rfl rfl (ckV (md' := md_Reader_sign) lk_3_42 ok_Reader_sign rfl rfl rfl) rfl (by decide) (fun v1 h => c_Reader_sign _ _ h) hF (fun v1 hF => ?_)
  refine J.cpI tk_Reader_readSleeper (as := [mI v1]) (rest := []) 0 rfl rfl rfl (ckS (md' := md_Reader_kindOf) lk_3_73 ok_Reader_kindOf rfl) rfl (by decide) (fun v1 h => c_Reader_kindOf _ _ _ h) hF (fun v2 hF => ?_)
  refine J.icmp_ne tk_Reader_readSleeper 3 rfl rfl hF (fun hF => ?_) (fun hF => ?_)
  · refine J.putI tk_Reader_readSleeper 5 rfl rfl rfl rfl rfl ⟨rfl, rfl⟩ hF (fun σ3 hF => ?_)
    refine J.csI tk_Reader_readSleeper (as := [mR 16 0, mI 5]) (rest := []) 2 rfl rfl rfl (ckV (md' := md_Reader_readFigure) lk_3_67 ok_Reader_readFigure rfl rfl rfl) rfl (by decide) (fun v1 s1 h => c_Reader_readFigure _ _ (v1, s1) h) hF (fun v4 σ5 hF => ?_)
    refine J.icmp_ne tk_Reader_readSleeper 3 rfl rfl hF (fun hF => ?_) (fun hF => ?_)
    · refine J.csI tk_Reader_readSleeper (as := [mR 16 0, mI 9]) (rest := []) 2 rfl rfl rfl (ckV (md' := md_Reader_readFigure) lk_3_67 ok_Reader_readFigure rfl rfl rfl) rfl (by decide) (fun v1 s1 h => c_Reader_readFigure _ _ (v1, s1) h) hF (fun v6 σ7 hF => ?_)
      refine J.icmp_ne tk_Reader_readSleeper 3 rfl rfl hF (fun hF => ?_) (fun hF => ?_)
      · refine J.csV tk_Reader_readSleeper (as := [mR 4 5, mI v2, mI v4, mI v6]) (rest := []) 5 rfl rfl rfl (ckV (md' := md_Camp_add) lk_3_76 ok_Camp_add rfl rfl rfl) rfl (by decide) (fun s1 h => c_Camp_add _ _ _ _ _ _ h) hF (fun σ8 hF => ?_)
        exact J.wsI hF (J.retz tk_Reader_readSleeper 1 rfl rfl rfl rfl)
      · exact J.wsI hF (J.retz tk_Reader_readSleeper 1 rfl rfl rfl rfl)
    · exact J.wsI hF (J.retz tk_Reader_readSleeper 1 rfl rfl rfl rfl)
  · exact J.wsI hF (J.retz tk_Reader_readSleeper 1 rfl rfl rfl rfl)
noncomputable def F_Reader_take_21 (n : Nat) (t1 : Nat) : Nat → Int32 → Int32 → St → Option St
  | 0, _, _, _ => none
  | k + 1, l2, l3, σ =>
    if σ.1 16 0 2 ≤ l3 then
      some σ
    else
    (F_Shelf_get t1 l2 l3 σ).bind fun v4 =>
    (ast σ 17 0 l3 v4).bind fun σ5 =>
    (F_Reader_take_21 n t1 k) l2 (l3 + 1) σ5
noncomputable def F_Reader_take (n : Nat) (t1 : Nat) (a2 : Int32) (σ : St) : Option St :=
  (F_Shelf_sizeOf t1 a2 σ).bind fun v1 =>
  bs (si σ 16 0 2 (mmin v1 60)) fun σ2 =>
  bs (si σ2 16 0 3 0) fun σ3 =>
  F_Reader_take_21 n t1 n a2 0 σ3
theorem h_Reader_take_21 (n : Nat) (t1 : Nat) (w : St) : ∀ (k : Nat) (l2 : Int32) (l3 : Int32) (σ : St), F_Reader_take_21 n t1 k l2 l3 σ = some w → J md_Reader_take 4 21 [some (mR 16 0), some (mR 1 t1), some (mI l2), some (mI l3)] [] σ none w := by
  intro k
  induction k with
  | zero => intro l2 l3 σ hF; exact no_s hF
  | succ k ih =>
    intro l2 l3 σ hF
    rw [F_Reader_take_21] at hF
    refine J.icmp_ge tk_Reader_take 3 rfl rfl hF (fun hF => ?_) (fun hF => ?_)
    · exact J.wsV hF (J.retv tk_Reader_take 0 rfl rfl rfl)
    · refine J.cpI tk_Reader_take (as := [mR 1 t1, mI l2, mI l3]) (rest := [mI l3, mA 17 0]) 6 rfl rfl rfl (ckV (md' := md_Shelf_get) lk_3_64 ok_Shelf_get rfl rfl rfl) rfl (by decide) (fun v1 h => c_Shelf_get _ _ _ _ _ h) hF (fun v4 hF => ?_)
      refine J.iast tk_Reader_take 0 rfl rfl hF (fun σ5 hF => ?_)
      exact J.run tk_Reader_take 2 rfl (ih _ _ _ hF)
theorem c_Reader_take (n : Nat) (t1 : Nat) (a2 : Int32) (σ : St) (w : St) (hF : F_Reader_take n t1 a2 σ = some w) : Call md_Reader_take 4 [mR 16 0, mR 1 t1, mI a2] σ none w := by
  rw [F_Reader_take] at hF
  refine Call.of ok_Reader_take.1 (Nat.le_of_ble_eq_true rfl) (L := [some (mR 16 0), some (mR 1 t1), some (mI a2), none]) rfl ?_
  refine J.cpI tk_Reader_take (as := [mR 1 t1, mI a2]) (rest := [mR 16 0]) 3 rfl rfl rfl (ckV (md' := md_Shelf_sizeOf) lk_3_49 ok_Shelf_sizeOf rfl rfl rfl) rfl (by decide) (fun v1 h => c_Shelf_sizeOf _ _ _ _ h) hF (fun v1 hF => ?_)
  refine J.mmin tk_Reader_take 1 rfl rfl lk_3_55 rfl rfl ?_
  refine J.putI tk_Reader_take 0 rfl rfl rfl rfl rfl ⟨rfl, rfl⟩ hF (fun σ2 hF => ?_)
  refine J.putI tk_Reader_take 2 rfl rfl rfl rfl rfl ⟨rfl, rfl⟩ hF (fun σ3 hF => ?_)
  exact J.run tk_Reader_take 2 rfl (h_Reader_take_21 n t1 w n _ _ _ hF)
noncomputable def F_Reader_read_53 (n : Nat) (t1 : Nat) (K27 : Int32 → St → Option (Int32 × St)) (l3 : Int32) (σ : St) : Option (Int32 × St) :=
  b2 (F_Reader_readSleeper σ) fun v8 σ9 =>
  if v8 = 0 then
    some (σ9.1 16 0 3, σ9)
  else
  K27 (l3 + 1) σ9
noncomputable def F_Reader_read_27 (n : Nat) (t1 : Nat) : Nat → Int32 → St → Option (Int32 × St)
  | 0, _, _ => none
  | k + 1, l3, σ =>
    if 5 ≤ l3 then
      (F_Reader_skipBlanks n σ).bind fun σ5 =>
      (F_Reader_sign σ5).bind fun v6 =>
      if v6 = 1000 then
        some ((-9), σ5)
      else
      some (σ5.1 16 0 3, σ5)
    else
    (F_Reader_skipBlanks n σ).bind fun σ7 =>
    if l3 ≤ 0 then
      F_Reader_read_53 n t1 (F_Reader_read_27 n t1 k) l3 σ7
    else
    (F_Reader_sign σ7).bind fun v10 =>
    if v10 = 1000 then
      some ((-9), σ7)
    else
    F_Reader_read_53 n t1 (F_Reader_read_27 n t1 k) l3 σ7
noncomputable def F_Reader_read (n : Nat) (t1 : Nat) (a2 : Int32) (σ : St) : Option (Int32 × St) :=
  (F_Reader_take n t1 a2 σ).bind fun σ1 =>
  (F_Camp_begin 5 σ1).bind fun σ2 =>
  b2 (F_Reader_readCold n σ2) fun v3 σ4 =>
  if v3 = 0 then
    some (σ4.1 16 0 3, σ4)
  else
  F_Reader_read_27 n t1 n 0 σ4
theorem h_Reader_read_53 (n : Nat) (t1 : Nat) (w : (Int32 × St)) (K27 : Int32 → St → Option (Int32 × St)) (hK27 : ∀ (l3 : Int32) (σ : St), K27 l3 σ = some w → J md_Reader_read 5 27 [some (mR 16 0), none, none, some (mI l3)] [] σ (some (mI w.1)) w.2) (l3 : Int32) (σ : St) (hF : F_Reader_read_53 n t1 K27 l3 σ = some w) : J md_Reader_read 5 53 [some (mR 16 0), none, none, some (mI l3)] [] σ (some (mI w.1)) w.2 := by
  rw [F_Reader_read_53] at hF
  refine J.csI tk_Reader_read (as := [mR 16 0]) (rest := []) 1 rfl rfl rfl (ckV (md' := md_Reader_readSleeper) lk_3_46 ok_Reader_readSleeper rfl rfl rfl) rfl (by decide) (fun v1 s1 h => c_Reader_readSleeper _ (v1, s1) h) hF (fun v8 σ9 hF => ?_)
  refine J.if_ne tk_Reader_read 0 rfl rfl hF (fun hF => ?_) (fun hF => ?_)
  · exact J.run tk_Reader_read 2 rfl (hK27 _ _ hF)
  · exact J.wsI hF (J.reti tk_Reader_read 2 rfl rfl rfl)
theorem h_Reader_read_27 (n : Nat) (t1 : Nat) (w : (Int32 × St)) : ∀ (k : Nat) (l3 : Int32) (σ : St), F_Reader_read_27 n t1 k l3 σ = some w → J md_Reader_read 5 27 [some (mR 16 0), none, none, some (mI l3)] [] σ (some (mI w.1)) w.2 := by
  intro k
  induction k with
  | zero => intro l3 σ hF; exact no_s hF
  | succ k ih =>
    intro l3 σ hF
    rw [F_Reader_read_27] at hF
    refine J.icmp_ge tk_Reader_read 2 rfl rfl hF (fun hF => ?_) (fun hF => ?_)
    · refine J.csV tk_Reader_read (as := [mR 16 0]) (rest := []) 1 rfl rfl rfl (ckV (md' := md_Reader_skipBlanks) lk_3_39 ok_Reader_skipBlanks rfl rfl rfl) rfl (by decide) (fun s1 h => c_Reader_skipBlanks n _ _ h) hF (fun σ5 hF => ?_)
      refine J.cpI tk_Reader_read (as := [mR 16 0]) (rest := []) 1 rfl rfl rfl (ckV (md' := md_Reader_sign) lk_3_42 ok_Reader_sign rfl rfl rfl) rfl (by decide) (fun v1 h => c_Reader_sign _ _ h) hF (fun v6 hF => ?_)
      refine J.icmp_ne tk_Reader_read 1 rfl rfl hF (fun hF => ?_) (fun hF => ?_)
      · exact J.wsI hF (J.reti tk_Reader_read 2 rfl rfl rfl)
      · exact J.wsI hF (J.reti tk_Reader_read 2 rfl rfl rfl)
    · refine J.csV tk_Reader_read (as := [mR 16 0]) (rest := []) 1 rfl rfl rfl (ckV (md' := md_Reader_skipBlanks) lk_3_39 ok_Reader_skipBlanks rfl rfl rfl) rfl (by decide) (fun s1 h => c_Reader_skipBlanks n _ _ h) hF (fun σ7 hF => ?_)
      refine J.if_le tk_Reader_read 1 rfl rfl hF (fun hF => ?_) (fun hF => ?_)
      · exact h_Reader_read_53 n t1 w (F_Reader_read_27 n t1 k) ih _ _ hF
      · refine J.cpI tk_Reader_read (as := [mR 16 0]) (rest := []) 1 rfl rfl rfl (ckV (md' := md_Reader_sign) lk_3_42 ok_Reader_sign rfl rfl rfl) rfl (by decide) (fun v1 h => c_Reader_sign _ _ h) hF (fun v10 hF => ?_)
        refine J.icmp_ne tk_Reader_read 1 rfl rfl hF (fun hF => ?_) (fun hF => ?_)
        · exact h_Reader_read_53 n t1 w (F_Reader_read_27 n t1 k) ih _ _ hF
        · exact J.wsI hF (J.reti tk_Reader_read 1 rfl rfl rfl)
theorem c_Reader_read (n : Nat) (t1 : Nat) (a2 : Int32) (σ : St) (w : (Int32 × St)) (hF : F_Reader_read n t1 a2 σ = some w) : Call md_Reader_read 5 [mR 16 0, mR 1 t1, mI a2] σ (some (mI w.1)) w.2 := by
  rw [F_Reader_read] at hF
  refine Call.of ok_Reader_read.1 (Nat.le_of_ble_eq_true rfl) (L := [some (mR 16 0), some (mR 1 t1), some (mI a2), none]) rfl ?_
  refine J.csV tk_Reader_read (as := [mR 16 0, mR 1 t1, mI a2]) (rest := []) 3 rfl rfl rfl (ckV (md' := md_Reader_take) lk_3_24 ok_Reader_take rfl rfl rfl) rfl (by decide) (fun s1 h => c_Reader_take n _ _ _ _ h) hF (fun σ1 hF => ?_)
  refine J.csV tk_Reader_read (as := [mR 4 5]) (rest := []) 2 rfl rfl rfl (ckV (md' := md_Camp_begin) lk_3_28 ok_Camp_begin rfl rfl rfl) rfl (by decide) (fun s1 h => c_Camp_begin _ _ _ h) hF (fun σ2 hF => ?_)
  refine J.csI tk_Reader_read (as := [mR 16 0]) (rest := []) 1 rfl rfl rfl (ckV (md' := md_Reader_readCold) lk_3_31 ok_Reader_readCold rfl rfl rfl) rfl (by decide) (fun v1 s1 h => c_Reader_readCold n _ (v1, s1) h) hF (fun v3 σ4 hF => ?_)
  refine J.if_ne tk_Reader_read 0 rfl rfl hF (fun hF => ?_) (fun hF => ?_)
  · exact J.run tk_Reader_read 2 rfl (J.fgt [true, false, false, true] (h_Reader_read_27 n t1 w n _ _ hF))
  · exact J.wsI hF (J.reti tk_Reader_read 2 rfl rfl rfl)
noncomputable def F_Tent_fault (n : Nat) (a1 : Int32) (σ : St) : Option (Int32 × St) :=
  b2 (F_Tent_refuseMissing 1 a1 σ) fun v1 σ2 =>
  if v1 = 0 then
    b2 (F_Reader_read n 1 a1 σ2) fun v3 σ4 =>
    some (v3, σ4)
  else
  some (v1, σ2)
theorem c_Tent_fault (n : Nat) (a1 : Int32) (σ : St) (w : (Int32 × St)) (hF : F_Tent_fault n a1 σ = some w) : Call md_Tent_fault 6 [mR 0 0, mI a1] σ (some (mI w.1)) w.2 := by
  rw [F_Tent_fault] at hF
  refine Call.of ok_Tent_fault.1 (Nat.le_of_ble_eq_true rfl) (L := [some (mR 0 0), some (mI a1), none]) rfl ?_
  refine J.csI tk_Tent_fault (as := [mR 0 0, mR 1 1, mI a1]) (rest := []) 4 rfl rfl rfl (ckV (md' := md_Tent_refuseMissing) lk_5_86 ok_Tent_refuseMissing rfl rfl rfl) rfl (by decide) (fun v1 s1 h => c_Tent_refuseMissing _ _ _ (v1, s1) h) hF (fun v1 σ2 hF => ?_)
  refine J.if_eq tk_Tent_fault 2 rfl rfl hF (fun hF => ?_) (fun hF => ?_)
  · refine J.csI tk_Tent_fault (as := [mR 16 0, mR 1 1, mI a1]) (rest := []) 5 rfl rfl rfl (ckV (md' := md_Reader_read) lk_5_119 ok_Reader_read rfl rfl rfl) rfl (by decide) (fun v1 s1 h => c_Reader_read n _ _ _ (v1, s1) h) hF (fun v3 σ4 hF => ?_)
    exact J.wsI hF (J.reti tk_Tent_fault 0 rfl rfl rfl)
  · exact J.wsI hF (J.reti tk_Tent_fault 2 rfl rfl rfl)
noncomputable def F_Camp_takePresent (t : Nat) (t1 : Nat) (σ : St) : Option St :=
  (acp σ 5 t1 0 5 t 0 8).bind fun σ1 =>
  (acp σ1 6 t1 0 6 t 0 5).bind fun σ2 =>
  (acp σ2 7 t1 0 7 t 0 5).bind fun σ3 =>
  (acp σ3 8 t1 0 8 t 0 5).bind fun σ4 =>
  (acp σ4 9 t1 0 9 t 0 5).bind fun σ5 =>
  (acp σ5 10 t1 0 10 t 0 5).bind fun σ6 =>
  (acp σ6 11 t1 0 11 t 0 5).bind fun σ7 =>
  (acp σ7 12 t1 0 12 t 0 5).bind fun σ8 =>
  bs (si σ8 4 t 10 (σ8.1 4 t1 10)) fun σ9 =>
  bs (si σ9 4 t 11 (σ9.1 4 t1 11)) fun σ10 =>
  bs (si σ10 4 t 12 (σ10.1 4 t1 12)) fun σ11 =>
  bs (si σ11 4 t 13 (σ11.1 4 t1 13)) fun σ12 =>
  bs (si σ12 4 t 14 (σ12.1 4 t1 14)) fun σ13 =>
  bs (si σ13 4 t 15 (σ13.1 4 t1 15)) fun σ14 =>
  some σ14
theorem c_Camp_takePresent (t : Nat) (t1 : Nat) (σ : St) (w : St) (hF : F_Camp_takePresent t t1 σ = some w) : Call md_Camp_takePresent 1 [mR 4 t, mR 4 t1] σ none w := by
  rw [F_Camp_takePresent] at hF
  refine Call.of ok_Camp_takePresent.1 (Nat.le_of_ble_eq_true rfl) (L := [some (mR 4 t), some (mR 4 t1)]) rfl ?_
  refine J.acp tk_Camp_takePresent 7 rfl rfl lk_0_64 rfl rfl hF (fun σ1 hF => ?_)
  refine J.acp tk_Camp_takePresent 7 rfl rfl lk_0_64 rfl rfl hF (fun σ2 hF => ?_)
  refine J.acp tk_Camp_takePresent 7 rfl rfl lk_0_64 rfl rfl hF (fun σ3 hF => ?_)
  refine J.acp tk_Camp_takePresent 7 rfl rfl lk_0_64 rfl rfl hF (fun σ4 hF => ?_)
  refine J.acp tk_Camp_takePresent 7 rfl rfl lk_0_64 rfl rfl hF (fun σ5 hF => ?_)
  refine J.acp tk_Camp_takePresent 7 rfl rfl lk_0_64 rfl rfl hF (fun σ6 hF => ?_)
  refine J.acp tk_Camp_takePresent 7 rfl rfl lk_0_64 rfl rfl hF (fun σ7 hF => ?_)
  refine J.acp tk_Camp_takePresent 7 rfl rfl lk_0_64 rfl rfl hF (fun σ8 hF => ?_)
  refine J.putI tk_Camp_takePresent 3 rfl rfl rfl rfl rfl ⟨rfl, rfl⟩ hF (fun σ9 hF => ?_)
  refine J.putI tk_Camp_takePresent 3 rfl rfl rfl rfl rfl ⟨rfl, rfl⟩ hF (fun σ10 hF => ?_)
  refine J.putI tk_Camp_takePresent 3 rfl rfl rfl rfl rfl ⟨rfl, rfl⟩ hF (fun σ11 hF => ?_)
  refine J.putI tk_Camp_takePresent 3 rfl rfl rfl rfl rfl ⟨rfl, rfl⟩ hF (fun σ12 hF => ?_)
  refine J.putI tk_Camp_takePresent 3 rfl rfl rfl rfl rfl ⟨rfl, rfl⟩ hF (fun σ13 hF => ?_)
  refine J.putI tk_Camp_takePresent 3 rfl rfl rfl rfl rfl ⟨rfl, rfl⟩ hF (fun σ14 hF => ?_)
  exact J.wsV hF (J.retv tk_Camp_takePresent 0 rfl rfl rfl)
noncomputable def F_Camp_takeWhole (t : Nat) (t1 : Nat) (σ : St) : Option St :=
  (F_Camp_takePresent t t1 σ).bind fun σ1 =>
  bs (si σ1 4 t 16 (σ1.1 4 t1 16)) fun σ2 =>
  (acp σ2 14 t1 0 14 t 0 (mmin (nI (lenOf 14 t1)) (nI (lenOf 14 t)))).bind fun σ3 =>
  some σ3
theorem c_Camp_takeWhole (t : Nat) (t1 : Nat) (σ : St) (w : St) (hF : F_Camp_takeWhole t t1 σ = some w) : Call md_Camp_takeWhole 2 [mR 4 t, mR 4 t1] σ none w := by
  rw [F_Camp_takeWhole] at hF
  refine Call.of ok_Camp_takeWhole.1 (Nat.le_of_ble_eq_true rfl) (L := [some (mR 4 t), some (mR 4 t1)]) rfl ?_
  refine J.csV tk_Camp_takeWhole (as := [mR 4 t, mR 4 t1]) (rest := []) 2 rfl rfl rfl (ckV (md' := md_Camp_takePresent) lk_0_70 ok_Camp_takePresent rfl rfl rfl) rfl (by decide) (fun s1 h => c_Camp_takePresent _ _ _ _ h) hF (fun σ1 hF => ?_)
  refine J.putI tk_Camp_takeWhole 3 rfl rfl rfl rfl rfl ⟨rfl, rfl⟩ hF (fun σ2 hF => ?_)
  refine J.mmin tk_Camp_takeWhole 12 rfl rfl lk_0_74 rfl rfl ?_
  refine J.acp tk_Camp_takeWhole 0 rfl rfl lk_0_64 rfl rfl hF (fun σ3 hF => ?_)
  exact J.wsV hF (J.retv tk_Camp_takeWhole 0 rfl rfl rfl)
noncomputable def F_Tent_tent_52 (n : Nat) : Nat → Int32 → St → Option (Int32 × St)
  | 0, _, _ => none
  | k + 1, l3, σ =>
    if 3 ≤ l3 then
      some (σ.1 4 0 10, σ)
    else
    (kld l3).bind fun q6 =>
    (F_Camp_begin q6 σ).bind fun σ7 =>
    (F_Tent_tent_52 n k) (l3 + 1) σ7
noncomputable def F_Tent_tent (n : Nat) (a1 : Int32) (σ : St) : Option (Int32 × St) :=
  b2 (F_Tent_refuseMissing 1 a1 σ) fun v1 σ2 =>
  if v1 = 0 then
    b2 (F_Reader_read n 1 a1 σ2) fun v3 σ4 =>
    if v3 = (-9) then
      (F_Camp_takeWhole 0 5 σ4).bind fun σ5 =>
      F_Tent_tent_52 n n 0 σ5
    else
    some ((-4), σ4)
  else
  some (v1, σ2)
theorem h_Tent_tent_52 (n : Nat) (w : (Int32 × St)) : ∀ (k : Nat) (l3 : Int32) (σ : St), F_Tent_tent_52 n k l3 σ = some w → J md_Tent_tent 6 52 [some (mR 0 0), none, none, some (mI l3)] [] σ (some (mI w.1)) w.2 := by
  intro k
  induction k with
  | zero => intro l3 σ hF; exact no_s hF
  | succ k ih =>
    intro l3 σ hF
    rw [F_Tent_tent_52] at hF
    refine J.icmp_ge tk_Tent_tent 2 rfl rfl hF (fun hF => ?_) (fun hF => ?_)
    · exact J.wsI hF (J.reti tk_Tent_tent 3 rfl rfl rfl)
    · refine J.aald tk_Tent_tent 3 rfl rfl hF (fun q6 hF => ?_)
      refine J.csV tk_Tent_tent (as := [mR 4 q6]) (rest := []) 0 rfl rfl rfl (ckV (md' := md_Camp_begin) lk_5_127 ok_Camp_begin rfl rfl rfl) rfl (by decide) (fun s1 h => c_Camp_begin _ _ _ h) hF (fun σ7 hF => ?_)
      exact J.run tk_Tent_tent 2 rfl (ih _ _ hF)
theorem c_Tent_tent (n : Nat) (a1 : Int32) (σ : St) (w : (Int32 × St)) (hF : F_Tent_tent n a1 σ = some w) : Call md_Tent_tent 6 [mR 0 0, mI a1] σ (some (mI w.1)) w.2 := by
  rw [F_Tent_tent] at hF
  refine Call.of ok_Tent_tent.1 (Nat.le_of_ble_eq_true rfl) (L := [some (mR 0 0), some (mI a1), none, none]) rfl ?_
  refine J.csI tk_Tent_tent (as := [mR 0 0, mR 1 1, mI a1]) (rest := []) 4 rfl rfl rfl (ckV (md' := md_Tent_refuseMissing) lk_5_86 ok_Tent_refuseMissing rfl rfl rfl) rfl (by decide) (fun v1 s1 h => c_Tent_refuseMissing _ _ _ (v1, s1) h) hF (fun v1 σ2 hF => ?_)
  refine J.if_eq tk_Tent_tent 2 rfl rfl hF (fun hF => ?_) (fun hF => ?_)
  · refine J.csI tk_Tent_tent (as := [mR 16 0, mR 1 1, mI a1]) (rest := []) 5 rfl rfl rfl (ckV (md' := md_Reader_read) lk_5_119 ok_Reader_read rfl rfl rfl) rfl (by decide) (fun v1 s1 h => c_Reader_read n _ _ _ (v1, s1) h) hF (fun v3 σ4 hF => ?_)
    refine J.icmp_eq tk_Tent_tent 1 rfl rfl hF (fun hF => ?_) (fun hF => ?_)
    · refine J.csV tk_Tent_tent (as := [mR 4 0, mR 4 5]) (rest := []) 5 rfl rfl rfl (ckV (md' := md_Camp_takeWhole) lk_5_123 ok_Camp_takeWhole rfl rfl rfl) rfl (by decide) (fun s1 h => c_Camp_takeWhole _ _ _ _ h) hF (fun σ5 hF => ?_)
      exact J.run tk_Tent_tent 2 rfl (J.fgt [true, false, false, true] (h_Tent_tent_52 n w n _ _ hF))
    · exact J.wsI hF (J.reti tk_Tent_tent 1 rfl rfl rfl)
  · exact J.wsI hF (J.reti tk_Tent_tent 1 rfl rfl rfl)
noncomputable def F_Camp_isSleeper (t : Nat) (a1 : Int32) (σ : St) : Option Int32 :=
  if a1 < 0 then
    some 0
  else
  if σ.1 4 t 10 ≤ a1 then
    some 0
  else
  some 1
theorem c_Camp_isSleeper (t : Nat) (a1 : Int32) (σ : St) (w : Int32) (hF : F_Camp_isSleeper t a1 σ = some w) : Call md_Camp_isSleeper 0 [mR 4 t, mI a1] σ (some (mI w)) σ := by
  rw [F_Camp_isSleeper] at hF
  refine Call.of ok_Camp_isSleeper.1 (Nat.le_of_ble_eq_true rfl) (L := [some (mR 4 t), some (mI a1)]) rfl ?_
  refine J.if_lt tk_Camp_isSleeper 1 rfl rfl hF (fun hF => ?_) (fun hF => ?_)
  · exact J.wI hF (J.retz tk_Camp_isSleeper 1 rfl rfl rfl rfl)
  · refine J.icmp_ge tk_Camp_isSleeper 3 rfl rfl hF (fun hF => ?_) (fun hF => ?_)
    · exact J.wI hF (J.retz tk_Camp_isSleeper 1 rfl rfl rfl rfl)
    · exact J.wI hF (J.retz tk_Camp_isSleeper 2 rfl rfl rfl rfl)
noncomputable def F_Camp_givenFrom (t : Nat) (a1 : Int32) (σ : St) : Option Int32 :=
  if a1 < 0 then
    some 0
  else
  if a1 < σ.1 4 t 10 then
    (ald σ 10 t a1).bind fun v1 =>
    (ald σ 6 t v1).bind fun v2 =>
    if v2 = 3 then
      (ald σ 7 t v1).bind fun v4 =>
      some (2 * v4)
    else
    (ald σ 7 t v1).bind fun v3 =>
    some v3
  else
  some 0
theorem c_Camp_givenFrom (t : Nat) (a1 : Int32) (σ : St) (w : Int32) (hF : F_Camp_givenFrom t a1 σ = some w) : Call md_Camp_givenFrom 0 [mR 4 t, mI a1] σ (some (mI w)) σ := by
  rw [F_Camp_givenFrom] at hF
  refine Call.of ok_Camp_givenFrom.1 (Nat.le_of_ble_eq_true rfl) (L := [some (mR 4 t), some (mI a1), none]) rfl ?_
  refine J.if_lt tk_Camp_givenFrom 1 rfl rfl hF (fun hF => ?_) (fun hF => ?_)
  · exact J.wI hF (J.reti tk_Camp_givenFrom 1 rfl rfl rfl)
  · refine J.icmp_lt tk_Camp_givenFrom 3 rfl rfl hF (fun hF => ?_) (fun hF => ?_)
    · refine J.iald tk_Camp_givenFrom 3 rfl rfl hF (fun v1 hF => ?_)
      refine J.iald tk_Camp_givenFrom 4 rfl rfl hF (fun v2 hF => ?_)
      refine J.icmp_ne tk_Camp_givenFrom 1 rfl rfl hF (fun hF => ?_) (fun hF => ?_)
      · refine J.iald tk_Camp_givenFrom 3 rfl rfl hF (fun v3 hF => ?_)
        exact J.wI hF (J.reti tk_Camp_givenFrom 0 rfl rfl rfl)
      · refine J.iald tk_Camp_givenFrom 4 rfl rfl hF (fun v4 hF => ?_)
        exact J.wI hF (J.reti tk_Camp_givenFrom 2 rfl rfl rfl)
    · exact J.wI hF (J.reti tk_Camp_givenFrom 1 rfl rfl rfl)
noncomputable def F_Camp_trait (t : Nat) (a1 : Int32) (a2 : Int32) (σ : St) : Option Int32 :=
  if a2 = 0 then
    (ald σ 6 t a1).bind fun v1 =>
    some v1
  else
  if a2 = 1 then
    (ald σ 9 t a1).bind fun v2 =>
    (F_Camp_givenFrom t v2 σ).bind fun v3 =>
    some v3
  else
  if a2 = 2 then
    (ald σ 8 t a1).bind fun v4 =>
    some v4
  else
  if a2 = 3 then
    (ald σ 9 t a1).bind fun v5 =>
    some v5
  else
  if a2 = 4 then
    (ald σ 11 t a1).bind fun v6 =>
    some v6
  else
  (ald σ 12 t a1).bind fun v7 =>
  some v7
theorem c_Camp_trait (t : Nat) (a1 : Int32) (a2 : Int32) (σ : St) (w : Int32) (hF : F_Camp_trait t a1 a2 σ = some w) : Call md_Camp_trait 1 [mR 4 t, mI a1, mI a2] σ (some (mI w)) σ := by
  rw [F_Camp_trait] at hF
  refine Call.of ok_Camp_trait.1 (Nat.le_of_ble_eq_true rfl) (L := [some (mR 4 t), some (mI a1), some (mI a2)]) rfl ?_
  by_cases hs0 : a2 = 0
  · rw [if_pos hs0] at hF
    refine J.tswIn tk_Camp_trait 36 1 rfl rfl 0 hs0 (by decide) (by decide) rfl (by decide) ?_
    refine J.iald tk_Camp_trait 3 rfl rfl hF (fun v1 hF => ?_)
    exact J.wI hF (J.reti tk_Camp_trait 0 rfl rfl rfl)
  rw [if_neg hs0] at hF
  by_cases hs1 : a2 = 1
  · rw [if_pos hs1] at hF
    refine J.tswIn tk_Camp_trait 43 1 rfl rfl 1 hs1 (by decide) (by decide) rfl (by decide) ?_
    refine J.iald tk_Camp_trait 4 rfl rfl hF (fun v2 hF => ?_)
    refine J.cpI tk_Camp_trait (as := [mR 4 t, mI v2]) (rest := []) 0 rfl rfl rfl (ckV (md' := md_Camp_givenFrom) lk_0_94 ok_Camp_givenFrom rfl rfl rfl) rfl (by decide) (fun v1 h => c_Camp_givenFrom _ _ _ _ h) hF (fun v3 hF => ?_)
    exact J.wI hF (J.reti tk_Camp_trait 0 rfl rfl rfl)
  rw [if_neg hs1] at hF
  by_cases hs2 : a2 = 2
  · rw [if_pos hs2] at hF
    refine J.tswIn tk_Camp_trait 54 1 rfl rfl 2 hs2 (by decide) (by decide) rfl (by decide) ?_
    refine J.iald tk_Camp_trait 3 rfl rfl hF (fun v4 hF => ?_)
    exact J.wI hF (J.reti tk_Camp_trait 0 rfl rfl rfl)
  rw [if_neg hs2] at hF
  by_cases hs3 : a2 = 3
  · rw [if_pos hs3] at hF
    refine J.tswIn tk_Camp_trait 61 1 rfl rfl 3 hs3 (by decide) (by decide) rfl (by decide) ?_
    refine J.iald tk_Camp_trait 3 rfl rfl hF (fun v5 hF => ?_)
    exact J.wI hF (J.reti tk_Camp_trait 0 rfl rfl rfl)
  rw [if_neg hs3] at hF
  by_cases hs4 : a2 = 4
  · rw [if_pos hs4] at hF
    refine J.tswIn tk_Camp_trait 68 1 rfl rfl 4 hs4 (by decide) (by decide) rfl (by decide) ?_
    refine J.iald tk_Camp_trait 3 rfl rfl hF (fun v6 hF => ?_)
    exact J.wI hF (J.reti tk_Camp_trait 0 rfl rfl rfl)
  rw [if_neg hs4] at hF
  refine J.tswOut tk_Camp_trait 75 1 rfl rfl (by have z0 := lv_neT hs0 (a := 0) (by decide); have z1 := lv_neT hs1 (a := 1) (by decide); have z2 := lv_neT hs2 (a := 2) (by decide); have z3 := lv_neT hs3 (a := 3) (by decide); have z4 := lv_neT hs4 (a := 4) (by decide); omega) (by decide) ?_
  refine J.iald tk_Camp_trait 3 rfl rfl hF (fun v7 hF => ?_)
  exact J.wI hF (J.reti tk_Camp_trait 0 rfl rfl rfl)
noncomputable def F_Tent_sleeper (a1 : Int32) (a2 : Int32) (σ : St) : Option (Int32 × St) :=
  (F_Camp_isSleeper 0 a1 σ).bind fun v1 =>
  if v1 = 0 then
    some ((-1), σ)
  else
  if a2 < 0 then
    some ((-1), σ)
  else
  if a2 < 6 then
    (F_Camp_trait 0 a1 a2 σ).bind fun v2 =>
    bs (si σ 0 0 10 v2) fun σ3 =>
    some (1, σ3)
  else
  some ((-1), σ)
theorem c_Tent_sleeper (a1 : Int32) (a2 : Int32) (σ : St) (w : (Int32 × St)) (hF : F_Tent_sleeper a1 a2 σ = some w) : Call md_Tent_sleeper 2 [mR 0 0, mI a1, mI a2] σ (some (mI w.1)) w.2 := by
  rw [F_Tent_sleeper] at hF
  refine Call.of ok_Tent_sleeper.1 (Nat.le_of_ble_eq_true rfl) (L := [some (mR 0 0), some (mI a1), some (mI a2)]) rfl ?_
  refine J.cpI tk_Tent_sleeper (as := [mR 4 0, mI a1]) (rest := []) 3 rfl rfl rfl (ckV (md' := md_Camp_isSleeper) lk_5_133 ok_Camp_isSleeper rfl rfl rfl) rfl (by decide) (fun v1 h => c_Camp_isSleeper _ _ _ _ h) hF (fun v1 hF => ?_)
  refine J.if_eq tk_Tent_sleeper 0 rfl rfl hF (fun hF => ?_) (fun hF => ?_)
  · exact J.wsI hF (J.reti tk_Tent_sleeper 1 rfl rfl rfl)
  · refine J.if_lt tk_Tent_sleeper 1 rfl rfl hF (fun hF => ?_) (fun hF => ?_)
    · exact J.wsI hF (J.reti tk_Tent_sleeper 1 rfl rfl rfl)
    · refine J.icmp_lt tk_Tent_sleeper 2 rfl rfl hF (fun hF => ?_) (fun hF => ?_)
      · refine J.cpI tk_Tent_sleeper (as := [mR 4 0, mI a1, mI a2]) (rest := [mR 0 0]) 5 rfl rfl rfl (ckV (md' := md_Camp_trait) lk_5_136 ok_Camp_trait rfl rfl rfl) rfl (by decide) (fun v1 h => c_Camp_trait _ _ _ _ _ h) hF (fun v2 hF => ?_)
        refine J.putI tk_Tent_sleeper 0 rfl rfl rfl rfl rfl ⟨rfl, rfl⟩ hF (fun σ3 hF => ?_)
        exact J.wsI hF (J.reti tk_Tent_sleeper 1 rfl rfl rfl)
      · exact J.wsI hF (J.reti tk_Tent_sleeper 1 rfl rfl rfl)
noncomputable def F_Camp_givenAway_34 (t : Nat) (l1 : Int32) (s0 : Int32) (s1 : Int32) (σ : St) : Option Int32 :=
  (ald σ 9 t l1).bind fun v3 =>
  (F_Camp_givenFrom t v3 σ).bind fun v4 =>
  some ((s0 + s1) * v4)
noncomputable def F_Camp_givenAway_14 (t : Nat) (l1 : Int32) (s0 : Int32) (σ : St) : Option Int32 :=
  (ald σ 9 t l1).bind fun v2 =>
  F_Camp_givenAway_34 t l1 s0 (if ((σ.1 4 t 10) - 1) ≤ v2 then 0 else 1) σ
noncomputable def F_Camp_givenAway (t : Nat) (a1 : Int32) (σ : St) : Option Int32 :=
  (ald σ 9 t a1).bind fun v1 =>
  F_Camp_givenAway_14 t a1 (if v1 ≤ 0 then 0 else 1) σ
theorem h_Camp_givenAway_34 (t : Nat) (w : Int32) (l1 : Int32) (s0 : Int32) (s1 : Int32) (σ : St) (hF : F_Camp_givenAway_34 t l1 s0 s1 σ = some w) : J md_Camp_givenAway 1 34 [some (mR 4 t), some (mI l1), none] [mI s1, mI s0] σ (some (mI w)) σ := by
  rw [F_Camp_givenAway_34] at hF
  refine J.iald tk_Camp_givenAway 7 rfl rfl hF (fun v3 hF => ?_)
  refine J.cpI tk_Camp_givenAway (as := [mR 4 t, mI v3]) (rest := [mI (s0 + s1)]) 0 rfl rfl rfl (ckV (md' := md_Camp_givenFrom) lk_0_94 ok_Camp_givenFrom rfl rfl rfl) rfl (by decide) (fun v1 h => c_Camp_givenFrom _ _ _ _ h) hF (fun v4 hF => ?_)
  exact J.wI hF (J.reti tk_Camp_givenAway 1 rfl rfl rfl)
theorem h_Camp_givenAway_14 (t : Nat) (w : Int32) (l1 : Int32) (s0 : Int32) (σ : St) (hF : F_Camp_givenAway_14 t l1 s0 σ = some w) : J md_Camp_givenAway 1 14 [some (mR 4 t), some (mI l1), none] [mI s0] σ (some (mI w)) σ := by
  rw [F_Camp_givenAway_14] at hF
  refine J.iald tk_Camp_givenAway 3 rfl rfl hF (fun v2 hF => ?_)
  by_cases hc : ((σ.1 4 t 10) - 1) ≤ v2
  · simp only [if_pos hc] at hF
    exact J.icmp_geT' tk_Camp_givenAway 4 rfl rfl hc (J.run tk_Camp_givenAway 1 rfl (h_Camp_givenAway_34 t w _ _ _ _ hF))
  · simp only [if_neg hc] at hF
    exact J.icmp_geF' tk_Camp_givenAway 4 rfl rfl hc (J.run tk_Camp_givenAway 2 rfl (h_Camp_givenAway_34 t w _ _ _ _ hF))
theorem c_Camp_givenAway (t : Nat) (a1 : Int32) (σ : St) (w : Int32) (hF : F_Camp_givenAway t a1 σ = some w) : Call md_Camp_givenAway 1 [mR 4 t, mI a1] σ (some (mI w)) σ := by
  rw [F_Camp_givenAway] at hF
  refine Call.of ok_Camp_givenAway.1 (Nat.le_of_ble_eq_true rfl) (L := [some (mR 4 t), some (mI a1), none]) rfl ?_
  refine J.iald tk_Camp_givenAway 3 rfl rfl hF (fun v1 hF => ?_)
  by_cases hc : v1 ≤ 0
  · simp only [if_pos hc] at hF
    exact J.if_leT' tk_Camp_givenAway 0 rfl rfl hc (J.run tk_Camp_givenAway 1 rfl (h_Camp_givenAway_14 t w _ _ _ hF))
  · simp only [if_neg hc] at hF
    exact J.if_leF' tk_Camp_givenAway 0 rfl rfl hc (J.run tk_Camp_givenAway 2 rfl (h_Camp_givenAway_14 t w _ _ _ hF))
