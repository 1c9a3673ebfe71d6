noncomputable def F_Plan_choose (n : Nat) (a1 : Int32) (σ : St) : Option (Int32 × St) :=
  bs (si σ 20 0 6 (-1)) fun σ1 =>
  (F_Arrays_fill2 n 24 0 0 σ1).bind fun σ2 =>
  (F_Plan_chooseFrom n 4 0 0 (mmin a1 3) σ2).bind fun σ3 =>
  some (σ3.1 20 0 6, σ3)
theorem c_Plan_choose (n : Nat) (a1 : Int32) (σ : St) (w : (Int32 × St)) (hF : F_Plan_choose n a1 σ = some w) : Call md_Plan_choose 6 [mR 20 0, mI a1] σ (some (mI w.1)) w.2 := by
  rw [F_Plan_choose] at hF
  refine Call.of ok_Plan_choose.1 (Nat.le_of_ble_eq_true rfl) (L := [some (mR 20 0), some (mI a1)]) rfl ?_
  refine J.putI tk_Plan_choose 2 rfl rfl rfl rfl rfl ⟨rfl, rfl⟩ hF (fun σ1 hF => ?_)
  refine J.csV tk_Plan_choose (as := [mA 24 0, mI 0]) (rest := []) 3 rfl rfl rfl (ckS (md' := md_Arrays_fill2) lk_2_43 ok_Arrays_fill2 rfl) rfl (by decide) (fun s1 h => c_Arrays_fill2 n _ _ _ _ _ h) hF (fun σ2 hF => ?_)
  refine J.mmin tk_Plan_choose 5 rfl rfl lk_2_30 rfl rfl ?_
  refine J.csV tk_Plan_choose (as := [mR 20 0, mI 0, mI 0, mI (mmin a1 3)]) (rest := []) 0 rfl rfl rfl (ckV (md' := md_Plan_chooseFrom) lk_2_65 ok_Plan_chooseFrom rfl rfl rfl) rfl (by omega) (fun s1 h => c_Plan_chooseFrom n 4 _ _ _ _ _ h) hF (fun σ3 hF => ?_)
  exact J.wsI hF (J.reti tk_Plan_choose 2 rfl rfl rfl)
noncomputable def F_Plan_isNeedless_52 (n : Nat) (K2 : Int32 → St → Option Int32) (l1 : Int32) (l2 : Int32) (σ : St) : Option Int32 :=
  if l2 = σ.1 20 0 8 then
    some 1
  else
  K2 (l1 + 1) σ
noncomputable def F_Plan_isNeedless_12 (n : Nat) (K2 : Int32 → St → Option Int32) : Nat → Int32 → Int32 → St → Option Int32
  | 0, _, _, _ => none
  | k + 1, l1, l2, σ =>
    if σ.1 20 0 8 ≤ l2 then
      F_Plan_isNeedless_52 n K2 l1 l2 σ
    else
    (ald σ 22 0 ((l1 * 5) + l2)).bind fun v1 =>
    (ald σ 22 0 (((σ.1 20 0 7) * 5) + l2)).bind fun v2 =>
    if v1 < v2 then
      F_Plan_isNeedless_52 n K2 l1 l2 σ
    else
    (F_Plan_isNeedless_12 n K2 k) l1 (l2 + 1) σ
noncomputable def F_Plan_isNeedless_2 (n : Nat) : Nat → Int32 → St → Option Int32
  | 0, _, _ => none
  | k + 1, l1, σ =>
    if σ.1 20 0 7 ≤ l1 then
      some 0
    else
    F_Plan_isNeedless_12 n (F_Plan_isNeedless_2 n k) n l1 0 σ
noncomputable def F_Plan_isNeedless (n : Nat) (σ : St) : Option Int32 :=
  F_Plan_isNeedless_2 n n 0 σ
theorem h_Plan_isNeedless_52 (n : Nat) (w : Int32) (K2 : Int32 → St → Option Int32) (hK2 : ∀ (l1 : Int32) (σ : St), K2 l1 σ = some w → J md_Plan_isNeedless 0 2 [some (mR 20 0), some (mI l1), none] [] σ (some (mI w)) σ) (l1 : Int32) (l2 : Int32) (σ : St) (hF : F_Plan_isNeedless_52 n K2 l1 l2 σ = some w) : J md_Plan_isNeedless 0 52 [some (mR 20 0), some (mI l1), some (mI l2)] [] σ (some (mI w)) σ := by
  rw [F_Plan_isNeedless_52] at hF
  refine J.icmp_ne tk_Plan_isNeedless 3 rfl rfl hF (fun hF => ?_) (fun hF => ?_)
  · exact J.run tk_Plan_isNeedless 2 rfl (J.fgt [true, true, false] (hK2 _ _ hF))
  · exact J.wI hF (J.retz tk_Plan_isNeedless 1 rfl rfl rfl rfl)
theorem h_Plan_isNeedless_12 (n : Nat) (w : Int32) (K2 : Int32 → St → Option Int32) (hK2 : ∀ (l1 : Int32) (σ : St), K2 l1 σ = some w → J md_Plan_isNeedless 0 2 [some (mR 20 0), some (mI l1), none] [] σ (some (mI w)) σ) : ∀ (k : Nat) (l1 : Int32) (l2 : Int32) (σ : St), F_Plan_isNeedless_12 n K2 k l1 l2 σ = some w → J md_Plan_isNeedless 0 12 [some (mR 20 0), some (mI l1), some (mI l2)] [] σ (some (mI w)) σ := by
  intro k
  induction k with
  | zero => intro l1 l2 σ hF; exact no_s hF
  | succ k ih =>
    intro l1 l2 σ hF
    rw [F_Plan_isNeedless_12] at hF
    refine J.icmp_ge tk_Plan_isNeedless 3 rfl rfl hF (fun hF => ?_) (fun hF => ?_)
    · exact h_Plan_isNeedless_52 n w K2 hK2 _ _ _ hF
    · refine J.iald tk_Plan_isNeedless 7 rfl rfl hF (fun v1 hF => ?_)
      refine J.iald tk_Plan_isNeedless 8 rfl rfl hF (fun v2 hF => ?_)
      refine J.icmp_lt tk_Plan_isNeedless 0 rfl rfl hF (fun hF => ?_) (fun hF => ?_)
      · exact h_Plan_isNeedless_52 n w K2 hK2 _ _ _ hF
      · exact J.run tk_Plan_isNeedless 2 rfl (ih _ _ _ hF)
theorem h_Plan_isNeedless_2 (n : Nat) (w : Int32) : ∀ (k : Nat) (l1 : Int32) (σ : St), F_Plan_isNeedless_2 n k l1 σ = some w → J md_Plan_isNeedless 0 2 [some (mR 20 0), some (mI l1), none] [] σ (some (mI w)) σ := by
  intro k
  induction k with
  | zero => intro l1 σ hF; exact no_s hF
  | succ k ih =>
    intro l1 σ hF
    rw [F_Plan_isNeedless_2] at hF
    refine J.icmp_ge tk_Plan_isNeedless 3 rfl rfl hF (fun hF => ?_) (fun hF => ?_)
    · exact J.wI hF (J.retz tk_Plan_isNeedless 1 rfl rfl rfl rfl)
    · exact J.run tk_Plan_isNeedless 2 rfl (h_Plan_isNeedless_12 n w (F_Plan_isNeedless_2 n k) ih n _ _ _ hF)
theorem c_Plan_isNeedless (n : Nat) (σ : St) (w : Int32) (hF : F_Plan_isNeedless n σ = some w) : Call md_Plan_isNeedless 0 [mR 20 0] σ (some (mI w)) σ := by
  rw [F_Plan_isNeedless] at hF
  refine Call.of ok_Plan_isNeedless.1 (Nat.le_of_ble_eq_true rfl) (L := [some (mR 20 0), none, none]) rfl ?_
  exact J.run tk_Plan_isNeedless 2 rfl (h_Plan_isNeedless_2 n w n _ _ hF)
noncomputable def F_Plan_offer_12 (n : Nat) (t2 : Nat) : Nat → Int32 → Int32 → St → Option St
  | 0, _, _, _ => none
  | k + 1, l1, l3, σ =>
    if σ.1 20 0 8 ≤ l3 then
      (F_Plan_isNeedless n σ).bind fun v1 =>
      if v1 = 0 then
        (ast σ 21 0 (σ.1 20 0 7) l1).bind fun σ2 =>
        bs (si σ2 20 0 7 ((σ2.1 20 0 7) + 1)) fun σ3 =>
        some σ3
      else
      some σ
    else
    (F_Camp_hoursSlept n t2 l3 σ).bind fun v4 =>
    (ast σ 22 0 (((σ.1 20 0 7) * 5) + l3) v4).bind fun σ5 =>
    (ald σ5 23 0 l3).bind fun v6 =>
    (ast σ5 23 0 l3 (mmax v6 v4)).bind fun σ7 =>
    (F_Plan_offer_12 n t2 k) l1 (l3 + 1) σ7
noncomputable def F_Plan_offer (n : Nat) (t2 : Nat) (a1 : Int32) (σ : St) : Option St :=
  if σ.1 20 0 7 < 120 then
    F_Plan_offer_12 n t2 n a1 0 σ
  else
  some σ
theorem h_Plan_offer_12 (n : Nat) (t2 : Nat) (w : St) : ∀ (k : Nat) (l1 : Int32) (l3 : Int32) (σ : St), F_Plan_offer_12 n t2 k l1 l3 σ = some w → J md_Plan_offer 4 12 [some (mR 20 0), some (mI l1), some (mR 4 t2), some (mI l3), none] [] σ none w := by
  intro k
  induction k with
  | zero => intro l1 l3 σ hF; exact no_s hF
  | succ k ih =>
    intro l1 l3 σ hF
    rw [F_Plan_offer_12] at hF
    refine J.icmp_ge tk_Plan_offer 3 rfl rfl hF (fun hF => ?_) (fun hF => ?_)
    · refine J.cpI tk_Plan_offer (as := [mR 20 0]) (rest := []) 1 rfl rfl rfl (ckV (md' := md_Plan_isNeedless) lk_2_58 ok_Plan_isNeedless rfl rfl rfl) rfl (by decide) (fun v1 h => c_Plan_isNeedless n _ _ h) hF (fun v1 hF => ?_)
      refine J.if_ne tk_Plan_offer 0 rfl rfl hF (fun hF => ?_) (fun hF => ?_)
      · exact J.wsV hF (J.retv tk_Plan_offer 0 rfl rfl rfl)
      · refine J.iast tk_Plan_offer 5 rfl rfl hF (fun σ2 hF => ?_)
        refine J.putI tk_Plan_offer 5 rfl rfl rfl rfl rfl ⟨rfl, rfl⟩ hF (fun σ3 hF => ?_)
        exact J.wsV hF (J.retv tk_Plan_offer 0 rfl rfl rfl)
    · refine J.cpI tk_Plan_offer (as := [mR 4 t2, mI l3]) (rest := []) 2 rfl rfl rfl (ckV (md' := md_Camp_hoursSlept) lk_2_49 ok_Camp_hoursSlept rfl rfl rfl) rfl (by decide) (fun v1 h => c_Camp_hoursSlept n _ _ _ _ h) hF (fun v4 hF => ?_)
      refine J.iast tk_Plan_offer 10 rfl rfl hF (fun σ5 hF => ?_)
      refine J.iald tk_Plan_offer 6 rfl rfl hF (fun v6 hF => ?_)
      refine J.mmax tk_Plan_offer 1 rfl rfl lk_2_55 rfl rfl ?_
      refine J.iast tk_Plan_offer 0 rfl rfl hF (fun σ7 hF => ?_)
      exact J.run tk_Plan_offer 2 rfl (J.fgt [true, true, true, true, false] (ih _ _ _ hF))
theorem c_Plan_offer (n : Nat) (t2 : Nat) (a1 : Int32) (σ : St) (w : St) (hF : F_Plan_offer n t2 a1 σ = some w) : Call md_Plan_offer 4 [mR 20 0, mI a1, mR 4 t2] σ none w := by
  rw [F_Plan_offer] at hF
  refine Call.of ok_Plan_offer.1 (Nat.le_of_ble_eq_true rfl) (L := [some (mR 20 0), some (mI a1), some (mR 4 t2), none, none]) rfl ?_
  refine J.icmp_lt tk_Plan_offer 3 rfl rfl hF (fun hF => ?_) (fun hF => ?_)
  · exact J.run tk_Plan_offer 2 rfl (h_Plan_offer_12 n t2 w n _ _ _ hF)
  · exact J.wsV hF (J.retv tk_Plan_offer 0 rfl rfl rfl)
noncomputable def F_Plan_writeTo_10 (n : Nat) (t1 : Nat) : Nat → Int32 → Int32 → Int32 → St → Option St
  | 0, _, _, _, _ => none
  | k + 1, l2, l3, l4, σ =>
    if l3 ≤ l4 then
      some σ
    else
    if 3 ≤ l4 then
      some σ
    else
    (ald σ 26 0 l4).bind fun v2 =>
    (ald σ 21 0 v2).bind fun v3 =>
    (F_Shelf_set t1 l2 l4 v3 σ).bind fun σ4 =>
    (F_Plan_writeTo_10 n t1 k) l2 l3 (l4 + 1) σ4
noncomputable def F_Plan_writeTo (n : Nat) (t1 : Nat) (a2 : Int32) (a3 : Int32) (σ : St) : Option St :=
  (F_Shelf_make n t1 a2 a3 0 σ).bind fun σ1 =>
  F_Plan_writeTo_10 n t1 n a2 a3 0 σ1
theorem h_Plan_writeTo_10 (n : Nat) (t1 : Nat) (w : St) : ∀ (k : Nat) (l2 : Int32) (l3 : Int32) (l4 : Int32) (σ : St), F_Plan_writeTo_10 n t1 k l2 l3 l4 σ = some w → J md_Plan_writeTo 4 10 [some (mR 20 0), some (mR 1 t1), some (mI l2), some (mI l3), some (mI l4)] [] σ none w := by
  intro k
  induction k with
  | zero => intro l2 l3 l4 σ hF; exact no_s hF
  | succ k ih =>
    intro l2 l3 l4 σ hF
    rw [F_Plan_writeTo_10] at hF
    refine J.icmp_ge tk_Plan_writeTo 2 rfl rfl hF (fun hF => ?_) (fun hF => ?_)
    · exact J.wsV hF (J.retv tk_Plan_writeTo 0 rfl rfl rfl)
    · refine J.icmp_ge tk_Plan_writeTo 2 rfl rfl hF (fun hF => ?_) (fun hF => ?_)
      · exact J.wsV hF (J.retv tk_Plan_writeTo 0 rfl rfl rfl)
      · refine J.iald tk_Plan_writeTo 8 rfl rfl hF (fun v2 hF => ?_)
        refine J.iald tk_Plan_writeTo 0 rfl rfl hF (fun v3 hF => ?_)
        refine J.csV tk_Plan_writeTo (as := [mR 1 t1, mI l2, mI l4, mI v3]) (rest := []) 0 rfl rfl rfl (ckV (md' := md_Shelf_set) lk_2_83 ok_Shelf_set rfl rfl rfl) rfl (by decide) (fun s1 h => c_Shelf_set _ _ _ _ _ _ h) hF (fun σ4 hF => ?_)
        exact J.run tk_Plan_writeTo 2 rfl (ih _ _ _ _ hF)
theorem c_Plan_writeTo (n : Nat) (t1 : Nat) (a2 : Int32) (a3 : Int32) (σ : St) (w : St) (hF : F_Plan_writeTo n t1 a2 a3 σ = some w) : Call md_Plan_writeTo 4 [mR 20 0, mR 1 t1, mI a2, mI a3] σ none w := by
  rw [F_Plan_writeTo] at hF
  refine Call.of ok_Plan_writeTo.1 (Nat.le_of_ble_eq_true rfl) (L := [some (mR 20 0), some (mR 1 t1), some (mI a2), some (mI a3), none]) rfl ?_
  refine J.csV tk_Plan_writeTo (as := [mR 1 t1, mI a2, mI a3, mI 0]) (rest := []) 4 rfl rfl rfl (ckV (md' := md_Shelf_make) lk_2_78 ok_Shelf_make rfl rfl rfl) rfl (by decide) (fun s1 h => c_Shelf_make n _ _ _ _ _ _ h) hF (fun σ1 hF => ?_)
  exact J.run tk_Plan_writeTo 2 rfl (h_Plan_writeTo_10 n t1 w n _ _ _ _ hF)
noncomputable def F_Tent_nights_119 (n : Nat) (l1 : Int32) (l2 : Int32) (σ : St) : Option (Int32 × St) :=
  b2 (F_Plan_choose n l1 σ) fun v5 σ6 =>
  (F_Plan_writeTo n 0 l2 l1 σ6).bind fun σ7 =>
  some (v5, σ7)
noncomputable def F_Tent_nights_66 (n : Nat) : Nat → Int32 → Int32 → Int32 → St → Option (Int32 × St)
  | 0, _, _, _, _ => none
  | k + 1, l1, l2, l4, σ =>
    if 120 ≤ l4 then
      F_Tent_nights_119 n l1 l2 σ
    else
    (F_Camp_layBy n 4 19 0 σ).bind fun σ8 =>
    (F_Plan_offer n 4 l4 σ8).bind fun σ9 =>
    b2 (F_Orders_advance n σ9) fun v10 σ11 =>
    if v10 = 0 then
      F_Tent_nights_119 n l1 l2 σ11
    else
    (F_Tent_nights_66 n k) l1 l2 (l4 + 1) σ11
noncomputable def F_Tent_nights (n : Nat) (a1 : Int32) (a2 : Int32) (σ : St) : Option (Int32 × St) :=
  if a1 < 1 then
    some ((-1), σ)
  else
  if a1 ≤ 3 then
    (F_Tent_refuseRowToFill a2 σ).bind fun v1 =>
    if v1 = 0 then
      (F_Camp_takePresent 4 0 σ).bind fun σ2 =>
      (F_Plan_begin n (σ2.1 4 0 10) σ2).bind fun σ3 =>
      (F_Orders_begin n (σ3.1 4 0 10) σ3).bind fun σ4 =>
      F_Tent_nights_66 n n a1 a2 0 σ4
    else
    some (v1, σ)
  else
  some ((-1), σ)
theorem h_Tent_nights_119 (n : Nat) (w : (Int32 × St)) (l1 : Int32) (l2 : Int32) (σ : St) (hF : F_Tent_nights_119 n l1 l2 σ = some w) : J md_Tent_nights 7 119 [some (mR 0 0), some (mI l1), some (mI l2), none, none] [] σ (some (mI w.1)) w.2 := by
  rw [F_Tent_nights_119] at hF
  refine J.csI tk_Tent_nights (as := [mR 20 0, mI l1]) (rest := []) 3 rfl rfl rfl (ckV (md' := md_Plan_choose) lk_5_277 ok_Plan_choose rfl rfl rfl) rfl (by decide) (fun v1 s1 h => c_Plan_choose n _ _ (v1, s1) h) hF (fun v5 σ6 hF => ?_)
  refine J.csV tk_Tent_nights (as := [mR 20 0, mR 1 0, mI l2, mI l1]) (rest := []) 7 rfl rfl rfl (ckV (md' := md_Plan_writeTo) lk_5_280 ok_Plan_writeTo rfl rfl rfl) rfl (by decide) (fun s1 h => c_Plan_writeTo n _ _ _ _ _ h) hF (fun σ7 hF => ?_)
  exact J.wsI hF (J.reti tk_Tent_nights 1 rfl rfl rfl)
theorem h_Tent_nights_66 (n : Nat) (w : (Int32 × St)) : ∀ (k : Nat) (l1 : Int32) (l2 : Int32) (l4 : Int32) (σ : St), F_Tent_nights_66 n k l1 l2 l4 σ = some w → J md_Tent_nights 7 66 [some (mR 0 0), some (mI l1), some (mI l2), none, some (mI l4)] [] σ (some (mI w.1)) w.2 := by
  intro k
  induction k with
  | zero => intro l1 l2 l4 σ hF; exact no_s hF
  | succ k ih =>
    intro l1 l2 l4 σ hF
    rw [F_Tent_nights_66] at hF
    refine J.icmp_ge tk_Tent_nights 2 rfl rfl hF (fun hF => ?_) (fun hF => ?_)
    · exact J.fgt [true, true, true, false, false] (h_Tent_nights_119 n w _ _ _ hF)
    · refine J.csV tk_Tent_nights (as := [mR 4 4, mA 19 0]) (rest := []) 5 rfl rfl rfl (ckV (md' := md_Camp_layBy) lk_5_199 ok_Camp_layBy rfl rfl rfl) rfl (by decide) (fun s1 h => c_Camp_layBy n _ _ _ _ _ h) hF (fun σ8 hF => ?_)
      refine J.csV tk_Tent_nights (as := [mR 20 0, mI l4, mR 4 4]) (rest := []) 5 rfl rfl rfl (ckV (md' := md_Plan_offer) lk_5_269 ok_Plan_offer rfl rfl rfl) rfl (by decide) (fun s1 h => c_Plan_offer n _ _ _ _ h) hF (fun σ9 hF => ?_)
      refine J.csI tk_Tent_nights (as := [mR 18 0]) (rest := []) 2 rfl rfl rfl (ckV (md' := md_Orders_advance) lk_5_273 ok_Orders_advance rfl rfl rfl) rfl (by decide) (fun v1 s1 h => c_Orders_advance n _ (v1, s1) h) hF (fun v10 σ11 hF => ?_)
      refine J.if_ne tk_Tent_nights 0 rfl rfl hF (fun hF => ?_) (fun hF => ?_)
      · exact J.run tk_Tent_nights 2 rfl (ih _ _ _ _ hF)
      · exact J.run tk_Tent_nights 1 rfl (J.fgt [true, true, true, false, false] (h_Tent_nights_119 n w _ _ _ hF))
theorem c_Tent_nights (n : Nat) (a1 : Int32) (a2 : Int32) (σ : St) (w : (Int32 × St)) (hF : F_Tent_nights n a1 a2 σ = some w) : Call md_Tent_nights 7 [mR 0 0, mI a1, mI a2] σ (some (mI w.1)) w.2 := by
  rw [F_Tent_nights] at hF
  refine Call.of ok_Tent_nights.1 (Nat.le_of_ble_eq_true rfl) (L := [some (mR 0 0), some (mI a1), some (mI a2), none, none]) rfl ?_
  refine J.icmp_lt tk_Tent_nights 2 rfl rfl hF (fun hF => ?_) (fun hF => ?_)
  · exact J.wsI hF (J.reti tk_Tent_nights 1 rfl rfl rfl)
  · refine J.icmp_le tk_Tent_nights 2 rfl rfl hF (fun hF => ?_) (fun hF => ?_)
    · refine J.cpI tk_Tent_nights (as := [mR 0 0, mI a2]) (rest := []) 2 rfl rfl rfl (ckV (md' := md_Tent_refuseRowToFill) lk_5_263 ok_Tent_refuseRowToFill rfl rfl rfl) rfl (by decide) (fun v1 h => c_Tent_refuseRowToFill _ _ _ h) hF (fun v1 hF => ?_)
      refine J.if_eq tk_Tent_nights 2 rfl rfl hF (fun hF => ?_) (fun hF => ?_)
      · refine J.csV tk_Tent_nights (as := [mR 4 4, mR 4 0]) (rest := []) 4 rfl rfl rfl (ckV (md' := md_Camp_takePresent) lk_5_239 ok_Camp_takePresent rfl rfl rfl) rfl (by decide) (fun s1 h => c_Camp_takePresent _ _ _ _ h) hF (fun σ2 hF => ?_)
        refine J.csV tk_Tent_nights (as := [mR 20 0, mI (σ2.1 4 0 10)]) (rest := []) 5 rfl rfl rfl (ckV (md' := md_Plan_begin) lk_5_266 ok_Plan_begin rfl rfl rfl) rfl (by decide) (fun s1 h => c_Plan_begin n _ _ _ h) hF (fun σ3 hF => ?_)
        refine J.csV tk_Tent_nights (as := [mR 18 0, mI (σ3.1 4 0 10)]) (rest := []) 5 rfl rfl rfl (ckV (md' := md_Orders_begin) lk_5_268 ok_Orders_begin rfl rfl rfl) rfl (by decide) (fun s1 h => c_Orders_begin n _ _ _ h) hF (fun σ4 hF => ?_)
        exact J.run tk_Tent_nights 2 rfl (J.fgt [true, true, true, false, true] (h_Tent_nights_66 n w n _ _ _ _ hF))
      · exact J.wsI hF (J.reti tk_Tent_nights 1 rfl rfl rfl)
    · exact J.wsI hF (J.reti tk_Tent_nights 1 rfl rfl rfl)
noncomputable def F_Tent_nth (n : Nat) (a1 : Int32) (a2 : Int32) (σ : St) : Option (Int32 × St) :=
  if 0 ≤ a1 then
    (F_Tent_refuseRowToFill a2 σ).bind fun v1 =>
    if v1 = 0 then
      (F_Orders_howMany n (σ.1 4 0 10)).bind fun v2 =>
      if a1 < v2 then
        (F_Orders_goTo n (σ.1 4 0 10) a1 σ).bind fun σ3 =>
        (F_Orders_writeTo n 0 a2 σ3).bind fun σ4 =>
        some (1, σ4)
      else
      b2 (F_Tent_found 4 σ) fun v5 σ6 =>
      some (v5, σ6)
    else
    some (v1, σ)
  else
  some ((-1), σ)
theorem c_Tent_nth (n : Nat) (a1 : Int32) (a2 : Int32) (σ : St) (w : (Int32 × St)) (hF : F_Tent_nth n a1 a2 σ = some w) : Call md_Tent_nth 5 [mR 0 0, mI a1, mI a2] σ (some (mI w.1)) w.2 := by
  rw [F_Tent_nth] at hF
  refine Call.of ok_Tent_nth.1 (Nat.le_of_ble_eq_true rfl) (L := [some (mR 0 0), some (mI a1), some (mI a2), none]) rfl ?_
  refine J.if_ge tk_Tent_nth 1 rfl rfl hF (fun hF => ?_) (fun hF => ?_)
  · refine J.cpI tk_Tent_nth (as := [mR 0 0, mI a2]) (rest := []) 2 rfl rfl rfl (ckV (md' := md_Tent_refuseRowToFill) lk_5_263 ok_Tent_refuseRowToFill rfl rfl rfl) rfl (by decide) (fun v1 h => c_Tent_refuseRowToFill _ _ _ h) hF (fun v1 hF => ?_)
    refine J.if_eq tk_Tent_nth 2 rfl rfl hF (fun hF => ?_) (fun hF => ?_)
    · refine J.cpI tk_Tent_nth (as := [mI (σ.1 4 0 10)]) (rest := [mI a1]) 4 rfl rfl rfl (ckS (md' := md_Orders_howMany) lk_5_283 ok_Orders_howMany rfl) rfl (by decide) (fun v1 h => c_Orders_howMany n _ _ _ h) hF (fun v2 hF => ?_)
      refine J.icmp_lt tk_Tent_nth 0 rfl rfl hF (fun hF => ?_) (fun hF => ?_)
      · refine J.csV tk_Tent_nth (as := [mR 18 0, mI (σ.1 4 0 10), mI a1]) (rest := []) 6 rfl rfl rfl (ckV (md' := md_Orders_goTo) lk_5_286 ok_Orders_goTo rfl rfl rfl) rfl (by decide) (fun s1 h => c_Orders_goTo n _ _ _ _ h) hF (fun σ3 hF => ?_)
        refine J.csV tk_Tent_nth (as := [mR 18 0, mR 1 0, mI a2]) (rest := []) 5 rfl rfl rfl (ckV (md' := md_Orders_writeTo) lk_5_289 ok_Orders_writeTo rfl rfl rfl) rfl (by decide) (fun s1 h => c_Orders_writeTo n _ _ _ _ h) hF (fun σ4 hF => ?_)
        exact J.wsI hF (J.reti tk_Tent_nth 1 rfl rfl rfl)
      · refine J.csI tk_Tent_nth (as := [mR 0 0, mI 4]) (rest := []) 2 rfl rfl rfl (ckV (md' := md_Tent_found) lk_5_97 ok_Tent_found rfl rfl rfl) rfl (by decide) (fun v1 s1 h => c_Tent_found _ _ (v1, s1) h) hF (fun v5 σ6 hF => ?_)
        exact J.wsI hF (J.reti tk_Tent_nth 0 rfl rfl rfl)
    · exact J.wsI hF (J.reti tk_Tent_nth 1 rfl rfl rfl)
  · exact J.wsI hF (J.reti tk_Tent_nth 1 rfl rfl rfl)
noncomputable def F_Tent_out_62 (n : Nat) (K17 : Int32 → Int32 → Int32 → St → Option (Int32 × St)) (l1 : Int32) (l2 : Int32) (l3 : Int32) (σ : St) : Option (Int32 × St) :=
  K17 l1 l2 (l3 + 1) σ
noncomputable def F_Tent_out_17 (n : Nat) : Nat → Int32 → Int32 → Int32 → St → Option (Int32 × St)
  | 0, _, _, _, _ => none
  | k + 1, l1, l2, l3, σ =>
    (ald σ 9 0 l1).bind fun v2 =>
    if v2 ≤ l3 then
      bs (si σ 0 0 10 l2) fun σ3 =>
      (ald σ3 9 0 l1).bind fun v4 =>
      some (v4, σ3)
    else
    (ald σ 10 0 l3).bind fun v5 =>
    (ald σ 6 0 v5).bind fun v6 =>
    F_Tent_out_62 n (F_Tent_out_17 n k) l1 (if v6 = 5 then l2 else l2 ||| (1 <<< (v5 &&& 31))) l3 σ
noncomputable def F_Tent_out (n : Nat) (a1 : Int32) (σ : St) : Option (Int32 × St) :=
  (F_Camp_isSleeper 0 a1 σ).bind fun v1 =>
  if v1 = 0 then
    some ((-1), σ)
  else
  F_Tent_out_17 n n a1 0 0 σ
theorem h_Tent_out_62 (n : Nat) (w : (Int32 × St)) (K17 : Int32 → Int32 → Int32 → St → Option (Int32 × St)) (hK17 : ∀ (l1 : Int32) (l2 : Int32) (l3 : Int32) (σ : St), K17 l1 l2 l3 σ = some w → J md_Tent_out 1 17 [some (mR 0 0), some (mI l1), some (mI l2), some (mI l3), none] [] σ (some (mI w.1)) w.2) (l1 : Int32) (l2 : Int32) (l3 : Int32) (σ : St) (hF : F_Tent_out_62 n K17 l1 l2 l3 σ = some w) : J md_Tent_out 1 62 [some (mR 0 0), some (mI l1), some (mI l2), some (mI l3), none] [] σ (some (mI w.1)) w.2 := by
  rw [F_Tent_out_62] at hF
  exact J.run tk_Tent_out 2 rfl (hK17 _ _ _ _ hF)
theorem h_Tent_out_17 (n : Nat) (w : (Int32 × St)) : ∀ (k : Nat) (l1 : Int32) (l2 : Int32) (l3 : Int32) (σ : St), F_Tent_out_17 n k l1 l2 l3 σ = some w → J md_Tent_out 1 17 [some (mR 0 0), some (mI l1), some (mI l2), some (mI l3), none] [] σ (some (mI w.1)) w.2 := by
  intro k
  induction k with
  | zero => intro l1 l2 l3 σ hF; exact no_s hF
  | succ k ih =>
    intro l1 l2 l3 σ hF
    rw [F_Tent_out_17] at hF
    refine J.iald tk_Tent_out 5 rfl rfl hF (fun v2 hF => ?_)
    refine J.icmp_ge tk_Tent_out 0 rfl rfl hF (fun hF => ?_) (fun hF => ?_)
    · refine J.putI tk_Tent_out 2 rfl rfl rfl rfl rfl ⟨rfl, rfl⟩ hF (fun σ3 hF => ?_)
      refine J.iald tk_Tent_out 4 rfl rfl hF (fun v4 hF => ?_)
      exact J.wsI hF (J.reti tk_Tent_out 0 rfl rfl rfl)
    · refine J.iald tk_Tent_out 4 rfl rfl hF (fun v5 hF => ?_)
      refine J.iald tk_Tent_out 5 rfl rfl hF (fun v6 hF => ?_)
      by_cases hc : v6 = 5
      · simp only [if_pos hc] at hF
        exact J.icmp_eqT' tk_Tent_out 1 rfl rfl hc (J.fgt [true, true, true, true, false] (h_Tent_out_62 n w (F_Tent_out_17 n k) ih _ _ _ _ hF))
      · simp only [if_neg hc] at hF
        exact J.icmp_eqF' tk_Tent_out 1 rfl rfl hc (J.run tk_Tent_out 6 rfl (J.fgt [true, true, true, true, false] (h_Tent_out_62 n w (F_Tent_out_17 n k) ih _ _ _ _ hF)))
theorem c_Tent_out (n : Nat) (a1 : Int32) (σ : St) (w : (Int32 × St)) (hF : F_Tent_out n a1 σ = some w) : Call md_Tent_out 1 [mR 0 0, mI a1] σ (some (mI w.1)) w.2 := by
  rw [F_Tent_out] at hF
  refine Call.of ok_Tent_out.1 (Nat.le_of_ble_eq_true rfl) (L := [some (mR 0 0), some (mI a1), none, none, none]) rfl ?_
  refine J.cpI tk_Tent_out (as := [mR 4 0, mI a1]) (rest := []) 3 rfl rfl rfl (ckV (md' := md_Camp_isSleeper) lk_5_133 ok_Camp_isSleeper rfl rfl rfl) rfl (by decide) (fun v1 h => c_Camp_isSleeper _ _ _ _ h) hF (fun v1 hF => ?_)
  refine J.if_ne tk_Tent_out 0 rfl rfl hF (fun hF => ?_) (fun hF => ?_)
  · exact J.run tk_Tent_out 4 rfl (h_Tent_out_17 n w n _ _ _ _ hF)
  · exact J.wsI hF (J.reti tk_Tent_out 1 rfl rfl rfl)
noncomputable def F_Tent_fitsWhatWasHeard_72 (n : Nat) (K3 : Int32 → Int32 → Int32 → Int32 → St → Option Int32) (l1 : Int32) (l2 : Int32) (l3 : Int32) (l4 : Int32) (σ : St) : Option Int32 :=
  K3 l1 l2 l3 (l4 + 1) σ
noncomputable def F_Tent_fitsWhatWasHeard_54 (n : Nat) (K3 : Int32 → Int32 → Int32 → Int32 → St → Option Int32) (l1 : Int32) (l2 : Int32) (l3 : Int32) (l4 : Int32) (l5 : Int32) (s0 : Int32) (σ : St) : Option Int32 :=
  if l5 = (-9) then
    F_Tent_fitsWhatWasHeard_72 n K3 l1 l2 l3 l4 σ
  else
  if l5 = s0 then
    F_Tent_fitsWhatWasHeard_72 n K3 l1 l2 l3 l4 σ
  else
  some 0
noncomputable def F_Tent_fitsWhatWasHeard_3 (n : Nat) : Nat → Int32 → Int32 → Int32 → Int32 → St → Option Int32
  | 0, _, _, _, _, _ => none
  | k + 1, l1, l2, l3, l4, σ =>
    if σ.1 4 0 10 ≤ l4 then
      some 1
    else
    (F_Shelf_get 0 l1 l4 σ).bind fun v1 =>
    (ald σ 10 0 l4).bind fun v2 =>
    (F_Camp_hearsWithin 0 v2 l2 l3 σ).bind fun v3 =>
    F_Tent_fitsWhatWasHeard_54 n (F_Tent_fitsWhatWasHeard_3 n k) l1 l2 l3 l4 v1 (if v3 = 0 then 0 else 1) σ
noncomputable def F_Tent_fitsWhatWasHeard (n : Nat) (a1 : Int32) (a2 : Int32) (a3 : Int32) (σ : St) : Option Int32 :=
  F_Tent_fitsWhatWasHeard_3 n n a1 a2 a3 0 σ
theorem h_Tent_fitsWhatWasHeard_72 (n : Nat) (w : Int32) (K3 : Int32 → Int32 → Int32 → Int32 → St → Option Int32) (hK3 : ∀ (l1 : Int32) (l2 : Int32) (l3 : Int32) (l4 : Int32) (σ : St), K3 l1 l2 l3 l4 σ = some w → J md_Tent_fitsWhatWasHeard 4 3 [some (mR 0 0), some (mI l1), some (mI l2), some (mI l3), some (mI l4), none, none] [] σ (some (mI w)) σ) (l1 : Int32) (l2 : Int32) (l3 : Int32) (l4 : Int32) (σ : St) (hF : F_Tent_fitsWhatWasHeard_72 n K3 l1 l2 l3 l4 σ = some w) : J md_Tent_fitsWhatWasHeard 4 72 [some (mR 0 0), some (mI l1), some (mI l2), some (mI l3), some (mI l4), none, none] [] σ (some (mI w)) σ := by
  rw [F_Tent_fitsWhatWasHeard_72] at hF
  exact J.run tk_Tent_fitsWhatWasHeard 2 rfl (hK3 _ _ _ _ _ hF)
theorem h_Tent_fitsWhatWasHeard_54 (n : Nat) (w : Int32) (K3 : Int32 → Int32 → Int32 → Int32 → St → Option Int32) (hK3 : ∀ (l1 : Int32) (l2 : Int32) (l3 : Int32) (l4 : Int32) (σ : St), K3 l1 l2 l3 l4 σ = some w → J md_Tent_fitsWhatWasHeard 4 3 [some (mR 0 0), some (mI l1), some (mI l2), some (mI l3), some (mI l4), none, none] [] σ (some (mI w)) σ) (l1 : Int32) (l2 : Int32) (l3 : Int32) (l4 : Int32) (l5 : Int32) (s0 : Int32) (σ : St) (hF : F_Tent_fitsWhatWasHeard_54 n K3 l1 l2 l3 l4 l5 s0 σ = some w) : J md_Tent_fitsWhatWasHeard 4 54 [some (mR 0 0), some (mI l1), some (mI l2), some (mI l3), some (mI l4), some (mI l5), none] [mI s0] σ (some (mI w)) σ := by
  rw [F_Tent_fitsWhatWasHeard_54] at hF
  refine J.icmp_eq tk_Tent_fitsWhatWasHeard 3 rfl rfl hF (fun hF => ?_) (fun hF => ?_)
  · exact J.fgt [true, true, true, true, true, false, false] (h_Tent_fitsWhatWasHeard_72 n w K3 hK3 _ _ _ _ _ hF)
  · refine J.icmp_eq tk_Tent_fitsWhatWasHeard 2 rfl rfl hF (fun hF => ?_) (fun hF => ?_)
    · exact J.fgt [true, true, true, true, true, false, false] (h_Tent_fitsWhatWasHeard_72 n w K3 hK3 _ _ _ _ _ hF)
    · exact J.wI hF (J.retz tk_Tent_fitsWhatWasHeard 1 rfl rfl rfl rfl)
theorem h_Tent_fitsWhatWasHeard_3 (n : Nat) (w : Int32) : ∀ (k : Nat) (l1 : Int32) (l2 : Int32) (l3 : Int32) (l4 : Int32) (σ : St), F_Tent_fitsWhatWasHeard_3 n k l1 l2 l3 l4 σ = some w → J md_Tent_fitsWhatWasHeard 4 3 [some (mR 0 0), some (mI l1), some (mI l2), some (mI l3), some (mI l4), none, none] [] σ (some (mI w)) σ := by
  intro k
  induction k with
  | zero => intro l1 l2 l3 l4 σ hF; exact no_s hF
  | succ k ih =>
    intro l1 l2 l3 l4 σ hF
    rw [F_Tent_fitsWhatWasHeard_3] at hF
    refine J.icmp_ge tk_Tent_fitsWhatWasHeard 4 rfl rfl hF (fun hF => ?_) (fun hF => ?_)
    · exact J.wI hF (J.retz tk_Tent_fitsWhatWasHeard 1 rfl rfl rfl rfl)
    · refine J.cpI tk_Tent_fitsWhatWasHeard (as := [mR 1 0, mI l1, mI l4]) (rest := []) 4 rfl rfl rfl (ckV (md' := md_Shelf_get) lk_5_74 ok_Shelf_get rfl rfl rfl) rfl (by decide) (fun v1 h => c_Shelf_get _ _ _ _ _ h) hF (fun v1 hF => ?_)
      refine J.iald tk_Tent_fitsWhatWasHeard 7 rfl rfl hF (fun v2 hF => ?_)
      refine J.cpI tk_Tent_fitsWhatWasHeard (as := [mR 4 0, mI v2, mI l2, mI l3]) (rest := []) 2 rfl rfl rfl (ckV (md' := md_Camp_hearsWithin) lk_5_350 ok_Camp_hearsWithin rfl rfl rfl) rfl (by decide) (fun v1 h => c_Camp_hearsWithin _ _ _ _ _ _ h) hF (fun v3 hF => ?_)
      by_cases hc : v3 = 0
      · simp only [if_pos hc] at hF
        exact J.if_eqT' tk_Tent_fitsWhatWasHeard 0 rfl rfl hc (J.run tk_Tent_fitsWhatWasHeard 1 rfl (h_Tent_fitsWhatWasHeard_54 n w (F_Tent_fitsWhatWasHeard_3 n k) ih _ _ _ _ _ _ _ hF))
      · simp only [if_neg hc] at hF
        exact J.if_eqF' tk_Tent_fitsWhatWasHeard 0 rfl rfl hc (J.run tk_Tent_fitsWhatWasHeard 2 rfl (h_Tent_fitsWhatWasHeard_54 n w (F_Tent_fitsWhatWasHeard_3 n k) ih _ _ _ _ _ _ _ hF))
theorem c_Tent_fitsWhatWasHeard (n : Nat) (a1 : Int32) (a2 : Int32) (a3 : Int32) (σ : St) (w : Int32) (hF : F_Tent_fitsWhatWasHeard n a1 a2 a3 σ = some w) : Call md_Tent_fitsWhatWasHeard 4 [mR 0 0, mI a1, mI a2, mI a3] σ (some (mI w)) σ := by
  rw [F_Tent_fitsWhatWasHeard] at hF
  refine Call.of ok_Tent_fitsWhatWasHeard.1 (Nat.le_of_ble_eq_true rfl) (L := [some (mR 0 0), some (mI a1), some (mI a2), some (mI a3), none, none, none]) rfl ?_
  exact J.run tk_Tent_fitsWhatWasHeard 2 rfl (h_Tent_fitsWhatWasHeard_3 n w n _ _ _ _ _ hF)
noncomputable def F_Tent_suspects_35 (n : Nat) (K5 : Int32 → Int32 → Int32 → Int32 → St → Option Int32) (l1 : Int32) (l2 : Int32) (l3 : Int32) (l4 : Int32) (σ : St) : Option Int32 :=
  K5 l1 l2 l3 (l4 + 1) σ
noncomputable def F_Tent_suspects_5 (n : Nat) : Nat → Int32 → Int32 → Int32 → Int32 → St → Option Int32
  | 0, _, _, _, _, _ => none
  | k + 1, l1, l2, l3, l4, σ =>
    if σ.1 4 0 10 ≤ l4 then
      some l3
    else
    (F_Tent_fitsWhatWasHeard n l1 l4 l2 σ).bind fun v1 =>
    F_Tent_suspects_35 n (F_Tent_suspects_5 n k) l1 l2 (if v1 = 0 then l3 else l3 ||| (1 <<< (l4 &&& 31))) l4 σ
noncomputable def F_Tent_suspects (n : Nat) (a1 : Int32) (a2 : Int32) (σ : St) : Option Int32 :=
  F_Tent_suspects_5 n n a1 a2 0 0 σ
theorem h_Tent_suspects_35 (n : Nat) (w : Int32) (K5 : Int32 → Int32 → Int32 → Int32 → St → Option Int32) (hK5 : ∀ (l1 : Int32) (l2 : Int32) (l3 : Int32) (l4 : Int32) (σ : St), K5 l1 l2 l3 l4 σ = some w → J md_Tent_suspects 5 5 [some (mR 0 0), some (mI l1), some (mI l2), some (mI l3), some (mI l4)] [] σ (some (mI w)) σ) (l1 : Int32) (l2 : Int32) (l3 : Int32) (l4 : Int32) (σ : St) (hF : F_Tent_suspects_35 n K5 l1 l2 l3 l4 σ = some w) : J md_Tent_suspects 5 35 [some (mR 0 0), some (mI l1), some (mI l2), some (mI l3), some (mI l4)] [] σ (some (mI w)) σ := by
  rw [F_Tent_suspects_35] at hF
  exact J.run tk_Tent_suspects 2 rfl (hK5 _ _ _ _ _ hF)
theorem h_Tent_suspects_5 (n : Nat) (w : Int32) : ∀ (k : Nat) (l1 : Int32) (l2 : Int32) (l3 : Int32) (l4 : Int32) (σ : St), F_Tent_suspects_5 n k l1 l2 l3 l4 σ = some w → J md_Tent_suspects 5 5 [some (mR 0 0), some (mI l1), some (mI l2), some (mI l3), some (mI l4)] [] σ (some (mI w)) σ := by
  intro k
  induction k with
  | zero => intro l1 l2 l3 l4 σ hF; exact no_s hF
  | succ k ih =>
    intro l1 l2 l3 l4 σ hF
    rw [F_Tent_suspects_5] at hF
    refine J.icmp_ge tk_Tent_suspects 4 rfl rfl hF (fun hF => ?_) (fun hF => ?_)
    · exact J.wI hF (J.reti tk_Tent_suspects 1 rfl rfl rfl)
    · refine J.cpI tk_Tent_suspects (as := [mR 0 0, mI l1, mI l4, mI l2]) (rest := []) 4 rfl rfl rfl (ckV (md' := md_Tent_fitsWhatWasHeard) lk_5_347 ok_Tent_fitsWhatWasHeard rfl rfl rfl) rfl (by decide) (fun v1 h => c_Tent_fitsWhatWasHeard n _ _ _ _ _ h) hF (fun v1 hF => ?_)
      by_cases hc : v1 = 0
      · simp only [if_pos hc] at hF
        exact J.if_eqT' tk_Tent_suspects 0 rfl rfl hc (h_Tent_suspects_35 n w (F_Tent_suspects_5 n k) ih _ _ _ _ _ hF)
      · simp only [if_neg hc] at hF
        exact J.if_eqF' tk_Tent_suspects 0 rfl rfl hc (J.run tk_Tent_suspects 6 rfl (h_Tent_suspects_35 n w (F_Tent_suspects_5 n k) ih _ _ _ _ _ hF))
theorem c_Tent_suspects (n : Nat) (a1 : Int32) (a2 : Int32) (σ : St) (w : Int32) (hF : F_Tent_suspects n a1 a2 σ = some w) : Call md_Tent_suspects 5 [mR 0 0, mI a1, mI a2] σ (some (mI w)) σ := by
  rw [F_Tent_suspects] at hF
  refine Call.of ok_Tent_suspects.1 (Nat.le_of_ble_eq_true rfl) (L := [some (mR 0 0), some (mI a1), some (mI a2), none, none]) rfl ?_
  exact J.run tk_Tent_suspects 4 rfl (h_Tent_suspects_5 n w n _ _ _ _ _ hF)
noncomputable def F_Tent_whose_60 (n : Nat) (K14 : Int32 → Int32 → St → Option (Int32 × St)) (l1 : Int32) (l3 : Int32) (σ : St) : Option (Int32 × St) :=
  K14 l1 (l3 + 1) σ
noncomputable def F_Tent_whose_14 (n : Nat) : Nat → Int32 → Int32 → St → Option (Int32 × St)
  | 0, _, _, _ => none
  | k + 1, l1, l3, σ =>
    if σ.1 4 0 10 ≤ l3 then
      (F_Camp_reach 4).bind fun v3 =>
      (F_Tent_suspects n l1 v3 σ).bind fun v4 =>
      bs (si σ 0 0 10 v4) fun σ5 =>
      (F_Camp_reach 1).bind fun v6 =>
      (F_Tent_suspects n l1 v6 σ5).bind fun v7 =>
      some (v7, σ5)
    else
    (F_Shelf_get 0 l1 l3 σ).bind fun v8 =>
    if v8 = 0 then
      F_Tent_whose_60 n (F_Tent_whose_14 n k) l1 l3 σ
    else
    if v8 = 1 then
      F_Tent_whose_60 n (F_Tent_whose_14 n k) l1 l3 σ
    else
    if v8 = (-9) then
      F_Tent_whose_60 n (F_Tent_whose_14 n k) l1 l3 σ
    else
    b2 (F_Tent_found 3 σ) fun v9 σ10 =>
    some (v9, σ10)
noncomputable def F_Tent_whose (n : Nat) (a1 : Int32) (σ : St) : Option (Int32 × St) :=
  b2 (F_Tent_refuseRowForPlaces a1 σ) fun v1 σ2 =>
  if v1 = 0 then
    F_Tent_whose_14 n n a1 0 σ2
  else
  some (v1, σ2)
theorem h_Tent_whose_60 (n : Nat) (w : (Int32 × St)) (K14 : Int32 → Int32 → St → Option (Int32 × St)) (hK14 : ∀ (l1 : Int32) (l3 : Int32) (σ : St), K14 l1 l3 σ = some w → J md_Tent_whose 6 14 [some (mR 0 0), some (mI l1), none, some (mI l3), none] [] σ (some (mI w.1)) w.2) (l1 : Int32) (l3 : Int32) (σ : St) (hF : F_Tent_whose_60 n K14 l1 l3 σ = some w) : J md_Tent_whose 6 60 [some (mR 0 0), some (mI l1), none, some (mI l3), none] [] σ (some (mI w.1)) w.2 := by
  rw [F_Tent_whose_60] at hF
  exact J.run tk_Tent_whose 2 rfl (hK14 _ _ _ hF)
theorem h_Tent_whose_14 (n : Nat) (w : (Int32 × St)) : ∀ (k : Nat) (l1 : Int32) (l3 : Int32) (σ : St), F_Tent_whose_14 n k l1 l3 σ = some w → J md_Tent_whose 6 14 [some (mR 0 0), some (mI l1), none, some (mI l3), none] [] σ (some (mI w.1)) w.2 := by
  intro k
  induction k with
  | zero => intro l1 l3 σ hF; exact no_s hF
  | succ k ih =>
    intro l1 l3 σ hF
    rw [F_Tent_whose_14] at hF
    refine J.icmp_ge tk_Tent_whose 4 rfl rfl hF (fun hF => ?_) (fun hF => ?_)
    · refine J.cpI tk_Tent_whose (as := [mI 4]) (rest := [mI l1, mR 0 0, mR 0 0]) 4 rfl rfl rfl (ckS (md' := md_Camp_reach) lk_5_295 ok_Camp_reach rfl) rfl (by decide) (fun v1 h => c_Camp_reach _ _ _ h) hF (fun v3 hF => ?_)
      refine J.cpI tk_Tent_whose (as := [mR 0 0, mI l1, mI v3]) (rest := [mR 0 0]) 0 rfl rfl rfl (ckV (md' := md_Tent_suspects) lk_5_298 ok_Tent_suspects rfl rfl rfl) rfl (by decide) (fun v1 h => c_Tent_suspects n _ _ _ _ h) hF (fun v4 hF => ?_)
      refine J.putI tk_Tent_whose 0 rfl rfl rfl rfl rfl ⟨rfl, rfl⟩ hF (fun σ5 hF => ?_)
      refine J.cpI tk_Tent_whose (as := [mI 1]) (rest := [mI l1, mR 0 0]) 3 rfl rfl rfl (ckS (md' := md_Camp_reach) lk_5_295 ok_Camp_reach rfl) rfl (by decide) (fun v1 h => c_Camp_reach _ _ _ h) hF (fun v6 hF => ?_)
      refine J.cpI tk_Tent_whose (as := [mR 0 0, mI l1, mI v6]) (rest := []) 0 rfl rfl rfl (ckV (md' := md_Tent_suspects) lk_5_298 ok_Tent_suspects rfl rfl rfl) rfl (by decide) (fun v1 h => c_Tent_suspects n _ _ _ _ h) hF (fun v7 hF => ?_)
      exact J.wsI hF (J.reti tk_Tent_whose 0 rfl rfl rfl)
    · refine J.cpI tk_Tent_whose (as := [mR 1 0, mI l1, mI l3]) (rest := []) 4 rfl rfl rfl (ckV (md' := md_Shelf_get) lk_5_74 ok_Shelf_get rfl rfl rfl) rfl (by decide) (fun v1 h => c_Shelf_get _ _ _ _ _ h) hF (fun v8 hF => ?_)
      refine J.if_eq tk_Tent_whose 2 rfl rfl hF (fun hF => ?_) (fun hF => ?_)
      · exact J.fgt [true, true, false, true, false] (h_Tent_whose_60 n w (F_Tent_whose_14 n k) ih _ _ _ hF)
      · refine J.icmp_eq tk_Tent_whose 2 rfl rfl hF (fun hF => ?_) (fun hF => ?_)
        · exact J.fgt [true, true, false, true, false] (h_Tent_whose_60 n w (F_Tent_whose_14 n k) ih _ _ _ hF)
        · refine J.icmp_eq tk_Tent_whose 2 rfl rfl hF (fun hF => ?_) (fun hF => ?_)
          · exact J.fgt [true, true, false, true, false] (h_Tent_whose_60 n w (F_Tent_whose_14 n k) ih _ _ _ hF)
          · refine J.csI tk_Tent_whose (as := [mR 0 0, mI 3]) (rest := []) 2 rfl rfl rfl (ckV (md' := md_Tent_found) lk_5_97 ok_Tent_found rfl rfl rfl) rfl (by decide) (fun v1 s1 h => c_Tent_found _ _ (v1, s1) h) hF (fun v9 σ10 hF => ?_)
            exact J.wsI hF (J.reti tk_Tent_whose 0 rfl rfl rfl)
theorem c_Tent_whose (n : Nat) (a1 : Int32) (σ : St) (w : (Int32 × St)) (hF : F_Tent_whose n a1 σ = some w) : Call md_Tent_whose 6 [mR 0 0, mI a1] σ (some (mI w.1)) w.2 := by
  rw [F_Tent_whose] at hF
  refine Call.of ok_Tent_whose.1 (Nat.le_of_ble_eq_true rfl) (L := [some (mR 0 0), some (mI a1), none, none, none]) rfl ?_
  refine J.csI tk_Tent_whose (as := [mR 0 0, mI a1]) (rest := []) 2 rfl rfl rfl (ckV (md' := md_Tent_refuseRowForPlaces) lk_5_186 ok_Tent_refuseRowForPlaces rfl rfl rfl) rfl (by decide) (fun v1 s1 h => c_Tent_refuseRowForPlaces _ _ (v1, s1) h) hF (fun v1 σ2 hF => ?_)
  refine J.if_eq tk_Tent_whose 2 rfl rfl hF (fun hF => ?_) (fun hF => ?_)
  · exact J.run tk_Tent_whose 2 rfl (J.fgt [true, true, false, true, false] (h_Tent_whose_14 n w n _ _ _ hF))
  · exact J.wsI hF (J.reti tk_Tent_whose 1 rfl rfl rfl)
noncomputable def F_Tent_kinds_65 (n : Nat) (K29 : Int32 → Int32 → Int32 → Int32 → St → Option (Int32 × St)) (l1 : Int32) (l2 : Int32) (l3 : Int32) (l4 : Int32) (σ : St) : Option (Int32 × St) :=
  K29 l1 l2 l3 (l4 + 1) σ
noncomputable def F_Tent_kinds_29 (n : Nat) : Nat → Int32 → Int32 → Int32 → Int32 → St → Option (Int32 × St)
  | 0, _, _, _, _, _ => none
  | k + 1, l1, l2, l3, l4, σ =>
    if 6 ≤ l4 then
      some (l3, σ)
    else
    (ast σ 6 4 l1 l4).bind fun σ3 =>
    (F_Camp_sleptByAll n 4 σ3).bind fun v4 =>
    F_Tent_kinds_65 n (F_Tent_kinds_29 n k) l1 l2 (if v4 = l2 then l3 ||| (1 <<< (l4 &&& 31)) else l3) l4 σ3
noncomputable def F_Tent_kinds (n : Nat) (a1 : Int32) (a2 : Int32) (σ : St) : Option (Int32 × St) :=
  (F_Camp_isSleeper 0 a1 σ).bind fun v1 =>
  if v1 = 0 then
    some ((-1), σ)
  else
  (F_Camp_takePresent 4 0 σ).bind fun σ2 =>
  F_Tent_kinds_29 n n a1 a2 0 0 σ2
theorem h_Tent_kinds_65 (n : Nat) (w : (Int32 × St)) (K29 : Int32 → Int32 → Int32 → Int32 → St → Option (Int32 × St)) (hK29 : ∀ (l1 : Int32) (l2 : Int32) (l3 : Int32) (l4 : Int32) (σ : St), K29 l1 l2 l3 l4 σ = some w → J md_Tent_kinds 5 29 [some (mR 0 0), some (mI l1), some (mI l2), some (mI l3), some (mI l4)] [] σ (some (mI w.1)) w.2) (l1 : Int32) (l2 : Int32) (l3 : Int32) (l4 : Int32) (σ : St) (hF : F_Tent_kinds_65 n K29 l1 l2 l3 l4 σ = some w) : J md_Tent_kinds 5 65 [some (mR 0 0), some (mI l1), some (mI l2), some (mI l3), some (mI l4)] [] σ (some (mI w.1)) w.2 := by
  rw [F_Tent_kinds_65] at hF
  exact J.run tk_Tent_kinds 2 rfl (hK29 _ _ _ _ _ hF)
theorem h_Tent_kinds_29 (n : Nat) (w : (Int32 × St)) : ∀ (k : Nat) (l1 : Int32) (l2 : Int32) (l3 : Int32) (l4 : Int32) (σ : St), F_Tent_kinds_29 n k l1 l2 l3 l4 σ = some w → J md_Tent_kinds 5 29 [some (mR 0 0), some (mI l1), some (mI l2), some (mI l3), some (mI l4)] [] σ (some (mI w.1)) w.2 := by
  intro k
  induction k with
  | zero => intro l1 l2 l3 l4 σ hF; exact no_s hF
  | succ k ih =>
    intro l1 l2 l3 l4 σ hF
    rw [F_Tent_kinds_29] at hF
    refine J.icmp_ge tk_Tent_kinds 2 rfl rfl hF (fun hF => ?_) (fun hF => ?_)
    · exact J.wsI hF (J.reti tk_Tent_kinds 1 rfl rfl rfl)
    · refine J.iast tk_Tent_kinds 5 rfl rfl hF (fun σ3 hF => ?_)
      refine J.cpI tk_Tent_kinds (as := [mR 4 4]) (rest := []) 2 rfl rfl rfl (ckV (md' := md_Camp_sleptByAll) lk_5_251 ok_Camp_sleptByAll rfl rfl rfl) rfl (by decide) (fun v1 h => c_Camp_sleptByAll n _ _ _ h) hF (fun v4 hF => ?_)
      by_cases hc : v4 = l2
      · simp only [if_pos hc] at hF
        exact J.icmp_neF' tk_Tent_kinds 1 rfl rfl hc (J.run tk_Tent_kinds 6 rfl (h_Tent_kinds_65 n w (F_Tent_kinds_29 n k) ih _ _ _ _ _ hF))
      · simp only [if_neg hc] at hF
        exact J.icmp_neT' tk_Tent_kinds 1 rfl rfl hc (h_Tent_kinds_65 n w (F_Tent_kinds_29 n k) ih _ _ _ _ _ hF)
theorem c_Tent_kinds (n : Nat) (a1 : Int32) (a2 : Int32) (σ : St) (w : (Int32 × St)) (hF : F_Tent_kinds n a1 a2 σ = some w) : Call md_Tent_kinds 5 [mR 0 0, mI a1, mI a2] σ (some (mI w.1)) w.2 := by
  rw [F_Tent_kinds] at hF
  refine Call.of ok_Tent_kinds.1 (Nat.le_of_ble_eq_true rfl) (L := [some (mR 0 0), some (mI a1), some (mI a2), none, none]) rfl ?_
  refine J.cpI tk_Tent_kinds (as := [mR 4 0, mI a1]) (rest := []) 3 rfl rfl rfl (ckV (md' := md_Camp_isSleeper) lk_5_133 ok_Camp_isSleeper rfl rfl rfl) rfl (by decide) (fun v1 h => c_Camp_isSleeper _ _ _ _ h) hF (fun v1 hF => ?_)
  refine J.if_ne tk_Tent_kinds 0 rfl rfl hF (fun hF => ?_) (fun hF => ?_)
  · refine J.csV tk_Tent_kinds (as := [mR 4 4, mR 4 0]) (rest := []) 4 rfl rfl rfl (ckV (md' := md_Camp_takePresent) lk_5_239 ok_Camp_takePresent rfl rfl rfl) rfl (by decide) (fun s1 h => c_Camp_takePresent _ _ _ _ h) hF (fun σ2 hF => ?_)
    exact J.run tk_Tent_kinds 4 rfl (h_Tent_kinds_29 n w n _ _ _ _ _ hF)
  · exact J.wsI hF (J.reti tk_Tent_kinds 1 rfl rfl rfl)
noncomputable def F_Tent_tellPower_40 (n : Nat) : Nat → Int32 → Int32 → Int32 → Int32 → St → Option St
  | 0, _, _, _, _, _ => none
  | k + 1, l1, l2, l3, l4, σ =>
    if l2 ≤ l4 then
      some σ
    else
    (dvI l1 l3).bind fun v3 =>
    bs (sl σ 0 0 11 ((σ.2 0 0 11) * v3.toInt64)) fun σ4 =>
    (dvI 12 l3).bind fun v5 =>
    bs (sl σ4 0 0 12 ((σ4.2 0 0 12) * v5.toInt64)) fun σ6 =>
    (F_Tent_tellPower_40 n k) l1 l2 l3 (l4 + 1) σ6
noncomputable def F_Tent_tellPower_27 (n : Nat) (l1 : Int32) (l2 : Int32) (l3 : Int32) (σ : St) : Option St :=
  bs (sl σ 0 0 11 1) fun σ1 =>
  bs (sl σ1 0 0 12 1) fun σ2 =>
  F_Tent_tellPower_40 n n l1 l2 l3 0 σ2
noncomputable def F_Tent_tellPower_21 (n : Nat) (K3 : Int32 → Int32 → Int32 → St → Option St) (l1 : Int32) (l2 : Int32) (l3 : Int32) (σ : St) : Option St :=
  K3 l1 l2 (l3 + (-1)) σ
noncomputable def F_Tent_tellPower_3 (n : Nat) : Nat → Int32 → Int32 → Int32 → St → Option St
  | 0, _, _, _, _ => none
  | k + 1, l1, l2, l3, σ =>
    if l3 ≤ 1 then
      F_Tent_tellPower_27 n l1 l2 l3 σ
    else
    (rmI l1 l3).bind fun v7 =>
    if v7 = 0 then
      (rmI 12 l3).bind fun v8 =>
      if v8 = 0 then
        F_Tent_tellPower_27 n l1 l2 l3 σ
      else
      F_Tent_tellPower_21 n (F_Tent_tellPower_3 n k) l1 l2 l3 σ
    else
    F_Tent_tellPower_21 n (F_Tent_tellPower_3 n k) l1 l2 l3 σ
noncomputable def F_Tent_tellPower (n : Nat) (a1 : Int32) (a2 : Int32) (σ : St) : Option St :=
  F_Tent_tellPower_3 n n a1 a2 12 σ
theorem h_Tent_tellPower_40 (n : Nat) (w : St) : ∀ (k : Nat) (l1 : Int32) (l2 : Int32) (l3 : Int32) (l4 : Int32) (σ : St), F_Tent_tellPower_40 n k l1 l2 l3 l4 σ = some w → J md_Tent_tellPower 0 40 [some (mR 0 0), some (mI l1), some (mI l2), some (mI l3), some (mI l4)] [] σ none w := by
  intro k
  induction k with
  | zero => intro l1 l2 l3 l4 σ hF; exact no_s hF
  | succ k ih =>
    intro l1 l2 l3 l4 σ hF
    rw [F_Tent_tellPower_40] at hF
    refine J.icmp_ge tk_Tent_tellPower 2 rfl rfl hF (fun hF => ?_) (fun hF => ?_)
    · exact J.wsV hF (J.retv tk_Tent_tellPower 0 rfl rfl rfl)
    · refine J.idiv tk_Tent_tellPower 5 rfl rfl hF (fun v3 hF => ?_)
      refine J.putL tk_Tent_tellPower 2 rfl rfl rfl rfl rfl ⟨rfl, rfl⟩ hF (fun σ4 hF => ?_)
      refine J.idiv tk_Tent_tellPower 5 rfl rfl hF (fun v5 hF => ?_)
      refine J.putL tk_Tent_tellPower 2 rfl rfl rfl rfl rfl ⟨rfl, rfl⟩ hF (fun σ6 hF => ?_)
      exact J.run tk_Tent_tellPower 2 rfl (ih _ _ _ _ _ hF)
theorem h_Tent_tellPower_27 (n : Nat) (w : St) (l1 : Int32) (l2 : Int32) (l3 : Int32) (σ : St) (hF : F_Tent_tellPower_27 n l1 l2 l3 σ = some w) : J md_Tent_tellPower 0 27 [some (mR 0 0), some (mI l1), some (mI l2), some (mI l3), none] [] σ none w := by
  rw [F_Tent_tellPower_27] at hF
  refine J.putL tk_Tent_tellPower 2 rfl rfl rfl rfl rfl ⟨rfl, rfl⟩ hF (fun σ1 hF => ?_)
  refine J.putL tk_Tent_tellPower 2 rfl rfl rfl rfl rfl ⟨rfl, rfl⟩ hF (fun σ2 hF => ?_)
  exact J.run tk_Tent_tellPower 2 rfl (h_Tent_tellPower_40 n w n _ _ _ _ _ hF)
theorem h_Tent_tellPower_21 (n : Nat) (w : St) (K3 : Int32 → Int32 → Int32 → St → Option St) (hK3 : ∀ (l1 : Int32) (l2 : Int32) (l3 : Int32) (σ : St), K3 l1 l2 l3 σ = some w → J md_Tent_tellPower 0 3 [some (mR 0 0), some (mI l1), some (mI l2), some (mI l3), none] [] σ none w) (l1 : Int32) (l2 : Int32) (l3 : Int32) (σ : St) (hF : F_Tent_tellPower_21 n K3 l1 l2 l3 σ = some w) : J md_Tent_tellPower 0 21 [some (mR 0 0), some (mI l1), some (mI l2), some (mI l3), none] [] σ none w := by
  rw [F_Tent_tellPower_21] at hF
  exact J.run tk_Tent_tellPower 2 rfl (hK3 _ _ _ _ hF)
theorem h_Tent_tellPower_3 (n : Nat) (w : St) : ∀ (k : Nat) (l1 : Int32) (l2 : Int32) (l3 : Int32) (σ : St), F_Tent_tellPower_3 n k l1 l2 l3 σ = some w → J md_Tent_tellPower 0 3 [some (mR 0 0), some (mI l1), some (mI l2), some (mI l3), none] [] σ none w := by
  intro k
  induction k with
  | zero => intro l1 l2 l3 σ hF; exact no_s hF
  | succ k ih =>
    intro l1 l2 l3 σ hF
    rw [F_Tent_tellPower_3] at hF
    refine J.icmp_le tk_Tent_tellPower 2 rfl rfl hF (fun hF => ?_) (fun hF => ?_)
    · exact h_Tent_tellPower_27 n w _ _ _ _ hF
    · refine J.irem tk_Tent_tellPower 2 rfl rfl hF (fun v7 hF => ?_)
      refine J.if_ne tk_Tent_tellPower 0 rfl rfl hF (fun hF => ?_) (fun hF => ?_)
      · exact h_Tent_tellPower_21 n w (F_Tent_tellPower_3 n k) ih _ _ _ _ hF
      · refine J.irem tk_Tent_tellPower 2 rfl rfl hF (fun v8 hF => ?_)
        refine J.if_eq tk_Tent_tellPower 0 rfl rfl hF (fun hF => ?_) (fun hF => ?_)
        · exact h_Tent_tellPower_27 n w _ _ _ _ hF
        · exact h_Tent_tellPower_21 n w (F_Tent_tellPower_3 n k) ih _ _ _ _ hF
theorem c_Tent_tellPower (n : Nat) (a1 : Int32) (a2 : Int32) (σ : St) (w : St) (hF : F_Tent_tellPower n a1 a2 σ = some w) : Call md_Tent_tellPower 0 [mR 0 0, mI a1, mI a2] σ none w := by
  rw [F_Tent_tellPower] at hF
  refine Call.of ok_Tent_tellPower.1 (Nat.le_of_ble_eq_true rfl) (L := [some (mR 0 0), some (mI a1), some (mI a2), none, none]) rfl ?_
  exact J.run tk_Tent_tellPower 2 rfl (h_Tent_tellPower_3 n w n _ _ _ _ hF)
noncomputable def F_Camp_mustStayIn (t : Nat) (a1 : Int32) (σ : St) : Option Int32 :=
  (ald σ 6 t a1).bind fun v1 =>
  if v1 = 5 then
    some 1
  else
  (ald σ 9 t a1).bind fun v2 =>
  some ((σ.1 4 t 10) - v2)
theorem c_Camp_mustStayIn (t : Nat) (a1 : Int32) (σ : St) (w : Int32) (hF : F_Camp_mustStayIn t a1 σ = some w) : Call md_Camp_mustStayIn 0 [mR 4 t, mI a1] σ (some (mI w)) σ := by
  rw [F_Camp_mustStayIn] at hF
  refine Call.of ok_Camp_mustStayIn.1 (Nat.le_of_ble_eq_true rfl) (L := [some (mR 4 t), some (mI a1)]) rfl ?_
  refine J.iald tk_Camp_mustStayIn 3 rfl rfl hF (fun v1 hF => ?_)
  refine J.icmp_ne tk_Camp_mustStayIn 1 rfl rfl hF (fun hF => ?_) (fun hF => ?_)
  · refine J.iald tk_Camp_mustStayIn 5 rfl rfl hF (fun v2 hF => ?_)
    exact J.wI hF (J.reti tk_Camp_mustStayIn 1 rfl rfl rfl)
  · exact J.wI hF (J.reti tk_Camp_mustStayIn 2 rfl rfl rfl)
noncomputable def F_Tent_odds (n : Nat) (a1 : Int32) (a2 : Int32) (a3 : Int32) (σ : St) : Option (Int32 × St) :=
  (F_Camp_isSleeper 0 a1 σ).bind fun v1 =>
  if v1 = 0 then
    some ((-1), σ)
  else
  (F_Tent_isHour a2).bind fun v2 =>
  if v2 = 0 then
    some ((-1), σ)
  else
  if a3 < 0 then
    some ((-1), σ)
  else
  if a3 ≤ 12 then
    (F_Camp_reasons n 0 a1 a2 σ).bind fun v3 =>
    if v3 = 0 then
      (F_Camp_mustStayIn 0 a1 σ).bind fun v4 =>
      (F_Tent_tellPower n (12 - a3) v4 σ).bind fun σ5 =>
      some (1, σ5)
    else
    (F_Tent_tellPower n 0 1 σ).bind fun σ6 =>
    some (1, σ6)
  else
  some ((-1), σ)
theorem c_Tent_odds (n : Nat) (a1 : Int32) (a2 : Int32) (a3 : Int32) (σ : St) (w : (Int32 × St)) (hF : F_Tent_odds n a1 a2 a3 σ = some w) : Call md_Tent_odds 4 [mR 0 0, mI a1, mI a2, mI a3] σ (some (mI w.1)) w.2 := by
  rw [F_Tent_odds] at hF
  refine Call.of ok_Tent_odds.1 (Nat.le_of_ble_eq_true rfl) (L := [some (mR 0 0), some (mI a1), some (mI a2), some (mI a3)]) rfl ?_
  refine J.cpI tk_Tent_odds (as := [mR 4 0, mI a1]) (rest := []) 3 rfl rfl rfl (ckV (md' := md_Camp_isSleeper) lk_5_133 ok_Camp_isSleeper rfl rfl rfl) rfl (by decide) (fun v1 h => c_Camp_isSleeper _ _ _ _ h) hF (fun v1 hF => ?_)
  refine J.if_eq tk_Tent_odds 0 rfl rfl hF (fun hF => ?_) (fun hF => ?_)
  · exact J.wsI hF (J.reti tk_Tent_odds 1 rfl rfl rfl)
  · refine J.cpI tk_Tent_odds (as := [mI a2]) (rest := []) 1 rfl rfl rfl (ckS (md' := md_Tent_isHour) lk_5_221 ok_Tent_isHour rfl) rfl (by decide) (fun v1 h => c_Tent_isHour _ _ _ h) hF (fun v2 hF => ?_)
    refine J.if_eq tk_Tent_odds 0 rfl rfl hF (fun hF => ?_) (fun hF => ?_)
    · exact J.wsI hF (J.reti tk_Tent_odds 1 rfl rfl rfl)
    · refine J.if_lt tk_Tent_odds 1 rfl rfl hF (fun hF => ?_) (fun hF => ?_)
      · exact J.wsI hF (J.reti tk_Tent_odds 1 rfl rfl rfl)
      · refine J.icmp_le tk_Tent_odds 2 rfl rfl hF (fun hF => ?_) (fun hF => ?_)
        · refine J.cpI tk_Tent_odds (as := [mR 4 0, mI a1, mI a2]) (rest := []) 4 rfl rfl rfl (ckV (md' := md_Camp_reasons) lk_5_227 ok_Camp_reasons rfl rfl rfl) rfl (by decide) (fun v1 h => c_Camp_reasons n _ _ _ _ _ h) hF (fun v3 hF => ?_)
          refine J.if_eq tk_Tent_odds 0 rfl rfl hF (fun hF => ?_) (fun hF => ?_)
          · refine J.cpI tk_Tent_odds (as := [mR 4 0, mI a1]) (rest := [mI (12 - a3), mR 0 0]) 7 rfl rfl rfl (ckV (md' := md_Camp_mustStayIn) lk_5_304 ok_Camp_mustStayIn rfl rfl rfl) rfl (by decide) (fun v1 h => c_Camp_mustStayIn _ _ _ _ h) hF (fun v4 hF => ?_)
            refine J.csV tk_Tent_odds (as := [mR 0 0, mI (12 - a3), mI v4]) (rest := []) 0 rfl rfl rfl (ckV (md' := md_Tent_tellPower) lk_5_301 ok_Tent_tellPower rfl rfl rfl) rfl (by decide) (fun s1 h => c_Tent_tellPower n _ _ _ _ h) hF (fun σ5 hF => ?_)
            exact J.wsI hF (J.reti tk_Tent_odds 1 rfl rfl rfl)
          · refine J.csV tk_Tent_odds (as := [mR 0 0, mI 0, mI 1]) (rest := []) 3 rfl rfl rfl (ckV (md' := md_Tent_tellPower) lk_5_301 ok_Tent_tellPower rfl rfl rfl) rfl (by decide) (fun s1 h => c_Tent_tellPower n _ _ _ _ h) hF (fun σ6 hF => ?_)
            exact J.wsI hF (J.reti tk_Tent_odds 2 rfl rfl rfl)
        · exact J.wsI hF (J.reti tk_Tent_odds 1 rfl rfl rfl)
noncomputable def F_Orders_draw_25 (n : Nat) : Nat → Int32 → Int64 → Int32 → St → Option St
  | 0, _, _, _, _ => none
  | k + 1, l3, l4, l6, σ =>
    if σ.1 18 0 1 ≤ l6 then
      some σ
    else
    (rmL (l4 * 48271) 2147483647).bind fun v2 =>
    (rmL v2 (((σ.1 18 0 1) - l6).toInt64)).bind fun v3 =>
    (F_Orders_pick n l3 v3.toInt32).bind fun v4 =>
    (ast σ 19 0 l6 v4).bind fun σ5 =>
    (ald σ5 19 0 l6).bind fun v6 =>
    (F_Orders_draw_25 n k) (l3 &&& ((1 <<< (v6 &&& 31)) ^^^ (-1))) v2 (l6 + 1) σ5
noncomputable def F_Orders_draw (n : Nat) (a1 : Int32) (a2 : Int32) (σ : St) : Option St :=
  bs (si σ 18 0 1 (mmin a1 5)) fun σ1 =>
  F_Orders_draw_25 n n ((1 <<< ((σ1.1 18 0 1) &&& 31)) - 1) a2.toInt64 0 σ1
theorem h_Orders_draw_25 (n : Nat) (w : St) : ∀ (k : Nat) (l3 : Int32) (l4 : Int64) (l6 : Int32) (σ : St), F_Orders_draw_25 n k l3 l4 l6 σ = some w → J md_Orders_draw 1 25 [some (mR 18 0), none, none, some (mI l3), some (mL l4), none, some (mI l6)] [] σ none w := by
  intro k
  induction k with
  | zero => intro l3 l4 l6 σ hF; exact no_s hF
  | succ k ih =>
    intro l3 l4 l6 σ hF
    rw [F_Orders_draw_25] at hF
    refine J.icmp_ge tk_Orders_draw 3 rfl rfl hF (fun hF => ?_) (fun hF => ?_)
    · exact J.wsV hF (J.retv tk_Orders_draw 0 rfl rfl rfl)
    · refine J.lrem tk_Orders_draw 4 rfl rfl hF (fun v2 hF => ?_)
      refine J.lrem tk_Orders_draw 11 rfl rfl hF (fun v3 hF => ?_)
      refine J.cpI tk_Orders_draw (as := [mI l3, mI v3.toInt32]) (rest := [mI l6, mA 19 0]) 1 rfl rfl rfl (ckS (md' := md_Orders_pick) lk_1_33 ok_Orders_pick rfl) rfl (by decide) (fun v1 h => c_Orders_pick n _ _ _ _ h) hF (fun v4 hF => ?_)
      refine J.iast tk_Orders_draw 0 rfl rfl hF (fun σ5 hF => ?_)
      refine J.iald tk_Orders_draw 5 rfl rfl hF (fun v6 hF => ?_)
      exact J.run tk_Orders_draw 7 rfl (ih _ _ _ _ hF)
theorem c_Orders_draw (n : Nat) (a1 : Int32) (a2 : Int32) (σ : St) (w : St) (hF : F_Orders_draw n a1 a2 σ = some w) : Call md_Orders_draw 1 [mR 18 0, mI a1, mI a2] σ none w := by
  rw [F_Orders_draw] at hF
  refine Call.of ok_Orders_draw.1 (Nat.le_of_ble_eq_true rfl) (L := [some (mR 18 0), some (mI a1), some (mI a2), none, none, none, none]) rfl ?_
  refine J.mmin tk_Orders_draw 3 rfl rfl lk_1_15 rfl rfl ?_
  refine J.putI tk_Orders_draw 0 rfl rfl rfl rfl rfl ⟨rfl, rfl⟩ hF (fun σ1 hF => ?_)
  exact J.run tk_Orders_draw 12 rfl (J.fgt [true, false, false, true, true, false, true] (h_Orders_draw_25 n w n _ _ _ _ hF))
noncomputable def F_Tent_lots (n : Nat) (a1 : Int32) (σ : St) : Option (Int32 × St) :=
  if a1 < 1 then
    some ((-1), σ)
  else
  if a1 < 2147483647 then
    if σ.1 4 0 10 = 0 then
      some ((-4), σ)
    else
    (F_Orders_draw n (σ.1 4 0 10) a1 σ).bind fun σ1 =>
    (F_Camp_layBy n 0 19 0 σ1).bind fun σ2 =>
    (F_Camp_sleptByAll n 0 σ2).bind fun v3 =>
    some (v3, σ2)
  else
  some ((-1), σ)
theorem c_Tent_lots (n : Nat) (a1 : Int32) (σ : St) (w : (Int32 × St)) (hF : F_Tent_lots n a1 σ = some w) : Call md_Tent_lots 5 [mR 0 0, mI a1] σ (some (mI w.1)) w.2 := by
  rw [F_Tent_lots] at hF
  refine Call.of ok_Tent_lots.1 (Nat.le_of_ble_eq_true rfl) (L := [some (mR 0 0), some (mI a1)]) rfl ?_
  refine J.icmp_lt tk_Tent_lots 2 rfl rfl hF (fun hF => ?_) (fun hF => ?_)
  · exact J.wsI hF (J.reti tk_Tent_lots 1 rfl rfl rfl)
  · refine J.icmp_lt tk_Tent_lots 2 rfl rfl hF (fun hF => ?_) (fun hF => ?_)
    · refine J.if_ne tk_Tent_lots 3 rfl rfl hF (fun hF => ?_) (fun hF => ?_)
      · refine J.csV tk_Tent_lots (as := [mR 18 0, mI (σ.1 4 0 10), mI a1]) (rest := []) 6 rfl rfl rfl (ckV (md' := md_Orders_draw) lk_5_308 ok_Orders_draw rfl rfl rfl) rfl (by decide) (fun s1 h => c_Orders_draw n _ _ _ _ h) hF (fun σ1 hF => ?_)
        refine J.csV tk_Tent_lots (as := [mR 4 0, mA 19 0]) (rest := []) 5 rfl rfl rfl (ckV (md' := md_Camp_layBy) lk_5_199 ok_Camp_layBy rfl rfl rfl) rfl (by decide) (fun s1 h => c_Camp_layBy n _ _ _ _ _ h) hF (fun σ2 hF => ?_)
        refine J.cpI tk_Tent_lots (as := [mR 4 0]) (rest := []) 2 rfl rfl rfl (ckV (md' := md_Camp_sleptByAll) lk_5_251 ok_Camp_sleptByAll rfl rfl rfl) rfl (by decide) (fun v1 h => c_Camp_sleptByAll n _ _ _ h) hF (fun v3 hF => ?_)
        exact J.wsI hF (J.reti tk_Tent_lots 0 rfl rfl rfl)
      · exact J.wsI hF (J.reti tk_Tent_lots 1 rfl rfl rfl)
    · exact J.wsI hF (J.reti tk_Tent_lots 1 rfl rfl rfl)
noncomputable def F_Tent_asked (σ : St) : Option Int32 :=
  some (σ.1 0 0 10)
theorem c_Tent_asked (σ : St) (w : Int32) (hF : F_Tent_asked σ = some w) : Call md_Tent_asked 0 [mR 0 0] σ (some (mI w)) σ := by
  rw [F_Tent_asked] at hF
  refine Call.of ok_Tent_asked.1 (Nat.le_of_ble_eq_true rfl) (L := [some (mR 0 0)]) rfl ?_
  exact J.wI hF (J.reti tk_Tent_asked 2 rfl rfl rfl)
noncomputable def F_Tent_upper (σ : St) : Option Int64 :=
  some (σ.2 0 0 11)
theorem c_Tent_upper (σ : St) (w : Int64) (hF : F_Tent_upper σ = some w) : Call md_Tent_upper 0 [mR 0 0] σ (some (mL w)) σ := by
  rw [F_Tent_upper] at hF
  refine Call.of ok_Tent_upper.1 (Nat.le_of_ble_eq_true rfl) (L := [some (mR 0 0)]) rfl ?_
  exact J.wL hF (J.retl tk_Tent_upper 2 rfl rfl rfl)
noncomputable def F_Tent_lower (σ : St) : Option Int64 :=
  some (σ.2 0 0 12)
theorem c_Tent_lower (σ : St) (w : Int64) (hF : F_Tent_lower σ = some w) : Call md_Tent_lower 0 [mR 0 0] σ (some (mL w)) σ := by
  rw [F_Tent_lower] at hF
  refine Call.of ok_Tent_lower.1 (Nat.le_of_ble_eq_true rfl) (L := [some (mR 0 0)]) rfl ?_
  exact J.wL hF (J.retl tk_Tent_lower 2 rfl rfl rfl)
noncomputable def F_Tent_keptTents_23 (n : Nat) (K4 : Int32 → Int32 → St → Option Int32) (l2 : Int32) (s0 : Int32) (s1 : Int32) (σ : St) : Option Int32 :=
  K4 (s0 + s1) (l2 + 1) σ
noncomputable def F_Tent_keptTents_4 (n : Nat) : Nat → Int32 → Int32 → St → Option Int32
  | 0, _, _, _ => none
  | k + 1, l1, l2, σ =>
    if 3 ≤ l2 then
      some l1
    else
    (F_Tent_isKept l2 σ).bind fun v1 =>
    F_Tent_keptTents_23 n (F_Tent_keptTents_4 n k) l2 l1 (if v1 = 0 then 0 else 1) σ
noncomputable def F_Tent_keptTents (n : Nat) (σ : St) : Option Int32 :=
  F_Tent_keptTents_4 n n 0 0 σ
theorem h_Tent_keptTents_23 (n : Nat) (w : Int32) (K4 : Int32 → Int32 → St → Option Int32) (hK4 : ∀ (l1 : Int32) (l2 : Int32) (σ : St), K4 l1 l2 σ = some w → J md_Tent_keptTents 1 4 [some (mR 0 0), some (mI l1), some (mI l2)] [] σ (some (mI w)) σ) (l2 : Int32) (s0 : Int32) (s1 : Int32) (σ : St) (hF : F_Tent_keptTents_23 n K4 l2 s0 s1 σ = some w) : J md_Tent_keptTents 1 23 [some (mR 0 0), none, some (mI l2)] [mI s1, mI s0] σ (some (mI w)) σ := by
  rw [F_Tent_keptTents_23] at hF
  exact J.run tk_Tent_keptTents 4 rfl (hK4 _ _ _ hF)
theorem h_Tent_keptTents_4 (n : Nat) (w : Int32) : ∀ (k : Nat) (l1 : Int32) (l2 : Int32) (σ : St), F_Tent_keptTents_4 n k l1 l2 σ = some w → J md_Tent_keptTents 1 4 [some (mR 0 0), some (mI l1), some (mI l2)] [] σ (some (mI w)) σ := by
  intro k
  induction k with
  | zero => intro l1 l2 σ hF; exact no_s hF
  | succ k ih =>
    intro l1 l2 σ hF
    rw [F_Tent_keptTents_4] at hF
    refine J.icmp_ge tk_Tent_keptTents 2 rfl rfl hF (fun hF => ?_) (fun hF => ?_)
    · exact J.wI hF (J.reti tk_Tent_keptTents 1 rfl rfl rfl)
    · refine J.cpI tk_Tent_keptTents (as := [mR 0 0, mI l2]) (rest := [mI l1]) 3 rfl rfl rfl (ckV (md' := md_Tent_isKept) lk_5_218 ok_Tent_isKept rfl rfl rfl) rfl (by decide) (fun v1 h => c_Tent_isKept _ _ _ h) hF (fun v1 hF => ?_)
      by_cases hc : v1 = 0
      · simp only [if_pos hc] at hF
        exact J.if_eqT' tk_Tent_keptTents 0 rfl rfl hc (J.run tk_Tent_keptTents 1 rfl (J.fgt [true, false, true] (h_Tent_keptTents_23 n w (F_Tent_keptTents_4 n k) ih _ _ _ _ hF)))
      · simp only [if_neg hc] at hF
        exact J.if_eqF' tk_Tent_keptTents 0 rfl rfl hc (J.run tk_Tent_keptTents 2 rfl (J.fgt [true, false, true] (h_Tent_keptTents_23 n w (F_Tent_keptTents_4 n k) ih _ _ _ _ hF)))
theorem c_Tent_keptTents (n : Nat) (σ : St) (w : Int32) (hF : F_Tent_keptTents n σ = some w) : Call md_Tent_keptTents 1 [mR 0 0] σ (some (mI w)) σ := by
  rw [F_Tent_keptTents] at hF
  refine Call.of ok_Tent_keptTents.1 (Nat.le_of_ble_eq_true rfl) (L := [some (mR 0 0), none, none]) rfl ?_
  exact J.run tk_Tent_keptTents 4 rfl (h_Tent_keptTents_4 n w n _ _ _ hF)
noncomputable def F_Shelf_howManyThere_27 (n : Nat) (t : Nat) (K4 : Int32 → Int32 → St → Option Int32) (l2 : Int32) (s0 : Int32) (s1 : Int32) (σ : St) : Option Int32 :=
  K4 (s0 + s1) (l2 + 1) σ
noncomputable def F_Shelf_howManyThere_4 (n : Nat) (t : Nat) : Nat → Int32 → Int32 → St → Option Int32
  | 0, _, _, _ => none
  | k + 1, l1, l2, σ =>
    if (nI (lenOf 2 t)) ≤ l2 then
      some l1
    else
    (F_Shelf_isThere t l2 σ).bind fun v1 =>
    F_Shelf_howManyThere_27 n t (F_Shelf_howManyThere_4 n t k) l2 l1 (if v1 = 0 then 0 else 1) σ
noncomputable def F_Shelf_howManyThere (n : Nat) (t : Nat) (σ : St) : Option Int32 :=
  F_Shelf_howManyThere_4 n t n 0 0 σ
theorem h_Shelf_howManyThere_27 (n : Nat) (t : Nat) (w : Int32) (K4 : Int32 → Int32 → St → Option Int32) (hK4 : ∀ (l1 : Int32) (l2 : Int32) (σ : St), K4 l1 l2 σ = some w → J md_Shelf_howManyThere 3 4 [some (mR 1 t), some (mI l1), some (mI l2)] [] σ (some (mI w)) σ) (l2 : Int32) (s0 : Int32) (s1 : Int32) (σ : St) (hF : F_Shelf_howManyThere_27 n t K4 l2 s0 s1 σ = some w) : J md_Shelf_howManyThere 3 27 [some (mR 1 t), none, some (mI l2)] [mI s1, mI s0] σ (some (mI w)) σ := by
  rw [F_Shelf_howManyThere_27] at hF
  exact J.run tk_Shelf_howManyThere 4 rfl (hK4 _ _ _ hF)
theorem h_Shelf_howManyThere_4 (n : Nat) (t : Nat) (w : Int32) : ∀ (k : Nat) (l1 : Int32) (l2 : Int32) (σ : St), F_Shelf_howManyThere_4 n t k l1 l2 σ = some w → J md_Shelf_howManyThere 3 4 [some (mR 1 t), some (mI l1), some (mI l2)] [] σ (some (mI w)) σ := by
  intro k
  induction k with
  | zero => intro l1 l2 σ hF; exact no_s hF
  | succ k ih =>
    intro l1 l2 σ hF
    rw [F_Shelf_howManyThere_4] at hF
    refine J.icmp_ge tk_Shelf_howManyThere 4 rfl rfl hF (fun hF => ?_) (fun hF => ?_)
    · exact J.wI hF (J.reti tk_Shelf_howManyThere 1 rfl rfl rfl)
    · refine J.cpI tk_Shelf_howManyThere (as := [mR 1 t, mI l2]) (rest := [mI l1]) 3 rfl rfl rfl (ckV (md' := md_Shelf_isThere) lk_4_55 ok_Shelf_isThere rfl rfl rfl) rfl (by decide) (fun v1 h => c_Shelf_isThere _ _ _ _ h) hF (fun v1 hF => ?_)
      by_cases hc : v1 = 0
      · simp only [if_pos hc] at hF
        exact J.if_eqT' tk_Shelf_howManyThere 0 rfl rfl hc (J.run tk_Shelf_howManyThere 1 rfl (J.fgt [true, false, true] (h_Shelf_howManyThere_27 n t w (F_Shelf_howManyThere_4 n t k) ih _ _ _ _ hF)))
      · simp only [if_neg hc] at hF
        exact J.if_eqF' tk_Shelf_howManyThere 0 rfl rfl hc (J.run tk_Shelf_howManyThere 2 rfl (J.fgt [true, false, true] (h_Shelf_howManyThere_27 n t w (F_Shelf_howManyThere_4 n t k) ih _ _ _ _ hF)))
theorem c_Shelf_howManyThere (n : Nat) (t : Nat) (σ : St) (w : Int32) (hF : F_Shelf_howManyThere n t σ = some w) : Call md_Shelf_howManyThere 3 [mR 1 t] σ (some (mI w)) σ := by
  rw [F_Shelf_howManyThere] at hF
  refine Call.of ok_Shelf_howManyThere.1 (Nat.le_of_ble_eq_true rfl) (L := [some (mR 1 t), none, none]) rfl ?_
  exact J.run tk_Shelf_howManyThere 4 rfl (h_Shelf_howManyThere_4 n t w n _ _ _ hF)
noncomputable def F_Tent_count (n : Nat) (a1 : Int32) (σ : St) : Option Int32 :=
  if a1 = 0 then
    some (σ.1 4 0 10)
  else
  if a1 = 1 then
    some (σ.1 4 0 16)
  else
  if a1 = 2 then
    some (σ.1 4 0 15)
  else
  if a1 = 3 then
    some (σ.1 4 0 13)
  else
  if a1 = 4 then
    some (σ.1 4 0 11)
  else
  if a1 = 5 then
    (F_Camp_snorers n 0 σ).bind fun v1 =>
    some v1
  else
  if a1 = 6 then
    (F_Shelf_howManyThere n 0 σ).bind fun v2 =>
    some v2
  else
  if a1 = 7 then
    (F_Shelf_howManyThere n 1 σ).bind fun v3 =>
    some v3
  else
  if a1 = 8 then
    (F_Tent_keptTents n σ).bind fun v4 =>
    some v4
  else
  some (-1)
theorem c_Tent_count (n : Nat) (a1 : Int32) (σ : St) (w : Int32) (hF : F_Tent_count n a1 σ = some w) : Call md_Tent_count 4 [mR 0 0, mI a1] σ (some (mI w)) σ := by
  rw [F_Tent_count] at hF
  refine Call.of ok_Tent_count.1 (Nat.le_of_ble_eq_true rfl) (L := [some (mR 0 0), some (mI a1)]) rfl ?_
  by_cases hs0 : a1 = 0
  · rw [if_pos hs0] at hF
    refine J.tswIn tk_Tent_count 52 1 rfl rfl 0 hs0 (by decide) (by decide) rfl (by decide) ?_
    exact J.wI hF (J.reti tk_Tent_count 3 rfl rfl rfl)
  rw [if_neg hs0] at hF
  by_cases hs1 : a1 = 1
  · rw [if_pos hs1] at hF
    refine J.tswIn tk_Tent_count 60 1 rfl rfl 1 hs1 (by decide) (by decide) rfl (by decide) ?_
    exact J.wI hF (J.reti tk_Tent_count 3 rfl rfl rfl)
  rw [if_neg hs1] at hF
  by_cases hs2 : a1 = 2
  · rw [if_pos hs2] at hF
    refine J.tswIn tk_Tent_count 68 1 rfl rfl 2 hs2 (by decide) (by decide) rfl (by decide) ?_
    exact J.wI hF (J.reti tk_Tent_count 3 rfl rfl rfl)
  rw [if_neg hs2] at hF
  by_cases hs3 : a1 = 3
  · rw [if_pos hs3] at hF
    refine J.tswIn tk_Tent_count 76 1 rfl rfl 3 hs3 (by decide) (by decide) rfl (by decide) ?_
    exact J.wI hF (J.reti tk_Tent_count 3 rfl rfl rfl)
  rw [if_neg hs3] at hF
  by_cases hs4 : a1 = 4
  · rw [if_pos hs4] at hF
    refine J.tswIn tk_Tent_count 84 1 rfl rfl 4 hs4 (by decide) (by decide) rfl (by decide) ?_
    exact J.wI hF (J.reti tk_Tent_count 3 rfl rfl rfl)
  rw [if_neg hs4] at hF
  by_cases hs5 : a1 = 5
  · rw [if_pos hs5] at hF
    refine J.tswIn tk_Tent_count 92 1 rfl rfl 5 hs5 (by decide) (by decide) rfl (by decide) ?_
    refine J.cpI tk_Tent_count (as := [mR 4 0]) (rest := []) 2 rfl rfl rfl (ckV (md' := md_Camp_snorers) lk_5_155 ok_Camp_snorers rfl rfl rfl) rfl (by decide) (fun v1 h => c_Camp_snorers n _ _ _ h) hF (fun v1 hF => ?_)
    exact J.wI hF (J.reti tk_Tent_count 0 rfl rfl rfl)
  rw [if_neg hs5] at hF
  by_cases hs6 : a1 = 6
  · rw [if_pos hs6] at hF
    refine J.tswIn tk_Tent_count 100 1 rfl rfl 6 hs6 (by decide) (by decide) rfl (by decide) ?_
    refine J.cpI tk_Tent_count (as := [mR 1 0]) (rest := []) 2 rfl rfl rfl (ckV (md' := md_Shelf_howManyThere) lk_5_314 ok_Shelf_howManyThere rfl rfl rfl) rfl (by decide) (fun v1 h => c_Shelf_howManyThere n _ _ _ h) hF (fun v2 hF => ?_)
    exact J.wI hF (J.reti tk_Tent_count 0 rfl rfl rfl)
  rw [if_neg hs6] at hF
  by_cases hs7 : a1 = 7
  · rw [if_pos hs7] at hF
    refine J.tswIn tk_Tent_count 108 1 rfl rfl 7 hs7 (by decide) (by decide) rfl (by decide) ?_
    refine J.cpI tk_Tent_count (as := [mR 1 1]) (rest := []) 2 rfl rfl rfl (ckV (md' := md_Shelf_howManyThere) lk_5_314 ok_Shelf_howManyThere rfl rfl rfl) rfl (by decide) (fun v1 h => c_Shelf_howManyThere n _ _ _ h) hF (fun v3 hF => ?_)
    exact J.wI hF (J.reti tk_Tent_count 0 rfl rfl rfl)
  rw [if_neg hs7] at hF
  by_cases hs8 : a1 = 8
  · rw [if_pos hs8] at hF
    refine J.tswIn tk_Tent_count 116 1 rfl rfl 8 hs8 (by decide) (by decide) rfl (by decide) ?_
    refine J.cpI tk_Tent_count (as := [mR 0 0]) (rest := []) 1 rfl rfl rfl (ckV (md' := md_Tent_keptTents) lk_5_317 ok_Tent_keptTents rfl rfl rfl) rfl (by decide) (fun v1 h => c_Tent_keptTents n _ _ h) hF (fun v4 hF => ?_)
    exact J.wI hF (J.reti tk_Tent_count 0 rfl rfl rfl)
  rw [if_neg hs8] at hF
  refine J.tswOut tk_Tent_count 121 1 rfl rfl (by have z0 := lv_neT hs0 (a := 0) (by decide); have z1 := lv_neT hs1 (a := 1) (by decide); have z2 := lv_neT hs2 (a := 2) (by decide); have z3 := lv_neT hs3 (a := 3) (by decide); have z4 := lv_neT hs4 (a := 4) (by decide); have z5 := lv_neT hs5 (a := 5) (by decide); have z6 := lv_neT hs6 (a := 6) (by decide); have z7 := lv_neT hs7 (a := 7) (by decide); have z8 := lv_neT hs8 (a := 8) (by decide); omega) (by decide) ?_
  exact J.wI hF (J.reti tk_Tent_count 1 rfl rfl rfl)
noncomputable def F_Tent_finding (σ : St) : Option Int32 :=
  some (σ.1 0 0 9)
theorem c_Tent_finding (σ : St) (w : Int32) (hF : F_Tent_finding σ = some w) : Call md_Tent_finding 0 [mR 0 0] σ (some (mI w)) σ := by
  rw [F_Tent_finding] at hF
  refine Call.of ok_Tent_finding.1 (Nat.le_of_ble_eq_true rfl) (L := [some (mR 0 0)]) rfl ?_
  exact J.wI hF (J.reti tk_Tent_finding 2 rfl rfl rfl)
noncomputable def F_Tent_findings (a1 : Int32) (σ : St) : Option Int32 :=
  if a1 < 1 then
    some (-1)
  else
  if a1 ≤ 5 then
    (ald σ 27 0 a1).bind fun v1 =>
    some v1
  else
  some (-1)
theorem c_Tent_findings (a1 : Int32) (σ : St) (w : Int32) (hF : F_Tent_findings a1 σ = some w) : Call md_Tent_findings 0 [mR 0 0, mI a1] σ (some (mI w)) σ := by
  rw [F_Tent_findings] at hF
  refine Call.of ok_Tent_findings.1 (Nat.le_of_ble_eq_true rfl) (L := [some (mR 0 0), some (mI a1)]) rfl ?_
  refine J.icmp_lt tk_Tent_findings 2 rfl rfl hF (fun hF => ?_) (fun hF => ?_)
  · exact J.wI hF (J.reti tk_Tent_findings 2 rfl rfl rfl)
  · refine J.icmp_le tk_Tent_findings 2 rfl rfl hF (fun hF => ?_) (fun hF => ?_)
    · refine J.iald tk_Tent_findings 3 rfl rfl hF (fun v1 hF => ?_)
      exact J.wI hF (J.reti tk_Tent_findings 0 rfl rfl rfl)
    · exact J.wI hF (J.reti tk_Tent_findings 2 rfl rfl rfl)
noncomputable def F_Shelf_digestOn_32 (n : Nat) (t : Nat) (K5 : Int64 → Int32 → St → Option Int64) : Nat → Int64 → Int32 → Int32 → St → Option Int64
  | 0, _, _, _, _ => none
  | k + 1, l3, l5, l6, σ =>
    (F_Shelf_sizeOf t l5 σ).bind fun v2 =>
    if v2 ≤ l6 then
      K5 l3 (l5 + 1) σ
    else
    (F_Shelf_get t l5 l6 σ).bind fun v3 =>
    (F_Shelf_digestOn_32 n t K5 k) ((31 * l3) + v3.toInt64) l5 (l6 + 1) σ
noncomputable def F_Shelf_digestOn_5 (n : Nat) (t : Nat) : Nat → Int64 → Int32 → St → Option Int64
  | 0, _, _, _ => none
  | k + 1, l3, l5, σ =>
    if (nI (lenOf 2 t)) ≤ l5 then
      some l3
    else
    (F_Shelf_sizeOf t l5 σ).bind fun v1 =>
    F_Shelf_digestOn_32 n t (F_Shelf_digestOn_5 n t k) n ((31 * l3) + v1.toInt64) l5 0 σ
noncomputable def F_Shelf_digestOn (n : Nat) (t : Nat) (a1 : Int64) (σ : St) : Option Int64 :=
  F_Shelf_digestOn_5 n t n a1 0 σ
theorem h_Shelf_digestOn_32 (n : Nat) (t : Nat) (w : Int64) (K5 : Int64 → Int32 → St → Option Int64) (hK5 : ∀ (l3 : Int64) (l5 : Int32) (σ : St), K5 l3 l5 σ = some w → J md_Shelf_digestOn 4 5 [some (mR 1 t), none, none, some (mL l3), none, some (mI l5), none] [] σ (some (mL w)) σ) : ∀ (k : Nat) (l3 : Int64) (l5 : Int32) (l6 : Int32) (σ : St), F_Shelf_digestOn_32 n t K5 k l3 l5 l6 σ = some w → J md_Shelf_digestOn 4 32 [some (mR 1 t), none, none, some (mL l3), none, some (mI l5), some (mI l6)] [] σ (some (mL w)) σ := by
  intro k
  induction k with
  | zero => intro l3 l5 l6 σ hF; exact no_s hF
  | succ k ih =>
    intro l3 l5 l6 σ hF
    rw [F_Shelf_digestOn_32] at hF
    refine J.cpI tk_Shelf_digestOn (as := [mR 1 t, mI l5]) (rest := [mI l6]) 3 rfl rfl rfl (ckV (md' := md_Shelf_sizeOf) lk_4_26 ok_Shelf_sizeOf rfl rfl rfl) rfl (by decide) (fun v1 h => c_Shelf_sizeOf _ _ _ _ h) hF (fun v2 hF => ?_)
    refine J.icmp_ge tk_Shelf_digestOn 0 rfl rfl hF (fun hF => ?_) (fun hF => ?_)
    · exact J.run tk_Shelf_digestOn 2 rfl (J.fgt [true, false, false, true, false, true, false] (hK5 _ _ _ hF))
    · refine J.cpI tk_Shelf_digestOn (as := [mR 1 t, mI l5, mI l6]) (rest := [mL (31 * l3)]) 6 rfl rfl rfl (ckV (md' := md_Shelf_get) lk_4_51 ok_Shelf_get rfl rfl rfl) rfl (by decide) (fun v1 h => c_Shelf_get _ _ _ _ _ h) hF (fun v3 hF => ?_)
      exact J.run tk_Shelf_digestOn 5 rfl (ih _ _ _ _ hF)
theorem h_Shelf_digestOn_5 (n : Nat) (t : Nat) (w : Int64) : ∀ (k : Nat) (l3 : Int64) (l5 : Int32) (σ : St), F_Shelf_digestOn_5 n t k l3 l5 σ = some w → J md_Shelf_digestOn 4 5 [some (mR 1 t), none, none, some (mL l3), none, some (mI l5), none] [] σ (some (mL w)) σ := by
  intro k
  induction k with
  | zero => intro l3 l5 σ hF; exact no_s hF
  | succ k ih =>
    intro l3 l5 σ hF
    rw [F_Shelf_digestOn_5] at hF
    refine J.icmp_ge tk_Shelf_digestOn 4 rfl rfl hF (fun hF => ?_) (fun hF => ?_)
    · exact J.wL hF (J.retl tk_Shelf_digestOn 1 rfl rfl rfl)
    · refine J.cpI tk_Shelf_digestOn (as := [mR 1 t, mI l5]) (rest := [mL (31 * l3)]) 5 rfl rfl rfl (ckV (md' := md_Shelf_sizeOf) lk_4_26 ok_Shelf_sizeOf rfl rfl rfl) rfl (by decide) (fun v1 h => c_Shelf_sizeOf _ _ _ _ h) hF (fun v1 hF => ?_)
      exact J.run tk_Shelf_digestOn 5 rfl (h_Shelf_digestOn_32 n t w (F_Shelf_digestOn_5 n t k) ih n _ _ _ _ hF)
theorem c_Shelf_digestOn (n : Nat) (t : Nat) (a1 : Int64) (σ : St) (w : Int64) (hF : F_Shelf_digestOn n t a1 σ = some w) : Call md_Shelf_digestOn 4 [mR 1 t, mL a1] σ (some (mL w)) σ := by
  rw [F_Shelf_digestOn] at hF
  refine Call.of ok_Shelf_digestOn.1 (Nat.le_of_ble_eq_true rfl) (L := [some (mR 1 t), some (mL a1), none, none, none, none, none]) rfl ?_
  exact J.run tk_Shelf_digestOn 4 rfl (J.fgt [true, false, false, true, false, true, false] (h_Shelf_digestOn_5 n t w n _ _ _ hF))
noncomputable def F_Tent_digest_132 (n : Nat) (K101 : Int64 → Int32 → St → Option Int64) (l3 : Int32) (s0 : Int64) (s1 : Int32) (σ : St) : Option Int64 :=
  K101 (s0 + s1.toInt64) (l3 + 1) σ
noncomputable def F_Tent_digest_101 (n : Nat) : Nat → Int64 → Int32 → St → Option Int64
  | 0, _, _, _ => none
  | k + 1, l1, l3, σ =>
    if 3 ≤ l3 then
      (F_Shelf_digestOn n 0 l1 σ).bind fun v1 =>
      (F_Shelf_digestOn n 1 v1 σ).bind fun v2 =>
      some v2
    else
    (F_Tent_isKept l3 σ).bind fun v3 =>
    if v3 = 0 then
      F_Tent_digest_132 n (F_Tent_digest_101 n k) l3 (31 * l1) (-1) σ
    else
    (kld l3).bind fun q4 =>
    F_Tent_digest_132 n (F_Tent_digest_101 n k) l3 (31 * l1) (σ.1 4 q4 16) σ
noncomputable def F_Tent_digest_62 (n : Nat) (K48 : Int64 → Int32 → St → Option Int64) : Nat → Int64 → Int32 → Int32 → St → Option Int64
  | 0, _, _, _, _ => none
  | k + 1, l1, l3, l4, σ =>
    if 6 ≤ l4 then
      K48 l1 (l3 + 1) σ
    else
    (F_Camp_trait 0 l3 l4 σ).bind fun v5 =>
    (F_Tent_digest_62 n K48 k) ((31 * l1) + v5.toInt64) l3 (l4 + 1) σ
noncomputable def F_Tent_digest_48 (n : Nat) : Nat → Int64 → Int32 → St → Option Int64
  | 0, _, _, _ => none
  | k + 1, l1, l3, σ =>
    if σ.1 4 0 10 ≤ l3 then
      F_Tent_digest_101 n n l1 0 σ
    else
    F_Tent_digest_62 n (F_Tent_digest_48 n k) n l1 l3 0 σ
noncomputable def F_Tent_digest_6 (n : Nat) : Nat → Int64 → Int32 → St → Option Int64
  | 0, _, _, _ => none
  | k + 1, l1, l3, σ =>
    if 9 ≤ l3 then
      F_Tent_digest_48 n n ((31 * l1) + ((σ.1 4 0 12).toInt64)) 0 σ
    else
    (F_Tent_count n l3 σ).bind fun v6 =>
    (F_Tent_digest_6 n k) ((31 * l1) + v6.toInt64) (l3 + 1) σ
noncomputable def F_Tent_digest (n : Nat) (σ : St) : Option Int64 :=
  F_Tent_digest_6 n n 17 0 σ
theorem h_Tent_digest_132 (n : Nat) (w : Int64) (K101 : Int64 → Int32 → St → Option Int64) (hK101 : ∀ (l1 : Int64) (l3 : Int32) (σ : St), K101 l1 l3 σ = some w → J md_Tent_digest 5 101 [some (mR 0 0), some (mL l1), none, some (mI l3), none] [] σ (some (mL w)) σ) (l3 : Int32) (s0 : Int64) (s1 : Int32) (σ : St) (hF : F_Tent_digest_132 n K101 l3 s0 s1 σ = some w) : J md_Tent_digest 5 132 [some (mR 0 0), none, none, some (mI l3), none] [mI s1, mL s0] σ (some (mL w)) σ := by
  rw [F_Tent_digest_132] at hF
  exact J.run tk_Tent_digest 5 rfl (hK101 _ _ _ hF)
theorem h_Tent_digest_101 (n : Nat) (w : Int64) : ∀ (k : Nat) (l1 : Int64) (l3 : Int32) (σ : St), F_Tent_digest_101 n k l1 l3 σ = some w → J md_Tent_digest 5 101 [some (mR 0 0), some (mL l1), none, some (mI l3), none] [] σ (some (mL w)) σ := by
  intro k
  induction k with
  | zero => intro l1 l3 σ hF; exact no_s hF
  | succ k ih =>
    intro l1 l3 σ hF
    rw [F_Tent_digest_101] at hF
    refine J.icmp_ge tk_Tent_digest 2 rfl rfl hF (fun hF => ?_) (fun hF => ?_)
    · refine J.cpL tk_Tent_digest (as := [mR 1 0, mL l1]) (rest := [mR 1 1]) 5 rfl rfl rfl (ckV (md' := md_Shelf_digestOn) lk_5_330 ok_Shelf_digestOn rfl rfl rfl) rfl (by decide) (fun v1 h => c_Shelf_digestOn n _ _ _ _ h) hF (fun v1 hF => ?_)
      refine J.cpL tk_Tent_digest (as := [mR 1 1, mL v1]) (rest := []) 0 rfl rfl rfl (ckV (md' := md_Shelf_digestOn) lk_5_330 ok_Shelf_digestOn rfl rfl rfl) rfl (by decide) (fun v1 h => c_Shelf_digestOn n _ _ _ _ h) hF (fun v2 hF => ?_)
      exact J.wL hF (J.retl tk_Tent_digest 0 rfl rfl rfl)
    · refine J.cpI tk_Tent_digest (as := [mR 0 0, mI l3]) (rest := [mL (31 * l1)]) 5 rfl rfl rfl (ckV (md' := md_Tent_isKept) lk_5_218 ok_Tent_isKept rfl rfl rfl) rfl (by decide) (fun v1 h => c_Tent_isKept _ _ _ h) hF (fun v3 hF => ?_)
      refine J.if_eq tk_Tent_digest 0 rfl rfl hF (fun hF => ?_) (fun hF => ?_)
      · exact J.run tk_Tent_digest 1 rfl (J.fgt [true, false, false, true, false] (h_Tent_digest_132 n w (F_Tent_digest_101 n k) ih _ _ _ _ hF))
      · refine J.aald tk_Tent_digest 3 rfl rfl hF (fun q4 hF => ?_)
        exact J.run tk_Tent_digest 2 rfl (J.fgt [true, false, false, true, false] (h_Tent_digest_132 n w (F_Tent_digest_101 n k) ih _ _ _ _ hF))
theorem h_Tent_digest_62 (n : Nat) (w : Int64) (K48 : Int64 → Int32 → St → Option Int64) (hK48 : ∀ (l1 : Int64) (l3 : Int32) (σ : St), K48 l1 l3 σ = some w → J md_Tent_digest 5 48 [some (mR 0 0), some (mL l1), none, some (mI l3), none] [] σ (some (mL w)) σ) : ∀ (k : Nat) (l1 : Int64) (l3 : Int32) (l4 : Int32) (σ : St), F_Tent_digest_62 n K48 k l1 l3 l4 σ = some w → J md_Tent_digest 5 62 [some (mR 0 0), some (mL l1), none, some (mI l3), some (mI l4)] [] σ (some (mL w)) σ := by
  intro k
  induction k with
  | zero => intro l1 l3 l4 σ hF; exact no_s hF
  | succ k ih =>
    intro l1 l3 l4 σ hF
    rw [F_Tent_digest_62] at hF
    refine J.icmp_ge tk_Tent_digest 2 rfl rfl hF (fun hF => ?_) (fun hF => ?_)
    · exact J.run tk_Tent_digest 2 rfl (J.fgt [true, true, false, true, false] (hK48 _ _ _ hF))
    · refine J.cpI tk_Tent_digest (as := [mR 4 0, mI l3, mI l4]) (rest := [mL (31 * l1)]) 7 rfl rfl rfl (ckV (md' := md_Camp_trait) lk_5_136 ok_Camp_trait rfl rfl rfl) rfl (by decide) (fun v1 h => c_Camp_trait _ _ _ _ _ h) hF (fun v5 hF => ?_)
      exact J.run tk_Tent_digest 5 rfl (ih _ _ _ _ hF)
theorem h_Tent_digest_48 (n : Nat) (w : Int64) : ∀ (k : Nat) (l1 : Int64) (l3 : Int32) (σ : St), F_Tent_digest_48 n k l1 l3 σ = some w → J md_Tent_digest 5 48 [some (mR 0 0), some (mL l1), none, some (mI l3), none] [] σ (some (mL w)) σ := by
  intro k
  induction k with
  | zero => intro l1 l3 σ hF; exact no_s hF
  | succ k ih =>
    intro l1 l3 σ hF
    rw [F_Tent_digest_48] at hF
    refine J.icmp_ge tk_Tent_digest 4 rfl rfl hF (fun hF => ?_) (fun hF => ?_)
    · exact J.run tk_Tent_digest 2 rfl (h_Tent_digest_101 n w n _ _ _ hF)
    · exact J.run tk_Tent_digest 2 rfl (h_Tent_digest_62 n w (F_Tent_digest_48 n k) ih n _ _ _ _ hF)
theorem h_Tent_digest_6 (n : Nat) (w : Int64) : ∀ (k : Nat) (l1 : Int64) (l3 : Int32) (σ : St), F_Tent_digest_6 n k l1 l3 σ = some w → J md_Tent_digest 5 6 [some (mR 0 0), some (mL l1), none, some (mI l3), none] [] σ (some (mL w)) σ := by
  intro k
  induction k with
  | zero => intro l1 l3 σ hF; exact no_s hF
  | succ k ih =>
    intro l1 l3 σ hF
    rw [F_Tent_digest_6] at hF
    refine J.icmp_ge tk_Tent_digest 2 rfl rfl hF (fun hF => ?_) (fun hF => ?_)
    · exact J.run tk_Tent_digest 11 rfl (h_Tent_digest_48 n w n _ _ _ hF)
    · refine J.cpI tk_Tent_digest (as := [mR 0 0, mI l3]) (rest := [mL (31 * l1)]) 5 rfl rfl rfl (ckV (md' := md_Tent_count) lk_5_327 ok_Tent_count rfl rfl rfl) rfl (by decide) (fun v1 h => c_Tent_count n _ _ _ h) hF (fun v6 hF => ?_)
      exact J.run tk_Tent_digest 5 rfl (ih _ _ _ hF)
theorem c_Tent_digest (n : Nat) (σ : St) (w : Int64) (hF : F_Tent_digest n σ = some w) : Call md_Tent_digest 5 [mR 0 0] σ (some (mL w)) σ := by
  rw [F_Tent_digest] at hF
  refine Call.of ok_Tent_digest.1 (Nat.le_of_ble_eq_true rfl) (L := [some (mR 0 0), none, none, none, none]) rfl ?_
  exact J.run tk_Tent_digest 4 rfl (h_Tent_digest_6 n w n _ _ _ hF)
noncomputable def F_Mod_find (a1 : Int32) (σ : St) : Option (Int32 × St) :=
  bs (si σ 30 0 12 a1) fun σ1 =>
  (ald σ1 39 0 a1).bind fun v2 =>
  (ast σ1 39 0 a1 (v2 + 1)).bind fun σ3 =>
  some ((-3), σ3)
theorem c_Mod_find (a1 : Int32) (σ : St) (w : (Int32 × St)) (hF : F_Mod_find a1 σ = some w) : Call md_Mod_find 0 [mR 30 0, mI a1] σ (some (mI w.1)) w.2 := by
  rw [F_Mod_find] at hF
  refine Call.of ok_Mod_find.1 (Nat.le_of_ble_eq_true rfl) (L := [some (mR 30 0), some (mI a1)]) rfl ?_
  refine J.putI tk_Mod_find 2 rfl rfl rfl rfl rfl ⟨rfl, rfl⟩ hF (fun σ1 hF => ?_)
  refine J.iald tk_Mod_find 4 rfl rfl hF (fun v2 hF => ?_)
  refine J.iast tk_Mod_find 2 rfl rfl hF (fun σ3 hF => ?_)
  exact J.wsI hF (J.reti tk_Mod_find 1 rfl rfl rfl)
noncomputable def F_Mod_in (a1 : Int64) (a2 : Int64) (a3 : Int64) : Option Int32 :=
  if lg_cmp a1 a2 < 0 then
    some 0
  else
  if 0 < lg_cmp a1 a3 then
    some 0
  else
  some 1
theorem c_Mod_in (a1 : Int64) (a2 : Int64) (a3 : Int64) (σ : St) (w : Int32) (hF : F_Mod_in a1 a2 a3 = some w) : Call md_Mod_in 0 [mL a1, mL a2, mL a3] σ (some (mI w)) σ := by
  rw [F_Mod_in] at hF
  refine Call.of ok_Mod_in.1 (Nat.le_of_ble_eq_true rfl) (L := [some (mL a1), none, some (mL a2), none, some (mL a3), none]) rfl ?_
  refine J.if_lt tk_Mod_in 3 rfl rfl hF (fun hF => ?_) (fun hF => ?_)
  · exact J.wI hF (J.retz tk_Mod_in 1 rfl rfl rfl rfl)
  · refine J.if_gt tk_Mod_in 3 rfl rfl hF (fun hF => ?_) (fun hF => ?_)
    · exact J.wI hF (J.retz tk_Mod_in 1 rfl rfl rfl rfl)
    · exact J.wI hF (J.retz tk_Mod_in 2 rfl rfl rfl rfl)
noncomputable def F_Mod_isRow (a1 : Int32) : Option Int32 :=
  (F_Mod_in a1.toInt64 0 5).bind fun v1 =>
  some (v1 &&& 1)
theorem c_Mod_isRow (a1 : Int32) (σ : St) (w : Int32) (hF : F_Mod_isRow a1 = some w) : Call md_Mod_isRow 1 [mI a1] σ (some (mI w)) σ := by
  rw [F_Mod_isRow] at hF
  refine Call.of ok_Mod_isRow.1 (Nat.le_of_ble_eq_true rfl) (L := [some (mI a1)]) rfl ?_
  refine J.cpI tk_Mod_isRow (as := [mL a1.toInt64, mL 0, mL 5]) (rest := []) 4 rfl rfl rfl (ckS (md' := md_Mod_in) lk_6_74 ok_Mod_in rfl) rfl (by decide) (fun v1 h => c_Mod_in _ _ _ _ _ h) hF (fun v1 hF => ?_)
  exact J.wI hF (J.retz tk_Mod_isRow 0 rfl rfl rfl rfl)
noncomputable def F_Mod_makeRow_9 (n : Nat) : Nat → Int32 → Int32 → St → Option St
  | 0, _, _, _ => none
  | k + 1, l1, l3, σ =>
    if 40 ≤ l3 then
      some σ
    else
    (ast σ 36 0 ((40 * l1) + l3) 0).bind fun σ2 =>
    (F_Mod_makeRow_9 n k) l1 (l3 + 1) σ2
noncomputable def F_Mod_makeRow (n : Nat) (a1 : Int32) (a2 : Int32) (σ : St) : Option St :=
  (ast σ 35 0 a1 a2).bind fun σ1 =>
  F_Mod_makeRow_9 n n a1 0 σ1
theorem h_Mod_makeRow_9 (n : Nat) (w : St) : ∀ (k : Nat) (l1 : Int32) (l3 : Int32) (σ : St), F_Mod_makeRow_9 n k l1 l3 σ = some w → J md_Mod_makeRow 0 9 [some (mR 30 0), some (mI l1), none, some (mI l3)] [] σ none w := by
  intro k
  induction k with
  | zero => intro l1 l3 σ hF; exact no_s hF
  | succ k ih =>
    intro l1 l3 σ hF
    rw [F_Mod_makeRow_9] at hF
    refine J.icmp_ge tk_Mod_makeRow 2 rfl rfl hF (fun hF => ?_) (fun hF => ?_)
    · exact J.wsV hF (J.retv tk_Mod_makeRow 0 rfl rfl rfl)
    · refine J.iast tk_Mod_makeRow 8 rfl rfl hF (fun σ2 hF => ?_)
      exact J.run tk_Mod_makeRow 2 rfl (ih _ _ _ hF)
theorem c_Mod_makeRow (n : Nat) (a1 : Int32) (a2 : Int32) (σ : St) (w : St) (hF : F_Mod_makeRow n a1 a2 σ = some w) : Call md_Mod_makeRow 0 [mR 30 0, mI a1, mI a2] σ none w := by
  rw [F_Mod_makeRow] at hF
  refine Call.of ok_Mod_makeRow.1 (Nat.le_of_ble_eq_true rfl) (L := [some (mR 30 0), some (mI a1), some (mI a2), none]) rfl ?_
  refine J.iast tk_Mod_makeRow 4 rfl rfl hF (fun σ1 hF => ?_)
  exact J.run tk_Mod_makeRow 2 rfl (J.fgt [true, true, false, true] (h_Mod_makeRow_9 n w n _ _ _ hF))
noncomputable def F_Mod_row (n : Nat) (a1 : Int32) (a2 : Int32) (σ : St) : Option (Int32 × St) :=
  (F_Mod_isRow a1).bind fun v1 =>
  if v1 = 0 then
    some ((-1), σ)
  else
  if a2 ≤ 40 then
    if 0 ≤ a2 then
      (F_Mod_makeRow n a1 a2 σ).bind fun σ2 =>
      some (a2, σ2)
    else
    b2 (F_Mod_find 5 σ) fun v3 σ4 =>
    some (v3, σ4)
  else
  some ((-1), σ)
theorem c_Mod_row (n : Nat) (a1 : Int32) (a2 : Int32) (σ : St) (w : (Int32 × St)) (hF : F_Mod_row n a1 a2 σ = some w) : Call md_Mod_row 2 [mR 30 0, mI a1, mI a2] σ (some (mI w.1)) w.2 := by
  rw [F_Mod_row] at hF
  refine Call.of ok_Mod_row.1 (Nat.le_of_ble_eq_true rfl) (L := [some (mR 30 0), some (mI a1), some (mI a2)]) rfl ?_
  refine J.cpI tk_Mod_row (as := [mI a1]) (rest := []) 1 rfl rfl rfl (ckS (md' := md_Mod_isRow) lk_6_80 ok_Mod_isRow rfl) rfl (by decide) (fun v1 h => c_Mod_isRow _ _ _ h) hF (fun v1 hF => ?_)
  refine J.if_eq tk_Mod_row 0 rfl rfl hF (fun hF => ?_) (fun hF => ?_)
  · exact J.wsI hF (J.reti tk_Mod_row 1 rfl rfl rfl)
  · refine J.icmp_le tk_Mod_row 2 rfl rfl hF (fun hF => ?_) (fun hF => ?_)
    · refine J.if_ge tk_Mod_row 1 rfl rfl hF (fun hF => ?_) (fun hF => ?_)
      · refine J.csV tk_Mod_row (as := [mR 30 0, mI a1, mI a2]) (rest := []) 3 rfl rfl rfl (ckV (md' := md_Mod_makeRow) lk_6_88 ok_Mod_makeRow rfl rfl rfl) rfl (by decide) (fun s1 h => c_Mod_makeRow n _ _ _ _ h) hF (fun σ2 hF => ?_)
        exact J.wsI hF (J.reti tk_Mod_row 1 rfl rfl rfl)
      · refine J.csI tk_Mod_row (as := [mR 30 0, mI 5]) (rest := []) 2 rfl rfl rfl (ckV (md' := md_Mod_find) lk_6_84 ok_Mod_find rfl rfl rfl) rfl (by decide) (fun v1 s1 h => c_Mod_find _ _ (v1, s1) h) hF (fun v3 σ4 hF => ?_)
        exact J.wsI hF (J.reti tk_Mod_row 0 rfl rfl rfl)
    · exact J.wsI hF (J.reti tk_Mod_row 1 rfl rfl rfl)
