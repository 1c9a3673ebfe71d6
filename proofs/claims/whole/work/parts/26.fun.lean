noncomputable def F_Mod_good (n : Nat) (a1 : Int32) (σ : St) : Option (Int32 × St) :=
  (F_Mod_isSleeper a1 σ).bind fun v1 =>
  if v1 = 0 then
    some ((-1), σ)
  else
  (F_Mod_layNow n σ).bind fun σ2 =>
  (F_Mod_worthNow n σ2).bind fun v3 =>
  (F_Mod_sleptBy n a1 σ2).bind fun v4 =>
  bs (si σ2 30 0 24 a1) fun σ5 =>
  (F_Mod_worthNow n σ5).bind fun v6 =>
  (F_Mod_sleptBy n a1 σ5).bind fun v7 =>
  bs (si σ5 30 0 24 (-9)) fun σ8 =>
  b2 (F_Mod_tell ((v3 - v4) - (v6 - v7)) σ8) fun v9 σ10 =>
  some (v9, σ10)
theorem c_Mod_good (n : Nat) (a1 : Int32) (σ : St) (w : (Int32 × St)) (hF : F_Mod_good n a1 σ = some w) : Call md_Mod_good 7 [mR 30 0, mI a1] σ (some (mI w.1)) w.2 := by
  rw [F_Mod_good] at hF
  refine Call.of ok_Mod_good.1 (Nat.le_of_ble_eq_true rfl) (L := [some (mR 30 0), some (mI a1), none, none]) rfl ?_
  refine J.cpI tk_Mod_good (as := [mR 30 0, mI a1]) (rest := []) 2 rfl rfl rfl (ckV (md' := md_Mod_isSleeper) lk_6_198 ok_Mod_isSleeper rfl rfl rfl) rfl (by decide) (fun v1 h => c_Mod_isSleeper _ _ _ h) hF (fun v1 hF => ?_)
  refine J.if_ne tk_Mod_good 0 rfl rfl hF (fun hF => ?_) (fun hF => ?_)
  · refine J.csV tk_Mod_good (as := [mR 30 0]) (rest := []) 1 rfl rfl rfl (ckV (md' := md_Mod_layNow) lk_6_204 ok_Mod_layNow rfl rfl rfl) rfl (by decide) (fun s1 h => c_Mod_layNow n _ _ h) hF (fun σ2 hF => ?_)
    refine J.cpI tk_Mod_good (as := [mR 30 0]) (rest := []) 1 rfl rfl rfl (ckV (md' := md_Mod_worthNow) lk_6_243 ok_Mod_worthNow rfl rfl rfl) rfl (by decide) (fun v1 h => c_Mod_worthNow n _ _ h) hF (fun v3 hF => ?_)
    refine J.cpI tk_Mod_good (as := [mR 30 0, mI a1]) (rest := [mI v3]) 2 rfl rfl rfl (ckV (md' := md_Mod_sleptBy) lk_6_195 ok_Mod_sleptBy rfl rfl rfl) rfl (by decide) (fun v1 h => c_Mod_sleptBy n _ _ _ h) hF (fun v4 hF => ?_)
    refine J.putI tk_Mod_good 4 rfl rfl rfl rfl rfl ⟨rfl, rfl⟩ hF (fun σ5 hF => ?_)
    refine J.cpI tk_Mod_good (as := [mR 30 0]) (rest := []) 1 rfl rfl rfl (ckV (md' := md_Mod_worthNow) lk_6_243 ok_Mod_worthNow rfl rfl rfl) rfl (by decide) (fun v1 h => c_Mod_worthNow n _ _ h) hF (fun v6 hF => ?_)
    refine J.cpI tk_Mod_good (as := [mR 30 0, mI a1]) (rest := [mI v6]) 2 rfl rfl rfl (ckV (md' := md_Mod_sleptBy) lk_6_195 ok_Mod_sleptBy rfl rfl rfl) rfl (by decide) (fun v1 h => c_Mod_sleptBy n _ _ _ h) hF (fun v7 hF => ?_)
    refine J.putI tk_Mod_good 4 rfl rfl rfl rfl rfl ⟨rfl, rfl⟩ hF (fun σ8 hF => ?_)
    refine J.csI tk_Mod_good (as := [mR 30 0, mI ((v3 - v4) - (v6 - v7))]) (rest := []) 4 rfl rfl rfl (ckV (md' := md_Mod_tell) lk_6_96 ok_Mod_tell rfl rfl rfl) rfl (by decide) (fun v1 s1 h => c_Mod_tell _ _ (v1, s1) h) hF (fun v9 σ10 hF => ?_)
    exact J.wsI hF (J.reti tk_Mod_good 0 rfl rfl rfl)
  · exact J.wsI hF (J.reti tk_Mod_good 1 rfl rfl rfl)
noncomputable def F_Mod_leastNow_29 (n : Nat) (K5 : Int32 → Int32 → St → Option Int32) (l2 : Int32) (s0 : Int32) (σ : St) : Option Int32 :=
  K5 s0 (l2 + 1) σ
noncomputable def F_Mod_leastNow_5 (n : Nat) : Nat → Int32 → Int32 → St → Option Int32
  | 0, _, _, _ => none
  | k + 1, l1, l2, σ =>
    if σ.1 30 0 1 ≤ l2 then
      some l1
    else
    (F_Mod_sleptBy n l2 σ).bind fun v1 =>
    F_Mod_leastNow_29 n (F_Mod_leastNow_5 n k) l2 (if l1 ≤ v1 then l1 else v1) σ
noncomputable def F_Mod_leastNow (n : Nat) (σ : St) : Option Int32 :=
  F_Mod_leastNow_5 n n 8 0 σ
theorem h_Mod_leastNow_29 (n : Nat) (w : Int32) (K5 : Int32 → Int32 → St → Option Int32) (hK5 : ∀ (l1 : Int32) (l2 : Int32) (σ : St), K5 l1 l2 σ = some w → J md_Mod_leastNow 6 5 [some (mR 30 0), some (mI l1), some (mI l2), none] [] σ (some (mI w)) σ) (l2 : Int32) (s0 : Int32) (σ : St) (hF : F_Mod_leastNow_29 n K5 l2 s0 σ = some w) : J md_Mod_leastNow 6 29 [some (mR 30 0), none, some (mI l2), none] [mI s0] σ (some (mI w)) σ := by
  rw [F_Mod_leastNow_29] at hF
  exact J.run tk_Mod_leastNow 3 rfl (hK5 _ _ _ hF)
theorem h_Mod_leastNow_5 (n : Nat) (w : Int32) : ∀ (k : Nat) (l1 : Int32) (l2 : Int32) (σ : St), F_Mod_leastNow_5 n k l1 l2 σ = some w → J md_Mod_leastNow 6 5 [some (mR 30 0), some (mI l1), some (mI l2), none] [] σ (some (mI w)) σ := by
  intro k
  induction k with
  | zero => intro l1 l2 σ hF; exact no_s hF
  | succ k ih =>
    intro l1 l2 σ hF
    rw [F_Mod_leastNow_5] at hF
    refine J.icmp_ge tk_Mod_leastNow 3 rfl rfl hF (fun hF => ?_) (fun hF => ?_)
    · exact J.wI hF (J.reti tk_Mod_leastNow 1 rfl rfl rfl)
    · refine J.cpI tk_Mod_leastNow (as := [mR 30 0, mI l2]) (rest := []) 2 rfl rfl rfl (ckV (md' := md_Mod_sleptBy) lk_6_195 ok_Mod_sleptBy rfl rfl rfl) rfl (by decide) (fun v1 h => c_Mod_sleptBy n _ _ _ h) hF (fun v1 hF => ?_)
      by_cases hc : l1 ≤ v1
      · simp only [if_pos hc] at hF
        exact J.icmp_geT' tk_Mod_leastNow 3 rfl rfl hc (J.run tk_Mod_leastNow 1 rfl (J.fgt [true, false, true, false] (h_Mod_leastNow_29 n w (F_Mod_leastNow_5 n k) ih _ _ _ hF)))
      · simp only [if_neg hc] at hF
        exact J.icmp_geF' tk_Mod_leastNow 3 rfl rfl hc (J.run tk_Mod_leastNow 2 rfl (J.fgt [true, false, true, false] (h_Mod_leastNow_29 n w (F_Mod_leastNow_5 n k) ih _ _ _ hF)))
theorem c_Mod_leastNow (n : Nat) (σ : St) (w : Int32) (hF : F_Mod_leastNow n σ = some w) : Call md_Mod_leastNow 6 [mR 30 0] σ (some (mI w)) σ := by
  rw [F_Mod_leastNow] at hF
  refine Call.of ok_Mod_leastNow.1 (Nat.le_of_ble_eq_true rfl) (L := [some (mR 30 0), none, none, none]) rfl ?_
  exact J.run tk_Mod_leastNow 4 rfl (h_Mod_leastNow_5 n w n _ _ _ hF)
noncomputable def F_Mod_worth (n : Nat) (σ : St) : Option (Int32 × St) :=
  if σ.1 30 0 1 = 0 then
    some ((-4), σ)
  else
  (F_Mod_layNow n σ).bind fun σ1 =>
  (F_Mod_leastNow n σ1).bind fun v2 =>
  bs (si σ1 30 0 9 v2) fun σ3 =>
  (F_Mod_worthNow n σ3).bind fun v4 =>
  some (v4, σ3)
theorem c_Mod_worth (n : Nat) (σ : St) (w : (Int32 × St)) (hF : F_Mod_worth n σ = some w) : Call md_Mod_worth 7 [mR 30 0] σ (some (mI w.1)) w.2 := by
  rw [F_Mod_worth] at hF
  refine Call.of ok_Mod_worth.1 (Nat.le_of_ble_eq_true rfl) (L := [some (mR 30 0)]) rfl ?_
  refine J.if_ne tk_Mod_worth 2 rfl rfl hF (fun hF => ?_) (fun hF => ?_)
  · refine J.csV tk_Mod_worth (as := [mR 30 0]) (rest := []) 1 rfl rfl rfl (ckV (md' := md_Mod_layNow) lk_6_204 ok_Mod_layNow rfl rfl rfl) rfl (by decide) (fun s1 h => c_Mod_layNow n _ _ h) hF (fun σ1 hF => ?_)
    refine J.cpI tk_Mod_worth (as := [mR 30 0]) (rest := [mR 30 0]) 2 rfl rfl rfl (ckV (md' := md_Mod_leastNow) lk_6_246 ok_Mod_leastNow rfl rfl rfl) rfl (by decide) (fun v1 h => c_Mod_leastNow n _ _ h) hF (fun v2 hF => ?_)
    refine J.putI tk_Mod_worth 0 rfl rfl rfl rfl rfl ⟨rfl, rfl⟩ hF (fun σ3 hF => ?_)
    refine J.cpI tk_Mod_worth (as := [mR 30 0]) (rest := []) 1 rfl rfl rfl (ckV (md' := md_Mod_worthNow) lk_6_243 ok_Mod_worthNow rfl rfl rfl) rfl (by decide) (fun v1 h => c_Mod_worthNow n _ _ h) hF (fun v4 hF => ?_)
    exact J.wsI hF (J.reti tk_Mod_worth 0 rfl rfl rfl)
  · exact J.wsI hF (J.reti tk_Mod_worth 1 rfl rfl rfl)
noncomputable def F_Mod_orderMany_4 (n : Nat) : Nat → Int32 → Int32 → St → Option Int32
  | 0, _, _, _ => none
  | k + 1, l1, l2, σ =>
    if σ.1 30 0 1 < l2 then
      some l1
    else
    (F_Mod_orderMany_4 n k) (l1 * l2) (l2 + 1) σ
noncomputable def F_Mod_orderMany (n : Nat) (σ : St) : Option Int32 :=
  F_Mod_orderMany_4 n n 1 2 σ
theorem h_Mod_orderMany_4 (n : Nat) (w : Int32) : ∀ (k : Nat) (l1 : Int32) (l2 : Int32) (σ : St), F_Mod_orderMany_4 n k l1 l2 σ = some w → J md_Mod_orderMany 0 4 [some (mR 30 0), some (mI l1), some (mI l2)] [] σ (some (mI w)) σ := by
  intro k
  induction k with
  | zero => intro l1 l2 σ hF; exact no_s hF
  | succ k ih =>
    intro l1 l2 σ hF
    rw [F_Mod_orderMany_4] at hF
    refine J.icmp_gt tk_Mod_orderMany 3 rfl rfl hF (fun hF => ?_) (fun hF => ?_)
    · exact J.wI hF (J.reti tk_Mod_orderMany 1 rfl rfl rfl)
    · exact J.run tk_Mod_orderMany 6 rfl (ih _ _ _ hF)
theorem c_Mod_orderMany (n : Nat) (σ : St) (w : Int32) (hF : F_Mod_orderMany n σ = some w) : Call md_Mod_orderMany 0 [mR 30 0] σ (some (mI w)) σ := by
  rw [F_Mod_orderMany] at hF
  refine Call.of ok_Mod_orderMany.1 (Nat.le_of_ble_eq_true rfl) (L := [some (mR 30 0), none, none]) rfl ?_
  exact J.run tk_Mod_orderMany 4 rfl (h_Mod_orderMany_4 n w n _ _ _ hF)
noncomputable def F_Mod_layOrder_66 (n : Nat) (K20 : Int32 → Int32 → Int32 → Int32 → St → Option St) (K51 : Int32 → Int32 → Int32 → Int32 → Int32 → Int32 → St → Option St) (l2 : Int32) (l3 : Int32) (l4 : Int32) (l5 : Int32) (l6 : Int32) (l7 : Int32) (σ : St) : Option St :=
  K51 l2 l3 l4 l5 (l6 - ((l4 >>> (l7 &&& 31)) &&& 1)) (l7 + 1) σ
noncomputable def F_Mod_layOrder_51 (n : Nat) (K20 : Int32 → Int32 → Int32 → Int32 → St → Option St) : Nat → Int32 → Int32 → Int32 → Int32 → Int32 → Int32 → St → Option St
  | 0, _, _, _, _, _, _, _ => none
  | k + 1, l2, l3, l4, l5, l6, l7, σ =>
    (F_Mod_has l4 l7).bind fun v5 =>
    if v5 = 0 then
      F_Mod_layOrder_66 n K20 (F_Mod_layOrder_51 n K20 k) l2 l3 l4 l5 l6 l7 σ
    else
    if l6 ≤ 0 then
      (ast σ 44 0 l5 l7).bind fun σ6 =>
      K20 l2 l3 (l4 &&& ((1 <<< (l7 &&& 31)) ^^^ (-1))) (l5 + 1) σ6
    else
    F_Mod_layOrder_66 n K20 (F_Mod_layOrder_51 n K20 k) l2 l3 l4 l5 l6 l7 σ
noncomputable def F_Mod_layOrder_20 (n : Nat) : Nat → Int32 → Int32 → Int32 → Int32 → St → Option St
  | 0, _, _, _, _, _ => none
  | k + 1, l2, l3, l4, l5, σ =>
    if σ.1 30 0 1 ≤ l5 then
      some σ
    else
    (dvI l2 ((σ.1 30 0 1) - l5)).bind fun v2 =>
    (dvI l3 v2).bind fun v3 =>
    (rmI l3 v2).bind fun v4 =>
    F_Mod_layOrder_51 n (F_Mod_layOrder_20 n k) n v2 v4 l4 l5 v3 0 σ
noncomputable def F_Mod_layOrder (n : Nat) (a1 : Int32) (σ : St) : Option St :=
  (F_Mod_orderMany n σ).bind fun v1 =>
  F_Mod_layOrder_20 n n v1 a1 ((1 <<< ((σ.1 30 0 1) &&& 31)) - 1) 0 σ
theorem h_Mod_layOrder_66 (n : Nat) (w : St) (K20 : Int32 → Int32 → Int32 → Int32 → St → Option St) (hK20 : ∀ (l2 : Int32) (l3 : Int32) (l4 : Int32) (l5 : Int32) (σ : St), K20 l2 l3 l4 l5 σ = some w → J md_Mod_layOrder 1 20 [some (mR 30 0), none, some (mI l2), some (mI l3), some (mI l4), some (mI l5), none, none] [] σ none w) (K51 : Int32 → Int32 → Int32 → Int32 → Int32 → Int32 → St → Option St) (hK51 : ∀ (l2 : Int32) (l3 : Int32) (l4 : Int32) (l5 : Int32) (l6 : Int32) (l7 : Int32) (σ : St), K51 l2 l3 l4 l5 l6 l7 σ = some w → J md_Mod_layOrder 1 51 [some (mR 30 0), none, some (mI l2), some (mI l3), some (mI l4), some (mI l5), some (mI l6), some (mI l7)] [] σ none w) (l2 : Int32) (l3 : Int32) (l4 : Int32) (l5 : Int32) (l6 : Int32) (l7 : Int32) (σ : St) (hF : F_Mod_layOrder_66 n K20 K51 l2 l3 l4 l5 l6 l7 σ = some w) : J md_Mod_layOrder 1 66 [some (mR 30 0), none, some (mI l2), some (mI l3), some (mI l4), some (mI l5), some (mI l6), some (mI l7)] [] σ none w := by
  rw [F_Mod_layOrder_66] at hF
  exact J.run tk_Mod_layOrder 10 rfl (hK51 _ _ _ _ _ _ _ hF)
theorem h_Mod_layOrder_51 (n : Nat) (w : St) (K20 : Int32 → Int32 → Int32 → Int32 → St → Option St) (hK20 : ∀ (l2 : Int32) (l3 : Int32) (l4 : Int32) (l5 : Int32) (σ : St), K20 l2 l3 l4 l5 σ = some w → J md_Mod_layOrder 1 20 [some (mR 30 0), none, some (mI l2), some (mI l3), some (mI l4), some (mI l5), none, none] [] σ none w) : ∀ (k : Nat) (l2 : Int32) (l3 : Int32) (l4 : Int32) (l5 : Int32) (l6 : Int32) (l7 : Int32) (σ : St), F_Mod_layOrder_51 n K20 k l2 l3 l4 l5 l6 l7 σ = some w → J md_Mod_layOrder 1 51 [some (mR 30 0), none, some (mI l2), some (mI l3), some (mI l4), some (mI l5), some (mI l6), some (mI l7)] [] σ none w := by
  intro k
  induction k with
  | zero => intro l2 l3 l4 l5 l6 l7 σ hF; exact no_s hF
  | succ k ih =>
    intro l2 l3 l4 l5 l6 l7 σ hF
    rw [F_Mod_layOrder_51] at hF
    refine J.cpI tk_Mod_layOrder (as := [mI l4, mI l7]) (rest := []) 2 rfl rfl rfl (ckS (md' := md_Mod_has) lk_6_180 ok_Mod_has rfl) rfl (by decide) (fun v1 h => c_Mod_has _ _ _ _ h) hF (fun v5 hF => ?_)
    refine J.if_eq tk_Mod_layOrder 0 rfl rfl hF (fun hF => ?_) (fun hF => ?_)
    · exact h_Mod_layOrder_66 n w K20 hK20 (F_Mod_layOrder_51 n K20 k) ih _ _ _ _ _ _ _ hF
    · refine J.if_le tk_Mod_layOrder 1 rfl rfl hF (fun hF => ?_) (fun hF => ?_)
      · refine J.iast tk_Mod_layOrder 4 rfl rfl hF (fun σ6 hF => ?_)
        exact J.run tk_Mod_layOrder 10 rfl (J.fgt [true, false, true, true, true, true, false, false] (hK20 _ _ _ _ _ hF))
      · exact h_Mod_layOrder_66 n w K20 hK20 (F_Mod_layOrder_51 n K20 k) ih _ _ _ _ _ _ _ hF
theorem h_Mod_layOrder_20 (n : Nat) (w : St) : ∀ (k : Nat) (l2 : Int32) (l3 : Int32) (l4 : Int32) (l5 : Int32) (σ : St), F_Mod_layOrder_20 n k l2 l3 l4 l5 σ = some w → J md_Mod_layOrder 1 20 [some (mR 30 0), none, some (mI l2), some (mI l3), some (mI l4), some (mI l5), none, none] [] σ none w := by
  intro k
  induction k with
  | zero => intro l2 l3 l4 l5 σ hF; exact no_s hF
  | succ k ih =>
    intro l2 l3 l4 l5 σ hF
    rw [F_Mod_layOrder_20] at hF
    refine J.icmp_ge tk_Mod_layOrder 3 rfl rfl hF (fun hF => ?_) (fun hF => ?_)
    · exact J.wsV hF (J.retv tk_Mod_layOrder 0 rfl rfl rfl)
    · refine J.idiv tk_Mod_layOrder 5 rfl rfl hF (fun v2 hF => ?_)
      refine J.idiv tk_Mod_layOrder 3 rfl rfl hF (fun v3 hF => ?_)
      refine J.irem tk_Mod_layOrder 3 rfl rfl hF (fun v4 hF => ?_)
      exact J.run tk_Mod_layOrder 3 rfl (h_Mod_layOrder_51 n w (F_Mod_layOrder_20 n k) ih n _ _ _ _ _ _ _ hF)
theorem c_Mod_layOrder (n : Nat) (a1 : Int32) (σ : St) (w : St) (hF : F_Mod_layOrder n a1 σ = some w) : Call md_Mod_layOrder 1 [mR 30 0, mI a1] σ none w := by
  rw [F_Mod_layOrder] at hF
  refine Call.of ok_Mod_layOrder.1 (Nat.le_of_ble_eq_true rfl) (L := [some (mR 30 0), some (mI a1), none, none, none, none, none, none]) rfl ?_
  refine J.cpI tk_Mod_layOrder (as := [mR 30 0]) (rest := []) 1 rfl rfl rfl (ckV (md' := md_Mod_orderMany) lk_6_249 ok_Mod_orderMany rfl rfl rfl) rfl (by decide) (fun v1 h => c_Mod_orderMany n _ _ h) hF (fun v1 hF => ?_)
  exact J.run tk_Mod_layOrder 12 rfl (J.fgt [true, false, true, true, true, true, false, false] (h_Mod_layOrder_20 n w n _ _ _ _ _ hF))
noncomputable def F_Mod_lieBy_7 (n : Nat) : Nat → Int32 → St → Option St
  | 0, _, _ => none
  | k + 1, l2, σ =>
    if σ.1 30 0 1 ≤ l2 then
      some σ
    else
    (ald σ 44 0 l2).bind fun v2 =>
    (ast σ 42 0 l2 v2).bind fun σ3 =>
    (F_Mod_lieBy_7 n k) (l2 + 1) σ3
noncomputable def F_Mod_lieBy (n : Nat) (a1 : Int32) (σ : St) : Option St :=
  (F_Mod_layOrder n a1 σ).bind fun σ1 =>
  F_Mod_lieBy_7 n n 0 σ1
theorem h_Mod_lieBy_7 (n : Nat) (w : St) : ∀ (k : Nat) (l2 : Int32) (σ : St), F_Mod_lieBy_7 n k l2 σ = some w → J md_Mod_lieBy 2 7 [some (mR 30 0), none, some (mI l2)] [] σ none w := by
  intro k
  induction k with
  | zero => intro l2 σ hF; exact no_s hF
  | succ k ih =>
    intro l2 σ hF
    rw [F_Mod_lieBy_7] at hF
    refine J.icmp_ge tk_Mod_lieBy 3 rfl rfl hF (fun hF => ?_) (fun hF => ?_)
    · exact J.wsV hF (J.retv tk_Mod_lieBy 0 rfl rfl rfl)
    · refine J.iald tk_Mod_lieBy 6 rfl rfl hF (fun v2 hF => ?_)
      refine J.iast tk_Mod_lieBy 0 rfl rfl hF (fun σ3 hF => ?_)
      exact J.run tk_Mod_lieBy 2 rfl (ih _ _ hF)
theorem c_Mod_lieBy (n : Nat) (a1 : Int32) (σ : St) (w : St) (hF : F_Mod_lieBy n a1 σ = some w) : Call md_Mod_lieBy 2 [mR 30 0, mI a1] σ none w := by
  rw [F_Mod_lieBy] at hF
  refine Call.of ok_Mod_lieBy.1 (Nat.le_of_ble_eq_true rfl) (L := [some (mR 30 0), some (mI a1), none]) rfl ?_
  refine J.csV tk_Mod_lieBy (as := [mR 30 0, mI a1]) (rest := []) 2 rfl rfl rfl (ckV (md' := md_Mod_layOrder) lk_6_252 ok_Mod_layOrder rfl rfl rfl) rfl (by decide) (fun s1 h => c_Mod_layOrder n _ _ _ h) hF (fun σ1 hF => ?_)
  exact J.run tk_Mod_lieBy 2 rfl (J.fgt [true, false, true] (h_Mod_lieBy_7 n w n _ _ hF))
noncomputable def F_Mod_orderTo_16 (n : Nat) : Nat → Int32 → Int32 → St → Option St
  | 0, _, _, _ => none
  | k + 1, l1, l3, σ =>
    if σ.1 30 0 1 ≤ l3 then
      some σ
    else
    (ald σ 44 0 l3).bind fun v3 =>
    (ast σ 36 0 ((40 * l1) + l3) v3).bind fun σ4 =>
    (F_Mod_orderTo_16 n k) l1 (l3 + 1) σ4
noncomputable def F_Mod_orderTo (n : Nat) (a1 : Int32) (a2 : Int32) (σ : St) : Option St :=
  (F_Mod_layOrder n a2 σ).bind fun σ1 =>
  (F_Mod_makeRow n a1 (σ1.1 30 0 1) σ1).bind fun σ2 =>
  F_Mod_orderTo_16 n n a1 0 σ2
theorem h_Mod_orderTo_16 (n : Nat) (w : St) : ∀ (k : Nat) (l1 : Int32) (l3 : Int32) (σ : St), F_Mod_orderTo_16 n k l1 l3 σ = some w → J md_Mod_orderTo 2 16 [some (mR 30 0), some (mI l1), none, some (mI l3)] [] σ none w := by
  intro k
  induction k with
  | zero => intro l1 l3 σ hF; exact no_s hF
  | succ k ih =>
    intro l1 l3 σ hF
    rw [F_Mod_orderTo_16] at hF
    refine J.icmp_ge tk_Mod_orderTo 3 rfl rfl hF (fun hF => ?_) (fun hF => ?_)
    · exact J.wsV hF (J.retv tk_Mod_orderTo 0 rfl rfl rfl)
    · refine J.iald tk_Mod_orderTo 10 rfl rfl hF (fun v3 hF => ?_)
      refine J.iast tk_Mod_orderTo 0 rfl rfl hF (fun σ4 hF => ?_)
      exact J.run tk_Mod_orderTo 2 rfl (ih _ _ _ hF)
theorem c_Mod_orderTo (n : Nat) (a1 : Int32) (a2 : Int32) (σ : St) (w : St) (hF : F_Mod_orderTo n a1 a2 σ = some w) : Call md_Mod_orderTo 2 [mR 30 0, mI a1, mI a2] σ none w := by
  rw [F_Mod_orderTo] at hF
  refine Call.of ok_Mod_orderTo.1 (Nat.le_of_ble_eq_true rfl) (L := [some (mR 30 0), some (mI a1), some (mI a2), none]) rfl ?_
  refine J.csV tk_Mod_orderTo (as := [mR 30 0, mI a2]) (rest := []) 2 rfl rfl rfl (ckV (md' := md_Mod_layOrder) lk_6_252 ok_Mod_layOrder rfl rfl rfl) rfl (by decide) (fun s1 h => c_Mod_layOrder n _ _ _ h) hF (fun σ1 hF => ?_)
  refine J.csV tk_Mod_orderTo (as := [mR 30 0, mI a1, mI (σ1.1 30 0 1)]) (rest := []) 4 rfl rfl rfl (ckV (md' := md_Mod_makeRow) lk_6_88 ok_Mod_makeRow rfl rfl rfl) rfl (by decide) (fun s1 h => c_Mod_makeRow n _ _ _ _ h) hF (fun σ2 hF => ?_)
  exact J.run tk_Mod_orderTo 2 rfl (J.fgt [true, true, false, true] (h_Mod_orderTo_16 n w n _ _ _ hF))
noncomputable def F_Mod_toBest_91 (n : Nat) (K31 : Int32 → Int32 → Int32 → Int32 → Int32 → St → Option (Int32 × St)) (l1 : Int32) (l2 : Int32) (l3 : Int32) (l5 : Int32) (s0 : Int32) (σ : St) : Option (Int32 × St) :=
  K31 l1 l2 l3 s0 (l5 + 1) σ
noncomputable def F_Mod_toBest_76 (n : Nat) (K31 : Int32 → Int32 → Int32 → Int32 → Int32 → St → Option (Int32 × St)) (l1 : Int32) (l2 : Int32) (l4 : Int32) (l5 : Int32) (l6 : Int32) (s0 : Int32) (σ : St) : Option (Int32 × St) :=
  F_Mod_toBest_91 n K31 l1 l2 s0 l5 (if l6 ≤ l4 then l4 else l6) σ
noncomputable def F_Mod_toBest_61 (n : Nat) (K31 : Int32 → Int32 → Int32 → Int32 → Int32 → St → Option (Int32 × St)) (l1 : Int32) (l2 : Int32) (l3 : Int32) (l4 : Int32) (l5 : Int32) (s0 : Int32) (σ : St) : Option (Int32 × St) :=
  F_Mod_toBest_76 n K31 l1 l2 l4 l5 s0 (if s0 ≤ l4 then l3 else l5) σ
noncomputable def F_Mod_toBest_31 (n : Nat) : Nat → Int32 → Int32 → Int32 → Int32 → Int32 → St → Option (Int32 × St)
  | 0, _, _, _, _, _, _ => none
  | k + 1, l1, l2, l3, l4, l5, σ =>
    (F_Mod_orderMany n σ).bind fun v3 =>
    if v3 ≤ l5 then
      (F_Mod_orderTo n l1 l3 σ).bind fun σ4 =>
      some (l4, σ4)
    else
    (F_Mod_lieBy n l5 σ).bind fun σ5 =>
    if l2 = 0 then
      (F_Mod_worthNow n σ5).bind fun v6 =>
      F_Mod_toBest_61 n (F_Mod_toBest_31 n k) l1 l2 l3 l4 l5 v6 σ5
    else
    (F_Mod_leastNow n σ5).bind fun v7 =>
    F_Mod_toBest_61 n (F_Mod_toBest_31 n k) l1 l2 l3 l4 l5 v7 σ5
noncomputable def F_Mod_toBest (n : Nat) (a1 : Int32) (a2 : Int32) (σ : St) : Option (Int32 × St) :=
  (F_Mod_isRow a1).bind fun v1 =>
  if v1 = 0 then
    some ((-1), σ)
  else
  if σ.1 30 0 1 = 0 then
    some ((-4), σ)
  else
  (F_Mod_layNow n σ).bind fun σ2 =>
  F_Mod_toBest_31 n n a1 a2 0 (-1) 0 σ2
theorem h_Mod_toBest_91 (n : Nat) (w : (Int32 × St)) (K31 : Int32 → Int32 → Int32 → Int32 → Int32 → St → Option (Int32 × St)) (hK31 : ∀ (l1 : Int32) (l2 : Int32) (l3 : Int32) (l4 : Int32) (l5 : Int32) (σ : St), K31 l1 l2 l3 l4 l5 σ = some w → J md_Mod_toBest 7 31 [some (mR 30 0), some (mI l1), some (mI l2), some (mI l3), some (mI l4), some (mI l5), none] [] σ (some (mI w.1)) w.2) (l1 : Int32) (l2 : Int32) (l3 : Int32) (l5 : Int32) (s0 : Int32) (σ : St) (hF : F_Mod_toBest_91 n K31 l1 l2 l3 l5 s0 σ = some w) : J md_Mod_toBest 7 91 [some (mR 30 0), some (mI l1), some (mI l2), some (mI l3), none, some (mI l5), none] [mI s0] σ (some (mI w.1)) w.2 := by
  rw [F_Mod_toBest_91] at hF
  exact J.run tk_Mod_toBest 3 rfl (hK31 _ _ _ _ _ _ hF)
theorem h_Mod_toBest_76 (n : Nat) (w : (Int32 × St)) (K31 : Int32 → Int32 → Int32 → Int32 → Int32 → St → Option (Int32 × St)) (hK31 : ∀ (l1 : Int32) (l2 : Int32) (l3 : Int32) (l4 : Int32) (l5 : Int32) (σ : St), K31 l1 l2 l3 l4 l5 σ = some w → J md_Mod_toBest 7 31 [some (mR 30 0), some (mI l1), some (mI l2), some (mI l3), some (mI l4), some (mI l5), none] [] σ (some (mI w.1)) w.2) (l1 : Int32) (l2 : Int32) (l4 : Int32) (l5 : Int32) (l6 : Int32) (s0 : Int32) (σ : St) (hF : F_Mod_toBest_76 n K31 l1 l2 l4 l5 l6 s0 σ = some w) : J md_Mod_toBest 7 76 [some (mR 30 0), some (mI l1), some (mI l2), none, some (mI l4), some (mI l5), some (mI l6)] [mI s0] σ (some (mI w.1)) w.2 := by
  rw [F_Mod_toBest_76] at hF
  by_cases hc : l6 ≤ l4
  · simp only [if_pos hc] at hF
    exact J.icmp_leT' tk_Mod_toBest 3 rfl rfl hc (J.run tk_Mod_toBest 1 rfl (J.fgt [true, true, true, true, false, true, false] (h_Mod_toBest_91 n w K31 hK31 _ _ _ _ _ _ hF)))
  · simp only [if_neg hc] at hF
    exact J.icmp_leF' tk_Mod_toBest 3 rfl rfl hc (J.run tk_Mod_toBest 2 rfl (J.fgt [true, true, true, true, false, true, false] (h_Mod_toBest_91 n w K31 hK31 _ _ _ _ _ _ hF)))
theorem h_Mod_toBest_61 (n : Nat) (w : (Int32 × St)) (K31 : Int32 → Int32 → Int32 → Int32 → Int32 → St → Option (Int32 × St)) (hK31 : ∀ (l1 : Int32) (l2 : Int32) (l3 : Int32) (l4 : Int32) (l5 : Int32) (σ : St), K31 l1 l2 l3 l4 l5 σ = some w → J md_Mod_toBest 7 31 [some (mR 30 0), some (mI l1), some (mI l2), some (mI l3), some (mI l4), some (mI l5), none] [] σ (some (mI w.1)) w.2) (l1 : Int32) (l2 : Int32) (l3 : Int32) (l4 : Int32) (l5 : Int32) (s0 : Int32) (σ : St) (hF : F_Mod_toBest_61 n K31 l1 l2 l3 l4 l5 s0 σ = some w) : J md_Mod_toBest 7 61 [some (mR 30 0), some (mI l1), some (mI l2), some (mI l3), some (mI l4), some (mI l5), none] [mI s0] σ (some (mI w.1)) w.2 := by
  rw [F_Mod_toBest_61] at hF
  by_cases hc : s0 ≤ l4
  · simp only [if_pos hc] at hF
    exact J.icmp_leT' tk_Mod_toBest 3 rfl rfl hc (J.run tk_Mod_toBest 1 rfl (J.fgt [true, true, true, false, true, true, true] (h_Mod_toBest_76 n w K31 hK31 _ _ _ _ _ _ _ hF)))
  · simp only [if_neg hc] at hF
    exact J.icmp_leF' tk_Mod_toBest 3 rfl rfl hc (J.run tk_Mod_toBest 2 rfl (J.fgt [true, true, true, false, true, true, true] (h_Mod_toBest_76 n w K31 hK31 _ _ _ _ _ _ _ hF)))
theorem h_Mod_toBest_31 (n : Nat) (w : (Int32 × St)) : ∀ (k : Nat) (l1 : Int32) (l2 : Int32) (l3 : Int32) (l4 : Int32) (l5 : Int32) (σ : St), F_Mod_toBest_31 n k l1 l2 l3 l4 l5 σ = some w → J md_Mod_toBest 7 31 [some (mR 30 0), some (mI l1), some (mI l2), some (mI l3), some (mI l4), some (mI l5), none] [] σ (some (mI w.1)) w.2 := by
  intro k
  induction k with
  | zero => intro l1 l2 l3 l4 l5 σ hF; exact no_s hF
  | succ k ih =>
    intro l1 l2 l3 l4 l5 σ hF
    rw [F_Mod_toBest_31] at hF
    refine J.cpI tk_Mod_toBest (as := [mR 30 0]) (rest := [mI l5]) 2 rfl rfl rfl (ckV (md' := md_Mod_orderMany) lk_6_249 ok_Mod_orderMany rfl rfl rfl) rfl (by decide) (fun v1 h => c_Mod_orderMany n _ _ h) hF (fun v3 hF => ?_)
    refine J.icmp_ge tk_Mod_toBest 0 rfl rfl hF (fun hF => ?_) (fun hF => ?_)
    · refine J.csV tk_Mod_toBest (as := [mR 30 0, mI l1, mI l3]) (rest := []) 3 rfl rfl rfl (ckV (md' := md_Mod_orderTo) lk_6_259 ok_Mod_orderTo rfl rfl rfl) rfl (by decide) (fun s1 h => c_Mod_orderTo n _ _ _ _ h) hF (fun σ4 hF => ?_)
      exact J.wsI hF (J.reti tk_Mod_toBest 1 rfl rfl rfl)
    · refine J.csV tk_Mod_toBest (as := [mR 30 0, mI l5]) (rest := []) 2 rfl rfl rfl (ckV (md' := md_Mod_lieBy) lk_6_256 ok_Mod_lieBy rfl rfl rfl) rfl (by decide) (fun s1 h => c_Mod_lieBy n _ _ _ h) hF (fun σ5 hF => ?_)
      refine J.if_eq tk_Mod_toBest 1 rfl rfl hF (fun hF => ?_) (fun hF => ?_)
      · refine J.cpI tk_Mod_toBest (as := [mR 30 0]) (rest := []) 1 rfl rfl rfl (ckV (md' := md_Mod_worthNow) lk_6_243 ok_Mod_worthNow rfl rfl rfl) rfl (by decide) (fun v1 h => c_Mod_worthNow n _ _ h) hF (fun v6 hF => ?_)
        exact h_Mod_toBest_61 n w (F_Mod_toBest_31 n k) ih _ _ _ _ _ _ _ hF
      · refine J.cpI tk_Mod_toBest (as := [mR 30 0]) (rest := []) 1 rfl rfl rfl (ckV (md' := md_Mod_leastNow) lk_6_246 ok_Mod_leastNow rfl rfl rfl) rfl (by decide) (fun v1 h => c_Mod_leastNow n _ _ h) hF (fun v7 hF => ?_)
        exact J.run tk_Mod_toBest 1 rfl (h_Mod_toBest_61 n w (F_Mod_toBest_31 n k) ih _ _ _ _ _ _ _ hF)
theorem c_Mod_toBest (n : Nat) (a1 : Int32) (a2 : Int32) (σ : St) (w : (Int32 × St)) (hF : F_Mod_toBest n a1 a2 σ = some w) : Call md_Mod_toBest 7 [mR 30 0, mI a1, mI a2] σ (some (mI w.1)) w.2 := by
  rw [F_Mod_toBest] at hF
  refine Call.of ok_Mod_toBest.1 (Nat.le_of_ble_eq_true rfl) (L := [some (mR 30 0), some (mI a1), some (mI a2), none, none, none, none]) rfl ?_
  refine J.cpI tk_Mod_toBest (as := [mI a1]) (rest := []) 1 rfl rfl rfl (ckS (md' := md_Mod_isRow) lk_6_80 ok_Mod_isRow rfl) rfl (by decide) (fun v1 h => c_Mod_isRow _ _ _ h) hF (fun v1 hF => ?_)
  refine J.if_ne tk_Mod_toBest 0 rfl rfl hF (fun hF => ?_) (fun hF => ?_)
  · refine J.if_ne tk_Mod_toBest 2 rfl rfl hF (fun hF => ?_) (fun hF => ?_)
    · refine J.csV tk_Mod_toBest (as := [mR 30 0]) (rest := []) 1 rfl rfl rfl (ckV (md' := md_Mod_layNow) lk_6_204 ok_Mod_layNow rfl rfl rfl) rfl (by decide) (fun s1 h => c_Mod_layNow n _ _ h) hF (fun σ2 hF => ?_)
      exact J.run tk_Mod_toBest 6 rfl (h_Mod_toBest_31 n w n _ _ _ _ _ _ hF)
    · exact J.wsI hF (J.reti tk_Mod_toBest 1 rfl rfl rfl)
  · exact J.wsI hF (J.reti tk_Mod_toBest 1 rfl rfl rfl)
noncomputable def F_Mod_best (n : Nat) (a1 : Int32) (σ : St) : Option (Int32 × St) :=
  b2 (F_Mod_toBest n a1 0 σ) fun v1 σ2 =>
  some (v1, σ2)
theorem c_Mod_best (n : Nat) (a1 : Int32) (σ : St) (w : (Int32 × St)) (hF : F_Mod_best n a1 σ = some w) : Call md_Mod_best 8 [mR 30 0, mI a1] σ (some (mI w.1)) w.2 := by
  rw [F_Mod_best] at hF
  refine Call.of ok_Mod_best.1 (Nat.le_of_ble_eq_true rfl) (L := [some (mR 30 0), some (mI a1)]) rfl ?_
  refine J.csI tk_Mod_best (as := [mR 30 0, mI a1, mI 0]) (rest := []) 3 rfl rfl rfl (ckV (md' := md_Mod_toBest) lk_6_262 ok_Mod_toBest rfl rfl rfl) rfl (by decide) (fun v1 s1 h => c_Mod_toBest n _ _ _ (v1, s1) h) hF (fun v1 σ2 hF => ?_)
  exact J.wsI hF (J.reti tk_Mod_best 0 rfl rfl rfl)
noncomputable def F_Mod_fair (n : Nat) (a1 : Int32) (σ : St) : Option (Int32 × St) :=
  b2 (F_Mod_toBest n a1 1 σ) fun v1 σ2 =>
  some (v1, σ2)
theorem c_Mod_fair (n : Nat) (a1 : Int32) (σ : St) (w : (Int32 × St)) (hF : F_Mod_fair n a1 σ = some w) : Call md_Mod_fair 8 [mR 30 0, mI a1] σ (some (mI w.1)) w.2 := by
  rw [F_Mod_fair] at hF
  refine Call.of ok_Mod_fair.1 (Nat.le_of_ble_eq_true rfl) (L := [some (mR 30 0), some (mI a1)]) rfl ?_
  refine J.csI tk_Mod_fair (as := [mR 30 0, mI a1, mI 1]) (rest := []) 3 rfl rfl rfl (ckV (md' := md_Mod_toBest) lk_6_262 ok_Mod_toBest rfl rfl rfl) rfl (by decide) (fun v1 s1 h => c_Mod_toBest n _ _ _ (v1, s1) h) hF (fun v1 σ2 hF => ?_)
  exact J.wsI hF (J.reti tk_Mod_fair 0 rfl rfl rfl)
noncomputable def F_Mod_turning_62 (n : Nat) (K20 : Int32 → Int32 → Int32 → St → Option (Int32 × St)) (l1 : Int32) (l3 : Int32) (s0 : Int32) (σ : St) : Option (Int32 × St) :=
  K20 l1 s0 (l3 + 1) σ
noncomputable def F_Mod_turning_49 (n : Nat) (K20 : Int32 → Int32 → Int32 → St → Option (Int32 × St)) (l2 : Int32) (l3 : Int32) (l4 : Int32) (s0 : Int32) (σ : St) : Option (Int32 × St) :=
  F_Mod_turning_62 n K20 s0 l3 (if l4 ≤ l2 then l2 else l4) σ
noncomputable def F_Mod_turning_20 (n : Nat) : Nat → Int32 → Int32 → Int32 → St → Option (Int32 × St)
  | 0, _, _, _, _ => none
  | k + 1, l1, l2, l3, σ =>
    if 256 ≤ l3 then
      bs (si σ 30 0 9 l2) fun σ2 =>
      some (l1, σ2)
    else
    bs (si σ 30 0 22 l3) fun σ3 =>
    (F_Mod_worthNow n σ3).bind fun v4 =>
    F_Mod_turning_49 n (F_Mod_turning_20 n k) l2 l3 v4 (if v4 ≤ l2 then l1 else l3) σ3
noncomputable def F_Mod_turning (n : Nat) (σ : St) : Option (Int32 × St) :=
  if σ.1 30 0 1 = 0 then
    some ((-4), σ)
  else
  (F_Mod_layNow n σ).bind fun σ1 =>
  F_Mod_turning_20 n n 0 (-1) 0 σ1
theorem h_Mod_turning_62 (n : Nat) (w : (Int32 × St)) (K20 : Int32 → Int32 → Int32 → St → Option (Int32 × St)) (hK20 : ∀ (l1 : Int32) (l2 : Int32) (l3 : Int32) (σ : St), K20 l1 l2 l3 σ = some w → J md_Mod_turning 7 20 [some (mR 30 0), some (mI l1), some (mI l2), some (mI l3), none] [] σ (some (mI w.1)) w.2) (l1 : Int32) (l3 : Int32) (s0 : Int32) (σ : St) (hF : F_Mod_turning_62 n K20 l1 l3 s0 σ = some w) : J md_Mod_turning 7 62 [some (mR 30 0), some (mI l1), none, some (mI l3), none] [mI s0] σ (some (mI w.1)) w.2 := by
  rw [F_Mod_turning_62] at hF
  exact J.run tk_Mod_turning 3 rfl (hK20 _ _ _ _ hF)
theorem h_Mod_turning_49 (n : Nat) (w : (Int32 × St)) (K20 : Int32 → Int32 → Int32 → St → Option (Int32 × St)) (hK20 : ∀ (l1 : Int32) (l2 : Int32) (l3 : Int32) (σ : St), K20 l1 l2 l3 σ = some w → J md_Mod_turning 7 20 [some (mR 30 0), some (mI l1), some (mI l2), some (mI l3), none] [] σ (some (mI w.1)) w.2) (l2 : Int32) (l3 : Int32) (l4 : Int32) (s0 : Int32) (σ : St) (hF : F_Mod_turning_49 n K20 l2 l3 l4 s0 σ = some w) : J md_Mod_turning 7 49 [some (mR 30 0), none, some (mI l2), some (mI l3), some (mI l4)] [mI s0] σ (some (mI w.1)) w.2 := by
  rw [F_Mod_turning_49] at hF
  by_cases hc : l4 ≤ l2
  · simp only [if_pos hc] at hF
    exact J.icmp_leT' tk_Mod_turning 3 rfl rfl hc (J.run tk_Mod_turning 1 rfl (J.fgt [true, true, false, true, false] (h_Mod_turning_62 n w K20 hK20 _ _ _ _ hF)))
  · simp only [if_neg hc] at hF
    exact J.icmp_leF' tk_Mod_turning 3 rfl rfl hc (J.run tk_Mod_turning 2 rfl (J.fgt [true, true, false, true, false] (h_Mod_turning_62 n w K20 hK20 _ _ _ _ hF)))
theorem h_Mod_turning_20 (n : Nat) (w : (Int32 × St)) : ∀ (k : Nat) (l1 : Int32) (l2 : Int32) (l3 : Int32) (σ : St), F_Mod_turning_20 n k l1 l2 l3 σ = some w → J md_Mod_turning 7 20 [some (mR 30 0), some (mI l1), some (mI l2), some (mI l3), none] [] σ (some (mI w.1)) w.2 := by
  intro k
  induction k with
  | zero => intro l1 l2 l3 σ hF; exact no_s hF
  | succ k ih =>
    intro l1 l2 l3 σ hF
    rw [F_Mod_turning_20] at hF
    refine J.icmp_ge tk_Mod_turning 2 rfl rfl hF (fun hF => ?_) (fun hF => ?_)
    · refine J.putI tk_Mod_turning 2 rfl rfl rfl rfl rfl ⟨rfl, rfl⟩ hF (fun σ2 hF => ?_)
      exact J.wsI hF (J.reti tk_Mod_turning 1 rfl rfl rfl)
    · refine J.putI tk_Mod_turning 2 rfl rfl rfl rfl rfl ⟨rfl, rfl⟩ hF (fun σ3 hF => ?_)
      refine J.cpI tk_Mod_turning (as := [mR 30 0]) (rest := []) 1 rfl rfl rfl (ckV (md' := md_Mod_worthNow) lk_6_243 ok_Mod_worthNow rfl rfl rfl) rfl (by decide) (fun v1 h => c_Mod_worthNow n _ _ h) hF (fun v4 hF => ?_)
      by_cases hc : v4 ≤ l2
      · simp only [if_pos hc] at hF
        exact J.icmp_leT' tk_Mod_turning 3 rfl rfl hc (J.run tk_Mod_turning 1 rfl (J.fgt [true, false, true, true, true] (h_Mod_turning_49 n w (F_Mod_turning_20 n k) ih _ _ _ _ _ hF)))
      · simp only [if_neg hc] at hF
        exact J.icmp_leF' tk_Mod_turning 3 rfl rfl hc (J.run tk_Mod_turning 2 rfl (J.fgt [true, false, true, true, true] (h_Mod_turning_49 n w (F_Mod_turning_20 n k) ih _ _ _ _ _ hF)))
theorem c_Mod_turning (n : Nat) (σ : St) (w : (Int32 × St)) (hF : F_Mod_turning n σ = some w) : Call md_Mod_turning 7 [mR 30 0] σ (some (mI w.1)) w.2 := by
  rw [F_Mod_turning] at hF
  refine Call.of ok_Mod_turning.1 (Nat.le_of_ble_eq_true rfl) (L := [some (mR 30 0), none, none, none, none]) rfl ?_
  refine J.if_ne tk_Mod_turning 2 rfl rfl hF (fun hF => ?_) (fun hF => ?_)
  · refine J.csV tk_Mod_turning (as := [mR 30 0]) (rest := []) 1 rfl rfl rfl (ckV (md' := md_Mod_layNow) lk_6_204 ok_Mod_layNow rfl rfl rfl) rfl (by decide) (fun s1 h => c_Mod_layNow n _ _ h) hF (fun σ1 hF => ?_)
    exact J.run tk_Mod_turning 6 rfl (h_Mod_turning_20 n w n _ _ _ _ hF)
  · exact J.wsI hF (J.reti tk_Mod_turning 1 rfl rfl rfl)
noncomputable def F_Mod_warm_63 (n : Nat) (K20 : Int32 → Int32 → Int32 → St → Option (Int32 × St)) (l1 : Int32) (l3 : Int32) (s0 : Int32) (σ : St) : Option (Int32 × St) :=
  K20 l1 s0 (l3 + 1) σ
noncomputable def F_Mod_warm_50 (n : Nat) (K20 : Int32 → Int32 → Int32 → St → Option (Int32 × St)) (l2 : Int32) (l3 : Int32) (l4 : Int32) (s0 : Int32) (σ : St) : Option (Int32 × St) :=
  F_Mod_warm_63 n K20 s0 l3 (if l4 ≤ l2 then l2 else l4) σ
noncomputable def F_Mod_warm_20 (n : Nat) : Nat → Int32 → Int32 → Int32 → St → Option (Int32 × St)
  | 0, _, _, _, _ => none
  | k + 1, l1, l2, l3, σ =>
    if σ.1 30 0 1 ≤ l3 then
      bs (si σ 30 0 9 l2) fun σ2 =>
      some (l1, σ2)
    else
    bs (si σ 30 0 23 l3) fun σ3 =>
    (F_Mod_worthNow n σ3).bind fun v4 =>
    F_Mod_warm_50 n (F_Mod_warm_20 n k) l2 l3 v4 (if v4 ≤ l2 then l1 else l3) σ3
noncomputable def F_Mod_warm (n : Nat) (σ : St) : Option (Int32 × St) :=
  if σ.1 30 0 1 = 0 then
    some ((-4), σ)
  else
  (F_Mod_layNow n σ).bind fun σ1 =>
  F_Mod_warm_20 n n 0 (-1) 0 σ1
theorem h_Mod_warm_63 (n : Nat) (w : (Int32 × St)) (K20 : Int32 → Int32 → Int32 → St → Option (Int32 × St)) (hK20 : ∀ (l1 : Int32) (l2 : Int32) (l3 : Int32) (σ : St), K20 l1 l2 l3 σ = some w → J md_Mod_warm 7 20 [some (mR 30 0), some (mI l1), some (mI l2), some (mI l3), none] [] σ (some (mI w.1)) w.2) (l1 : Int32) (l3 : Int32) (s0 : Int32) (σ : St) (hF : F_Mod_warm_63 n K20 l1 l3 s0 σ = some w) : J md_Mod_warm 7 63 [some (mR 30 0), some (mI l1), none, some (mI l3), none] [mI s0] σ (some (mI w.1)) w.2 := by
  rw [F_Mod_warm_63] at hF
  exact J.run tk_Mod_warm 3 rfl (hK20 _ _ _ _ hF)
theorem h_Mod_warm_50 (n : Nat) (w : (Int32 × St)) (K20 : Int32 → Int32 → Int32 → St → Option (Int32 × St)) (hK20 : ∀ (l1 : Int32) (l2 : Int32) (l3 : Int32) (σ : St), K20 l1 l2 l3 σ = some w → J md_Mod_warm 7 20 [some (mR 30 0), some (mI l1), some (mI l2), some (mI l3), none] [] σ (some (mI w.1)) w.2) (l2 : Int32) (l3 : Int32) (l4 : Int32) (s0 : Int32) (σ : St) (hF : F_Mod_warm_50 n K20 l2 l3 l4 s0 σ = some w) : J md_Mod_warm 7 50 [some (mR 30 0), none, some (mI l2), some (mI l3), some (mI l4)] [mI s0] σ (some (mI w.1)) w.2 := by
  rw [F_Mod_warm_50] at hF
  by_cases hc : l4 ≤ l2
  · simp only [if_pos hc] at hF
    exact J.icmp_leT' tk_Mod_warm 3 rfl rfl hc (J.run tk_Mod_warm 1 rfl (J.fgt [true, true, false, true, false] (h_Mod_warm_63 n w K20 hK20 _ _ _ _ hF)))
  · simp only [if_neg hc] at hF
    exact J.icmp_leF' tk_Mod_warm 3 rfl rfl hc (J.run tk_Mod_warm 2 rfl (J.fgt [true, true, false, true, false] (h_Mod_warm_63 n w K20 hK20 _ _ _ _ hF)))
theorem h_Mod_warm_20 (n : Nat) (w : (Int32 × St)) : ∀ (k : Nat) (l1 : Int32) (l2 : Int32) (l3 : Int32) (σ : St), F_Mod_warm_20 n k l1 l2 l3 σ = some w → J md_Mod_warm 7 20 [some (mR 30 0), some (mI l1), some (mI l2), some (mI l3), none] [] σ (some (mI w.1)) w.2 := by
  intro k
  induction k with
  | zero => intro l1 l2 l3 σ hF; exact no_s hF
  | succ k ih =>
    intro l1 l2 l3 σ hF
    rw [F_Mod_warm_20] at hF
    refine J.icmp_ge tk_Mod_warm 3 rfl rfl hF (fun hF => ?_) (fun hF => ?_)
    · refine J.putI tk_Mod_warm 2 rfl rfl rfl rfl rfl ⟨rfl, rfl⟩ hF (fun σ2 hF => ?_)
      exact J.wsI hF (J.reti tk_Mod_warm 1 rfl rfl rfl)
    · refine J.putI tk_Mod_warm 2 rfl rfl rfl rfl rfl ⟨rfl, rfl⟩ hF (fun σ3 hF => ?_)
      refine J.cpI tk_Mod_warm (as := [mR 30 0]) (rest := []) 1 rfl rfl rfl (ckV (md' := md_Mod_worthNow) lk_6_243 ok_Mod_worthNow rfl rfl rfl) rfl (by decide) (fun v1 h => c_Mod_worthNow n _ _ h) hF (fun v4 hF => ?_)
      by_cases hc : v4 ≤ l2
      · simp only [if_pos hc] at hF
        exact J.icmp_leT' tk_Mod_warm 3 rfl rfl hc (J.run tk_Mod_warm 1 rfl (J.fgt [true, false, true, true, true] (h_Mod_warm_50 n w (F_Mod_warm_20 n k) ih _ _ _ _ _ hF)))
      · simp only [if_neg hc] at hF
        exact J.icmp_leF' tk_Mod_warm 3 rfl rfl hc (J.run tk_Mod_warm 2 rfl (J.fgt [true, false, true, true, true] (h_Mod_warm_50 n w (F_Mod_warm_20 n k) ih _ _ _ _ _ hF)))
theorem c_Mod_warm (n : Nat) (σ : St) (w : (Int32 × St)) (hF : F_Mod_warm n σ = some w) : Call md_Mod_warm 7 [mR 30 0] σ (some (mI w.1)) w.2 := by
  rw [F_Mod_warm] at hF
  refine Call.of ok_Mod_warm.1 (Nat.le_of_ble_eq_true rfl) (L := [some (mR 30 0), none, none, none, none]) rfl ?_
  refine J.if_ne tk_Mod_warm 2 rfl rfl hF (fun hF => ?_) (fun hF => ?_)
  · refine J.csV tk_Mod_warm (as := [mR 30 0]) (rest := []) 1 rfl rfl rfl (ckV (md' := md_Mod_layNow) lk_6_204 ok_Mod_layNow rfl rfl rfl) rfl (by decide) (fun s1 h => c_Mod_layNow n _ _ h) hF (fun σ1 hF => ?_)
    exact J.run tk_Mod_warm 6 rfl (h_Mod_warm_20 n w n _ _ _ _ hF)
  · exact J.wsI hF (J.reti tk_Mod_warm 1 rfl rfl rfl)
noncomputable def F_Mod_thin_116 (n : Nat) (K30 : Int32 → Int32 → Int32 → Int32 → St → Option (Int32 × St)) (l1 : Int32) (l2 : Int32) (l4 : Int32) (s0 : Int32) (σ : St) : Option (Int32 × St) :=
  K30 l1 l2 s0 (l4 + 1) σ
noncomputable def F_Mod_thin_103 (n : Nat) (K30 : Int32 → Int32 → Int32 → Int32 → St → Option (Int32 × St)) (l1 : Int32) (l3 : Int32) (l4 : Int32) (l5 : Int32) (s0 : Int32) (σ : St) : Option (Int32 × St) :=
  F_Mod_thin_116 n K30 l1 s0 l4 (if l5 ≤ l3 then l3 else l5) σ
noncomputable def F_Mod_thin_48 (n : Nat) (K30 : Int32 → Int32 → Int32 → Int32 → St → Option (Int32 × St)) : Nat → Int32 → Int32 → Int32 → Int32 → Int32 → St → Option (Int32 × St)
  | 0, _, _, _, _, _, _ => none
  | k + 1, l1, l2, l3, l4, l5, σ =>
    if σ.1 30 0 1 ≤ l5 then
      (F_Mod_worthNow n σ).bind fun v6 =>
      F_Mod_thin_103 n K30 l1 l3 l4 v6 (if v6 ≤ l3 then l2 else l4) σ
    else
    (ald σ 44 0 l5).bind fun v7 =>
    (ald σ 31 0 (6 + v7)).bind fun v8 =>
    (ast σ 43 0 l5 v8).bind fun σ9 =>
    (F_Mod_thin_48 n K30 k) l1 l2 l3 l4 (l5 + 1) σ9
noncomputable def F_Mod_thin_30 (n : Nat) : Nat → Int32 → Int32 → Int32 → Int32 → St → Option (Int32 × St)
  | 0, _, _, _, _, _ => none
  | k + 1, l1, l2, l3, l4, σ =>
    (F_Mod_orderMany n σ).bind fun v3 =>
    if v3 ≤ l4 then
      (F_Mod_orderTo n l1 l2 σ).bind fun σ4 =>
      some (l3, σ4)
    else
    (F_Mod_layOrder n l4 σ).bind fun σ5 =>
    F_Mod_thin_48 n (F_Mod_thin_30 n k) n l1 l2 l3 l4 0 σ5
noncomputable def F_Mod_thin (n : Nat) (a1 : Int32) (σ : St) : Option (Int32 × St) :=
  (F_Mod_isRow a1).bind fun v1 =>
  if v1 = 0 then
    some ((-1), σ)
  else
  if σ.1 30 0 1 = 0 then
    some ((-4), σ)
  else
  (F_Mod_layNow n σ).bind fun σ2 =>
  F_Mod_thin_30 n n a1 0 (-1) 0 σ2
theorem h_Mod_thin_116 (n : Nat) (w : (Int32 × St)) (K30 : Int32 → Int32 → Int32 → Int32 → St → Option (Int32 × St)) (hK30 : ∀ (l1 : Int32) (l2 : Int32) (l3 : Int32) (l4 : Int32) (σ : St), K30 l1 l2 l3 l4 σ = some w → J md_Mod_thin 7 30 [some (mR 30 0), some (mI l1), some (mI l2), some (mI l3), some (mI l4), none] [] σ (some (mI w.1)) w.2) (l1 : Int32) (l2 : Int32) (l4 : Int32) (s0 : Int32) (σ : St) (hF : F_Mod_thin_116 n K30 l1 l2 l4 s0 σ = some w) : J md_Mod_thin 7 116 [some (mR 30 0), some (mI l1), some (mI l2), none, some (mI l4), none] [mI s0] σ (some (mI w.1)) w.2 := by
  rw [F_Mod_thin_116] at hF
  exact J.run tk_Mod_thin 3 rfl (hK30 _ _ _ _ _ hF)
theorem h_Mod_thin_103 (n : Nat) (w : (Int32 × St)) (K30 : Int32 → Int32 → Int32 → Int32 → St → Option (Int32 × St)) (hK30 : ∀ (l1 : Int32) (l2 : Int32) (l3 : Int32) (l4 : Int32) (σ : St), K30 l1 l2 l3 l4 σ = some w → J md_Mod_thin 7 30 [some (mR 30 0), some (mI l1), some (mI l2), some (mI l3), some (mI l4), none] [] σ (some (mI w.1)) w.2) (l1 : Int32) (l3 : Int32) (l4 : Int32) (l5 : Int32) (s0 : Int32) (σ : St) (hF : F_Mod_thin_103 n K30 l1 l3 l4 l5 s0 σ = some w) : J md_Mod_thin 7 103 [some (mR 30 0), some (mI l1), none, some (mI l3), some (mI l4), some (mI l5)] [mI s0] σ (some (mI w.1)) w.2 := by
  rw [F_Mod_thin_103] at hF
  by_cases hc : l5 ≤ l3
  · simp only [if_pos hc] at hF
    exact J.icmp_leT' tk_Mod_thin 3 rfl rfl hc (J.run tk_Mod_thin 1 rfl (J.fgt [true, true, true, false, true, false] (h_Mod_thin_116 n w K30 hK30 _ _ _ _ _ hF)))
  · simp only [if_neg hc] at hF
    exact J.icmp_leF' tk_Mod_thin 3 rfl rfl hc (J.run tk_Mod_thin 2 rfl (J.fgt [true, true, true, false, true, false] (h_Mod_thin_116 n w K30 hK30 _ _ _ _ _ hF)))
theorem h_Mod_thin_48 (n : Nat) (w : (Int32 × St)) (K30 : Int32 → Int32 → Int32 → Int32 → St → Option (Int32 × St)) (hK30 : ∀ (l1 : Int32) (l2 : Int32) (l3 : Int32) (l4 : Int32) (σ : St), K30 l1 l2 l3 l4 σ = some w → J md_Mod_thin 7 30 [some (mR 30 0), some (mI l1), some (mI l2), some (mI l3), some (mI l4), none] [] σ (some (mI w.1)) w.2) : ∀ (k : Nat) (l1 : Int32) (l2 : Int32) (l3 : Int32) (l4 : Int32) (l5 : Int32) (σ : St), F_Mod_thin_48 n K30 k l1 l2 l3 l4 l5 σ = some w → J md_Mod_thin 7 48 [some (mR 30 0), some (mI l1), some (mI l2), some (mI l3), some (mI l4), some (mI l5)] [] σ (some (mI w.1)) w.2 := by
  intro k
  induction k with
  | zero => intro l1 l2 l3 l4 l5 σ hF; exact no_s hF
  | succ k ih =>
    intro l1 l2 l3 l4 l5 σ hF
    rw [F_Mod_thin_48] at hF
    refine J.icmp_ge tk_Mod_thin 3 rfl rfl hF (fun hF => ?_) (fun hF => ?_)
    · refine J.cpI tk_Mod_thin (as := [mR 30 0]) (rest := []) 1 rfl rfl rfl (ckV (md' := md_Mod_worthNow) lk_6_243 ok_Mod_worthNow rfl rfl rfl) rfl (by decide) (fun v1 h => c_Mod_worthNow n _ _ h) hF (fun v6 hF => ?_)
      by_cases hc : v6 ≤ l3
      · simp only [if_pos hc] at hF
        exact J.icmp_leT' tk_Mod_thin 3 rfl rfl hc (J.run tk_Mod_thin 1 rfl (J.fgt [true, true, false, true, true, true] (h_Mod_thin_103 n w K30 hK30 _ _ _ _ _ _ hF)))
      · simp only [if_neg hc] at hF
        exact J.icmp_leF' tk_Mod_thin 3 rfl rfl hc (J.run tk_Mod_thin 2 rfl (J.fgt [true, true, false, true, true, true] (h_Mod_thin_103 n w K30 hK30 _ _ _ _ _ _ hF)))
    · refine J.iald tk_Mod_thin 9 rfl rfl hF (fun v7 hF => ?_)
      refine J.iald tk_Mod_thin 1 rfl rfl hF (fun v8 hF => ?_)
      refine J.iast tk_Mod_thin 0 rfl rfl hF (fun σ9 hF => ?_)
      exact J.run tk_Mod_thin 2 rfl (ih _ _ _ _ _ _ hF)
theorem h_Mod_thin_30 (n : Nat) (w : (Int32 × St)) : ∀ (k : Nat) (l1 : Int32) (l2 : Int32) (l3 : Int32) (l4 : Int32) (σ : St), F_Mod_thin_30 n k l1 l2 l3 l4 σ = some w → J md_Mod_thin 7 30 [some (mR 30 0), some (mI l1), some (mI l2), some (mI l3), some (mI l4), none] [] σ (some (mI w.1)) w.2 := by
  intro k
  induction k with
  | zero => intro l1 l2 l3 l4 σ hF; exact no_s hF
  | succ k ih =>
    intro l1 l2 l3 l4 σ hF
    rw [F_Mod_thin_30] at hF
    refine J.cpI tk_Mod_thin (as := [mR 30 0]) (rest := [mI l4]) 2 rfl rfl rfl (ckV (md' := md_Mod_orderMany) lk_6_249 ok_Mod_orderMany rfl rfl rfl) rfl (by decide) (fun v1 h => c_Mod_orderMany n _ _ h) hF (fun v3 hF => ?_)
    refine J.icmp_ge tk_Mod_thin 0 rfl rfl hF (fun hF => ?_) (fun hF => ?_)
    · refine J.csV tk_Mod_thin (as := [mR 30 0, mI l1, mI l2]) (rest := []) 3 rfl rfl rfl (ckV (md' := md_Mod_orderTo) lk_6_259 ok_Mod_orderTo rfl rfl rfl) rfl (by decide) (fun s1 h => c_Mod_orderTo n _ _ _ _ h) hF (fun σ4 hF => ?_)
      exact J.wsI hF (J.reti tk_Mod_thin 1 rfl rfl rfl)
    · refine J.csV tk_Mod_thin (as := [mR 30 0, mI l4]) (rest := []) 2 rfl rfl rfl (ckV (md' := md_Mod_layOrder) lk_6_252 ok_Mod_layOrder rfl rfl rfl) rfl (by decide) (fun s1 h => c_Mod_layOrder n _ _ _ h) hF (fun σ5 hF => ?_)
      exact J.run tk_Mod_thin 2 rfl (h_Mod_thin_48 n w (F_Mod_thin_30 n k) ih n _ _ _ _ _ _ hF)
theorem c_Mod_thin (n : Nat) (a1 : Int32) (σ : St) (w : (Int32 × St)) (hF : F_Mod_thin n a1 σ = some w) : Call md_Mod_thin 7 [mR 30 0, mI a1] σ (some (mI w.1)) w.2 := by
  rw [F_Mod_thin] at hF
  refine Call.of ok_Mod_thin.1 (Nat.le_of_ble_eq_true rfl) (L := [some (mR 30 0), some (mI a1), none, none, none, none]) rfl ?_
  refine J.cpI tk_Mod_thin (as := [mI a1]) (rest := []) 1 rfl rfl rfl (ckS (md' := md_Mod_isRow) lk_6_80 ok_Mod_isRow rfl) rfl (by decide) (fun v1 h => c_Mod_isRow _ _ _ h) hF (fun v1 hF => ?_)
  refine J.if_ne tk_Mod_thin 0 rfl rfl hF (fun hF => ?_) (fun hF => ?_)
  · refine J.if_ne tk_Mod_thin 2 rfl rfl hF (fun hF => ?_) (fun hF => ?_)
    · refine J.csV tk_Mod_thin (as := [mR 30 0]) (rest := []) 1 rfl rfl rfl (ckV (md' := md_Mod_layNow) lk_6_204 ok_Mod_layNow rfl rfl rfl) rfl (by decide) (fun s1 h => c_Mod_layNow n _ _ h) hF (fun σ2 hF => ?_)
      exact J.run tk_Mod_thin 6 rfl (h_Mod_thin_30 n w n _ _ _ _ _ hF)
    · exact J.wsI hF (J.reti tk_Mod_thin 1 rfl rfl rfl)
  · exact J.wsI hF (J.reti tk_Mod_thin 1 rfl rfl rfl)
noncomputable def F_Mod_leastIn_83 (n : Nat) (K7 : Int32 → Int32 → Int32 → Int32 → Int32 → St → Option Int32) (l1 : Int32) (l2 : Int32) (l3 : Int32) (l5 : Int32) (s0 : Int32) (σ : St) : Option Int32 :=
  K7 l1 l2 l3 s0 (l5 + 1) σ
noncomputable def F_Mod_leastIn_66 (n : Nat) (K7 : Int32 → Int32 → Int32 → Int32 → Int32 → St → Option Int32) (l1 : Int32) (l2 : Int32) (l3 : Int32) (l4 : Int32) (l5 : Int32) (s0 : Int32) (s1 : Int32) (σ : St) : Option Int32 :=
  F_Mod_leastIn_83 n K7 l1 l2 l3 l5 (if l4 ≤ (s0 + s1) then l4 else s0 + s1) σ
noncomputable def F_Mod_leastIn_46 (n : Nat) (K7 : Int32 → Int32 → Int32 → Int32 → Int32 → St → Option Int32) (l1 : Int32) (l2 : Int32) (l3 : Int32) (l4 : Int32) (l5 : Int32) (s0 : Int32) (s1 : Int32) (σ : St) : Option Int32 :=
  if 0 ≤ l3 then
    (ald σ 45 0 ((5 * l3) + l5)).bind fun v3 =>
    F_Mod_leastIn_66 n K7 l1 l2 l3 l4 l5 (s0 + s1) v3 σ
  else
  F_Mod_leastIn_66 n K7 l1 l2 l3 l4 l5 (s0 + s1) 0 σ
noncomputable def F_Mod_leastIn_7 (n : Nat) : Nat → Int32 → Int32 → Int32 → Int32 → Int32 → St → Option Int32
  | 0, _, _, _, _, _, _ => none
  | k + 1, l1, l2, l3, l4, l5, σ =>
    if σ.1 30 0 1 ≤ l5 then
      some l4
    else
    (ald σ 45 0 ((5 * l1) + l5)).bind fun v1 =>
    if 0 ≤ l2 then
      (ald σ 45 0 ((5 * l2) + l5)).bind fun v2 =>
      F_Mod_leastIn_46 n (F_Mod_leastIn_7 n k) l1 l2 l3 l4 l5 v1 v2 σ
    else
    F_Mod_leastIn_46 n (F_Mod_leastIn_7 n k) l1 l2 l3 l4 l5 v1 0 σ
noncomputable def F_Mod_leastIn (n : Nat) (a1 : Int32) (a2 : Int32) (a3 : Int32) (σ : St) : Option Int32 :=
  F_Mod_leastIn_7 n n a1 a2 a3 99 0 σ
theorem h_Mod_leastIn_83 (n : Nat) (w : Int32) (K7 : Int32 → Int32 → Int32 → Int32 → Int32 → St → Option Int32) (hK7 : ∀ (l1 : Int32) (l2 : Int32) (l3 : Int32) (l4 : Int32) (l5 : Int32) (σ : St), K7 l1 l2 l3 l4 l5 σ = some w → J md_Mod_leastIn 0 7 [some (mR 30 0), some (mI l1), some (mI l2), some (mI l3), some (mI l4), some (mI l5), none] [] σ (some (mI w)) σ) (l1 : Int32) (l2 : Int32) (l3 : Int32) (l5 : Int32) (s0 : Int32) (σ : St) (hF : F_Mod_leastIn_83 n K7 l1 l2 l3 l5 s0 σ = some w) : J md_Mod_leastIn 0 83 [some (mR 30 0), some (mI l1), some (mI l2), some (mI l3), none, some (mI l5), none] [mI s0] σ (some (mI w)) σ := by
  rw [F_Mod_leastIn_83] at hF
  exact J.run tk_Mod_leastIn 3 rfl (hK7 _ _ _ _ _ _ hF)
theorem h_Mod_leastIn_66 (n : Nat) (w : Int32) (K7 : Int32 → Int32 → Int32 → Int32 → Int32 → St → Option Int32) (hK7 : ∀ (l1 : Int32) (l2 : Int32) (l3 : Int32) (l4 : Int32) (l5 : Int32) (σ : St), K7 l1 l2 l3 l4 l5 σ = some w → J md_Mod_leastIn 0 7 [some (mR 30 0), some (mI l1), some (mI l2), some (mI l3), some (mI l4), some (mI l5), none] [] σ (some (mI w)) σ) (l1 : Int32) (l2 : Int32) (l3 : Int32) (l4 : Int32) (l5 : Int32) (s0 : Int32) (s1 : Int32) (σ : St) (hF : F_Mod_leastIn_66 n K7 l1 l2 l3 l4 l5 s0 s1 σ = some w) : J md_Mod_leastIn 0 66 [some (mR 30 0), some (mI l1), some (mI l2), some (mI l3), some (mI l4), some (mI l5), none] [mI s1, mI s0] σ (some (mI w)) σ := by
  rw [F_Mod_leastIn_66] at hF
  by_cases hc : l4 ≤ (s0 + s1)
  · simp only [if_pos hc] at hF
    exact J.icmp_geT' tk_Mod_leastIn 4 rfl rfl hc (J.run tk_Mod_leastIn 1 rfl (J.fgt [true, true, true, true, false, true, false] (h_Mod_leastIn_83 n w K7 hK7 _ _ _ _ _ _ hF)))
  · simp only [if_neg hc] at hF
    exact J.icmp_geF' tk_Mod_leastIn 4 rfl rfl hc (J.run tk_Mod_leastIn 2 rfl (J.fgt [true, true, true, true, false, true, false] (h_Mod_leastIn_83 n w K7 hK7 _ _ _ _ _ _ hF)))
theorem h_Mod_leastIn_46 (n : Nat) (w : Int32) (K7 : Int32 → Int32 → Int32 → Int32 → Int32 → St → Option Int32) (hK7 : ∀ (l1 : Int32) (l2 : Int32) (l3 : Int32) (l4 : Int32) (l5 : Int32) (σ : St), K7 l1 l2 l3 l4 l5 σ = some w → J md_Mod_leastIn 0 7 [some (mR 30 0), some (mI l1), some (mI l2), some (mI l3), some (mI l4), some (mI l5), none] [] σ (some (mI w)) σ) (l1 : Int32) (l2 : Int32) (l3 : Int32) (l4 : Int32) (l5 : Int32) (s0 : Int32) (s1 : Int32) (σ : St) (hF : F_Mod_leastIn_46 n K7 l1 l2 l3 l4 l5 s0 s1 σ = some w) : J md_Mod_leastIn 0 46 [some (mR 30 0), some (mI l1), some (mI l2), some (mI l3), some (mI l4), some (mI l5), none] [mI s1, mI s0] σ (some (mI w)) σ := by
  rw [F_Mod_leastIn_46] at hF
  refine J.if_ge tk_Mod_leastIn 2 rfl rfl hF (fun hF => ?_) (fun hF => ?_)
  · refine J.iald tk_Mod_leastIn 7 rfl rfl hF (fun v3 hF => ?_)
    exact h_Mod_leastIn_66 n w K7 hK7 _ _ _ _ _ _ _ _ hF
  · exact J.run tk_Mod_leastIn 2 rfl (h_Mod_leastIn_66 n w K7 hK7 _ _ _ _ _ _ _ _ hF)
theorem h_Mod_leastIn_7 (n : Nat) (w : Int32) : ∀ (k : Nat) (l1 : Int32) (l2 : Int32) (l3 : Int32) (l4 : Int32) (l5 : Int32) (σ : St), F_Mod_leastIn_7 n k l1 l2 l3 l4 l5 σ = some w → J md_Mod_leastIn 0 7 [some (mR 30 0), some (mI l1), some (mI l2), some (mI l3), some (mI l4), some (mI l5), none] [] σ (some (mI w)) σ := by
  intro k
  induction k with
  | zero => intro l1 l2 l3 l4 l5 σ hF; exact no_s hF
  | succ k ih =>
    intro l1 l2 l3 l4 l5 σ hF
    rw [F_Mod_leastIn_7] at hF
    refine J.icmp_ge tk_Mod_leastIn 3 rfl rfl hF (fun hF => ?_) (fun hF => ?_)
    · exact J.wI hF (J.reti tk_Mod_leastIn 1 rfl rfl rfl)
    · refine J.iald tk_Mod_leastIn 7 rfl rfl hF (fun v1 hF => ?_)
      refine J.if_ge tk_Mod_leastIn 1 rfl rfl hF (fun hF => ?_) (fun hF => ?_)
      · refine J.iald tk_Mod_leastIn 7 rfl rfl hF (fun v2 hF => ?_)
        exact h_Mod_leastIn_46 n w (F_Mod_leastIn_7 n k) ih _ _ _ _ _ _ _ _ hF
      · exact J.run tk_Mod_leastIn 2 rfl (h_Mod_leastIn_46 n w (F_Mod_leastIn_7 n k) ih _ _ _ _ _ _ _ _ hF)
theorem c_Mod_leastIn (n : Nat) (a1 : Int32) (a2 : Int32) (a3 : Int32) (σ : St) (w : Int32) (hF : F_Mod_leastIn n a1 a2 a3 σ = some w) : Call md_Mod_leastIn 0 [mR 30 0, mI a1, mI a2, mI a3] σ (some (mI w)) σ := by
  rw [F_Mod_leastIn] at hF
  refine Call.of ok_Mod_leastIn.1 (Nat.le_of_ble_eq_true rfl) (L := [some (mR 30 0), some (mI a1), some (mI a2), some (mI a3), none, none, none]) rfl ?_
  exact J.run tk_Mod_leastIn 4 rfl (h_Mod_leastIn_7 n w n _ _ _ _ _ _ hF)
noncomputable def F_Mod_nights_249 (n : Nat) (K109 : Int32 → Int32 → Int32 → Int32 → Int32 → St → Option (Int32 × St)) (K128 : Int32 → Int32 → Int32 → Int32 → Int32 → Int32 → St → Option (Int32 × St)) (K156 : Int32 → Int32 → Int32 → Int32 → Int32 → Int32 → Int32 → St → Option (Int32 × St)) (l1 : Int32) (l2 : Int32) (l3 : Int32) (l4 : Int32) (l5 : Int32) (l6 : Int32) (l7 : Int32) (σ : St) : Option (Int32 × St) :=
  K156 l1 l2 l3 l4 l5 l6 (l7 + 1) σ
noncomputable def F_Mod_nights_248 (n : Nat) (K109 : Int32 → Int32 → Int32 → Int32 → Int32 → St → Option (Int32 × St)) (K128 : Int32 → Int32 → Int32 → Int32 → Int32 → Int32 → St → Option (Int32 × St)) (K156 : Int32 → Int32 → Int32 → Int32 → Int32 → Int32 → Int32 → St → Option (Int32 × St)) (l1 : Int32) (l2 : Int32) (l3 : Int32) (l4 : Int32) (l5 : Int32) (l6 : Int32) (l7 : Int32) (s1 : Int32) (s2 : Int32) (σ : St) : Option (Int32 × St) :=
  (ast σ 36 0 s1 s2).bind fun σ9 =>
  F_Mod_nights_249 n K109 K128 K156 l1 l2 l3 l4 l5 l6 l7 σ9
noncomputable def F_Mod_nights_226 (n : Nat) (K109 : Int32 → Int32 → Int32 → Int32 → Int32 → St → Option (Int32 × St)) (K128 : Int32 → Int32 → Int32 → Int32 → Int32 → Int32 → St → Option (Int32 × St)) (K156 : Int32 → Int32 → Int32 → Int32 → Int32 → Int32 → Int32 → St → Option (Int32 × St)) (l1 : Int32) (l2 : Int32) (l3 : Int32) (l4 : Int32) (l5 : Int32) (l6 : Int32) (l7 : Int32) (s1 : Int32) (s2 : Int32) (σ : St) : Option (Int32 × St) :=
  (ast σ 36 0 s1 s2).bind fun σ8 =>
  F_Mod_nights_248 n K109 K128 K156 l1 l2 l3 l4 l5 l6 l7 ((40 * l2) + 2) (if l1 ≤ 2 then 0 else l7) σ8
noncomputable def F_Mod_nights_168 (n : Nat) (K109 : Int32 → Int32 → Int32 → Int32 → Int32 → St → Option (Int32 × St)) (K128 : Int32 → Int32 → Int32 → Int32 → Int32 → Int32 → St → Option (Int32 × St)) (K156 : Int32 → Int32 → Int32 → Int32 → Int32 → Int32 → Int32 → St → Option (Int32 × St)) (l1 : Int32) (l2 : Int32) (l3 : Int32) (l4 : Int32) (l5 : Int32) (l6 : Int32) (l7 : Int32) (s0 : Int32) (s1 : Int32) (σ : St) : Option (Int32 × St) :=
  if s1 ≤ s0 then
    K128 l1 l2 l3 l4 l5 (l6 + 1) σ
  else
  (F_Mod_leastIn n l5 l6 l7 σ).bind fun v6 =>
  if v6 ≤ l4 then
    F_Mod_nights_249 n K109 K128 K156 l1 l2 l3 l4 l5 l6 l7 σ
  else
  (ast σ 36 0 (40 * l2) l5).bind fun σ7 =>
  F_Mod_nights_226 n K109 K128 K156 l1 l2 l3 v6 l5 l6 l7 ((40 * l2) + 1) (if l1 ≤ 1 then 0 else l6) σ7
noncomputable def F_Mod_nights_156 (n : Nat) (K109 : Int32 → Int32 → Int32 → Int32 → Int32 → St → Option (Int32 × St)) (K128 : Int32 → Int32 → Int32 → Int32 → Int32 → Int32 → St → Option (Int32 × St)) : Nat → Int32 → Int32 → Int32 → Int32 → Int32 → Int32 → Int32 → St → Option (Int32 × St)
  | 0, _, _, _, _, _, _, _, _ => none
  | k + 1, l1, l2, l3, l4, l5, l6, l7, σ =>
    F_Mod_nights_168 n K109 K128 (F_Mod_nights_156 n K109 K128 k) l1 l2 l3 l4 l5 l6 l7 l7 (if l1 ≤ 2 then 0 else l3) σ
noncomputable def F_Mod_nights_154 (n : Nat) (K109 : Int32 → Int32 → Int32 → Int32 → Int32 → St → Option (Int32 × St)) (K128 : Int32 → Int32 → Int32 → Int32 → Int32 → Int32 → St → Option (Int32 × St)) (l1 : Int32) (l2 : Int32) (l3 : Int32) (l4 : Int32) (l5 : Int32) (l6 : Int32) (s0 : Int32) (σ : St) : Option (Int32 × St) :=
  F_Mod_nights_156 n K109 K128 n l1 l2 l3 l4 l5 l6 s0 σ
noncomputable def F_Mod_nights_140 (n : Nat) (K109 : Int32 → Int32 → Int32 → Int32 → Int32 → St → Option (Int32 × St)) (K128 : Int32 → Int32 → Int32 → Int32 → Int32 → Int32 → St → Option (Int32 × St)) (l1 : Int32) (l2 : Int32) (l3 : Int32) (l4 : Int32) (l5 : Int32) (l6 : Int32) (s0 : Int32) (s1 : Int32) (σ : St) : Option (Int32 × St) :=
  if s1 ≤ s0 then
    K109 l1 l2 l3 l4 (l5 + 1) σ
  else
  F_Mod_nights_154 n K109 K128 l1 l2 l3 l4 l5 l6 (if l1 ≤ 2 then (-1) else l6) σ
noncomputable def F_Mod_nights_128 (n : Nat) (K109 : Int32 → Int32 → Int32 → Int32 → Int32 → St → Option (Int32 × St)) : Nat → Int32 → Int32 → Int32 → Int32 → Int32 → Int32 → St → Option (Int32 × St)
  | 0, _, _, _, _, _, _, _ => none
  | k + 1, l1, l2, l3, l4, l5, l6, σ =>
    F_Mod_nights_140 n K109 (F_Mod_nights_128 n K109 k) l1 l2 l3 l4 l5 l6 l6 (if l1 ≤ 1 then 0 else l3) σ
noncomputable def F_Mod_nights_126 (n : Nat) (K109 : Int32 → Int32 → Int32 → Int32 → Int32 → St → Option (Int32 × St)) (l1 : Int32) (l2 : Int32) (l3 : Int32) (l4 : Int32) (l5 : Int32) (s0 : Int32) (σ : St) : Option (Int32 × St) :=
  F_Mod_nights_128 n K109 n l1 l2 l3 l4 l5 s0 σ
noncomputable def F_Mod_nights_109 (n : Nat) : Nat → Int32 → Int32 → Int32 → Int32 → Int32 → St → Option (Int32 × St)
  | 0, _, _, _, _, _, _ => none
  | k + 1, l1, l2, l3, l4, l5, σ =>
    if l3 ≤ l5 then
      some (l4, σ)
    else
    F_Mod_nights_126 n (F_Mod_nights_109 n k) l1 l2 l3 l4 l5 (if l1 ≤ 1 then (-1) else l5) σ
noncomputable def F_Mod_nights_58 (n : Nat) (K43 : Int32 → Int32 → Int32 → Int32 → St → Option (Int32 × St)) : Nat → Int32 → Int32 → Int32 → Int32 → Int32 → St → Option (Int32 × St)
  | 0, _, _, _, _, _, _ => none
  | k + 1, l1, l2, l3, l4, l5, σ =>
    if σ.1 30 0 1 ≤ l5 then
      K43 l1 l2 l3 (l4 + 1) σ
    else
    (F_Mod_sleptBy n l5 σ).bind fun v11 =>
    (ast σ 45 0 ((5 * l4) + l5) v11).bind fun σ12 =>
    (F_Mod_nights_58 n K43 k) l1 l2 l3 l4 (l5 + 1) σ12
noncomputable def F_Mod_nights_43 (n : Nat) : Nat → Int32 → Int32 → Int32 → Int32 → St → Option (Int32 × St)
  | 0, _, _, _, _, _ => none
  | k + 1, l1, l2, l3, l4, σ =>
    if l3 ≤ l4 then
      (F_Mod_makeRow n l2 l1 σ).bind fun σ5 =>
      F_Mod_nights_109 n n l1 l2 l3 (-1) 0 σ5
    else
    (F_Mod_lieBy n l4 σ).bind fun σ10 =>
    F_Mod_nights_58 n (F_Mod_nights_43 n k) n l1 l2 l3 l4 0 σ10
noncomputable def F_Mod_nights (n : Nat) (a1 : Int32) (a2 : Int32) (σ : St) : Option (Int32 × St) :=
  (F_Mod_in a1.toInt64 1 3).bind fun v1 =>
  if v1 = 0 then
    some ((-1), σ)
  else
  (F_Mod_isRow a2).bind fun v2 =>
  if v2 = 0 then
    some ((-1), σ)
  else
  if σ.1 30 0 1 = 0 then
    some ((-4), σ)
  else
  (F_Mod_layNow n σ).bind fun σ3 =>
  (F_Mod_orderMany n σ3).bind fun v4 =>
  F_Mod_nights_43 n n a1 a2 v4 0 σ3
theorem h_Mod_nights_249 (n : Nat) (w : (Int32 × St)) (K109 : Int32 → Int32 → Int32 → Int32 → Int32 → St → Option (Int32 × St)) (hK109 : ∀ (l1 : Int32) (l2 : Int32) (l3 : Int32) (l4 : Int32) (l5 : Int32) (σ : St), K109 l1 l2 l3 l4 l5 σ = some w → J md_Mod_nights 6 109 [some (mR 30 0), some (mI l1), some (mI l2), some (mI l3), some (mI l4), some (mI l5), none, none, none] [] σ (some (mI w.1)) w.2) (K128 : Int32 → Int32 → Int32 → Int32 → Int32 → Int32 → St → Option (Int32 × St)) (hK128 : ∀ (l1 : Int32) (l2 : Int32) (l3 : Int32) (l4 : Int32) (l5 : Int32) (l6 : Int32) (σ : St), K128 l1 l2 l3 l4 l5 l6 σ = some w → J md_Mod_nights 6 128 [some (mR 30 0), some (mI l1), some (mI l2), some (mI l3), some (mI l4), some (mI l5), some (mI l6), none, none] [] σ (some (mI w.1)) w.2) (K156 : Int32 → Int32 → Int32 → Int32 → Int32 → Int32 → Int32 → St → Option (Int32 × St)) (hK156 : ∀ (l1 : Int32) (l2 : Int32) (l3 : Int32) (l4 : Int32) (l5 : Int32) (l6 : Int32) (l7 : Int32) (σ : St), K156 l1 l2 l3 l4 l5 l6 l7 σ = some w → J md_Mod_nights 6 156 [some (mR 30 0), some (mI l1), some (mI l2), some (mI l3), some (mI l4), some (mI l5), some (mI l6), some (mI l7), none] [] σ (some (mI w.1)) w.2) (l1 : Int32) (l2 : Int32) (l3 : Int32) (l4 : Int32) (l5 : Int32) (l6 : Int32) (l7 : Int32) (σ : St) (hF : F_Mod_nights_249 n K109 K128 K156 l1 l2 l3 l4 l5 l6 l7 σ = some w) : J md_Mod_nights 6 249 [some (mR 30 0), some (mI l1), some (mI l2), some (mI l3), some (mI l4), some (mI l5), some (mI l6), some (mI l7), none] [] σ (some (mI w.1)) w.2 := by
  rw [F_Mod_nights_249] at hF
  exact J.run tk_Mod_nights 2 rfl (hK156 _ _ _ _ _ _ _ _ hF)
theorem h_Mod_nights_248 (n : Nat) (w : (Int32 × St)) (K109 : Int32 → Int32 → Int32 → Int32 → Int32 → St → Option (Int32 × St)) (hK109 : ∀ (l1 : Int32) (l2 : Int32) (l3 : Int32) (l4 : Int32) (l5 : Int32) (σ : St), K109 l1 l2 l3 l4 l5 σ = some w → J md_Mod_nights 6 109 [some (mR 30 0), some (mI l1), some (mI l2), some (mI l3), some (mI l4), some (mI l5), none, none, none] [] σ (some (mI w.1)) w.2) (K128 : Int32 → Int32 → Int32 → Int32 → Int32 → Int32 → St → Option (Int32 × St)) (hK128 : ∀ (l1 : Int32) (l2 : Int32) (l3 : Int32) (l4 : Int32) (l5 : Int32) (l6 : Int32) (σ : St), K128 l1 l2 l3 l4 l5 l6 σ = some w → J md_Mod_nights 6 128 [some (mR 30 0), some (mI l1), some (mI l2), some (mI l3), some (mI l4), some (mI l5), some (mI l6), none, none] [] σ (some (mI w.1)) w.2) (K156 : Int32 → Int32 → Int32 → Int32 → Int32 → Int32 → Int32 → St → Option (Int32 × St)) (hK156 : ∀ (l1 : Int32) (l2 : Int32) (l3 : Int32) (l4 : Int32) (l5 : Int32) (l6 : Int32) (l7 : Int32) (σ : St), K156 l1 l2 l3 l4 l5 l6 l7 σ = some w → J md_Mod_nights 6 156 [some (mR 30 0), some (mI l1), some (mI l2), some (mI l3), some (mI l4), some (mI l5), some (mI l6), some (mI l7), none] [] σ (some (mI w.1)) w.2) (l1 : Int32) (l2 : Int32) (l3 : Int32) (l4 : Int32) (l5 : Int32) (l6 : Int32) (l7 : Int32) (s1 : Int32) (s2 : Int32) (σ : St) (hF : F_Mod_nights_248 n K109 K128 K156 l1 l2 l3 l4 l5 l6 l7 s1 s2 σ = some w) : J md_Mod_nights 6 248 [some (mR 30 0), some (mI l1), some (mI l2), some (mI l3), some (mI l4), some (mI l5), some (mI l6), some (mI l7), none] [mI s2, mI s1, mA 36 0] σ (some (mI w.1)) w.2 := by
  rw [F_Mod_nights_248] at hF
  refine J.iast tk_Mod_nights 0 rfl rfl hF (fun σ9 hF => ?_)
  exact h_Mod_nights_249 n w K109 hK109 K128 hK128 K156 hK156 _ _ _ _ _ _ _ _ hF
theorem h_Mod_nights_226 (n : Nat) (w : (Int32 × St)) (K109 : Int32 → Int32 → Int32 → Int32 → Int32 → St → Option (Int32 × St)) (hK109 : ∀ (l1 : Int32) (l2 : Int32) (l3 : Int32) (l4 : Int32) (l5 : Int32) (σ : St), K109 l1 l2 l3 l4 l5 σ = some w → J md_Mod_nights 6 109 [some (mR 30 0), some (mI l1), some (mI l2), some (mI l3), some (mI l4), some (mI l5), none, none, none] [] σ (some (mI w.1)) w.2) (K128 : Int32 → Int32 → Int32 → Int32 → Int32 → Int32 → St → Option (Int32 × St)) (hK128 : ∀ (l1 : Int32) (l2 : Int32) (l3 : Int32) (l4 : Int32) (l5 : Int32) (l6 : Int32) (σ : St), K128 l1 l2 l3 l4 l5 l6 σ = some w → J md_Mod_nights 6 128 [some (mR 30 0), some (mI l1), some (mI l2), some (mI l3), some (mI l4), some (mI l5), some (mI l6), none, none] [] σ (some (mI w.1)) w.2) (K156 : Int32 → Int32 → Int32 → Int32 → Int32 → Int32 → Int32 → St → Option (Int32 × St)) (hK156 : ∀ (l1 : Int32) (l2 : Int32) (l3 : Int32) (l4 : Int32) (l5 : Int32) (l6 : Int32) (l7 : Int32) (σ : St), K156 l1 l2 l3 l4 l5 l6 l7 σ = some w → J md_Mod_nights 6 156 [some (mR 30 0), some (mI l1), some (mI l2), some (mI l3), some (mI l4), some (mI l5), some (mI l6), some (mI l7), none] [] σ (some (mI w.1)) w.2) (l1 : Int32) (l2 : Int32) (l3 : Int32) (l4 : Int32) (l5 : Int32) (l6 : Int32) (l7 : Int32) (s1 : Int32) (s2 : Int32) (σ : St) (hF : F_Mod_nights_226 n K109 K128 K156 l1 l2 l3 l4 l5 l6 l7 s1 s2 σ = some w) : J md_Mod_nights 6 226 [some (mR 30 0), some (mI l1), some (mI l2), some (mI l3), some (mI l4), some (mI l5), some (mI l6), some (mI l7), none] [mI s2, mI s1, mA 36 0] σ (some (mI w.1)) w.2 := by
  rw [F_Mod_nights_226] at hF
  refine J.iast tk_Mod_nights 0 rfl rfl hF (fun σ8 hF => ?_)
  by_cases hc : l1 ≤ 2
  · simp only [if_pos hc] at hF
    exact J.icmp_leT' tk_Mod_nights 9 rfl rfl hc (J.run tk_Mod_nights 1 rfl (h_Mod_nights_248 n w K109 hK109 K128 hK128 K156 hK156 _ _ _ _ _ _ _ _ _ _ hF))
  · simp only [if_neg hc] at hF
    exact J.icmp_leF' tk_Mod_nights 9 rfl rfl hc (J.run tk_Mod_nights 2 rfl (h_Mod_nights_248 n w K109 hK109 K128 hK128 K156 hK156 _ _ _ _ _ _ _ _ _ _ hF))
theorem h_Mod_nights_168 (n : Nat) (w : (Int32 × St)) (K109 : Int32 → Int32 → Int32 → Int32 → Int32 → St → Option (Int32 × St)) (hK109 : ∀ (l1 : Int32) (l2 : Int32) (l3 : Int32) (l4 : Int32) (l5 : Int32) (σ : St), K109 l1 l2 l3 l4 l5 σ = some w → J md_Mod_nights 6 109 [some (mR 30 0), some (mI l1), some (mI l2), some (mI l3), some (mI l4), some (mI l5), none, none, none] [] σ (some (mI w.1)) w.2) (K128 : Int32 → Int32 → Int32 → Int32 → Int32 → Int32 → St → Option (Int32 × St)) (hK128 : ∀ (l1 : Int32) (l2 : Int32) (l3 : Int32) (l4 : Int32) (l5 : Int32) (l6 : Int32) (σ : St), K128 l1 l2 l3 l4 l5 l6 σ = some w → J md_Mod_nights 6 128 [some (mR 30 0), some (mI l1), some (mI l2), some (mI l3), some (mI l4), some (mI l5), some (mI l6), none, none] [] σ (some (mI w.1)) w.2) (K156 : Int32 → Int32 → Int32 → Int32 → Int32 → Int32 → Int32 → St → Option (Int32 × St)) (hK156 : ∀ (l1 : Int32) (l2 : Int32) (l3 : Int32) (l4 : Int32) (l5 : Int32) (l6 : Int32) (l7 : Int32) (σ : St), K156 l1 l2 l3 l4 l5 l6 l7 σ = some w → J md_Mod_nights 6 156 [some (mR 30 0), some (mI l1), some (mI l2), some (mI l3), some (mI l4), some (mI l5), some (mI l6), some (mI l7), none] [] σ (some (mI w.1)) w.2) (l1 : Int32) (l2 : Int32) (l3 : Int32) (l4 : Int32) (l5 : Int32) (l6 : Int32) (l7 : Int32) (s0 : Int32) (s1 : Int32) (σ : St) (hF : F_Mod_nights_168 n K109 K128 K156 l1 l2 l3 l4 l5 l6 l7 s0 s1 σ = some w) : J md_Mod_nights 6 168 [some (mR 30 0), some (mI l1), some (mI l2), some (mI l3), some (mI l4), some (mI l5), some (mI l6), some (mI l7), none] [mI s1, mI s0] σ (some (mI w.1)) w.2 := by
  rw [F_Mod_nights_168] at hF
  refine J.icmp_ge tk_Mod_nights 0 rfl rfl hF (fun hF => ?_) (fun hF => ?_)
  · exact J.run tk_Mod_nights 2 rfl (J.fgt [true, true, true, true, true, true, true, false, false] (hK128 _ _ _ _ _ _ _ hF))
  · refine J.cpI tk_Mod_nights (as := [mR 30 0, mI l5, mI l6, mI l7]) (rest := []) 4 rfl rfl rfl (ckV (md' := md_Mod_leastIn) lk_6_266 ok_Mod_leastIn rfl rfl rfl) rfl (by decide) (fun v1 h => c_Mod_leastIn n _ _ _ _ _ h) hF (fun v6 hF => ?_)
    refine J.icmp_le tk_Mod_nights 3 rfl rfl hF (fun hF => ?_) (fun hF => ?_)
    · exact J.fgt [true, true, true, true, true, true, true, true, false] (h_Mod_nights_249 n w K109 hK109 K128 hK128 K156 hK156 _ _ _ _ _ _ _ _ hF)
    · refine J.iast tk_Mod_nights 8 rfl rfl hF (fun σ7 hF => ?_)
      by_cases hc : l1 ≤ 1
      · simp only [if_pos hc] at hF
        exact J.icmp_leT' tk_Mod_nights 9 rfl rfl hc (J.run tk_Mod_nights 1 rfl (J.fgt [true, true, true, true, true, true, true, true, false] (h_Mod_nights_226 n w K109 hK109 K128 hK128 K156 hK156 _ _ _ _ _ _ _ _ _ _ hF)))
      · simp only [if_neg hc] at hF
        exact J.icmp_leF' tk_Mod_nights 9 rfl rfl hc (J.run tk_Mod_nights 2 rfl (J.fgt [true, true, true, true, true, true, true, true, false] (h_Mod_nights_226 n w K109 hK109 K128 hK128 K156 hK156 _ _ _ _ _ _ _ _ _ _ hF)))
theorem h_Mod_nights_156 (n : Nat) (w : (Int32 × St)) (K109 : Int32 → Int32 → Int32 → Int32 → Int32 → St → Option (Int32 × St)) (hK109 : ∀ (l1 : Int32) (l2 : Int32) (l3 : Int32) (l4 : Int32) (l5 : Int32) (σ : St), K109 l1 l2 l3 l4 l5 σ = some w → J md_Mod_nights 6 109 [some (mR 30 0), some (mI l1), some (mI l2), some (mI l3), some (mI l4), some (mI l5), none, none, none] [] σ (some (mI w.1)) w.2) (K128 : Int32 → Int32 → Int32 → Int32 → Int32 → Int32 → St → Option (Int32 × St)) (hK128 : ∀ (l1 : Int32) (l2 : Int32) (l3 : Int32) (l4 : Int32) (l5 : Int32) (l6 : Int32) (σ : St), K128 l1 l2 l3 l4 l5 l6 σ = some w → J md_Mod_nights 6 128 [some (mR 30 0), some (mI l1), some (mI l2), some (mI l3), some (mI l4), some (mI l5), some (mI l6), none, none] [] σ (some (mI w.1)) w.2) : ∀ (k : Nat) (l1 : Int32) (l2 : Int32) (l3 : Int32) (l4 : Int32) (l5 : Int32) (l6 : Int32) (l7 : Int32) (σ : St), F_Mod_nights_156 n K109 K128 k l1 l2 l3 l4 l5 l6 l7 σ = some w → J md_Mod_nights 6 156 [some (mR 30 0), some (mI l1), some (mI l2), some (mI l3), some (mI l4), some (mI l5), some (mI l6), some (mI l7), none] [] σ (some (mI w.1)) w.2 := by
  intro k
  induction k with
  | zero => intro l1 l2 l3 l4 l5 l6 l7 σ hF; exact no_s hF
  | succ k ih =>
    intro l1 l2 l3 l4 l5 l6 l7 σ hF
    rw [F_Mod_nights_156] at hF
    by_cases hc : l1 ≤ 2
    · simp only [if_pos hc] at hF
      exact J.icmp_leT' tk_Mod_nights 3 rfl rfl hc (J.run tk_Mod_nights 1 rfl (h_Mod_nights_168 n w K109 hK109 K128 hK128 (F_Mod_nights_156 n K109 K128 k) ih _ _ _ _ _ _ _ _ _ _ hF))
    · simp only [if_neg hc] at hF
      exact J.icmp_leF' tk_Mod_nights 3 rfl rfl hc (J.run tk_Mod_nights 2 rfl (h_Mod_nights_168 n w K109 hK109 K128 hK128 (F_Mod_nights_156 n K109 K128 k) ih _ _ _ _ _ _ _ _ _ _ hF))
theorem h_Mod_nights_154 (n : Nat) (w : (Int32 × St)) (K109 : Int32 → Int32 → Int32 → Int32 → Int32 → St → Option (Int32 × St)) (hK109 : ∀ (l1 : Int32) (l2 : Int32) (l3 : Int32) (l4 : Int32) (l5 : Int32) (σ : St), K109 l1 l2 l3 l4 l5 σ = some w → J md_Mod_nights 6 109 [some (mR 30 0), some (mI l1), some (mI l2), some (mI l3), some (mI l4), some (mI l5), none, none, none] [] σ (some (mI w.1)) w.2) (K128 : Int32 → Int32 → Int32 → Int32 → Int32 → Int32 → St → Option (Int32 × St)) (hK128 : ∀ (l1 : Int32) (l2 : Int32) (l3 : Int32) (l4 : Int32) (l5 : Int32) (l6 : Int32) (σ : St), K128 l1 l2 l3 l4 l5 l6 σ = some w → J md_Mod_nights 6 128 [some (mR 30 0), some (mI l1), some (mI l2), some (mI l3), some (mI l4), some (mI l5), some (mI l6), none, none] [] σ (some (mI w.1)) w.2) (l1 : Int32) (l2 : Int32) (l3 : Int32) (l4 : Int32) (l5 : Int32) (l6 : Int32) (s0 : Int32) (σ : St) (hF : F_Mod_nights_154 n K109 K128 l1 l2 l3 l4 l5 l6 s0 σ = some w) : J md_Mod_nights 6 154 [some (mR 30 0), some (mI l1), some (mI l2), some (mI l3), some (mI l4), some (mI l5), some (mI l6), none, none] [mI s0] σ (some (mI w.1)) w.2 := by
  rw [F_Mod_nights_154] at hF
  exact J.run tk_Mod_nights 1 rfl (h_Mod_nights_156 n w K109 hK109 K128 hK128 n _ _ _ _ _ _ _ _ hF)
theorem h_Mod_nights_140 (n : Nat) (w : (Int32 × St)) (K109 : Int32 → Int32 → Int32 → Int32 → Int32 → St → Option (Int32 × St)) (hK109 : ∀ (l1 : Int32) (l2 : Int32) (l3 : Int32) (l4 : Int32) (l5 : Int32) (σ : St), K109 l1 l2 l3 l4 l5 σ = some w → J md_Mod_nights 6 109 [some (mR 30 0), some (mI l1), some (mI l2), some (mI l3), some (mI l4), some (mI l5), none, none, none] [] σ (some (mI w.1)) w.2) (K128 : Int32 → Int32 → Int32 → Int32 → Int32 → Int32 → St → Option (Int32 × St)) (hK128 : ∀ (l1 : Int32) (l2 : Int32) (l3 : Int32) (l4 : Int32) (l5 : Int32) (l6 : Int32) (σ : St), K128 l1 l2 l3 l4 l5 l6 σ = some w → J md_Mod_nights 6 128 [some (mR 30 0), some (mI l1), some (mI l2), some (mI l3), some (mI l4), some (mI l5), some (mI l6), none, none] [] σ (some (mI w.1)) w.2) (l1 : Int32) (l2 : Int32) (l3 : Int32) (l4 : Int32) (l5 : Int32) (l6 : Int32) (s0 : Int32) (s1 : Int32) (σ : St) (hF : F_Mod_nights_140 n K109 K128 l1 l2 l3 l4 l5 l6 s0 s1 σ = some w) : J md_Mod_nights 6 140 [some (mR 30 0), some (mI l1), some (mI l2), some (mI l3), some (mI l4), some (mI l5), some (mI l6), none, none] [mI s1, mI s0] σ (some (mI w.1)) w.2 := by
  rw [F_Mod_nights_140] at hF
  refine J.icmp_ge tk_Mod_nights 0 rfl rfl hF (fun hF => ?_) (fun hF => ?_)
  · exact J.run tk_Mod_nights 2 rfl (J.fgt [true, true, true, true, true, true, false, false, false] (hK109 _ _ _ _ _ _ hF))
  · by_cases hc : l1 ≤ 2
    · simp only [if_pos hc] at hF
      exact J.icmp_leT' tk_Mod_nights 2 rfl rfl hc (J.run tk_Mod_nights 1 rfl (h_Mod_nights_154 n w K109 hK109 K128 hK128 _ _ _ _ _ _ _ _ hF))
    · simp only [if_neg hc] at hF
      exact J.icmp_leF' tk_Mod_nights 2 rfl rfl hc (J.run tk_Mod_nights 2 rfl (h_Mod_nights_154 n w K109 hK109 K128 hK128 _ _ _ _ _ _ _ _ hF))
theorem h_Mod_nights_128 (n : Nat) (w : (Int32 × St)) (K109 : Int32 → Int32 → Int32 → Int32 → Int32 → St → Option (Int32 × St)) (hK109 : ∀ (l1 : Int32) (l2 : Int32) (l3 : Int32) (l4 : Int32) (l5 : Int32) (σ : St), K109 l1 l2 l3 l4 l5 σ = some w → J md_Mod_nights 6 109 [some (mR 30 0), some (mI l1), some (mI l2), some (mI l3), some (mI l4), some (mI l5), none, none, none] [] σ (some (mI w.1)) w.2) : ∀ (k : Nat) (l1 : Int32) (l2 : Int32) (l3 : Int32) (l4 : Int32) (l5 : Int32) (l6 : Int32) (σ : St), F_Mod_nights_128 n K109 k l1 l2 l3 l4 l5 l6 σ = some w → J md_Mod_nights 6 128 [some (mR 30 0), some (mI l1), some (mI l2), some (mI l3), some (mI l4), some (mI l5), some (mI l6), none, none] [] σ (some (mI w.1)) w.2 := by
  intro k
  induction k with
  | zero => intro l1 l2 l3 l4 l5 l6 σ hF; exact no_s hF
  | succ k ih =>
    intro l1 l2 l3 l4 l5 l6 σ hF
    rw [F_Mod_nights_128] at hF
    by_cases hc : l1 ≤ 1
    · simp only [if_pos hc] at hF
      exact J.icmp_leT' tk_Mod_nights 3 rfl rfl hc (J.run tk_Mod_nights 1 rfl (h_Mod_nights_140 n w K109 hK109 (F_Mod_nights_128 n K109 k) ih _ _ _ _ _ _ _ _ _ hF))
    · simp only [if_neg hc] at hF
      exact J.icmp_leF' tk_Mod_nights 3 rfl rfl hc (J.run tk_Mod_nights 2 rfl (h_Mod_nights_140 n w K109 hK109 (F_Mod_nights_128 n K109 k) ih _ _ _ _ _ _ _ _ _ hF))
theorem h_Mod_nights_126 (n : Nat) (w : (Int32 × St)) (K109 : Int32 → Int32 → Int32 → Int32 → Int32 → St → Option (Int32 × St)) (hK109 : ∀ (l1 : Int32) (l2 : Int32) (l3 : Int32) (l4 : Int32) (l5 : Int32) (σ : St), K109 l1 l2 l3 l4 l5 σ = some w → J md_Mod_nights 6 109 [some (mR 30 0), some (mI l1), some (mI l2), some (mI l3), some (mI l4), some (mI l5), none, none, none] [] σ (some (mI w.1)) w.2) (l1 : Int32) (l2 : Int32) (l3 : Int32) (l4 : Int32) (l5 : Int32) (s0 : Int32) (σ : St) (hF : F_Mod_nights_126 n K109 l1 l2 l3 l4 l5 s0 σ = some w) : J md_Mod_nights 6 126 [some (mR 30 0), some (mI l1), some (mI l2), some (mI l3), some (mI l4), some (mI l5), none, none, none] [mI s0] σ (some (mI w.1)) w.2 := by
  rw [F_Mod_nights_126] at hF
  exact J.run tk_Mod_nights 1 rfl (h_Mod_nights_128 n w K109 hK109 n _ _ _ _ _ _ _ hF)
theorem h_Mod_nights_109 (n : Nat) (w : (Int32 × St)) : ∀ (k : Nat) (l1 : Int32) (l2 : Int32) (l3 : Int32) (l4 : Int32) (l5 : Int32) (σ : St), F_Mod_nights_109 n k l1 l2 l3 l4 l5 σ = some w → J md_Mod_nights 6 109 [some (mR 30 0), some (mI l1), some (mI l2), some (mI l3), some (mI l4), some (mI l5), none, none, none] [] σ (some (mI w.1)) w.2 := by
  intro k
  induction k with
  | zero => intro l1 l2 l3 l4 l5 σ hF; exact no_s hF
  | succ k ih =>
    intro l1 l2 l3 l4 l5 σ hF
    rw [F_Mod_nights_109] at hF
    refine J.icmp_ge tk_Mod_nights 2 rfl rfl hF (fun hF => ?_) (fun hF => ?_)
    · exact J.wsI hF (J.reti tk_Mod_nights 1 rfl rfl rfl)
    · by_cases hc : l1 ≤ 1
      · simp only [if_pos hc] at hF
        exact J.icmp_leT' tk_Mod_nights 2 rfl rfl hc (J.run tk_Mod_nights 1 rfl (h_Mod_nights_126 n w (F_Mod_nights_109 n k) ih _ _ _ _ _ _ _ hF))
      · simp only [if_neg hc] at hF
        exact J.icmp_leF' tk_Mod_nights 2 rfl rfl hc (J.run tk_Mod_nights 2 rfl (h_Mod_nights_126 n w (F_Mod_nights_109 n k) ih _ _ _ _ _ _ _ hF))
theorem h_Mod_nights_58 (n : Nat) (w : (Int32 × St)) (K43 : Int32 → Int32 → Int32 → Int32 → St → Option (Int32 × St)) (hK43 : ∀ (l1 : Int32) (l2 : Int32) (l3 : Int32) (l4 : Int32) (σ : St), K43 l1 l2 l3 l4 σ = some w → J md_Mod_nights 6 43 [some (mR 30 0), some (mI l1), some (mI l2), some (mI l3), some (mI l4), none, none, none, none] [] σ (some (mI w.1)) w.2) : ∀ (k : Nat) (l1 : Int32) (l2 : Int32) (l3 : Int32) (l4 : Int32) (l5 : Int32) (σ : St), F_Mod_nights_58 n K43 k l1 l2 l3 l4 l5 σ = some w → J md_Mod_nights 6 58 [some (mR 30 0), some (mI l1), some (mI l2), some (mI l3), some (mI l4), some (mI l5), none, none, none] [] σ (some (mI w.1)) w.2 := by
  intro k
  induction k with
  | zero => intro l1 l2 l3 l4 l5 σ hF; exact no_s hF
  | succ k ih =>
    intro l1 l2 l3 l4 l5 σ hF
    rw [F_Mod_nights_58] at hF
    refine J.icmp_ge tk_Mod_nights 3 rfl rfl hF (fun hF => ?_) (fun hF => ?_)
    · exact J.run tk_Mod_nights 2 rfl (J.fgt [true, true, true, true, true, false, false, false, false] (hK43 _ _ _ _ _ hF))
    · refine J.cpI tk_Mod_nights (as := [mR 30 0, mI l5]) (rest := [mI ((5 * l4) + l5), mA 45 0]) 9 rfl rfl rfl (ckV (md' := md_Mod_sleptBy) lk_6_195 ok_Mod_sleptBy rfl rfl rfl) rfl (by decide) (fun v1 h => c_Mod_sleptBy n _ _ _ h) hF (fun v11 hF => ?_)
      refine J.iast tk_Mod_nights 0 rfl rfl hF (fun σ12 hF => ?_)
      exact J.run tk_Mod_nights 2 rfl (ih _ _ _ _ _ _ hF)
theorem h_Mod_nights_43 (n : Nat) (w : (Int32 × St)) : ∀ (k : Nat) (l1 : Int32) (l2 : Int32) (l3 : Int32) (l4 : Int32) (σ : St), F_Mod_nights_43 n k l1 l2 l3 l4 σ = some w → J md_Mod_nights 6 43 [some (mR 30 0), some (mI l1), some (mI l2), some (mI l3), some (mI l4), none, none, none, none] [] σ (some (mI w.1)) w.2 := by
  intro k
  induction k with
  | zero => intro l1 l2 l3 l4 σ hF; exact no_s hF
  | succ k ih =>
    intro l1 l2 l3 l4 σ hF
    rw [F_Mod_nights_43] at hF
    refine J.icmp_ge tk_Mod_nights 2 rfl rfl hF (fun hF => ?_) (fun hF => ?_)
    · refine J.csV tk_Mod_nights (as := [mR 30 0, mI l2, mI l1]) (rest := []) 5 rfl rfl rfl (ckV (md' := md_Mod_makeRow) lk_6_88 ok_Mod_makeRow rfl rfl rfl) rfl (by decide) (fun s1 h => c_Mod_makeRow n _ _ _ _ h) hF (fun σ5 hF => ?_)
      exact J.run tk_Mod_nights 2 rfl (h_Mod_nights_109 n w n _ _ _ _ _ _ hF)
    · refine J.csV tk_Mod_nights (as := [mR 30 0, mI l4]) (rest := []) 2 rfl rfl rfl (ckV (md' := md_Mod_lieBy) lk_6_256 ok_Mod_lieBy rfl rfl rfl) rfl (by decide) (fun s1 h => c_Mod_lieBy n _ _ _ h) hF (fun σ10 hF => ?_)
      exact J.run tk_Mod_nights 2 rfl (h_Mod_nights_58 n w (F_Mod_nights_43 n k) ih n _ _ _ _ _ _ hF)
theorem c_Mod_nights (n : Nat) (a1 : Int32) (a2 : Int32) (σ : St) (w : (Int32 × St)) (hF : F_Mod_nights n a1 a2 σ = some w) : Call md_Mod_nights 6 [mR 30 0, mI a1, mI a2] σ (some (mI w.1)) w.2 := by
  rw [F_Mod_nights] at hF
  refine Call.of ok_Mod_nights.1 (Nat.le_of_ble_eq_true rfl) (L := [some (mR 30 0), some (mI a1), some (mI a2), none, none, none, none, none, none]) rfl ?_
  refine J.cpI tk_Mod_nights (as := [mL a1.toInt64, mL 1, mL 3]) (rest := []) 4 rfl rfl rfl (ckS (md' := md_Mod_in) lk_6_74 ok_Mod_in rfl) rfl (by decide) (fun v1 h => c_Mod_in _ _ _ _ _ h) hF (fun v1 hF => ?_)
  refine J.if_eq tk_Mod_nights 0 rfl rfl hF (fun hF => ?_) (fun hF => ?_)
  · exact J.wsI hF (J.reti tk_Mod_nights 1 rfl rfl rfl)
  · refine J.cpI tk_Mod_nights (as := [mI a2]) (rest := []) 1 rfl rfl rfl (ckS (md' := md_Mod_isRow) lk_6_80 ok_Mod_isRow rfl) rfl (by decide) (fun v1 h => c_Mod_isRow _ _ _ h) hF (fun v2 hF => ?_)
    refine J.if_ne tk_Mod_nights 0 rfl rfl hF (fun hF => ?_) (fun hF => ?_)
    · refine J.if_ne tk_Mod_nights 2 rfl rfl hF (fun hF => ?_) (fun hF => ?_)
      · refine J.csV tk_Mod_nights (as := [mR 30 0]) (rest := []) 1 rfl rfl rfl (ckV (md' := md_Mod_layNow) lk_6_204 ok_Mod_layNow rfl rfl rfl) rfl (by decide) (fun s1 h => c_Mod_layNow n _ _ h) hF (fun σ3 hF => ?_)
        refine J.cpI tk_Mod_nights (as := [mR 30 0]) (rest := []) 1 rfl rfl rfl (ckV (md' := md_Mod_orderMany) lk_6_249 ok_Mod_orderMany rfl rfl rfl) rfl (by decide) (fun v1 h => c_Mod_orderMany n _ _ h) hF (fun v4 hF => ?_)
        exact J.run tk_Mod_nights 3 rfl (h_Mod_nights_43 n w n _ _ _ _ _ hF)
      · exact J.wsI hF (J.reti tk_Mod_nights 1 rfl rfl rfl)
    · exact J.wsI hF (J.reti tk_Mod_nights 1 rfl rfl rfl)
noncomputable def F_Mod_nth (n : Nat) (a1 : Int32) (a2 : Int32) (σ : St) : Option (Int32 × St) :=
  if a1 < 0 then
    some ((-1), σ)
  else
  (F_Mod_isRow a2).bind fun v1 =>
  if v1 = 0 then
    some ((-1), σ)
  else
  if σ.1 30 0 1 = 0 then
    some ((-4), σ)
  else
  (F_Mod_orderMany n σ).bind fun v2 =>
  if a1 < v2 then
    (F_Mod_orderTo n a2 a1 σ).bind fun σ3 =>
    some (1, σ3)
  else
  b2 (F_Mod_find 4 σ) fun v4 σ5 =>
  some (v4, σ5)
theorem c_Mod_nth (n : Nat) (a1 : Int32) (a2 : Int32) (σ : St) (w : (Int32 × St)) (hF : F_Mod_nth n a1 a2 σ = some w) : Call md_Mod_nth 3 [mR 30 0, mI a1, mI a2] σ (some (mI w.1)) w.2 := by
  rw [F_Mod_nth] at hF
  refine Call.of ok_Mod_nth.1 (Nat.le_of_ble_eq_true rfl) (L := [some (mR 30 0), some (mI a1), some (mI a2)]) rfl ?_
  refine J.if_lt tk_Mod_nth 1 rfl rfl hF (fun hF => ?_) (fun hF => ?_)
  · exact J.wsI hF (J.reti tk_Mod_nth 1 rfl rfl rfl)
  · refine J.cpI tk_Mod_nth (as := [mI a2]) (rest := []) 1 rfl rfl rfl (ckS (md' := md_Mod_isRow) lk_6_80 ok_Mod_isRow rfl) rfl (by decide) (fun v1 h => c_Mod_isRow _ _ _ h) hF (fun v1 hF => ?_)
    refine J.if_ne tk_Mod_nth 0 rfl rfl hF (fun hF => ?_) (fun hF => ?_)
    · refine J.if_ne tk_Mod_nth 2 rfl rfl hF (fun hF => ?_) (fun hF => ?_)
      · refine J.cpI tk_Mod_nth (as := [mR 30 0]) (rest := [mI a1]) 2 rfl rfl rfl (ckV (md' := md_Mod_orderMany) lk_6_249 ok_Mod_orderMany rfl rfl rfl) rfl (by decide) (fun v1 h => c_Mod_orderMany n _ _ h) hF (fun v2 hF => ?_)
        refine J.icmp_lt tk_Mod_nth 0 rfl rfl hF (fun hF => ?_) (fun hF => ?_)
        · refine J.csV tk_Mod_nth (as := [mR 30 0, mI a2, mI a1]) (rest := []) 3 rfl rfl rfl (ckV (md' := md_Mod_orderTo) lk_6_259 ok_Mod_orderTo rfl rfl rfl) rfl (by decide) (fun s1 h => c_Mod_orderTo n _ _ _ _ h) hF (fun σ3 hF => ?_)
          exact J.wsI hF (J.reti tk_Mod_nth 1 rfl rfl rfl)
        · refine J.csI tk_Mod_nth (as := [mR 30 0, mI 4]) (rest := []) 2 rfl rfl rfl (ckV (md' := md_Mod_find) lk_6_84 ok_Mod_find rfl rfl rfl) rfl (by decide) (fun v1 s1 h => c_Mod_find _ _ (v1, s1) h) hF (fun v4 σ5 hF => ?_)
          exact J.wsI hF (J.reti tk_Mod_nth 0 rfl rfl rfl)
      · exact J.wsI hF (J.reti tk_Mod_nth 1 rfl rfl rfl)
    · exact J.wsI hF (J.reti tk_Mod_nth 1 rfl rfl rfl)
noncomputable def F_Mod_out_64 (n : Nat) (K27 : Int32 → Int32 → St → Option (Int32 × St)) (l2 : Int32) (l3 : Int32) (s1 : Int32) (s2 : Int32) (σ : St) : Option (Int32 × St) :=
  bs (si σ 30 0 9 (s1 ||| s2)) fun σ8 =>
  K27 l2 (l3 + 1) σ8
noncomputable def F_Mod_out_27 (n : Nat) : Nat → Int32 → Int32 → St → Option (Int32 × St)
  | 0, _, _, _ => none
  | k + 1, l2, l3, σ =>
    if l2 ≤ l3 then
      some (l2, σ)
    else
    (ald σ 42 0 l3).bind fun v5 =>
    (ald σ 32 0 v5).bind fun v6 =>
    if v6 = 5 then
      F_Mod_out_64 n (F_Mod_out_27 n k) l2 l3 (σ.1 30 0 9) 0 σ
    else
    (ald σ 42 0 l3).bind fun v7 =>
    F_Mod_out_64 n (F_Mod_out_27 n k) l2 l3 (σ.1 30 0 9) (1 <<< (v7 &&& 31)) σ
noncomputable def F_Mod_out (n : Nat) (a1 : Int32) (σ : St) : Option (Int32 × St) :=
  (F_Mod_isSleeper a1 σ).bind fun v1 =>
  if v1 = 0 then
    some ((-1), σ)
  else
  (F_Mod_layNow n σ).bind fun σ2 =>
  (F_Mod_placeOf n a1 σ2).bind fun v3 =>
  bs (si σ2 30 0 9 0) fun σ4 =>
  F_Mod_out_27 n n v3 0 σ4
theorem h_Mod_out_64 (n : Nat) (w : (Int32 × St)) (K27 : Int32 → Int32 → St → Option (Int32 × St)) (hK27 : ∀ (l2 : Int32) (l3 : Int32) (σ : St), K27 l2 l3 σ = some w → J md_Mod_out 2 27 [some (mR 30 0), none, some (mI l2), some (mI l3)] [] σ (some (mI w.1)) w.2) (l2 : Int32) (l3 : Int32) (s1 : Int32) (s2 : Int32) (σ : St) (hF : F_Mod_out_64 n K27 l2 l3 s1 s2 σ = some w) : J md_Mod_out 2 64 [some (mR 30 0), none, some (mI l2), some (mI l3)] [mI s2, mI s1, mR 30 0] σ (some (mI w.1)) w.2 := by
  rw [F_Mod_out_64] at hF
  refine J.putI tk_Mod_out 1 rfl rfl rfl rfl rfl ⟨rfl, rfl⟩ hF (fun σ8 hF => ?_)
  exact J.run tk_Mod_out 2 rfl (hK27 _ _ _ hF)
theorem h_Mod_out_27 (n : Nat) (w : (Int32 × St)) : ∀ (k : Nat) (l2 : Int32) (l3 : Int32) (σ : St), F_Mod_out_27 n k l2 l3 σ = some w → J md_Mod_out 2 27 [some (mR 30 0), none, some (mI l2), some (mI l3)] [] σ (some (mI w.1)) w.2 := by
  intro k
  induction k with
  | zero => intro l2 l3 σ hF; exact no_s hF
  | succ k ih =>
    intro l2 l3 σ hF
    rw [F_Mod_out_27] at hF
    refine J.icmp_ge tk_Mod_out 2 rfl rfl hF (fun hF => ?_) (fun hF => ?_)
    · exact J.wsI hF (J.reti tk_Mod_out 1 rfl rfl rfl)
    · refine J.iald tk_Mod_out 8 rfl rfl hF (fun v5 hF => ?_)
      refine J.iald tk_Mod_out 0 rfl rfl hF (fun v6 hF => ?_)
      refine J.icmp_ne tk_Mod_out 1 rfl rfl hF (fun hF => ?_) (fun hF => ?_)
      · refine J.iald tk_Mod_out 4 rfl rfl hF (fun v7 hF => ?_)
        exact J.run tk_Mod_out 1 rfl (h_Mod_out_64 n w (F_Mod_out_27 n k) ih _ _ _ _ _ hF)
      · exact J.run tk_Mod_out 2 rfl (h_Mod_out_64 n w (F_Mod_out_27 n k) ih _ _ _ _ _ hF)
theorem c_Mod_out (n : Nat) (a1 : Int32) (σ : St) (w : (Int32 × St)) (hF : F_Mod_out n a1 σ = some w) : Call md_Mod_out 2 [mR 30 0, mI a1] σ (some (mI w.1)) w.2 := by
  rw [F_Mod_out] at hF
  refine Call.of ok_Mod_out.1 (Nat.le_of_ble_eq_true rfl) (L := [some (mR 30 0), some (mI a1), none, none]) rfl ?_
  refine J.cpI tk_Mod_out (as := [mR 30 0, mI a1]) (rest := []) 2 rfl rfl rfl (ckV (md' := md_Mod_isSleeper) lk_6_198 ok_Mod_isSleeper rfl rfl rfl) rfl (by decide) (fun v1 h => c_Mod_isSleeper _ _ _ h) hF (fun v1 hF => ?_)
  refine J.if_ne tk_Mod_out 0 rfl rfl hF (fun hF => ?_) (fun hF => ?_)
  · refine J.csV tk_Mod_out (as := [mR 30 0]) (rest := []) 1 rfl rfl rfl (ckV (md' := md_Mod_layNow) lk_6_204 ok_Mod_layNow rfl rfl rfl) rfl (by decide) (fun s1 h => c_Mod_layNow n _ _ h) hF (fun σ2 hF => ?_)
    refine J.cpI tk_Mod_out (as := [mR 30 0, mI a1]) (rest := []) 2 rfl rfl rfl (ckV (md' := md_Mod_placeOf) lk_6_158 ok_Mod_placeOf rfl rfl rfl) rfl (by decide) (fun v1 h => c_Mod_placeOf n _ _ _ h) hF (fun v3 hF => ?_)
    refine J.putI tk_Mod_out 3 rfl rfl rfl rfl rfl ⟨rfl, rfl⟩ hF (fun σ4 hF => ?_)
    exact J.run tk_Mod_out 2 rfl (J.fgt [true, false, true, true] (h_Mod_out_27 n w n _ _ _ hF))
  · exact J.wsI hF (J.reti tk_Mod_out 1 rfl rfl rfl)
