noncomputable def F_Mod_mark (n : Nat) (a1 : Int32) (a2 : Int32) (σ : St) : Option (Int32 × St) :=
  (F_Mod_isSleeper a1 σ).bind fun v1 =>
  if v1 = 0 then
    some ((-1), σ)
  else
  (F_Mod_in a2.toInt64 1 5).bind fun v2 =>
  if v2 = 0 then
    some ((-1), σ)
  else
  (F_Mod_isOf a1 a2 σ).bind fun v3 =>
  if v3 = 0 then
    b2 (F_Mod_find 3 σ) fun v11 σ12 =>
    some (v11, σ12)
  else
  (F_Mod_layNow n σ).bind fun σ4 =>
  if a2 = 1 then
    (F_Mod_heardBy n a1 σ4).bind fun v5 =>
    some (v5, σ4)
  else
  if a2 = 2 then
    (F_Mod_snorersNear n a1 σ4).bind fun v6 =>
    some (v6, σ4)
  else
  if a2 = 3 then
    (F_Mod_givesOf a1 σ4).bind fun v7 =>
    (F_Mod_beside n a1 σ4).bind fun v8 =>
    some (v7 * v8, σ4)
  else
  if a2 = 4 then
    (F_Mod_snorers n σ4).bind fun v9 =>
    some (v9, σ4)
  else
  (F_Mod_bits n (σ4.1 30 0 22)).bind fun v10 =>
  some (v10, σ4)
theorem c_Mod_mark (n : Nat) (a1 : Int32) (a2 : Int32) (σ : St) (w : (Int32 × St)) (hF : F_Mod_mark n a1 a2 σ = some w) : Call md_Mod_mark 3 [mR 30 0, mI a1, mI a2] σ (some (mI w.1)) w.2 := by
  rw [F_Mod_mark] at hF
  refine Call.of ok_Mod_mark.1 (Nat.le_of_ble_eq_true rfl) (L := [some (mR 30 0), some (mI a1), some (mI a2)]) rfl ?_
  refine J.cpI tk_Mod_mark (as := [mR 30 0, mI a1]) (rest := []) 2 rfl rfl rfl (ckV (md' := md_Mod_isSleeper) lk_6_198 ok_Mod_isSleeper rfl rfl rfl) rfl (by decide) (fun v1 h => c_Mod_isSleeper _ _ _ h) hF (fun v1 hF => ?_)
  refine J.if_eq tk_Mod_mark 0 rfl rfl hF (fun hF => ?_) (fun hF => ?_)
  · exact J.wsI hF (J.reti tk_Mod_mark 1 rfl rfl rfl)
  · refine J.cpI tk_Mod_mark (as := [mL a2.toInt64, mL 1, mL 5]) (rest := []) 4 rfl rfl rfl (ckS (md' := md_Mod_in) lk_6_74 ok_Mod_in rfl) rfl (by decide) (fun v1 h => c_Mod_in _ _ _ _ _ h) hF (fun v2 hF => ?_)
    refine J.if_ne tk_Mod_mark 0 rfl rfl hF (fun hF => ?_) (fun hF => ?_)
    · refine J.cpI tk_Mod_mark (as := [mR 30 0, mI a1, mI a2]) (rest := []) 3 rfl rfl rfl (ckV (md' := md_Mod_isOf) lk_6_207 ok_Mod_isOf rfl rfl rfl) rfl (by decide) (fun v1 h => c_Mod_isOf _ _ _ _ h) hF (fun v3 hF => ?_)
      refine J.if_ne tk_Mod_mark 0 rfl rfl hF (fun hF => ?_) (fun hF => ?_)
      · refine J.csV tk_Mod_mark (as := [mR 30 0]) (rest := []) 1 rfl rfl rfl (ckV (md' := md_Mod_layNow) lk_6_204 ok_Mod_layNow rfl rfl rfl) rfl (by decide) (fun s1 h => c_Mod_layNow n _ _ h) hF (fun σ4 hF => ?_)
        by_cases hs1 : a2 = 1
        · rw [if_pos hs1] at hF
          refine J.tswIn tk_Mod_mark 72 1 rfl rfl 1 hs1 (by decide) (by decide) rfl (by decide) ?_
          refine J.cpI tk_Mod_mark (as := [mR 30 0, mI a1]) (rest := []) 2 rfl rfl rfl (ckV (md' := md_Mod_heardBy) lk_6_210 ok_Mod_heardBy rfl rfl rfl) rfl (by decide) (fun v1 h => c_Mod_heardBy n _ _ _ h) hF (fun v5 hF => ?_)
          exact J.wsI hF (J.reti tk_Mod_mark 0 rfl rfl rfl)
        rw [if_neg hs1] at hF
        by_cases hs2 : a2 = 2
        · rw [if_pos hs2] at hF
          refine J.tswIn tk_Mod_mark 78 1 rfl rfl 2 hs2 (by decide) (by decide) rfl (by decide) ?_
          refine J.cpI tk_Mod_mark (as := [mR 30 0, mI a1]) (rest := []) 2 rfl rfl rfl (ckV (md' := md_Mod_snorersNear) lk_6_177 ok_Mod_snorersNear rfl rfl rfl) rfl (by decide) (fun v1 h => c_Mod_snorersNear n _ _ _ h) hF (fun v6 hF => ?_)
          exact J.wsI hF (J.reti tk_Mod_mark 0 rfl rfl rfl)
        rw [if_neg hs2] at hF
        by_cases hs3 : a2 = 3
        · rw [if_pos hs3] at hF
          refine J.tswIn tk_Mod_mark 84 1 rfl rfl 3 hs3 (by decide) (by decide) rfl (by decide) ?_
          refine J.cpI tk_Mod_mark (as := [mR 30 0, mI a1]) (rest := []) 2 rfl rfl rfl (ckV (md' := md_Mod_givesOf) lk_6_161 ok_Mod_givesOf rfl rfl rfl) rfl (by decide) (fun v1 h => c_Mod_givesOf _ _ _ h) hF (fun v7 hF => ?_)
          refine J.cpI tk_Mod_mark (as := [mR 30 0, mI a1]) (rest := [mI v7]) 2 rfl rfl rfl (ckV (md' := md_Mod_beside) lk_6_213 ok_Mod_beside rfl rfl rfl) rfl (by decide) (fun v1 h => c_Mod_beside n _ _ _ h) hF (fun v8 hF => ?_)
          exact J.wsI hF (J.reti tk_Mod_mark 1 rfl rfl rfl)
        rw [if_neg hs3] at hF
        by_cases hs4 : a2 = 4
        · rw [if_pos hs4] at hF
          refine J.tswIn tk_Mod_mark 96 1 rfl rfl 4 hs4 (by decide) (by decide) rfl (by decide) ?_
          refine J.cpI tk_Mod_mark (as := [mR 30 0]) (rest := []) 1 rfl rfl rfl (ckV (md' := md_Mod_snorers) lk_6_216 ok_Mod_snorers rfl rfl rfl) rfl (by decide) (fun v1 h => c_Mod_snorers n _ _ h) hF (fun v9 hF => ?_)
          exact J.wsI hF (J.reti tk_Mod_mark 0 rfl rfl rfl)
        rw [if_neg hs4] at hF
        refine J.tswOut tk_Mod_mark 101 1 rfl rfl (by have z0 := lv_neT hs1 (a := 1) (by decide); have z1 := lv_neT hs2 (a := 2) (by decide); have z2 := lv_neT hs3 (a := 3) (by decide); have z3 := lv_neT hs4 (a := 4) (by decide); omega) (by decide) ?_
        refine J.cpI tk_Mod_mark (as := [mI (σ4.1 30 0 22)]) (rest := []) 2 rfl rfl rfl (ckS (md' := md_Mod_bits) lk_6_219 ok_Mod_bits rfl) rfl (by decide) (fun v1 h => c_Mod_bits n _ _ _ h) hF (fun v10 hF => ?_)
        exact J.wsI hF (J.reti tk_Mod_mark 0 rfl rfl rfl)
      · refine J.csI tk_Mod_mark (as := [mR 30 0, mI 3]) (rest := []) 2 rfl rfl rfl (ckV (md' := md_Mod_find) lk_6_84 ok_Mod_find rfl rfl rfl) rfl (by decide) (fun v1 s1 h => c_Mod_find _ _ (v1, s1) h) hF (fun v11 σ12 hF => ?_)
        exact J.wsI hF (J.reti tk_Mod_mark 0 rfl rfl rfl)
    · exact J.wsI hF (J.reti tk_Mod_mark 1 rfl rfl rfl)
noncomputable def F_Mod_vent (a1 : Int32) (σ : St) : Option (Int32 × St) :=
  (F_Mod_in a1.toInt64 0 1).bind fun v1 =>
  if v1 = 0 then
    some ((-1), σ)
  else
  if σ.1 30 0 1 = 0 then
    some ((-4), σ)
  else
  (ald σ 31 0 11).bind fun v2 =>
  (ast σ 31 0 11 a1).bind fun σ3 =>
  some (v2, σ3)
theorem c_Mod_vent (a1 : Int32) (σ : St) (w : (Int32 × St)) (hF : F_Mod_vent a1 σ = some w) : Call md_Mod_vent 1 [mR 30 0, mI a1] σ (some (mI w.1)) w.2 := by
  rw [F_Mod_vent] at hF
  refine Call.of ok_Mod_vent.1 (Nat.le_of_ble_eq_true rfl) (L := [some (mR 30 0), some (mI a1), none]) rfl ?_
  refine J.cpI tk_Mod_vent (as := [mL a1.toInt64, mL 0, mL 1]) (rest := []) 4 rfl rfl rfl (ckS (md' := md_Mod_in) lk_6_74 ok_Mod_in rfl) rfl (by decide) (fun v1 h => c_Mod_in _ _ _ _ _ h) hF (fun v1 hF => ?_)
  refine J.if_ne tk_Mod_vent 0 rfl rfl hF (fun hF => ?_) (fun hF => ?_)
  · refine J.if_ne tk_Mod_vent 2 rfl rfl hF (fun hF => ?_) (fun hF => ?_)
    · refine J.iald tk_Mod_vent 3 rfl rfl hF (fun v2 hF => ?_)
      refine J.iast tk_Mod_vent 5 rfl rfl hF (fun σ3 hF => ?_)
      exact J.wsI hF (J.reti tk_Mod_vent 1 rfl rfl rfl)
    · exact J.wsI hF (J.reti tk_Mod_vent 1 rfl rfl rfl)
  · exact J.wsI hF (J.reti tk_Mod_vent 1 rfl rfl rfl)
noncomputable def F_Mod_bottle (a1 : Int32) (σ : St) : Option (Int32 × St) :=
  (F_Mod_in a1.toInt64 0 (((σ.1 30 0 1) - 1).toInt64)).bind fun v1 =>
  if v1 = 0 then
    some ((-1), σ)
  else
  (ald σ 31 0 12).bind fun v2 =>
  (ast σ 31 0 12 a1).bind fun σ3 =>
  some (v2, σ3)
theorem c_Mod_bottle (a1 : Int32) (σ : St) (w : (Int32 × St)) (hF : F_Mod_bottle a1 σ = some w) : Call md_Mod_bottle 1 [mR 30 0, mI a1] σ (some (mI w.1)) w.2 := by
  rw [F_Mod_bottle] at hF
  refine Call.of ok_Mod_bottle.1 (Nat.le_of_ble_eq_true rfl) (L := [some (mR 30 0), some (mI a1), none]) rfl ?_
  refine J.cpI tk_Mod_bottle (as := [mL a1.toInt64, mL 0, mL (((σ.1 30 0 1) - 1).toInt64)]) (rest := []) 8 rfl rfl rfl (ckS (md' := md_Mod_in) lk_6_74 ok_Mod_in rfl) rfl (by decide) (fun v1 h => c_Mod_in _ _ _ _ _ h) hF (fun v1 hF => ?_)
  refine J.if_ne tk_Mod_bottle 0 rfl rfl hF (fun hF => ?_) (fun hF => ?_)
  · refine J.iald tk_Mod_bottle 3 rfl rfl hF (fun v2 hF => ?_)
    refine J.iast tk_Mod_bottle 5 rfl rfl hF (fun σ3 hF => ?_)
    exact J.wsI hF (J.reti tk_Mod_bottle 1 rfl rfl rfl)
  · exact J.wsI hF (J.reti tk_Mod_bottle 1 rfl rfl rfl)
noncomputable def F_Mod_turns (a1 : Int32) (σ : St) : Option (Int32 × St) :=
  (F_Mod_in a1.toInt64 0 255).bind fun v1 =>
  if v1 = 0 then
    some ((-1), σ)
  else
  if σ.1 30 0 1 = 0 then
    some ((-4), σ)
  else
  (ald σ 31 0 13).bind fun v2 =>
  (ast σ 31 0 13 a1).bind fun σ3 =>
  some (v2, σ3)
theorem c_Mod_turns (a1 : Int32) (σ : St) (w : (Int32 × St)) (hF : F_Mod_turns a1 σ = some w) : Call md_Mod_turns 1 [mR 30 0, mI a1] σ (some (mI w.1)) w.2 := by
  rw [F_Mod_turns] at hF
  refine Call.of ok_Mod_turns.1 (Nat.le_of_ble_eq_true rfl) (L := [some (mR 30 0), some (mI a1), none]) rfl ?_
  refine J.cpI tk_Mod_turns (as := [mL a1.toInt64, mL 0, mL 255]) (rest := []) 4 rfl rfl rfl (ckS (md' := md_Mod_in) lk_6_74 ok_Mod_in rfl) rfl (by decide) (fun v1 h => c_Mod_in _ _ _ _ _ h) hF (fun v1 hF => ?_)
  refine J.if_ne tk_Mod_turns 0 rfl rfl hF (fun hF => ?_) (fun hF => ?_)
  · refine J.if_ne tk_Mod_turns 2 rfl rfl hF (fun hF => ?_) (fun hF => ?_)
    · refine J.iald tk_Mod_turns 3 rfl rfl hF (fun v2 hF => ?_)
      refine J.iast tk_Mod_turns 5 rfl rfl hF (fun σ3 hF => ?_)
      exact J.wsI hF (J.reti tk_Mod_turns 1 rfl rfl rfl)
    · exact J.wsI hF (J.reti tk_Mod_turns 1 rfl rfl rfl)
  · exact J.wsI hF (J.reti tk_Mod_turns 1 rfl rfl rfl)
noncomputable def F_Mod_swap (a1 : Int32) (a2 : Int32) (σ : St) : Option St :=
  (ald σ 31 0 a1).bind fun v1 =>
  (ald σ 31 0 a2).bind fun v2 =>
  (ast σ 31 0 a1 v2).bind fun σ3 =>
  (ast σ3 31 0 a2 v1).bind fun σ4 =>
  some σ4
theorem c_Mod_swap (a1 : Int32) (a2 : Int32) (σ : St) (w : St) (hF : F_Mod_swap a1 a2 σ = some w) : Call md_Mod_swap 0 [mR 30 0, mI a1, mI a2] σ none w := by
  rw [F_Mod_swap] at hF
  refine Call.of ok_Mod_swap.1 (Nat.le_of_ble_eq_true rfl) (L := [some (mR 30 0), some (mI a1), some (mI a2), none]) rfl ?_
  refine J.iald tk_Mod_swap 3 rfl rfl hF (fun v1 hF => ?_)
  refine J.iald tk_Mod_swap 7 rfl rfl hF (fun v2 hF => ?_)
  refine J.iast tk_Mod_swap 0 rfl rfl hF (fun σ3 hF => ?_)
  refine J.iast tk_Mod_swap 4 rfl rfl hF (fun σ4 hF => ?_)
  exact J.wsV hF (J.retv tk_Mod_swap 0 rfl rfl rfl)
noncomputable def F_Mod_change (n : Nat) (a1 : Int32) (a2 : Int32) (σ : St) : Option (Int32 × St) :=
  (F_Mod_isSleeper a1 σ).bind fun v1 =>
  if v1 = 0 then
    some ((-1), σ)
  else
  (F_Mod_isSleeper a2 σ).bind fun v2 =>
  if v2 = 0 then
    some ((-1), σ)
  else
  (F_Mod_layNow n σ).bind fun σ3 =>
  (F_Mod_placeOf n a2 σ3).bind fun v4 =>
  (F_Mod_placeOf n a1 σ3).bind fun v5 =>
  (F_Mod_swap (1 + v5) (1 + v4) σ3).bind fun σ6 =>
  some (v4, σ6)
theorem c_Mod_change (n : Nat) (a1 : Int32) (a2 : Int32) (σ : St) (w : (Int32 × St)) (hF : F_Mod_change n a1 a2 σ = some w) : Call md_Mod_change 2 [mR 30 0, mI a1, mI a2] σ (some (mI w.1)) w.2 := by
  rw [F_Mod_change] at hF
  refine Call.of ok_Mod_change.1 (Nat.le_of_ble_eq_true rfl) (L := [some (mR 30 0), some (mI a1), some (mI a2), none]) rfl ?_
  refine J.cpI tk_Mod_change (as := [mR 30 0, mI a1]) (rest := []) 2 rfl rfl rfl (ckV (md' := md_Mod_isSleeper) lk_6_198 ok_Mod_isSleeper rfl rfl rfl) rfl (by decide) (fun v1 h => c_Mod_isSleeper _ _ _ h) hF (fun v1 hF => ?_)
  refine J.if_eq tk_Mod_change 0 rfl rfl hF (fun hF => ?_) (fun hF => ?_)
  · exact J.wsI hF (J.reti tk_Mod_change 1 rfl rfl rfl)
  · refine J.cpI tk_Mod_change (as := [mR 30 0, mI a2]) (rest := []) 2 rfl rfl rfl (ckV (md' := md_Mod_isSleeper) lk_6_198 ok_Mod_isSleeper rfl rfl rfl) rfl (by decide) (fun v1 h => c_Mod_isSleeper _ _ _ h) hF (fun v2 hF => ?_)
    refine J.if_ne tk_Mod_change 0 rfl rfl hF (fun hF => ?_) (fun hF => ?_)
    · refine J.csV tk_Mod_change (as := [mR 30 0]) (rest := []) 1 rfl rfl rfl (ckV (md' := md_Mod_layNow) lk_6_204 ok_Mod_layNow rfl rfl rfl) rfl (by decide) (fun s1 h => c_Mod_layNow n _ _ h) hF (fun σ3 hF => ?_)
      refine J.cpI tk_Mod_change (as := [mR 30 0, mI a2]) (rest := []) 2 rfl rfl rfl (ckV (md' := md_Mod_placeOf) lk_6_158 ok_Mod_placeOf rfl rfl rfl) rfl (by decide) (fun v1 h => c_Mod_placeOf n _ _ _ h) hF (fun v4 hF => ?_)
      refine J.cpI tk_Mod_change (as := [mR 30 0, mI a1]) (rest := [mI 1, mR 30 0]) 5 rfl rfl rfl (ckV (md' := md_Mod_placeOf) lk_6_158 ok_Mod_placeOf rfl rfl rfl) rfl (by decide) (fun v1 h => c_Mod_placeOf n _ _ _ h) hF (fun v5 hF => ?_)
      refine J.csV tk_Mod_change (as := [mR 30 0, mI (1 + v5), mI (1 + v4)]) (rest := []) 4 rfl rfl rfl (ckV (md' := md_Mod_swap) lk_6_224 ok_Mod_swap rfl rfl rfl) rfl (by decide) (fun s1 h => c_Mod_swap _ _ _ _ h) hF (fun σ6 hF => ?_)
      exact J.wsI hF (J.reti tk_Mod_change 1 rfl rfl rfl)
    · exact J.wsI hF (J.reti tk_Mod_change 1 rfl rfl rfl)
noncomputable def F_Mod_bags (a1 : Int32) (a2 : Int32) (σ : St) : Option (Int32 × St) :=
  (F_Mod_isSleeper a1 σ).bind fun v1 =>
  if v1 = 0 then
    some ((-1), σ)
  else
  (F_Mod_isSleeper a2 σ).bind fun v2 =>
  if v2 = 0 then
    some ((-1), σ)
  else
  (F_Mod_swap (6 + a1) (6 + a2) σ).bind fun σ3 =>
  (ald σ3 31 0 (6 + a1)).bind fun v4 =>
  some (v4, σ3)
theorem c_Mod_bags (a1 : Int32) (a2 : Int32) (σ : St) (w : (Int32 × St)) (hF : F_Mod_bags a1 a2 σ = some w) : Call md_Mod_bags 2 [mR 30 0, mI a1, mI a2] σ (some (mI w.1)) w.2 := by
  rw [F_Mod_bags] at hF
  refine Call.of ok_Mod_bags.1 (Nat.le_of_ble_eq_true rfl) (L := [some (mR 30 0), some (mI a1), some (mI a2)]) rfl ?_
  refine J.cpI tk_Mod_bags (as := [mR 30 0, mI a1]) (rest := []) 2 rfl rfl rfl (ckV (md' := md_Mod_isSleeper) lk_6_198 ok_Mod_isSleeper rfl rfl rfl) rfl (by decide) (fun v1 h => c_Mod_isSleeper _ _ _ h) hF (fun v1 hF => ?_)
  refine J.if_eq tk_Mod_bags 0 rfl rfl hF (fun hF => ?_) (fun hF => ?_)
  · exact J.wsI hF (J.reti tk_Mod_bags 1 rfl rfl rfl)
  · refine J.cpI tk_Mod_bags (as := [mR 30 0, mI a2]) (rest := []) 2 rfl rfl rfl (ckV (md' := md_Mod_isSleeper) lk_6_198 ok_Mod_isSleeper rfl rfl rfl) rfl (by decide) (fun v1 h => c_Mod_isSleeper _ _ _ h) hF (fun v2 hF => ?_)
    refine J.if_ne tk_Mod_bags 0 rfl rfl hF (fun hF => ?_) (fun hF => ?_)
    · refine J.csV tk_Mod_bags (as := [mR 30 0, mI (6 + a1), mI (6 + a2)]) (rest := []) 7 rfl rfl rfl (ckV (md' := md_Mod_swap) lk_6_224 ok_Mod_swap rfl rfl rfl) rfl (by decide) (fun s1 h => c_Mod_swap _ _ _ _ h) hF (fun σ3 hF => ?_)
      refine J.iald tk_Mod_bags 5 rfl rfl hF (fun v4 hF => ?_)
      exact J.wsI hF (J.reti tk_Mod_bags 0 rfl rfl rfl)
    · exact J.wsI hF (J.reti tk_Mod_bags 1 rfl rfl rfl)
noncomputable def F_Mod_isOrder_43 (n : Nat) (K4 : Int32 → Int32 → Int32 → St → Option Int32) (l1 : Int32) (l3 : Int32) (s0 : Int32) (s1 : Int32) (σ : St) : Option Int32 :=
  K4 l1 (s0 ||| s1) (l3 + 1) σ
noncomputable def F_Mod_isOrder_4 (n : Nat) : Nat → Int32 → Int32 → Int32 → St → Option Int32
  | 0, _, _, _, _ => none
  | k + 1, l1, l2, l3, σ =>
    if σ.1 30 0 1 ≤ l3 then
      if l2 = ((1 <<< ((σ.1 30 0 1) &&& 31)) - 1) then
        some 1
      else
      some 0
    else
    (ald σ 36 0 ((40 * l1) + l3)).bind fun v1 =>
    (F_Mod_isSleeper v1 σ).bind fun v2 =>
    F_Mod_isOrder_43 n (F_Mod_isOrder_4 n k) l1 l3 l2 (if v2 = 0 then 0 else 1 <<< (v1 &&& 31)) σ
noncomputable def F_Mod_isOrder (n : Nat) (a1 : Int32) (σ : St) : Option Int32 :=
  F_Mod_isOrder_4 n n a1 0 0 σ
theorem h_Mod_isOrder_43 (n : Nat) (w : Int32) (K4 : Int32 → Int32 → Int32 → St → Option Int32) (hK4 : ∀ (l1 : Int32) (l2 : Int32) (l3 : Int32) (σ : St), K4 l1 l2 l3 σ = some w → J md_Mod_isOrder 2 4 [some (mR 30 0), some (mI l1), some (mI l2), some (mI l3), none] [] σ (some (mI w)) σ) (l1 : Int32) (l3 : Int32) (s0 : Int32) (s1 : Int32) (σ : St) (hF : F_Mod_isOrder_43 n K4 l1 l3 s0 s1 σ = some w) : J md_Mod_isOrder 2 43 [some (mR 30 0), some (mI l1), none, some (mI l3), none] [mI s1, mI s0] σ (some (mI w)) σ := by
  rw [F_Mod_isOrder_43] at hF
  exact J.run tk_Mod_isOrder 4 rfl (hK4 _ _ _ _ hF)
theorem h_Mod_isOrder_4 (n : Nat) (w : Int32) : ∀ (k : Nat) (l1 : Int32) (l2 : Int32) (l3 : Int32) (σ : St), F_Mod_isOrder_4 n k l1 l2 l3 σ = some w → J md_Mod_isOrder 2 4 [some (mR 30 0), some (mI l1), some (mI l2), some (mI l3), none] [] σ (some (mI w)) σ := by
  intro k
  induction k with
  | zero => intro l1 l2 l3 σ hF; exact no_s hF
  | succ k ih =>
    intro l1 l2 l3 σ hF
    rw [F_Mod_isOrder_4] at hF
    refine J.icmp_ge tk_Mod_isOrder 3 rfl rfl hF (fun hF => ?_) (fun hF => ?_)
    · refine J.icmp_ne tk_Mod_isOrder 7 rfl rfl hF (fun hF => ?_) (fun hF => ?_)
      · exact J.wI hF (J.retz tk_Mod_isOrder 1 rfl rfl rfl rfl)
      · exact J.wI hF (J.retz tk_Mod_isOrder 2 rfl rfl rfl rfl)
    · refine J.iald tk_Mod_isOrder 7 rfl rfl hF (fun v1 hF => ?_)
      refine J.cpI tk_Mod_isOrder (as := [mR 30 0, mI v1]) (rest := [mI l2]) 4 rfl rfl rfl (ckV (md' := md_Mod_isSleeper) lk_6_198 ok_Mod_isSleeper rfl rfl rfl) rfl (by decide) (fun v1 h => c_Mod_isSleeper _ _ _ h) hF (fun v2 hF => ?_)
      by_cases hc : v2 = 0
      · simp only [if_pos hc] at hF
        exact J.if_eqT' tk_Mod_isOrder 0 rfl rfl hc (J.run tk_Mod_isOrder 1 rfl (J.fgt [true, true, false, true, false] (h_Mod_isOrder_43 n w (F_Mod_isOrder_4 n k) ih _ _ _ _ _ hF)))
      · simp only [if_neg hc] at hF
        exact J.if_eqF' tk_Mod_isOrder 0 rfl rfl hc (J.run tk_Mod_isOrder 4 rfl (J.fgt [true, true, false, true, false] (h_Mod_isOrder_43 n w (F_Mod_isOrder_4 n k) ih _ _ _ _ _ hF)))
theorem c_Mod_isOrder (n : Nat) (a1 : Int32) (σ : St) (w : Int32) (hF : F_Mod_isOrder n a1 σ = some w) : Call md_Mod_isOrder 2 [mR 30 0, mI a1] σ (some (mI w)) σ := by
  rw [F_Mod_isOrder] at hF
  refine Call.of ok_Mod_isOrder.1 (Nat.le_of_ble_eq_true rfl) (L := [some (mR 30 0), some (mI a1), none, none, none]) rfl ?_
  exact J.run tk_Mod_isOrder 4 rfl (h_Mod_isOrder_4 n w n _ _ _ _ hF)
noncomputable def F_Mod_lie_69 (n : Nat) : Nat → Int32 → Int32 → St → Option (Int32 × St)
  | 0, _, _, _ => none
  | k + 1, l1, l2, σ =>
    if σ.1 30 0 1 ≤ l2 then
      some (1, σ)
    else
    (ald σ 36 0 ((40 * l1) + l2)).bind fun v5 =>
    (ast σ 31 0 (1 + l2) v5).bind fun σ6 =>
    (F_Mod_lie_69 n k) l1 (l2 + 1) σ6
noncomputable def F_Mod_lie (n : Nat) (a1 : Int32) (σ : St) : Option (Int32 × St) :=
  (F_Mod_isRow a1).bind fun v1 =>
  if v1 = 0 then
    some ((-1), σ)
  else
  if σ.1 30 0 1 = 0 then
    some ((-4), σ)
  else
  (ald σ 35 0 a1).bind fun v2 =>
  if 0 ≤ v2 then
    (ald σ 35 0 a1).bind fun v3 =>
    if v3 = σ.1 30 0 1 then
      (F_Mod_isOrder n a1 σ).bind fun v4 =>
      if v4 = 0 then
        b2 (F_Mod_find 3 σ) fun v7 σ8 =>
        some (v7, σ8)
      else
      F_Mod_lie_69 n n a1 0 σ
    else
    b2 (F_Mod_find 5 σ) fun v9 σ10 =>
    some (v9, σ10)
  else
  b2 (F_Mod_find 1 σ) fun v11 σ12 =>
  some (v11, σ12)
theorem h_Mod_lie_69 (n : Nat) (w : (Int32 × St)) : ∀ (k : Nat) (l1 : Int32) (l2 : Int32) (σ : St), F_Mod_lie_69 n k l1 l2 σ = some w → J md_Mod_lie 3 69 [some (mR 30 0), some (mI l1), some (mI l2)] [] σ (some (mI w.1)) w.2 := by
  intro k
  induction k with
  | zero => intro l1 l2 σ hF; exact no_s hF
  | succ k ih =>
    intro l1 l2 σ hF
    rw [F_Mod_lie_69] at hF
    refine J.icmp_ge tk_Mod_lie 3 rfl rfl hF (fun hF => ?_) (fun hF => ?_)
    · exact J.wsI hF (J.reti tk_Mod_lie 1 rfl rfl rfl)
    · refine J.iald tk_Mod_lie 12 rfl rfl hF (fun v5 hF => ?_)
      refine J.iast tk_Mod_lie 0 rfl rfl hF (fun σ6 hF => ?_)
      exact J.run tk_Mod_lie 2 rfl (ih _ _ _ hF)
theorem c_Mod_lie (n : Nat) (a1 : Int32) (σ : St) (w : (Int32 × St)) (hF : F_Mod_lie n a1 σ = some w) : Call md_Mod_lie 3 [mR 30 0, mI a1] σ (some (mI w.1)) w.2 := by
  rw [F_Mod_lie] at hF
  refine Call.of ok_Mod_lie.1 (Nat.le_of_ble_eq_true rfl) (L := [some (mR 30 0), some (mI a1), none]) rfl ?_
  refine J.cpI tk_Mod_lie (as := [mI a1]) (rest := []) 1 rfl rfl rfl (ckS (md' := md_Mod_isRow) lk_6_80 ok_Mod_isRow rfl) rfl (by decide) (fun v1 h => c_Mod_isRow _ _ _ h) hF (fun v1 hF => ?_)
  refine J.if_ne tk_Mod_lie 0 rfl rfl hF (fun hF => ?_) (fun hF => ?_)
  · refine J.if_ne tk_Mod_lie 2 rfl rfl hF (fun hF => ?_) (fun hF => ?_)
    · refine J.iald tk_Mod_lie 3 rfl rfl hF (fun v2 hF => ?_)
      refine J.if_ge tk_Mod_lie 0 rfl rfl hF (fun hF => ?_) (fun hF => ?_)
      · refine J.iald tk_Mod_lie 3 rfl rfl hF (fun v3 hF => ?_)
        refine J.icmp_eq tk_Mod_lie 2 rfl rfl hF (fun hF => ?_) (fun hF => ?_)
        · refine J.cpI tk_Mod_lie (as := [mR 30 0, mI a1]) (rest := []) 2 rfl rfl rfl (ckV (md' := md_Mod_isOrder) lk_6_227 ok_Mod_isOrder rfl rfl rfl) rfl (by decide) (fun v1 h => c_Mod_isOrder n _ _ _ h) hF (fun v4 hF => ?_)
          refine J.if_ne tk_Mod_lie 0 rfl rfl hF (fun hF => ?_) (fun hF => ?_)
          · exact J.run tk_Mod_lie 2 rfl (h_Mod_lie_69 n w n _ _ _ hF)
          · refine J.csI tk_Mod_lie (as := [mR 30 0, mI 3]) (rest := []) 2 rfl rfl rfl (ckV (md' := md_Mod_find) lk_6_84 ok_Mod_find rfl rfl rfl) rfl (by decide) (fun v1 s1 h => c_Mod_find _ _ (v1, s1) h) hF (fun v7 σ8 hF => ?_)
            exact J.wsI hF (J.reti tk_Mod_lie 0 rfl rfl rfl)
        · refine J.csI tk_Mod_lie (as := [mR 30 0, mI 5]) (rest := []) 2 rfl rfl rfl (ckV (md' := md_Mod_find) lk_6_84 ok_Mod_find rfl rfl rfl) rfl (by decide) (fun v1 s1 h => c_Mod_find _ _ (v1, s1) h) hF (fun v9 σ10 hF => ?_)
          exact J.wsI hF (J.reti tk_Mod_lie 0 rfl rfl rfl)
      · refine J.csI tk_Mod_lie (as := [mR 30 0, mI 1]) (rest := []) 2 rfl rfl rfl (ckV (md' := md_Mod_find) lk_6_84 ok_Mod_find rfl rfl rfl) rfl (by decide) (fun v1 s1 h => c_Mod_find _ _ (v1, s1) h) hF (fun v11 σ12 hF => ?_)
        exact J.wsI hF (J.reti tk_Mod_lie 0 rfl rfl rfl)
    · exact J.wsI hF (J.reti tk_Mod_lie 1 rfl rfl rfl)
  · exact J.wsI hF (J.reti tk_Mod_lie 1 rfl rfl rfl)
noncomputable def F_Mod_isRim (a1 : Int32) (σ : St) : Option Int32 :=
  if a1 = 0 then
    some 1
  else
  if a1 = ((σ.1 30 0 1) - 1) then
    some 1
  else
  some 0
theorem c_Mod_isRim (a1 : Int32) (σ : St) (w : Int32) (hF : F_Mod_isRim a1 σ = some w) : Call md_Mod_isRim 0 [mR 30 0, mI a1] σ (some (mI w)) σ := by
  rw [F_Mod_isRim] at hF
  refine Call.of ok_Mod_isRim.1 (Nat.le_of_ble_eq_true rfl) (L := [some (mR 30 0), some (mI a1)]) rfl ?_
  refine J.if_eq tk_Mod_isRim 1 rfl rfl hF (fun hF => ?_) (fun hF => ?_)
  · exact J.wI hF (J.retz tk_Mod_isRim 2 rfl rfl rfl rfl)
  · refine J.icmp_ne tk_Mod_isRim 5 rfl rfl hF (fun hF => ?_) (fun hF => ?_)
    · exact J.wI hF (J.retz tk_Mod_isRim 1 rfl rfl rfl rfl)
    · exact J.wI hF (J.retz tk_Mod_isRim 2 rfl rfl rfl rfl)
noncomputable def F_Mod_feelsIn_136 (n : Nat) (l2 : Int32) (l3 : Int32) (l4 : Int32) (s0 : Int32) (σ : St) : Option Int32 :=
  if s0 = 0 then
    (F_Mod_isRim l3 σ).bind fun v7 =>
    if v7 = 0 then
      some (l4 - 0)
    else
    (dvI l2 2).bind fun v8 =>
    some (l4 - v8)
  else
  some (l4 - 2)
noncomputable def F_Mod_feelsIn_117 (n : Nat) (l2 : Int32) (l3 : Int32) (s0 : Int32) (s1 : Int32) (σ : St) : Option Int32 :=
  (ald σ 31 0 11).bind fun v6 =>
  F_Mod_feelsIn_136 n l2 l3 (s0 - s1) (if v6 = 1 then 1 else 0) σ
noncomputable def F_Mod_feelsIn_99 (n : Nat) (l2 : Int32) (l3 : Int32) (s0 : Int32) (s1 : Int32) (σ : St) : Option Int32 :=
  (F_Mod_isRim l3 σ).bind fun v5 =>
  F_Mod_feelsIn_117 n l2 l3 (s0 + s1) (if v5 = 0 then 0 else 2) σ
noncomputable def F_Mod_feelsIn_74 (n : Nat) (l2 : Int32) (l3 : Int32) (s0 : Int32) (s1 : Int32) (σ : St) : Option Int32 :=
  (rmI ((σ.1 30 0 23) + l2) (σ.1 30 0 1)).bind fun v4 =>
  F_Mod_feelsIn_99 n l2 l3 (s0 + s1) (if v4 = l3 then 3 else 0) σ
noncomputable def F_Mod_feelsIn_43 (n : Nat) (l2 : Int32) (l3 : Int32) (s0 : Int32) (s1 : Int32) (σ : St) : Option Int32 :=
  if ((σ.1 30 0 1) - 1) ≤ l3 then
    F_Mod_feelsIn_74 n l2 l3 (s0 + s1) 0 σ
  else
  (ald σ 42 0 (l3 + 1)).bind fun v9 =>
  (F_Mod_givesOf v9 σ).bind fun v10 =>
  F_Mod_feelsIn_74 n l2 l3 (s0 + s1) v10 σ
noncomputable def F_Mod_feelsIn (n : Nat) (a1 : Int32) (a2 : Int32) (σ : St) : Option Int32 :=
  (F_Mod_placeOf n a1 σ).bind fun v1 =>
  (ald σ 43 0 a1).bind fun v2 =>
  (ald σ 34 0 a2).bind fun v3 =>
  if v1 ≤ 0 then
    F_Mod_feelsIn_43 n a2 v1 (v2 - v3) 0 σ
  else
  (ald σ 42 0 (v1 - 1)).bind fun v11 =>
  (F_Mod_givesOf v11 σ).bind fun v12 =>
  F_Mod_feelsIn_43 n a2 v1 (v2 - v3) v12 σ
theorem h_Mod_feelsIn_136 (n : Nat) (w : Int32) (l2 : Int32) (l3 : Int32) (l4 : Int32) (s0 : Int32) (σ : St) (hF : F_Mod_feelsIn_136 n l2 l3 l4 s0 σ = some w) : J md_Mod_feelsIn 2 136 [some (mR 30 0), none, some (mI l2), some (mI l3), some (mI l4), none] [mI s0] σ (some (mI w)) σ := by
  rw [F_Mod_feelsIn_136] at hF
  refine J.if_eq tk_Mod_feelsIn 3 rfl rfl hF (fun hF => ?_) (fun hF => ?_)
  · refine J.cpI tk_Mod_feelsIn (as := [mR 30 0, mI l3]) (rest := [mI l4]) 2 rfl rfl rfl (ckV (md' := md_Mod_isRim) lk_6_164 ok_Mod_isRim rfl rfl rfl) rfl (by decide) (fun v1 h => c_Mod_isRim _ _ _ h) hF (fun v7 hF => ?_)
    refine J.if_eq tk_Mod_feelsIn 0 rfl rfl hF (fun hF => ?_) (fun hF => ?_)
    · exact J.wI hF (J.reti tk_Mod_feelsIn 2 rfl rfl rfl)
    · refine J.idiv tk_Mod_feelsIn 2 rfl rfl hF (fun v8 hF => ?_)
      exact J.wI hF (J.reti tk_Mod_feelsIn 2 rfl rfl rfl)
  · exact J.wI hF (J.reti tk_Mod_feelsIn 3 rfl rfl rfl)
theorem h_Mod_feelsIn_117 (n : Nat) (w : Int32) (l2 : Int32) (l3 : Int32) (s0 : Int32) (s1 : Int32) (σ : St) (hF : F_Mod_feelsIn_117 n l2 l3 s0 s1 σ = some w) : J md_Mod_feelsIn 2 117 [some (mR 30 0), none, some (mI l2), some (mI l3), none, none] [mI s1, mI s0] σ (some (mI w)) σ := by
  rw [F_Mod_feelsIn_117] at hF
  refine J.iald tk_Mod_feelsIn 5 rfl rfl hF (fun v6 hF => ?_)
  by_cases hc : v6 = 1
  · simp only [if_pos hc] at hF
    exact J.icmp_neF' tk_Mod_feelsIn 1 rfl rfl hc (J.run tk_Mod_feelsIn 2 rfl (h_Mod_feelsIn_136 n w _ _ _ _ _ hF))
  · simp only [if_neg hc] at hF
    exact J.icmp_neT' tk_Mod_feelsIn 1 rfl rfl hc (J.run tk_Mod_feelsIn 1 rfl (h_Mod_feelsIn_136 n w _ _ _ _ _ hF))
theorem h_Mod_feelsIn_99 (n : Nat) (w : Int32) (l2 : Int32) (l3 : Int32) (s0 : Int32) (s1 : Int32) (σ : St) (hF : F_Mod_feelsIn_99 n l2 l3 s0 s1 σ = some w) : J md_Mod_feelsIn 2 99 [some (mR 30 0), none, some (mI l2), some (mI l3), none, none] [mI s1, mI s0] σ (some (mI w)) σ := by
  rw [F_Mod_feelsIn_99] at hF
  refine J.cpI tk_Mod_feelsIn (as := [mR 30 0, mI l3]) (rest := [mI (s0 + s1)]) 5 rfl rfl rfl (ckV (md' := md_Mod_isRim) lk_6_164 ok_Mod_isRim rfl rfl rfl) rfl (by decide) (fun v1 h => c_Mod_isRim _ _ _ h) hF (fun v5 hF => ?_)
  by_cases hc : v5 = 0
  · simp only [if_pos hc] at hF
    exact J.if_eqT' tk_Mod_feelsIn 0 rfl rfl hc (J.run tk_Mod_feelsIn 1 rfl (J.fgt [true, false, true, true, false, false] (h_Mod_feelsIn_117 n w _ _ _ _ _ hF)))
  · simp only [if_neg hc] at hF
    exact J.if_eqF' tk_Mod_feelsIn 0 rfl rfl hc (J.run tk_Mod_feelsIn 2 rfl (J.fgt [true, false, true, true, false, false] (h_Mod_feelsIn_117 n w _ _ _ _ _ hF)))
theorem h_Mod_feelsIn_74 (n : Nat) (w : Int32) (l2 : Int32) (l3 : Int32) (s0 : Int32) (s1 : Int32) (σ : St) (hF : F_Mod_feelsIn_74 n l2 l3 s0 s1 σ = some w) : J md_Mod_feelsIn 2 74 [some (mR 30 0), none, some (mI l2), some (mI l3), none, none] [mI s1, mI s0] σ (some (mI w)) σ := by
  rw [F_Mod_feelsIn_74] at hF
  refine J.irem tk_Mod_feelsIn 9 rfl rfl hF (fun v4 hF => ?_)
  by_cases hc : v4 = l3
  · simp only [if_pos hc] at hF
    exact J.icmp_neF' tk_Mod_feelsIn 1 rfl rfl hc (J.run tk_Mod_feelsIn 2 rfl (J.fgt [true, false, true, true, false, false] (h_Mod_feelsIn_99 n w _ _ _ _ _ hF)))
  · simp only [if_neg hc] at hF
    exact J.icmp_neT' tk_Mod_feelsIn 1 rfl rfl hc (J.run tk_Mod_feelsIn 1 rfl (J.fgt [true, false, true, true, false, false] (h_Mod_feelsIn_99 n w _ _ _ _ _ hF)))
theorem h_Mod_feelsIn_43 (n : Nat) (w : Int32) (l2 : Int32) (l3 : Int32) (s0 : Int32) (s1 : Int32) (σ : St) (hF : F_Mod_feelsIn_43 n l2 l3 s0 s1 σ = some w) : J md_Mod_feelsIn 2 43 [some (mR 30 0), none, some (mI l2), some (mI l3), none, none] [mI s1, mI s0] σ (some (mI w)) σ := by
  rw [F_Mod_feelsIn_43] at hF
  refine J.icmp_ge tk_Mod_feelsIn 8 rfl rfl hF (fun hF => ?_) (fun hF => ?_)
  · exact J.run tk_Mod_feelsIn 1 rfl (J.fgt [true, false, true, true, false, false] (h_Mod_feelsIn_74 n w _ _ _ _ _ hF))
  · refine J.iald tk_Mod_feelsIn 6 rfl rfl hF (fun v9 hF => ?_)
    refine J.cpI tk_Mod_feelsIn (as := [mR 30 0, mI v9]) (rest := [mI (s0 + s1)]) 0 rfl rfl rfl (ckV (md' := md_Mod_givesOf) lk_6_161 ok_Mod_givesOf rfl rfl rfl) rfl (by decide) (fun v1 h => c_Mod_givesOf _ _ _ h) hF (fun v10 hF => ?_)
    exact J.run tk_Mod_feelsIn 1 rfl (J.fgt [true, false, true, true, false, false] (h_Mod_feelsIn_74 n w _ _ _ _ _ hF))
theorem c_Mod_feelsIn (n : Nat) (a1 : Int32) (a2 : Int32) (σ : St) (w : Int32) (hF : F_Mod_feelsIn n a1 a2 σ = some w) : Call md_Mod_feelsIn 2 [mR 30 0, mI a1, mI a2] σ (some (mI w)) σ := by
  rw [F_Mod_feelsIn] at hF
  refine Call.of ok_Mod_feelsIn.1 (Nat.le_of_ble_eq_true rfl) (L := [some (mR 30 0), some (mI a1), some (mI a2), none, none, none]) rfl ?_
  refine J.cpI tk_Mod_feelsIn (as := [mR 30 0, mI a1]) (rest := []) 2 rfl rfl rfl (ckV (md' := md_Mod_placeOf) lk_6_158 ok_Mod_placeOf rfl rfl rfl) rfl (by decide) (fun v1 h => c_Mod_placeOf n _ _ _ h) hF (fun v1 hF => ?_)
  refine J.iald tk_Mod_feelsIn 4 rfl rfl hF (fun v2 hF => ?_)
  refine J.iald tk_Mod_feelsIn 3 rfl rfl hF (fun v3 hF => ?_)
  refine J.if_le tk_Mod_feelsIn 4 rfl rfl hF (fun hF => ?_) (fun hF => ?_)
  · exact J.run tk_Mod_feelsIn 1 rfl (J.fgt [true, false, true, true, false, false] (h_Mod_feelsIn_43 n w _ _ _ _ _ hF))
  · refine J.iald tk_Mod_feelsIn 6 rfl rfl hF (fun v11 hF => ?_)
    refine J.cpI tk_Mod_feelsIn (as := [mR 30 0, mI v11]) (rest := [mI (v2 - v3)]) 0 rfl rfl rfl (ckV (md' := md_Mod_givesOf) lk_6_161 ok_Mod_givesOf rfl rfl rfl) rfl (by decide) (fun v1 h => c_Mod_givesOf _ _ _ h) hF (fun v12 hF => ?_)
    exact J.run tk_Mod_feelsIn 1 rfl (J.fgt [true, false, true, true, false, false] (h_Mod_feelsIn_43 n w _ _ _ _ _ hF))
noncomputable def F_Mod_has (a1 : Int32) (a2 : Int32) : Option Int32 :=
  if ((a1 >>> (a2 &&& 31)) &&& 1) = 1 then
    some 1
  else
  some 0
theorem c_Mod_has (a1 : Int32) (a2 : Int32) (σ : St) (w : Int32) (hF : F_Mod_has a1 a2 = some w) : Call md_Mod_has 0 [mI a1, mI a2] σ (some (mI w)) σ := by
  rw [F_Mod_has] at hF
  refine Call.of ok_Mod_has.1 (Nat.le_of_ble_eq_true rfl) (L := [some (mI a1), some (mI a2)]) rfl ?_
  refine J.icmp_ne tk_Mod_has 6 rfl rfl hF (fun hF => ?_) (fun hF => ?_)
  · exact J.wI hF (J.retz tk_Mod_has 1 rfl rfl rfl rfl)
  · exact J.wI hF (J.retz tk_Mod_has 2 rfl rfl rfl rfl)
noncomputable def F_Mod_hears (n : Nat) (a1 : Int32) (σ : St) : Option Int32 :=
  (F_Mod_kindOf a1 σ).bind fun v1 =>
  (F_Mod_hearsNone v1).bind fun v2 =>
  if v2 = 0 then
    (F_Mod_snorersNear n a1 σ).bind fun v3 =>
    if v3 ≤ 0 then
      some 0
    else
    some 1
  else
  some 0
theorem c_Mod_hears (n : Nat) (a1 : Int32) (σ : St) (w : Int32) (hF : F_Mod_hears n a1 σ = some w) : Call md_Mod_hears 3 [mR 30 0, mI a1] σ (some (mI w)) σ := by
  rw [F_Mod_hears] at hF
  refine Call.of ok_Mod_hears.1 (Nat.le_of_ble_eq_true rfl) (L := [some (mR 30 0), some (mI a1)]) rfl ?_
  refine J.cpI tk_Mod_hears (as := [mR 30 0, mI a1]) (rest := []) 2 rfl rfl rfl (ckV (md' := md_Mod_kindOf) lk_6_155 ok_Mod_kindOf rfl rfl rfl) rfl (by decide) (fun v1 h => c_Mod_kindOf _ _ _ h) hF (fun v1 hF => ?_)
  refine J.cpI tk_Mod_hears (as := [mI v1]) (rest := []) 0 rfl rfl rfl (ckS (md' := md_Mod_hearsNone) lk_6_174 ok_Mod_hearsNone rfl) rfl (by decide) (fun v1 h => c_Mod_hearsNone _ _ _ h) hF (fun v2 hF => ?_)
  refine J.if_ne tk_Mod_hears 0 rfl rfl hF (fun hF => ?_) (fun hF => ?_)
  · exact J.wI hF (J.retz tk_Mod_hears 1 rfl rfl rfl rfl)
  · refine J.cpI tk_Mod_hears (as := [mR 30 0, mI a1]) (rest := []) 2 rfl rfl rfl (ckV (md' := md_Mod_snorersNear) lk_6_177 ok_Mod_snorersNear rfl rfl rfl) rfl (by decide) (fun v1 h => c_Mod_snorersNear n _ _ _ h) hF (fun v3 hF => ?_)
    refine J.if_le tk_Mod_hears 0 rfl rfl hF (fun hF => ?_) (fun hF => ?_)
    · exact J.wI hF (J.retz tk_Mod_hears 1 rfl rfl rfl rfl)
    · exact J.wI hF (J.retz tk_Mod_hears 2 rfl rfl rfl rfl)
noncomputable def F_Mod_isSore_27 (n : Nat) (K4 : Int32 → Int32 → Int32 → St → Option Int32) (l1 : Int32) (l3 : Int32) (s0 : Int32) (σ : St) : Option Int32 :=
  K4 l1 s0 (l3 + 1) σ
noncomputable def F_Mod_isSore_4 (n : Nat) : Nat → Int32 → Int32 → Int32 → St → Option Int32
  | 0, _, _, _, _ => none
  | k + 1, l1, l2, l3, σ =>
    if l1 < l3 then
      if l2 < 3 then
        some 0
      else
      some 1
    else
    (F_Mod_has (σ.1 30 0 22) l3).bind fun v1 =>
    F_Mod_isSore_27 n (F_Mod_isSore_4 n k) l1 l3 (if v1 = 0 then l2 else l1 - l3) σ
noncomputable def F_Mod_isSore (n : Nat) (a1 : Int32) (σ : St) : Option Int32 :=
  F_Mod_isSore_4 n n a1 a1 0 σ
theorem h_Mod_isSore_27 (n : Nat) (w : Int32) (K4 : Int32 → Int32 → Int32 → St → Option Int32) (hK4 : ∀ (l1 : Int32) (l2 : Int32) (l3 : Int32) (σ : St), K4 l1 l2 l3 σ = some w → J md_Mod_isSore 1 4 [some (mR 30 0), some (mI l1), some (mI l2), some (mI l3)] [] σ (some (mI w)) σ) (l1 : Int32) (l3 : Int32) (s0 : Int32) (σ : St) (hF : F_Mod_isSore_27 n K4 l1 l3 s0 σ = some w) : J md_Mod_isSore 1 27 [some (mR 30 0), some (mI l1), none, some (mI l3)] [mI s0] σ (some (mI w)) σ := by
  rw [F_Mod_isSore_27] at hF
  exact J.run tk_Mod_isSore 3 rfl (hK4 _ _ _ _ hF)
theorem h_Mod_isSore_4 (n : Nat) (w : Int32) : ∀ (k : Nat) (l1 : Int32) (l2 : Int32) (l3 : Int32) (σ : St), F_Mod_isSore_4 n k l1 l2 l3 σ = some w → J md_Mod_isSore 1 4 [some (mR 30 0), some (mI l1), some (mI l2), some (mI l3)] [] σ (some (mI w)) σ := by
  intro k
  induction k with
  | zero => intro l1 l2 l3 σ hF; exact no_s hF
  | succ k ih =>
    intro l1 l2 l3 σ hF
    rw [F_Mod_isSore_4] at hF
    refine J.icmp_gt tk_Mod_isSore 2 rfl rfl hF (fun hF => ?_) (fun hF => ?_)
    · refine J.icmp_lt tk_Mod_isSore 2 rfl rfl hF (fun hF => ?_) (fun hF => ?_)
      · exact J.wI hF (J.retz tk_Mod_isSore 1 rfl rfl rfl rfl)
      · exact J.wI hF (J.retz tk_Mod_isSore 2 rfl rfl rfl rfl)
    · refine J.cpI tk_Mod_isSore (as := [mI (σ.1 30 0 22), mI l3]) (rest := []) 3 rfl rfl rfl (ckS (md' := md_Mod_has) lk_6_180 ok_Mod_has rfl) rfl (by decide) (fun v1 h => c_Mod_has _ _ _ _ h) hF (fun v1 hF => ?_)
      by_cases hc : v1 = 0
      · simp only [if_pos hc] at hF
        exact J.if_eqT' tk_Mod_isSore 0 rfl rfl hc (J.run tk_Mod_isSore 1 rfl (J.fgt [true, true, false, true] (h_Mod_isSore_27 n w (F_Mod_isSore_4 n k) ih _ _ _ _ hF)))
      · simp only [if_neg hc] at hF
        exact J.if_eqF' tk_Mod_isSore 0 rfl rfl hc (J.run tk_Mod_isSore 4 rfl (J.fgt [true, true, false, true] (h_Mod_isSore_27 n w (F_Mod_isSore_4 n k) ih _ _ _ _ hF)))
theorem c_Mod_isSore (n : Nat) (a1 : Int32) (σ : St) (w : Int32) (hF : F_Mod_isSore n a1 σ = some w) : Call md_Mod_isSore 1 [mR 30 0, mI a1] σ (some (mI w)) σ := by
  rw [F_Mod_isSore] at hF
  refine Call.of ok_Mod_isSore.1 (Nat.le_of_ble_eq_true rfl) (L := [some (mR 30 0), some (mI a1), none, none]) rfl ?_
  exact J.run tk_Mod_isSore 4 rfl (h_Mod_isSore_4 n w n _ _ _ _ hF)
noncomputable def F_Mod_whyNot_45 (n : Nat) (l1 : Int32) (l2 : Int32) (s0 : Int32) (s1 : Int32) (σ : St) : Option Int32 :=
  (F_Mod_has (σ.1 30 0 22) l2).bind fun v4 =>
  if v4 = 0 then
    some ((s0 + s1) + 0)
  else
  (F_Mod_kindOf l1 σ).bind fun v5 =>
  if v5 = 5 then
    some ((s0 + s1) + 0)
  else
  some ((s0 + s1) + 8)
noncomputable def F_Mod_whyNot_29 (n : Nat) (l1 : Int32) (l2 : Int32) (s0 : Int32) (s1 : Int32) (σ : St) : Option Int32 :=
  (F_Mod_isSore n l2 σ).bind fun v3 =>
  F_Mod_whyNot_45 n l1 l2 (s0 + s1) (if v3 = 0 then 0 else 4) σ
noncomputable def F_Mod_whyNot_14 (n : Nat) (l1 : Int32) (l2 : Int32) (s0 : Int32) (σ : St) : Option Int32 :=
  (F_Mod_hears n l1 σ).bind fun v2 =>
  F_Mod_whyNot_29 n l1 l2 s0 (if v2 = 0 then 0 else 2) σ
noncomputable def F_Mod_whyNot (n : Nat) (a1 : Int32) (a2 : Int32) (σ : St) : Option Int32 :=
  (F_Mod_feelsIn n a1 a2 σ).bind fun v1 =>
  F_Mod_whyNot_14 n a1 a2 (if 0 ≤ v1 then 0 else 1) σ
theorem h_Mod_whyNot_45 (n : Nat) (w : Int32) (l1 : Int32) (l2 : Int32) (s0 : Int32) (s1 : Int32) (σ : St) (hF : F_Mod_whyNot_45 n l1 l2 s0 s1 σ = some w) : J md_Mod_whyNot 4 45 [some (mR 30 0), some (mI l1), some (mI l2), none] [mI s1, mI s0] σ (some (mI w)) σ := by
  rw [F_Mod_whyNot_45] at hF
  refine J.cpI tk_Mod_whyNot (as := [mI (σ.1 30 0 22), mI l2]) (rest := [mI (s0 + s1)]) 6 rfl rfl rfl (ckS (md' := md_Mod_has) lk_6_180 ok_Mod_has rfl) rfl (by decide) (fun v1 h => c_Mod_has _ _ _ _ h) hF (fun v4 hF => ?_)
  refine J.if_eq tk_Mod_whyNot 0 rfl rfl hF (fun hF => ?_) (fun hF => ?_)
  · exact J.wI hF (J.reti tk_Mod_whyNot 2 rfl rfl rfl)
  · refine J.cpI tk_Mod_whyNot (as := [mR 30 0, mI l1]) (rest := [mI (s0 + s1)]) 2 rfl rfl rfl (ckV (md' := md_Mod_kindOf) lk_6_155 ok_Mod_kindOf rfl rfl rfl) rfl (by decide) (fun v1 h => c_Mod_kindOf _ _ _ h) hF (fun v5 hF => ?_)
    refine J.icmp_eq tk_Mod_whyNot 1 rfl rfl hF (fun hF => ?_) (fun hF => ?_)
    · exact J.wI hF (J.reti tk_Mod_whyNot 2 rfl rfl rfl)
    · exact J.wI hF (J.reti tk_Mod_whyNot 3 rfl rfl rfl)
theorem h_Mod_whyNot_29 (n : Nat) (w : Int32) (l1 : Int32) (l2 : Int32) (s0 : Int32) (s1 : Int32) (σ : St) (hF : F_Mod_whyNot_29 n l1 l2 s0 s1 σ = some w) : J md_Mod_whyNot 4 29 [some (mR 30 0), some (mI l1), some (mI l2), none] [mI s1, mI s0] σ (some (mI w)) σ := by
  rw [F_Mod_whyNot_29] at hF
  refine J.cpI tk_Mod_whyNot (as := [mR 30 0, mI l2]) (rest := [mI (s0 + s1)]) 5 rfl rfl rfl (ckV (md' := md_Mod_isSore) lk_6_189 ok_Mod_isSore rfl rfl rfl) rfl (by decide) (fun v1 h => c_Mod_isSore n _ _ _ h) hF (fun v3 hF => ?_)
  by_cases hc : v3 = 0
  · simp only [if_pos hc] at hF
    exact J.if_eqT' tk_Mod_whyNot 0 rfl rfl hc (J.run tk_Mod_whyNot 1 rfl (J.fgt [true, true, true, false] (h_Mod_whyNot_45 n w _ _ _ _ _ hF)))
  · simp only [if_neg hc] at hF
    exact J.if_eqF' tk_Mod_whyNot 0 rfl rfl hc (J.run tk_Mod_whyNot 2 rfl (J.fgt [true, true, true, false] (h_Mod_whyNot_45 n w _ _ _ _ _ hF)))
theorem h_Mod_whyNot_14 (n : Nat) (w : Int32) (l1 : Int32) (l2 : Int32) (s0 : Int32) (σ : St) (hF : F_Mod_whyNot_14 n l1 l2 s0 σ = some w) : J md_Mod_whyNot 4 14 [some (mR 30 0), some (mI l1), some (mI l2), none] [mI s0] σ (some (mI w)) σ := by
  rw [F_Mod_whyNot_14] at hF
  refine J.cpI tk_Mod_whyNot (as := [mR 30 0, mI l1]) (rest := [mI s0]) 4 rfl rfl rfl (ckV (md' := md_Mod_hears) lk_6_186 ok_Mod_hears rfl rfl rfl) rfl (by decide) (fun v1 h => c_Mod_hears n _ _ _ h) hF (fun v2 hF => ?_)
  by_cases hc : v2 = 0
  · simp only [if_pos hc] at hF
    exact J.if_eqT' tk_Mod_whyNot 0 rfl rfl hc (J.run tk_Mod_whyNot 1 rfl (J.fgt [true, true, true, false] (h_Mod_whyNot_29 n w _ _ _ _ _ hF)))
  · simp only [if_neg hc] at hF
    exact J.if_eqF' tk_Mod_whyNot 0 rfl rfl hc (J.run tk_Mod_whyNot 2 rfl (J.fgt [true, true, true, false] (h_Mod_whyNot_29 n w _ _ _ _ _ hF)))
theorem c_Mod_whyNot (n : Nat) (a1 : Int32) (a2 : Int32) (σ : St) (w : Int32) (hF : F_Mod_whyNot n a1 a2 σ = some w) : Call md_Mod_whyNot 4 [mR 30 0, mI a1, mI a2] σ (some (mI w)) σ := by
  rw [F_Mod_whyNot] at hF
  refine Call.of ok_Mod_whyNot.1 (Nat.le_of_ble_eq_true rfl) (L := [some (mR 30 0), some (mI a1), some (mI a2), none]) rfl ?_
  refine J.cpI tk_Mod_whyNot (as := [mR 30 0, mI a1, mI a2]) (rest := []) 3 rfl rfl rfl (ckV (md' := md_Mod_feelsIn) lk_6_183 ok_Mod_feelsIn rfl rfl rfl) rfl (by decide) (fun v1 h => c_Mod_feelsIn n _ _ _ _ h) hF (fun v1 hF => ?_)
  by_cases hc : 0 ≤ v1
  · simp only [if_pos hc] at hF
    exact J.if_geT' tk_Mod_whyNot 0 rfl rfl hc (J.run tk_Mod_whyNot 1 rfl (h_Mod_whyNot_14 n w _ _ _ _ hF))
  · simp only [if_neg hc] at hF
    exact J.if_geF' tk_Mod_whyNot 0 rfl rfl hc (J.run tk_Mod_whyNot 2 rfl (h_Mod_whyNot_14 n w _ _ _ _ hF))
noncomputable def F_Mod_sleepsIn_29 (n : Nat) (K4 : Int32 → Int32 → Int32 → St → Option Int32) (l1 : Int32) (l3 : Int32) (s0 : Int32) (s1 : Int32) (σ : St) : Option Int32 :=
  K4 l1 (s0 ||| s1) (l3 + 1) σ
noncomputable def F_Mod_sleepsIn_4 (n : Nat) : Nat → Int32 → Int32 → Int32 → St → Option Int32
  | 0, _, _, _, _ => none
  | k + 1, l1, l2, l3, σ =>
    if σ.1 30 0 1 ≤ l3 then
      some l2
    else
    (F_Mod_whyNot n l3 l1 σ).bind fun v1 =>
    F_Mod_sleepsIn_29 n (F_Mod_sleepsIn_4 n k) l1 l3 l2 (if v1 = 0 then 1 <<< (l3 &&& 31) else 0) σ
noncomputable def F_Mod_sleepsIn (n : Nat) (a1 : Int32) (σ : St) : Option Int32 :=
  F_Mod_sleepsIn_4 n n a1 0 0 σ
theorem h_Mod_sleepsIn_29 (n : Nat) (w : Int32) (K4 : Int32 → Int32 → Int32 → St → Option Int32) (hK4 : ∀ (l1 : Int32) (l2 : Int32) (l3 : Int32) (σ : St), K4 l1 l2 l3 σ = some w → J md_Mod_sleepsIn 5 4 [some (mR 30 0), some (mI l1), some (mI l2), some (mI l3)] [] σ (some (mI w)) σ) (l1 : Int32) (l3 : Int32) (s0 : Int32) (s1 : Int32) (σ : St) (hF : F_Mod_sleepsIn_29 n K4 l1 l3 s0 s1 σ = some w) : J md_Mod_sleepsIn 5 29 [some (mR 30 0), some (mI l1), none, some (mI l3)] [mI s1, mI s0] σ (some (mI w)) σ := by
  rw [F_Mod_sleepsIn_29] at hF
  exact J.run tk_Mod_sleepsIn 4 rfl (hK4 _ _ _ _ hF)
theorem h_Mod_sleepsIn_4 (n : Nat) (w : Int32) : ∀ (k : Nat) (l1 : Int32) (l2 : Int32) (l3 : Int32) (σ : St), F_Mod_sleepsIn_4 n k l1 l2 l3 σ = some w → J md_Mod_sleepsIn 5 4 [some (mR 30 0), some (mI l1), some (mI l2), some (mI l3)] [] σ (some (mI w)) σ := by
  intro k
  induction k with
  | zero => intro l1 l2 l3 σ hF; exact no_s hF
  | succ k ih =>
    intro l1 l2 l3 σ hF
    rw [F_Mod_sleepsIn_4] at hF
    refine J.icmp_ge tk_Mod_sleepsIn 3 rfl rfl hF (fun hF => ?_) (fun hF => ?_)
    · exact J.wI hF (J.reti tk_Mod_sleepsIn 1 rfl rfl rfl)
    · refine J.cpI tk_Mod_sleepsIn (as := [mR 30 0, mI l3, mI l1]) (rest := [mI l2]) 4 rfl rfl rfl (ckV (md' := md_Mod_whyNot) lk_6_192 ok_Mod_whyNot rfl rfl rfl) rfl (by decide) (fun v1 h => c_Mod_whyNot n _ _ _ _ h) hF (fun v1 hF => ?_)
      by_cases hc : v1 = 0
      · simp only [if_pos hc] at hF
        exact J.if_neF' tk_Mod_sleepsIn 0 rfl rfl hc (J.run tk_Mod_sleepsIn 4 rfl (J.fgt [true, true, false, true] (h_Mod_sleepsIn_29 n w (F_Mod_sleepsIn_4 n k) ih _ _ _ _ _ hF)))
      · simp only [if_neg hc] at hF
        exact J.if_neT' tk_Mod_sleepsIn 0 rfl rfl hc (J.run tk_Mod_sleepsIn 1 rfl (J.fgt [true, true, false, true] (h_Mod_sleepsIn_29 n w (F_Mod_sleepsIn_4 n k) ih _ _ _ _ _ hF)))
theorem c_Mod_sleepsIn (n : Nat) (a1 : Int32) (σ : St) (w : Int32) (hF : F_Mod_sleepsIn n a1 σ = some w) : Call md_Mod_sleepsIn 5 [mR 30 0, mI a1] σ (some (mI w)) σ := by
  rw [F_Mod_sleepsIn] at hF
  refine Call.of ok_Mod_sleepsIn.1 (Nat.le_of_ble_eq_true rfl) (L := [some (mR 30 0), some (mI a1), none, none]) rfl ?_
  exact J.run tk_Mod_sleepsIn 4 rfl (h_Mod_sleepsIn_4 n w n _ _ _ _ hF)
noncomputable def F_Mod_hour_147 (n : Nat) (K95 : Int32 → Int32 → St → Option (Int32 × St)) (l1 : Int32) (l2 : Int32) (s1 : Int32) (s2 : Int32) (s3 : Int32) (σ : St) : Option (Int32 × St) :=
  (ast σ 31 0 s1 (s2 + s3)).bind fun σ15 =>
  K95 l1 (l2 + 1) σ15
noncomputable def F_Mod_hour_95 (n : Nat) : Nat → Int32 → Int32 → St → Option (Int32 × St)
  | 0, _, _, _ => none
  | k + 1, l1, l2, σ =>
    if σ.1 30 0 1 ≤ l2 then
      (ald σ 31 0 0).bind fun v6 =>
      (ast σ 31 0 0 (v6 + 1)).bind fun σ7 =>
      (ald σ7 31 0 15).bind fun v8 =>
      (ast σ7 31 0 15 (v8 + 1)).bind fun σ9 =>
      some (l1, σ9)
    else
    (ald σ 31 0 (16 + l2)).bind fun v10 =>
    (ast σ 31 0 (16 + l2) (v10 + ((l1 >>> (l2 &&& 31)) &&& 1))).bind fun σ11 =>
    (ald σ11 31 0 (21 + l2)).bind fun v12 =>
    (F_Mod_placeOf n l2 σ11).bind fun v13 =>
    (F_Mod_isRim v13 σ11).bind fun v14 =>
    F_Mod_hour_147 n (F_Mod_hour_95 n k) l1 l2 (21 + l2) v12 (if v14 = 0 then 0 else 1) σ11
noncomputable def F_Mod_hour_38 (n : Nat) : Nat → Int32 → St → Option (Int32 × St)
  | 0, _, _ => none
  | k + 1, l1, σ =>
    if 25 ≤ l1 then
      (F_Mod_layNow n σ).bind fun σ3 =>
      (ald σ3 31 0 15).bind fun v4 =>
      (F_Mod_sleepsIn n v4 σ3).bind fun v5 =>
      F_Mod_hour_95 n n v5 0 σ3
    else
    (ald σ 31 0 0).bind fun v16 =>
    (ald σ 31 0 (1 + l1)).bind fun v17 =>
    (ast σ 31 0 ((26 + (25 * v16)) + l1) v17).bind fun σ18 =>
    (F_Mod_hour_38 n k) (l1 + 1) σ18
noncomputable def F_Mod_hour (n : Nat) (σ : St) : Option (Int32 × St) :=
  if σ.1 30 0 1 = 0 then
    some ((-4), σ)
  else
  (ald σ 31 0 15).bind fun v1 =>
  if v1 = 8 then
    some ((-4), σ)
  else
  (ald σ 31 0 0).bind fun v2 =>
  if v2 = 40 then
    some ((-2), σ)
  else
  F_Mod_hour_38 n n 0 σ
theorem h_Mod_hour_147 (n : Nat) (w : (Int32 × St)) (K95 : Int32 → Int32 → St → Option (Int32 × St)) (hK95 : ∀ (l1 : Int32) (l2 : Int32) (σ : St), K95 l1 l2 σ = some w → J md_Mod_hour 6 95 [some (mR 30 0), some (mI l1), some (mI l2)] [] σ (some (mI w.1)) w.2) (l1 : Int32) (l2 : Int32) (s1 : Int32) (s2 : Int32) (s3 : Int32) (σ : St) (hF : F_Mod_hour_147 n K95 l1 l2 s1 s2 s3 σ = some w) : J md_Mod_hour 6 147 [some (mR 30 0), some (mI l1), some (mI l2)] [mI s3, mI s2, mI s1, mA 31 0] σ (some (mI w.1)) w.2 := by
  rw [F_Mod_hour_147] at hF
  refine J.iast tk_Mod_hour 1 rfl rfl hF (fun σ15 hF => ?_)
  exact J.run tk_Mod_hour 2 rfl (hK95 _ _ _ hF)
theorem h_Mod_hour_95 (n : Nat) (w : (Int32 × St)) : ∀ (k : Nat) (l1 : Int32) (l2 : Int32) (σ : St), F_Mod_hour_95 n k l1 l2 σ = some w → J md_Mod_hour 6 95 [some (mR 30 0), some (mI l1), some (mI l2)] [] σ (some (mI w.1)) w.2 := by
  intro k
  induction k with
  | zero => intro l1 l2 σ hF; exact no_s hF
  | succ k ih =>
    intro l1 l2 σ hF
    rw [F_Mod_hour_95] at hF
    refine J.icmp_ge tk_Mod_hour 3 rfl rfl hF (fun hF => ?_) (fun hF => ?_)
    · refine J.iald tk_Mod_hour 4 rfl rfl hF (fun v6 hF => ?_)
      refine J.iast tk_Mod_hour 2 rfl rfl hF (fun σ7 hF => ?_)
      refine J.iald tk_Mod_hour 4 rfl rfl hF (fun v8 hF => ?_)
      refine J.iast tk_Mod_hour 2 rfl rfl hF (fun σ9 hF => ?_)
      exact J.wsI hF (J.reti tk_Mod_hour 1 rfl rfl rfl)
    · refine J.iald tk_Mod_hour 6 rfl rfl hF (fun v10 hF => ?_)
      refine J.iast tk_Mod_hour 6 rfl rfl hF (fun σ11 hF => ?_)
      refine J.iald tk_Mod_hour 6 rfl rfl hF (fun v12 hF => ?_)
      refine J.cpI tk_Mod_hour (as := [mR 30 0, mI l2]) (rest := [mR 30 0, mI v12, mI (21 + l2), mA 31 0]) 3 rfl rfl rfl (ckV (md' := md_Mod_placeOf) lk_6_158 ok_Mod_placeOf rfl rfl rfl) rfl (by decide) (fun v1 h => c_Mod_placeOf n _ _ _ h) hF (fun v13 hF => ?_)
      refine J.cpI tk_Mod_hour (as := [mR 30 0, mI v13]) (rest := [mI v12, mI (21 + l2), mA 31 0]) 0 rfl rfl rfl (ckV (md' := md_Mod_isRim) lk_6_164 ok_Mod_isRim rfl rfl rfl) rfl (by decide) (fun v1 h => c_Mod_isRim _ _ _ h) hF (fun v14 hF => ?_)
      by_cases hc : v14 = 0
      · simp only [if_pos hc] at hF
        exact J.if_eqT' tk_Mod_hour 0 rfl rfl hc (J.run tk_Mod_hour 1 rfl (h_Mod_hour_147 n w (F_Mod_hour_95 n k) ih _ _ _ _ _ _ hF))
      · simp only [if_neg hc] at hF
        exact J.if_eqF' tk_Mod_hour 0 rfl rfl hc (J.run tk_Mod_hour 2 rfl (h_Mod_hour_147 n w (F_Mod_hour_95 n k) ih _ _ _ _ _ _ hF))
theorem h_Mod_hour_38 (n : Nat) (w : (Int32 × St)) : ∀ (k : Nat) (l1 : Int32) (σ : St), F_Mod_hour_38 n k l1 σ = some w → J md_Mod_hour 6 38 [some (mR 30 0), some (mI l1), none] [] σ (some (mI w.1)) w.2 := by
  intro k
  induction k with
  | zero => intro l1 σ hF; exact no_s hF
  | succ k ih =>
    intro l1 σ hF
    rw [F_Mod_hour_38] at hF
    refine J.icmp_ge tk_Mod_hour 2 rfl rfl hF (fun hF => ?_) (fun hF => ?_)
    · refine J.csV tk_Mod_hour (as := [mR 30 0]) (rest := []) 1 rfl rfl rfl (ckV (md' := md_Mod_layNow) lk_6_204 ok_Mod_layNow rfl rfl rfl) rfl (by decide) (fun s1 h => c_Mod_layNow n _ _ h) hF (fun σ3 hF => ?_)
      refine J.iald tk_Mod_hour 4 rfl rfl hF (fun v4 hF => ?_)
      refine J.cpI tk_Mod_hour (as := [mR 30 0, mI v4]) (rest := []) 0 rfl rfl rfl (ckV (md' := md_Mod_sleepsIn) lk_6_230 ok_Mod_sleepsIn rfl rfl rfl) rfl (by decide) (fun v1 h => c_Mod_sleepsIn n _ _ _ h) hF (fun v5 hF => ?_)
      exact J.run tk_Mod_hour 3 rfl (h_Mod_hour_95 n w n _ _ _ hF)
    · refine J.iald tk_Mod_hour 7 rfl rfl hF (fun v16 hF => ?_)
      refine J.iald tk_Mod_hour 9 rfl rfl hF (fun v17 hF => ?_)
      refine J.iast tk_Mod_hour 0 rfl rfl hF (fun σ18 hF => ?_)
      exact J.run tk_Mod_hour 2 rfl (ih _ _ hF)
theorem c_Mod_hour (n : Nat) (σ : St) (w : (Int32 × St)) (hF : F_Mod_hour n σ = some w) : Call md_Mod_hour 6 [mR 30 0] σ (some (mI w.1)) w.2 := by
  rw [F_Mod_hour] at hF
  refine Call.of ok_Mod_hour.1 (Nat.le_of_ble_eq_true rfl) (L := [some (mR 30 0), none, none]) rfl ?_
  refine J.if_eq tk_Mod_hour 2 rfl rfl hF (fun hF => ?_) (fun hF => ?_)
  · exact J.wsI hF (J.reti tk_Mod_hour 1 rfl rfl rfl)
  · refine J.iald tk_Mod_hour 3 rfl rfl hF (fun v1 hF => ?_)
    refine J.icmp_ne tk_Mod_hour 1 rfl rfl hF (fun hF => ?_) (fun hF => ?_)
    · refine J.iald tk_Mod_hour 3 rfl rfl hF (fun v2 hF => ?_)
      refine J.icmp_ne tk_Mod_hour 1 rfl rfl hF (fun hF => ?_) (fun hF => ?_)
      · exact J.run tk_Mod_hour 2 rfl (h_Mod_hour_38 n w n _ _ hF)
      · exact J.wsI hF (J.reti tk_Mod_hour 1 rfl rfl rfl)
    · exact J.wsI hF (J.reti tk_Mod_hour 1 rfl rfl rfl)
noncomputable def F_Mod_night (σ : St) : Option (Int32 × St) :=
  if σ.1 30 0 1 = 0 then
    some ((-4), σ)
  else
  (ald σ 31 0 14).bind fun v1 =>
  if v1 = 9 then
    some ((-2), σ)
  else
  (ald σ 31 0 14).bind fun v2 =>
  (ast σ 31 0 14 (v2 + 1)).bind fun σ3 =>
  (ast σ3 31 0 15 0).bind fun σ4 =>
  (ald σ4 31 0 14).bind fun v5 =>
  some (v5, σ4)
theorem c_Mod_night (σ : St) (w : (Int32 × St)) (hF : F_Mod_night σ = some w) : Call md_Mod_night 0 [mR 30 0] σ (some (mI w.1)) w.2 := by
  rw [F_Mod_night] at hF
  refine Call.of ok_Mod_night.1 (Nat.le_of_ble_eq_true rfl) (L := [some (mR 30 0)]) rfl ?_
  refine J.if_ne tk_Mod_night 2 rfl rfl hF (fun hF => ?_) (fun hF => ?_)
  · refine J.iald tk_Mod_night 3 rfl rfl hF (fun v1 hF => ?_)
    refine J.icmp_ne tk_Mod_night 1 rfl rfl hF (fun hF => ?_) (fun hF => ?_)
    · refine J.iald tk_Mod_night 4 rfl rfl hF (fun v2 hF => ?_)
      refine J.iast tk_Mod_night 2 rfl rfl hF (fun σ3 hF => ?_)
      refine J.iast tk_Mod_night 4 rfl rfl hF (fun σ4 hF => ?_)
      refine J.iald tk_Mod_night 3 rfl rfl hF (fun v5 hF => ?_)
      exact J.wsI hF (J.reti tk_Mod_night 0 rfl rfl rfl)
    · exact J.wsI hF (J.reti tk_Mod_night 1 rfl rfl rfl)
  · exact J.wsI hF (J.reti tk_Mod_night 1 rfl rfl rfl)
noncomputable def F_Mod_undo_67 (n : Nat) (l1 : Int32) (l2 : Int32) (σ : St) : Option (Int32 × St) :=
  (ast σ 31 0 0 l1).bind fun σ4 =>
  some (l2, σ4)
noncomputable def F_Mod_undo_29 (n : Nat) : Nat → Int32 → Int32 → Int32 → St → Option (Int32 × St)
  | 0, _, _, _, _ => none
  | k + 1, l1, l2, l3, σ =>
    if 25 ≤ l3 then
      F_Mod_undo_67 n l1 l2 σ
    else
    if l2 ≤ 0 then
      F_Mod_undo_67 n l1 l2 σ
    else
    (ald σ 31 0 ((26 + (25 * l1)) + l3)).bind fun v5 =>
    (ast σ 31 0 (1 + l3) v5).bind fun σ6 =>
    (F_Mod_undo_29 n k) l1 l2 (l3 + 1) σ6
noncomputable def F_Mod_undo (n : Nat) (a1 : Int32) (σ : St) : Option (Int32 × St) :=
  (ald σ 31 0 0).bind fun v1 =>
  (F_Mod_in a1.toInt64 0 v1.toInt64).bind fun v2 =>
  if v2 = 0 then
    some ((-1), σ)
  else
  (ald σ 31 0 0).bind fun v3 =>
  F_Mod_undo_29 n n a1 (v3 - a1) 0 σ
theorem h_Mod_undo_67 (n : Nat) (w : (Int32 × St)) (l1 : Int32) (l2 : Int32) (σ : St) (hF : F_Mod_undo_67 n l1 l2 σ = some w) : J md_Mod_undo 1 67 [some (mR 30 0), some (mI l1), some (mI l2), none] [] σ (some (mI w.1)) w.2 := by
  rw [F_Mod_undo_67] at hF
  refine J.iast tk_Mod_undo 4 rfl rfl hF (fun σ4 hF => ?_)
  exact J.wsI hF (J.reti tk_Mod_undo 1 rfl rfl rfl)
theorem h_Mod_undo_29 (n : Nat) (w : (Int32 × St)) : ∀ (k : Nat) (l1 : Int32) (l2 : Int32) (l3 : Int32) (σ : St), F_Mod_undo_29 n k l1 l2 l3 σ = some w → J md_Mod_undo 1 29 [some (mR 30 0), some (mI l1), some (mI l2), some (mI l3)] [] σ (some (mI w.1)) w.2 := by
  intro k
  induction k with
  | zero => intro l1 l2 l3 σ hF; exact no_s hF
  | succ k ih =>
    intro l1 l2 l3 σ hF
    rw [F_Mod_undo_29] at hF
    refine J.icmp_ge tk_Mod_undo 2 rfl rfl hF (fun hF => ?_) (fun hF => ?_)
    · exact J.fgt [true, true, true, false] (h_Mod_undo_67 n w _ _ _ hF)
    · refine J.if_le tk_Mod_undo 1 rfl rfl hF (fun hF => ?_) (fun hF => ?_)
      · exact J.fgt [true, true, true, false] (h_Mod_undo_67 n w _ _ _ hF)
      · refine J.iald tk_Mod_undo 14 rfl rfl hF (fun v5 hF => ?_)
        refine J.iast tk_Mod_undo 0 rfl rfl hF (fun σ6 hF => ?_)
        exact J.run tk_Mod_undo 2 rfl (ih _ _ _ _ hF)
theorem c_Mod_undo (n : Nat) (a1 : Int32) (σ : St) (w : (Int32 × St)) (hF : F_Mod_undo n a1 σ = some w) : Call md_Mod_undo 1 [mR 30 0, mI a1] σ (some (mI w.1)) w.2 := by
  rw [F_Mod_undo] at hF
  refine Call.of ok_Mod_undo.1 (Nat.le_of_ble_eq_true rfl) (L := [some (mR 30 0), some (mI a1), none, none]) rfl ?_
  refine J.iald tk_Mod_undo 6 rfl rfl hF (fun v1 hF => ?_)
  refine J.cpI tk_Mod_undo (as := [mL a1.toInt64, mL 0, mL v1.toInt64]) (rest := []) 1 rfl rfl rfl (ckS (md' := md_Mod_in) lk_6_74 ok_Mod_in rfl) rfl (by decide) (fun v1 h => c_Mod_in _ _ _ _ _ h) hF (fun v2 hF => ?_)
  refine J.if_ne tk_Mod_undo 0 rfl rfl hF (fun hF => ?_) (fun hF => ?_)
  · refine J.iald tk_Mod_undo 3 rfl rfl hF (fun v3 hF => ?_)
    exact J.run tk_Mod_undo 5 rfl (h_Mod_undo_29 n w n _ _ _ _ hF)
  · exact J.wsI hF (J.reti tk_Mod_undo 1 rfl rfl rfl)
noncomputable def F_Mod_now (σ : St) : Option (Int32 × St) :=
  if σ.1 30 0 1 = 0 then
    some ((-4), σ)
  else
  (ald σ 31 0 14).bind fun v1 =>
  bs (si σ 30 0 9 v1) fun σ2 =>
  (ald σ2 31 0 15).bind fun v3 =>
  some (v3, σ2)
theorem c_Mod_now (σ : St) (w : (Int32 × St)) (hF : F_Mod_now σ = some w) : Call md_Mod_now 0 [mR 30 0] σ (some (mI w.1)) w.2 := by
  rw [F_Mod_now] at hF
  refine Call.of ok_Mod_now.1 (Nat.le_of_ble_eq_true rfl) (L := [some (mR 30 0)]) rfl ?_
  refine J.if_ne tk_Mod_now 2 rfl rfl hF (fun hF => ?_) (fun hF => ?_)
  · refine J.iald tk_Mod_now 4 rfl rfl hF (fun v1 hF => ?_)
    refine J.putI tk_Mod_now 0 rfl rfl rfl rfl rfl ⟨rfl, rfl⟩ hF (fun σ2 hF => ?_)
    refine J.iald tk_Mod_now 3 rfl rfl hF (fun v3 hF => ?_)
    exact J.wsI hF (J.reti tk_Mod_now 0 rfl rfl rfl)
  · exact J.wsI hF (J.reti tk_Mod_now 1 rfl rfl rfl)
noncomputable def F_Mod_copyTent_2 (n : Nat) : Nat → Int32 → Int32 → Int32 → St → Option St
  | 0, _, _, _, _ => none
  | k + 1, l1, l2, l3, σ =>
    if 1026 ≤ l3 then
      some σ
    else
    (ald σ 31 0 (l1 + l3)).bind fun v1 =>
    (ast σ 31 0 (l2 + l3) v1).bind fun σ2 =>
    (F_Mod_copyTent_2 n k) l1 l2 (l3 + 1) σ2
noncomputable def F_Mod_copyTent (n : Nat) (a1 : Int32) (a2 : Int32) (σ : St) : Option St :=
  F_Mod_copyTent_2 n n a1 a2 0 σ
theorem h_Mod_copyTent_2 (n : Nat) (w : St) : ∀ (k : Nat) (l1 : Int32) (l2 : Int32) (l3 : Int32) (σ : St), F_Mod_copyTent_2 n k l1 l2 l3 σ = some w → J md_Mod_copyTent 0 2 [some (mR 30 0), some (mI l1), some (mI l2), some (mI l3)] [] σ none w := by
  intro k
  induction k with
  | zero => intro l1 l2 l3 σ hF; exact no_s hF
  | succ k ih =>
    intro l1 l2 l3 σ hF
    rw [F_Mod_copyTent_2] at hF
    refine J.icmp_ge tk_Mod_copyTent 2 rfl rfl hF (fun hF => ?_) (fun hF => ?_)
    · exact J.wsV hF (J.retv tk_Mod_copyTent 0 rfl rfl rfl)
    · refine J.iald tk_Mod_copyTent 10 rfl rfl hF (fun v1 hF => ?_)
      refine J.iast tk_Mod_copyTent 0 rfl rfl hF (fun σ2 hF => ?_)
      exact J.run tk_Mod_copyTent 2 rfl (ih _ _ _ _ hF)
theorem c_Mod_copyTent (n : Nat) (a1 : Int32) (a2 : Int32) (σ : St) (w : St) (hF : F_Mod_copyTent n a1 a2 σ = some w) : Call md_Mod_copyTent 0 [mR 30 0, mI a1, mI a2] σ none w := by
  rw [F_Mod_copyTent] at hF
  refine Call.of ok_Mod_copyTent.1 (Nat.le_of_ble_eq_true rfl) (L := [some (mR 30 0), some (mI a1), some (mI a2), none]) rfl ?_
  exact J.run tk_Mod_copyTent 2 rfl (h_Mod_copyTent_2 n w n _ _ _ _ hF)
noncomputable def F_Mod_keep (n : Nat) (a1 : Int32) (σ : St) : Option (Int32 × St) :=
  (F_Mod_in a1.toInt64 0 2).bind fun v1 =>
  if v1 = 0 then
    some ((-1), σ)
  else
  if σ.1 30 0 1 = 0 then
    some ((-4), σ)
  else
  (F_Mod_copyTent n 0 (1026 * (1 + a1)) σ).bind fun σ2 =>
  (ald σ2 31 0 0).bind fun v3 =>
  some (v3, σ2)
theorem c_Mod_keep (n : Nat) (a1 : Int32) (σ : St) (w : (Int32 × St)) (hF : F_Mod_keep n a1 σ = some w) : Call md_Mod_keep 1 [mR 30 0, mI a1] σ (some (mI w.1)) w.2 := by
  rw [F_Mod_keep] at hF
  refine Call.of ok_Mod_keep.1 (Nat.le_of_ble_eq_true rfl) (L := [some (mR 30 0), some (mI a1)]) rfl ?_
  refine J.cpI tk_Mod_keep (as := [mL a1.toInt64, mL 0, mL 2]) (rest := []) 4 rfl rfl rfl (ckS (md' := md_Mod_in) lk_6_74 ok_Mod_in rfl) rfl (by decide) (fun v1 h => c_Mod_in _ _ _ _ _ h) hF (fun v1 hF => ?_)
  refine J.if_ne tk_Mod_keep 0 rfl rfl hF (fun hF => ?_) (fun hF => ?_)
  · refine J.if_ne tk_Mod_keep 2 rfl rfl hF (fun hF => ?_) (fun hF => ?_)
    · refine J.csV tk_Mod_keep (as := [mR 30 0, mI 0, mI (1026 * (1 + a1))]) (rest := []) 7 rfl rfl rfl (ckV (md' := md_Mod_copyTent) lk_6_235 ok_Mod_copyTent rfl rfl rfl) rfl (by decide) (fun s1 h => c_Mod_copyTent n _ _ _ _ h) hF (fun σ2 hF => ?_)
      refine J.iald tk_Mod_keep 3 rfl rfl hF (fun v3 hF => ?_)
      exact J.wsI hF (J.reti tk_Mod_keep 0 rfl rfl rfl)
    · exact J.wsI hF (J.reti tk_Mod_keep 1 rfl rfl rfl)
  · exact J.wsI hF (J.reti tk_Mod_keep 1 rfl rfl rfl)
noncomputable def F_Mod_on (n : Nat) (a1 : Int32) (σ : St) : Option (Int32 × St) :=
  (F_Mod_in a1.toInt64 0 2).bind fun v1 =>
  if v1 = 0 then
    some ((-1), σ)
  else
  (ald σ 31 0 ((1026 * (1 + a1)) + 0)).bind fun v2 =>
  if 0 ≤ v2 then
    (F_Mod_copyTent n (1026 * (1 + a1)) 0 σ).bind fun σ3 =>
    (ald σ3 31 0 0).bind fun v4 =>
    some (v4, σ3)
  else
  b2 (F_Mod_find 1 σ) fun v5 σ6 =>
  some (v5, σ6)
theorem c_Mod_on (n : Nat) (a1 : Int32) (σ : St) (w : (Int32 × St)) (hF : F_Mod_on n a1 σ = some w) : Call md_Mod_on 1 [mR 30 0, mI a1] σ (some (mI w.1)) w.2 := by
  rw [F_Mod_on] at hF
  refine Call.of ok_Mod_on.1 (Nat.le_of_ble_eq_true rfl) (L := [some (mR 30 0), some (mI a1)]) rfl ?_
  refine J.cpI tk_Mod_on (as := [mL a1.toInt64, mL 0, mL 2]) (rest := []) 4 rfl rfl rfl (ckS (md' := md_Mod_in) lk_6_74 ok_Mod_in rfl) rfl (by decide) (fun v1 h => c_Mod_in _ _ _ _ _ h) hF (fun v1 hF => ?_)
  refine J.if_ne tk_Mod_on 0 rfl rfl hF (fun hF => ?_) (fun hF => ?_)
  · refine J.iald tk_Mod_on 9 rfl rfl hF (fun v2 hF => ?_)
    refine J.if_ge tk_Mod_on 0 rfl rfl hF (fun hF => ?_) (fun hF => ?_)
    · refine J.csV tk_Mod_on (as := [mR 30 0, mI (1026 * (1 + a1)), mI 0]) (rest := []) 7 rfl rfl rfl (ckV (md' := md_Mod_copyTent) lk_6_235 ok_Mod_copyTent rfl rfl rfl) rfl (by decide) (fun s1 h => c_Mod_copyTent n _ _ _ _ h) hF (fun σ3 hF => ?_)
      refine J.iald tk_Mod_on 3 rfl rfl hF (fun v4 hF => ?_)
      exact J.wsI hF (J.reti tk_Mod_on 0 rfl rfl rfl)
    · refine J.csI tk_Mod_on (as := [mR 30 0, mI 1]) (rest := []) 2 rfl rfl rfl (ckV (md' := md_Mod_find) lk_6_84 ok_Mod_find rfl rfl rfl) rfl (by decide) (fun v1 s1 h => c_Mod_find _ _ (v1, s1) h) hF (fun v5 σ6 hF => ?_)
      exact J.wsI hF (J.reti tk_Mod_on 0 rfl rfl rfl)
  · exact J.wsI hF (J.reti tk_Mod_on 1 rfl rfl rfl)
noncomputable def F_Mod_isHour (a1 : Int32) : Option Int32 :=
  (F_Mod_in a1.toInt64 0 7).bind fun v1 =>
  some (v1 &&& 1)
theorem c_Mod_isHour (a1 : Int32) (σ : St) (w : Int32) (hF : F_Mod_isHour a1 = some w) : Call md_Mod_isHour 1 [mI a1] σ (some (mI w)) σ := by
  rw [F_Mod_isHour] at hF
  refine Call.of ok_Mod_isHour.1 (Nat.le_of_ble_eq_true rfl) (L := [some (mI a1)]) rfl ?_
  refine J.cpI tk_Mod_isHour (as := [mL a1.toInt64, mL 0, mL 7]) (rest := []) 4 rfl rfl rfl (ckS (md' := md_Mod_in) lk_6_74 ok_Mod_in rfl) rfl (by decide) (fun v1 h => c_Mod_in _ _ _ _ _ h) hF (fun v1 hF => ?_)
  exact J.wI hF (J.retz tk_Mod_isHour 0 rfl rfl rfl rfl)
noncomputable def F_Mod_feels (n : Nat) (a1 : Int32) (a2 : Int32) (σ : St) : Option (Int32 × St) :=
  (F_Mod_isSleeper a1 σ).bind fun v1 =>
  if v1 = 0 then
    some ((-1), σ)
  else
  (F_Mod_isHour a2).bind fun v2 =>
  if v2 = 0 then
    some ((-1), σ)
  else
  (F_Mod_layNow n σ).bind fun σ3 =>
  (F_Mod_feelsIn n a1 a2 σ3).bind fun v4 =>
  b2 (F_Mod_tell v4 σ3) fun v5 σ6 =>
  some (v5, σ6)
theorem c_Mod_feels (n : Nat) (a1 : Int32) (a2 : Int32) (σ : St) (w : (Int32 × St)) (hF : F_Mod_feels n a1 a2 σ = some w) : Call md_Mod_feels 3 [mR 30 0, mI a1, mI a2] σ (some (mI w.1)) w.2 := by
  rw [F_Mod_feels] at hF
  refine Call.of ok_Mod_feels.1 (Nat.le_of_ble_eq_true rfl) (L := [some (mR 30 0), some (mI a1), some (mI a2)]) rfl ?_
  refine J.cpI tk_Mod_feels (as := [mR 30 0, mI a1]) (rest := []) 2 rfl rfl rfl (ckV (md' := md_Mod_isSleeper) lk_6_198 ok_Mod_isSleeper rfl rfl rfl) rfl (by decide) (fun v1 h => c_Mod_isSleeper _ _ _ h) hF (fun v1 hF => ?_)
  refine J.if_eq tk_Mod_feels 0 rfl rfl hF (fun hF => ?_) (fun hF => ?_)
  · exact J.wsI hF (J.reti tk_Mod_feels 1 rfl rfl rfl)
  · refine J.cpI tk_Mod_feels (as := [mI a2]) (rest := []) 1 rfl rfl rfl (ckS (md' := md_Mod_isHour) lk_6_240 ok_Mod_isHour rfl) rfl (by decide) (fun v1 h => c_Mod_isHour _ _ _ h) hF (fun v2 hF => ?_)
    refine J.if_ne tk_Mod_feels 0 rfl rfl hF (fun hF => ?_) (fun hF => ?_)
    · refine J.csV tk_Mod_feels (as := [mR 30 0]) (rest := []) 1 rfl rfl rfl (ckV (md' := md_Mod_layNow) lk_6_204 ok_Mod_layNow rfl rfl rfl) rfl (by decide) (fun s1 h => c_Mod_layNow n _ _ h) hF (fun σ3 hF => ?_)
      refine J.cpI tk_Mod_feels (as := [mR 30 0, mI a1, mI a2]) (rest := [mR 30 0]) 4 rfl rfl rfl (ckV (md' := md_Mod_feelsIn) lk_6_183 ok_Mod_feelsIn rfl rfl rfl) rfl (by decide) (fun v1 h => c_Mod_feelsIn n _ _ _ _ h) hF (fun v4 hF => ?_)
      refine J.csI tk_Mod_feels (as := [mR 30 0, mI v4]) (rest := []) 0 rfl rfl rfl (ckV (md' := md_Mod_tell) lk_6_96 ok_Mod_tell rfl rfl rfl) rfl (by decide) (fun v1 s1 h => c_Mod_tell _ _ (v1, s1) h) hF (fun v5 σ6 hF => ?_)
      exact J.wsI hF (J.reti tk_Mod_feels 0 rfl rfl rfl)
    · exact J.wsI hF (J.reti tk_Mod_feels 1 rfl rfl rfl)
noncomputable def F_Mod_why (n : Nat) (a1 : Int32) (a2 : Int32) (σ : St) : Option (Int32 × St) :=
  (F_Mod_isSleeper a1 σ).bind fun v1 =>
  if v1 = 0 then
    some ((-1), σ)
  else
  (F_Mod_isHour a2).bind fun v2 =>
  if v2 = 0 then
    some ((-1), σ)
  else
  (F_Mod_layNow n σ).bind fun σ3 =>
  (F_Mod_whyNot n a1 a2 σ3).bind fun v4 =>
  some (v4, σ3)
theorem c_Mod_why (n : Nat) (a1 : Int32) (a2 : Int32) (σ : St) (w : (Int32 × St)) (hF : F_Mod_why n a1 a2 σ = some w) : Call md_Mod_why 5 [mR 30 0, mI a1, mI a2] σ (some (mI w.1)) w.2 := by
  rw [F_Mod_why] at hF
  refine Call.of ok_Mod_why.1 (Nat.le_of_ble_eq_true rfl) (L := [some (mR 30 0), some (mI a1), some (mI a2)]) rfl ?_
  refine J.cpI tk_Mod_why (as := [mR 30 0, mI a1]) (rest := []) 2 rfl rfl rfl (ckV (md' := md_Mod_isSleeper) lk_6_198 ok_Mod_isSleeper rfl rfl rfl) rfl (by decide) (fun v1 h => c_Mod_isSleeper _ _ _ h) hF (fun v1 hF => ?_)
  refine J.if_eq tk_Mod_why 0 rfl rfl hF (fun hF => ?_) (fun hF => ?_)
  · exact J.wsI hF (J.reti tk_Mod_why 1 rfl rfl rfl)
  · refine J.cpI tk_Mod_why (as := [mI a2]) (rest := []) 1 rfl rfl rfl (ckS (md' := md_Mod_isHour) lk_6_240 ok_Mod_isHour rfl) rfl (by decide) (fun v1 h => c_Mod_isHour _ _ _ h) hF (fun v2 hF => ?_)
    refine J.if_ne tk_Mod_why 0 rfl rfl hF (fun hF => ?_) (fun hF => ?_)
    · refine J.csV tk_Mod_why (as := [mR 30 0]) (rest := []) 1 rfl rfl rfl (ckV (md' := md_Mod_layNow) lk_6_204 ok_Mod_layNow rfl rfl rfl) rfl (by decide) (fun s1 h => c_Mod_layNow n _ _ h) hF (fun σ3 hF => ?_)
      refine J.cpI tk_Mod_why (as := [mR 30 0, mI a1, mI a2]) (rest := []) 3 rfl rfl rfl (ckV (md' := md_Mod_whyNot) lk_6_192 ok_Mod_whyNot rfl rfl rfl) rfl (by decide) (fun v1 h => c_Mod_whyNot n _ _ _ _ h) hF (fun v4 hF => ?_)
      exact J.wsI hF (J.reti tk_Mod_why 0 rfl rfl rfl)
    · exact J.wsI hF (J.reti tk_Mod_why 1 rfl rfl rfl)
noncomputable def F_Mod_sleeps_49 (n : Nat) (K20 : Int32 → Int32 → St → Option (Int32 × St)) (l1 : Int32) (l2 : Int32) (s1 : Int32) (s2 : Int32) (σ : St) : Option (Int32 × St) :=
  bs (si σ 30 0 9 (s1 ||| s2)) fun σ6 =>
  K20 l1 (l2 + 1) σ6
noncomputable def F_Mod_sleeps_20 (n : Nat) : Nat → Int32 → Int32 → St → Option (Int32 × St)
  | 0, _, _, _ => none
  | k + 1, l1, l2, σ =>
    if σ.1 30 0 1 ≤ l2 then
      (F_Mod_sleepsIn n l1 σ).bind fun v4 =>
      some (v4, σ)
    else
    (F_Mod_feelsIn n l2 l1 σ).bind fun v5 =>
    F_Mod_sleeps_49 n (F_Mod_sleeps_20 n k) l1 l2 (σ.1 30 0 9) (if 0 ≤ v5 then 0 else 1 <<< (l2 &&& 31)) σ
noncomputable def F_Mod_sleeps (n : Nat) (a1 : Int32) (σ : St) : Option (Int32 × St) :=
  (F_Mod_isHour a1).bind fun v1 =>
  if v1 = 0 then
    some ((-1), σ)
  else
  (F_Mod_layNow n σ).bind fun σ2 =>
  bs (si σ2 30 0 9 0) fun σ3 =>
  F_Mod_sleeps_20 n n a1 0 σ3
theorem h_Mod_sleeps_49 (n : Nat) (w : (Int32 × St)) (K20 : Int32 → Int32 → St → Option (Int32 × St)) (hK20 : ∀ (l1 : Int32) (l2 : Int32) (σ : St), K20 l1 l2 σ = some w → J md_Mod_sleeps 6 20 [some (mR 30 0), some (mI l1), some (mI l2)] [] σ (some (mI w.1)) w.2) (l1 : Int32) (l2 : Int32) (s1 : Int32) (s2 : Int32) (σ : St) (hF : F_Mod_sleeps_49 n K20 l1 l2 s1 s2 σ = some w) : J md_Mod_sleeps 6 49 [some (mR 30 0), some (mI l1), some (mI l2)] [mI s2, mI s1, mR 30 0] σ (some (mI w.1)) w.2 := by
  rw [F_Mod_sleeps_49] at hF
  refine J.putI tk_Mod_sleeps 1 rfl rfl rfl rfl rfl ⟨rfl, rfl⟩ hF (fun σ6 hF => ?_)
  exact J.run tk_Mod_sleeps 2 rfl (hK20 _ _ _ hF)
theorem h_Mod_sleeps_20 (n : Nat) (w : (Int32 × St)) : ∀ (k : Nat) (l1 : Int32) (l2 : Int32) (σ : St), F_Mod_sleeps_20 n k l1 l2 σ = some w → J md_Mod_sleeps 6 20 [some (mR 30 0), some (mI l1), some (mI l2)] [] σ (some (mI w.1)) w.2 := by
  intro k
  induction k with
  | zero => intro l1 l2 σ hF; exact no_s hF
  | succ k ih =>
    intro l1 l2 σ hF
    rw [F_Mod_sleeps_20] at hF
    refine J.icmp_ge tk_Mod_sleeps 3 rfl rfl hF (fun hF => ?_) (fun hF => ?_)
    · refine J.cpI tk_Mod_sleeps (as := [mR 30 0, mI l1]) (rest := []) 2 rfl rfl rfl (ckV (md' := md_Mod_sleepsIn) lk_6_230 ok_Mod_sleepsIn rfl rfl rfl) rfl (by decide) (fun v1 h => c_Mod_sleepsIn n _ _ _ h) hF (fun v4 hF => ?_)
      exact J.wsI hF (J.reti tk_Mod_sleeps 0 rfl rfl rfl)
    · refine J.cpI tk_Mod_sleeps (as := [mR 30 0, mI l2, mI l1]) (rest := [mI (σ.1 30 0 9), mR 30 0]) 6 rfl rfl rfl (ckV (md' := md_Mod_feelsIn) lk_6_183 ok_Mod_feelsIn rfl rfl rfl) rfl (by decide) (fun v1 h => c_Mod_feelsIn n _ _ _ _ h) hF (fun v5 hF => ?_)
      by_cases hc : 0 ≤ v5
      · simp only [if_pos hc] at hF
        exact J.if_geT' tk_Mod_sleeps 0 rfl rfl hc (J.run tk_Mod_sleeps 1 rfl (h_Mod_sleeps_49 n w (F_Mod_sleeps_20 n k) ih _ _ _ _ _ hF))
      · simp only [if_neg hc] at hF
        exact J.if_geF' tk_Mod_sleeps 0 rfl rfl hc (J.run tk_Mod_sleeps 4 rfl (h_Mod_sleeps_49 n w (F_Mod_sleeps_20 n k) ih _ _ _ _ _ hF))
theorem c_Mod_sleeps (n : Nat) (a1 : Int32) (σ : St) (w : (Int32 × St)) (hF : F_Mod_sleeps n a1 σ = some w) : Call md_Mod_sleeps 6 [mR 30 0, mI a1] σ (some (mI w.1)) w.2 := by
  rw [F_Mod_sleeps] at hF
  refine Call.of ok_Mod_sleeps.1 (Nat.le_of_ble_eq_true rfl) (L := [some (mR 30 0), some (mI a1), none]) rfl ?_
  refine J.cpI tk_Mod_sleeps (as := [mI a1]) (rest := []) 1 rfl rfl rfl (ckS (md' := md_Mod_isHour) lk_6_240 ok_Mod_isHour rfl) rfl (by decide) (fun v1 h => c_Mod_isHour _ _ _ h) hF (fun v1 hF => ?_)
  refine J.if_ne tk_Mod_sleeps 0 rfl rfl hF (fun hF => ?_) (fun hF => ?_)
  · refine J.csV tk_Mod_sleeps (as := [mR 30 0]) (rest := []) 1 rfl rfl rfl (ckV (md' := md_Mod_layNow) lk_6_204 ok_Mod_layNow rfl rfl rfl) rfl (by decide) (fun s1 h => c_Mod_layNow n _ _ h) hF (fun σ2 hF => ?_)
    refine J.putI tk_Mod_sleeps 2 rfl rfl rfl rfl rfl ⟨rfl, rfl⟩ hF (fun σ3 hF => ?_)
    exact J.run tk_Mod_sleeps 2 rfl (h_Mod_sleeps_20 n w n _ _ _ hF)
  · exact J.wsI hF (J.reti tk_Mod_sleeps 1 rfl rfl rfl)
noncomputable def F_Mod_sleptBy_25 (n : Nat) (K4 : Int32 → Int32 → Int32 → St → Option Int32) (l1 : Int32) (l3 : Int32) (s0 : Int32) (s1 : Int32) (σ : St) : Option Int32 :=
  K4 l1 (s0 + s1) (l3 + 1) σ
noncomputable def F_Mod_sleptBy_4 (n : Nat) : Nat → Int32 → Int32 → Int32 → St → Option Int32
  | 0, _, _, _, _ => none
  | k + 1, l1, l2, l3, σ =>
    if 8 ≤ l3 then
      some l2
    else
    (F_Mod_whyNot n l1 l3 σ).bind fun v1 =>
    F_Mod_sleptBy_25 n (F_Mod_sleptBy_4 n k) l1 l3 l2 (if v1 = 0 then 1 else 0) σ
noncomputable def F_Mod_sleptBy (n : Nat) (a1 : Int32) (σ : St) : Option Int32 :=
  F_Mod_sleptBy_4 n n a1 0 0 σ
theorem h_Mod_sleptBy_25 (n : Nat) (w : Int32) (K4 : Int32 → Int32 → Int32 → St → Option Int32) (hK4 : ∀ (l1 : Int32) (l2 : Int32) (l3 : Int32) (σ : St), K4 l1 l2 l3 σ = some w → J md_Mod_sleptBy 5 4 [some (mR 30 0), some (mI l1), some (mI l2), some (mI l3)] [] σ (some (mI w)) σ) (l1 : Int32) (l3 : Int32) (s0 : Int32) (s1 : Int32) (σ : St) (hF : F_Mod_sleptBy_25 n K4 l1 l3 s0 s1 σ = some w) : J md_Mod_sleptBy 5 25 [some (mR 30 0), some (mI l1), none, some (mI l3)] [mI s1, mI s0] σ (some (mI w)) σ := by
  rw [F_Mod_sleptBy_25] at hF
  exact J.run tk_Mod_sleptBy 4 rfl (hK4 _ _ _ _ hF)
theorem h_Mod_sleptBy_4 (n : Nat) (w : Int32) : ∀ (k : Nat) (l1 : Int32) (l2 : Int32) (l3 : Int32) (σ : St), F_Mod_sleptBy_4 n k l1 l2 l3 σ = some w → J md_Mod_sleptBy 5 4 [some (mR 30 0), some (mI l1), some (mI l2), some (mI l3)] [] σ (some (mI w)) σ := by
  intro k
  induction k with
  | zero => intro l1 l2 l3 σ hF; exact no_s hF
  | succ k ih =>
    intro l1 l2 l3 σ hF
    rw [F_Mod_sleptBy_4] at hF
    refine J.icmp_ge tk_Mod_sleptBy 2 rfl rfl hF (fun hF => ?_) (fun hF => ?_)
    · exact J.wI hF (J.reti tk_Mod_sleptBy 1 rfl rfl rfl)
    · refine J.cpI tk_Mod_sleptBy (as := [mR 30 0, mI l1, mI l3]) (rest := [mI l2]) 4 rfl rfl rfl (ckV (md' := md_Mod_whyNot) lk_6_192 ok_Mod_whyNot rfl rfl rfl) rfl (by decide) (fun v1 h => c_Mod_whyNot n _ _ _ _ h) hF (fun v1 hF => ?_)
      by_cases hc : v1 = 0
      · simp only [if_pos hc] at hF
        exact J.if_neF' tk_Mod_sleptBy 0 rfl rfl hc (J.run tk_Mod_sleptBy 2 rfl (J.fgt [true, true, false, true] (h_Mod_sleptBy_25 n w (F_Mod_sleptBy_4 n k) ih _ _ _ _ _ hF)))
      · simp only [if_neg hc] at hF
        exact J.if_neT' tk_Mod_sleptBy 0 rfl rfl hc (J.run tk_Mod_sleptBy 1 rfl (J.fgt [true, true, false, true] (h_Mod_sleptBy_25 n w (F_Mod_sleptBy_4 n k) ih _ _ _ _ _ hF)))
theorem c_Mod_sleptBy (n : Nat) (a1 : Int32) (σ : St) (w : Int32) (hF : F_Mod_sleptBy n a1 σ = some w) : Call md_Mod_sleptBy 5 [mR 30 0, mI a1] σ (some (mI w)) σ := by
  rw [F_Mod_sleptBy] at hF
  refine Call.of ok_Mod_sleptBy.1 (Nat.le_of_ble_eq_true rfl) (L := [some (mR 30 0), some (mI a1), none, none]) rfl ?_
  exact J.run tk_Mod_sleptBy 4 rfl (h_Mod_sleptBy_4 n w n _ _ _ _ hF)
noncomputable def F_Mod_slept (n : Nat) (a1 : Int32) (σ : St) : Option (Int32 × St) :=
  (F_Mod_isSleeper a1 σ).bind fun v1 =>
  if v1 = 0 then
    some ((-1), σ)
  else
  (F_Mod_layNow n σ).bind fun σ2 =>
  (F_Mod_sleptBy n a1 σ2).bind fun v3 =>
  some (v3, σ2)
theorem c_Mod_slept (n : Nat) (a1 : Int32) (σ : St) (w : (Int32 × St)) (hF : F_Mod_slept n a1 σ = some w) : Call md_Mod_slept 6 [mR 30 0, mI a1] σ (some (mI w.1)) w.2 := by
  rw [F_Mod_slept] at hF
  refine Call.of ok_Mod_slept.1 (Nat.le_of_ble_eq_true rfl) (L := [some (mR 30 0), some (mI a1)]) rfl ?_
  refine J.cpI tk_Mod_slept (as := [mR 30 0, mI a1]) (rest := []) 2 rfl rfl rfl (ckV (md' := md_Mod_isSleeper) lk_6_198 ok_Mod_isSleeper rfl rfl rfl) rfl (by decide) (fun v1 h => c_Mod_isSleeper _ _ _ h) hF (fun v1 hF => ?_)
  refine J.if_ne tk_Mod_slept 0 rfl rfl hF (fun hF => ?_) (fun hF => ?_)
  · refine J.csV tk_Mod_slept (as := [mR 30 0]) (rest := []) 1 rfl rfl rfl (ckV (md' := md_Mod_layNow) lk_6_204 ok_Mod_layNow rfl rfl rfl) rfl (by decide) (fun s1 h => c_Mod_layNow n _ _ h) hF (fun σ2 hF => ?_)
    refine J.cpI tk_Mod_slept (as := [mR 30 0, mI a1]) (rest := []) 2 rfl rfl rfl (ckV (md' := md_Mod_sleptBy) lk_6_195 ok_Mod_sleptBy rfl rfl rfl) rfl (by decide) (fun v1 h => c_Mod_sleptBy n _ _ _ h) hF (fun v3 hF => ?_)
    exact J.wsI hF (J.reti tk_Mod_slept 0 rfl rfl rfl)
  · exact J.wsI hF (J.reti tk_Mod_slept 1 rfl rfl rfl)
noncomputable def F_Mod_coldest_83 (n : Nat) (K20 : Int32 → Int32 → Int32 → St → Option (Int32 × St)) (K31 : Int32 → Int32 → Int32 → Int32 → St → Option (Int32 × St)) (l1 : Int32) (l3 : Int32) (l4 : Int32) (s0 : Int32) (σ : St) : Option (Int32 × St) :=
  K31 l1 s0 l3 (l4 + 1) σ
noncomputable def F_Mod_coldest_71 (n : Nat) (K20 : Int32 → Int32 → Int32 → St → Option (Int32 × St)) (K31 : Int32 → Int32 → Int32 → Int32 → St → Option (Int32 × St)) (l2 : Int32) (l3 : Int32) (l4 : Int32) (l5 : Int32) (s0 : Int32) (σ : St) : Option (Int32 × St) :=
  F_Mod_coldest_83 n K20 K31 s0 l3 l4 (if l5 = 0 then l2 else l4) σ
noncomputable def F_Mod_coldest_59 (n : Nat) (K20 : Int32 → Int32 → Int32 → St → Option (Int32 × St)) (K31 : Int32 → Int32 → Int32 → Int32 → St → Option (Int32 × St)) (l1 : Int32) (l2 : Int32) (l3 : Int32) (l4 : Int32) (s0 : Int32) (σ : St) : Option (Int32 × St) :=
  F_Mod_coldest_71 n K20 K31 l2 l3 l4 s0 (if s0 = 0 then l1 else l3) σ
noncomputable def F_Mod_coldest_31 (n : Nat) (K20 : Int32 → Int32 → Int32 → St → Option (Int32 × St)) : Nat → Int32 → Int32 → Int32 → Int32 → St → Option (Int32 × St)
  | 0, _, _, _, _, _ => none
  | k + 1, l1, l2, l3, l4, σ =>
    if 8 ≤ l4 then
      K20 l1 l2 (l3 + 1) σ
    else
    (F_Mod_feelsIn n l3 l4 σ).bind fun v3 =>
    (F_Mod_feelsIn n l1 l2 σ).bind fun v4 =>
    F_Mod_coldest_59 n K20 (F_Mod_coldest_31 n K20 k) l1 l2 l3 l4 (if v4 ≤ v3 then 0 else 1) σ
noncomputable def F_Mod_coldest_20 (n : Nat) : Nat → Int32 → Int32 → Int32 → St → Option (Int32 × St)
  | 0, _, _, _, _ => none
  | k + 1, l1, l2, l3, σ =>
    if σ.1 30 0 1 ≤ l3 then
      bs (si σ 30 0 9 l2) fun σ2 =>
      some (l1, σ2)
    else
    F_Mod_coldest_31 n (F_Mod_coldest_20 n k) n l1 l2 l3 0 σ
noncomputable def F_Mod_coldest (n : Nat) (σ : St) : Option (Int32 × St) :=
  if σ.1 30 0 1 = 0 then
    some ((-4), σ)
  else
  (F_Mod_layNow n σ).bind fun σ1 =>
  F_Mod_coldest_20 n n 0 0 0 σ1
theorem h_Mod_coldest_83 (n : Nat) (w : (Int32 × St)) (K20 : Int32 → Int32 → Int32 → St → Option (Int32 × St)) (hK20 : ∀ (l1 : Int32) (l2 : Int32) (l3 : Int32) (σ : St), K20 l1 l2 l3 σ = some w → J md_Mod_coldest 3 20 [some (mR 30 0), some (mI l1), some (mI l2), some (mI l3), none, none] [] σ (some (mI w.1)) w.2) (K31 : Int32 → Int32 → Int32 → Int32 → St → Option (Int32 × St)) (hK31 : ∀ (l1 : Int32) (l2 : Int32) (l3 : Int32) (l4 : Int32) (σ : St), K31 l1 l2 l3 l4 σ = some w → J md_Mod_coldest 3 31 [some (mR 30 0), some (mI l1), some (mI l2), some (mI l3), some (mI l4), none] [] σ (some (mI w.1)) w.2) (l1 : Int32) (l3 : Int32) (l4 : Int32) (s0 : Int32) (σ : St) (hF : F_Mod_coldest_83 n K20 K31 l1 l3 l4 s0 σ = some w) : J md_Mod_coldest 3 83 [some (mR 30 0), some (mI l1), none, some (mI l3), some (mI l4), none] [mI s0] σ (some (mI w.1)) w.2 := by
  rw [F_Mod_coldest_83] at hF
  exact J.run tk_Mod_coldest 3 rfl (hK31 _ _ _ _ _ hF)
theorem h_Mod_coldest_71 (n : Nat) (w : (Int32 × St)) (K20 : Int32 → Int32 → Int32 → St → Option (Int32 × St)) (hK20 : ∀ (l1 : Int32) (l2 : Int32) (l3 : Int32) (σ : St), K20 l1 l2 l3 σ = some w → J md_Mod_coldest 3 20 [some (mR 30 0), some (mI l1), some (mI l2), some (mI l3), none, none] [] σ (some (mI w.1)) w.2) (K31 : Int32 → Int32 → Int32 → Int32 → St → Option (Int32 × St)) (hK31 : ∀ (l1 : Int32) (l2 : Int32) (l3 : Int32) (l4 : Int32) (σ : St), K31 l1 l2 l3 l4 σ = some w → J md_Mod_coldest 3 31 [some (mR 30 0), some (mI l1), some (mI l2), some (mI l3), some (mI l4), none] [] σ (some (mI w.1)) w.2) (l2 : Int32) (l3 : Int32) (l4 : Int32) (l5 : Int32) (s0 : Int32) (σ : St) (hF : F_Mod_coldest_71 n K20 K31 l2 l3 l4 l5 s0 σ = some w) : J md_Mod_coldest 3 71 [some (mR 30 0), none, some (mI l2), some (mI l3), some (mI l4), some (mI l5)] [mI s0] σ (some (mI w.1)) w.2 := by
  rw [F_Mod_coldest_71] at hF
  by_cases hc : l5 = 0
  · simp only [if_pos hc] at hF
    exact J.if_eqT' tk_Mod_coldest 2 rfl rfl hc (J.run tk_Mod_coldest 1 rfl (J.fgt [true, true, false, true, true, false] (h_Mod_coldest_83 n w K20 hK20 K31 hK31 _ _ _ _ _ hF)))
  · simp only [if_neg hc] at hF
    exact J.if_eqF' tk_Mod_coldest 2 rfl rfl hc (J.run tk_Mod_coldest 2 rfl (J.fgt [true, true, false, true, true, false] (h_Mod_coldest_83 n w K20 hK20 K31 hK31 _ _ _ _ _ hF)))
theorem h_Mod_coldest_59 (n : Nat) (w : (Int32 × St)) (K20 : Int32 → Int32 → Int32 → St → Option (Int32 × St)) (hK20 : ∀ (l1 : Int32) (l2 : Int32) (l3 : Int32) (σ : St), K20 l1 l2 l3 σ = some w → J md_Mod_coldest 3 20 [some (mR 30 0), some (mI l1), some (mI l2), some (mI l3), none, none] [] σ (some (mI w.1)) w.2) (K31 : Int32 → Int32 → Int32 → Int32 → St → Option (Int32 × St)) (hK31 : ∀ (l1 : Int32) (l2 : Int32) (l3 : Int32) (l4 : Int32) (σ : St), K31 l1 l2 l3 l4 σ = some w → J md_Mod_coldest 3 31 [some (mR 30 0), some (mI l1), some (mI l2), some (mI l3), some (mI l4), none] [] σ (some (mI w.1)) w.2) (l1 : Int32) (l2 : Int32) (l3 : Int32) (l4 : Int32) (s0 : Int32) (σ : St) (hF : F_Mod_coldest_59 n K20 K31 l1 l2 l3 l4 s0 σ = some w) : J md_Mod_coldest 3 59 [some (mR 30 0), some (mI l1), some (mI l2), some (mI l3), some (mI l4), none] [mI s0] σ (some (mI w.1)) w.2 := by
  rw [F_Mod_coldest_59] at hF
  by_cases hc : s0 = 0
  · simp only [if_pos hc] at hF
    exact J.if_eqT' tk_Mod_coldest 2 rfl rfl hc (J.run tk_Mod_coldest 1 rfl (J.fgt [true, false, true, true, true, true] (h_Mod_coldest_71 n w K20 hK20 K31 hK31 _ _ _ _ _ _ hF)))
  · simp only [if_neg hc] at hF
    exact J.if_eqF' tk_Mod_coldest 2 rfl rfl hc (J.run tk_Mod_coldest 2 rfl (J.fgt [true, false, true, true, true, true] (h_Mod_coldest_71 n w K20 hK20 K31 hK31 _ _ _ _ _ _ hF)))
theorem h_Mod_coldest_31 (n : Nat) (w : (Int32 × St)) (K20 : Int32 → Int32 → Int32 → St → Option (Int32 × St)) (hK20 : ∀ (l1 : Int32) (l2 : Int32) (l3 : Int32) (σ : St), K20 l1 l2 l3 σ = some w → J md_Mod_coldest 3 20 [some (mR 30 0), some (mI l1), some (mI l2), some (mI l3), none, none] [] σ (some (mI w.1)) w.2) : ∀ (k : Nat) (l1 : Int32) (l2 : Int32) (l3 : Int32) (l4 : Int32) (σ : St), F_Mod_coldest_31 n K20 k l1 l2 l3 l4 σ = some w → J md_Mod_coldest 3 31 [some (mR 30 0), some (mI l1), some (mI l2), some (mI l3), some (mI l4), none] [] σ (some (mI w.1)) w.2 := by
  intro k
  induction k with
  | zero => intro l1 l2 l3 l4 σ hF; exact no_s hF
  | succ k ih =>
    intro l1 l2 l3 l4 σ hF
    rw [F_Mod_coldest_31] at hF
    refine J.icmp_ge tk_Mod_coldest 2 rfl rfl hF (fun hF => ?_) (fun hF => ?_)
    · exact J.run tk_Mod_coldest 2 rfl (J.fgt [true, true, true, true, false, false] (hK20 _ _ _ _ hF))
    · refine J.cpI tk_Mod_coldest (as := [mR 30 0, mI l3, mI l4]) (rest := []) 3 rfl rfl rfl (ckV (md' := md_Mod_feelsIn) lk_6_183 ok_Mod_feelsIn rfl rfl rfl) rfl (by decide) (fun v1 h => c_Mod_feelsIn n _ _ _ _ h) hF (fun v3 hF => ?_)
      refine J.cpI tk_Mod_coldest (as := [mR 30 0, mI l1, mI l2]) (rest := [mI v3]) 3 rfl rfl rfl (ckV (md' := md_Mod_feelsIn) lk_6_183 ok_Mod_feelsIn rfl rfl rfl) rfl (by decide) (fun v1 h => c_Mod_feelsIn n _ _ _ _ h) hF (fun v4 hF => ?_)
      by_cases hc : v4 ≤ v3
      · simp only [if_pos hc] at hF
        exact J.icmp_geT' tk_Mod_coldest 0 rfl rfl hc (J.run tk_Mod_coldest 1 rfl (h_Mod_coldest_59 n w K20 hK20 (F_Mod_coldest_31 n K20 k) ih _ _ _ _ _ _ hF))
      · simp only [if_neg hc] at hF
        exact J.icmp_geF' tk_Mod_coldest 0 rfl rfl hc (J.run tk_Mod_coldest 2 rfl (h_Mod_coldest_59 n w K20 hK20 (F_Mod_coldest_31 n K20 k) ih _ _ _ _ _ _ hF))
theorem h_Mod_coldest_20 (n : Nat) (w : (Int32 × St)) : ∀ (k : Nat) (l1 : Int32) (l2 : Int32) (l3 : Int32) (σ : St), F_Mod_coldest_20 n k l1 l2 l3 σ = some w → J md_Mod_coldest 3 20 [some (mR 30 0), some (mI l1), some (mI l2), some (mI l3), none, none] [] σ (some (mI w.1)) w.2 := by
  intro k
  induction k with
  | zero => intro l1 l2 l3 σ hF; exact no_s hF
  | succ k ih =>
    intro l1 l2 l3 σ hF
    rw [F_Mod_coldest_20] at hF
    refine J.icmp_ge tk_Mod_coldest 3 rfl rfl hF (fun hF => ?_) (fun hF => ?_)
    · refine J.putI tk_Mod_coldest 2 rfl rfl rfl rfl rfl ⟨rfl, rfl⟩ hF (fun σ2 hF => ?_)
      exact J.wsI hF (J.reti tk_Mod_coldest 1 rfl rfl rfl)
    · exact J.run tk_Mod_coldest 2 rfl (h_Mod_coldest_31 n w (F_Mod_coldest_20 n k) ih n _ _ _ _ _ hF)
theorem c_Mod_coldest (n : Nat) (σ : St) (w : (Int32 × St)) (hF : F_Mod_coldest n σ = some w) : Call md_Mod_coldest 3 [mR 30 0] σ (some (mI w.1)) w.2 := by
  rw [F_Mod_coldest] at hF
  refine Call.of ok_Mod_coldest.1 (Nat.le_of_ble_eq_true rfl) (L := [some (mR 30 0), none, none, none, none, none]) rfl ?_
  refine J.if_ne tk_Mod_coldest 2 rfl rfl hF (fun hF => ?_) (fun hF => ?_)
  · refine J.csV tk_Mod_coldest (as := [mR 30 0]) (rest := []) 1 rfl rfl rfl (ckV (md' := md_Mod_layNow) lk_6_204 ok_Mod_layNow rfl rfl rfl) rfl (by decide) (fun s1 h => c_Mod_layNow n _ _ h) hF (fun σ1 hF => ?_)
    exact J.run tk_Mod_coldest 6 rfl (h_Mod_coldest_20 n w n _ _ _ _ hF)
  · exact J.wsI hF (J.reti tk_Mod_coldest 1 rfl rfl rfl)
noncomputable def F_Mod_worthNow_4 (n : Nat) : Nat → Int32 → Int32 → St → Option Int32
  | 0, _, _, _ => none
  | k + 1, l1, l2, σ =>
    if σ.1 30 0 1 ≤ l2 then
      some l1
    else
    (F_Mod_sleptBy n l2 σ).bind fun v1 =>
    (F_Mod_worthNow_4 n k) (l1 + v1) (l2 + 1) σ
noncomputable def F_Mod_worthNow (n : Nat) (σ : St) : Option Int32 :=
  F_Mod_worthNow_4 n n 0 0 σ
theorem h_Mod_worthNow_4 (n : Nat) (w : Int32) : ∀ (k : Nat) (l1 : Int32) (l2 : Int32) (σ : St), F_Mod_worthNow_4 n k l1 l2 σ = some w → J md_Mod_worthNow 6 4 [some (mR 30 0), some (mI l1), some (mI l2)] [] σ (some (mI w)) σ := by
  intro k
  induction k with
  | zero => intro l1 l2 σ hF; exact no_s hF
  | succ k ih =>
    intro l1 l2 σ hF
    rw [F_Mod_worthNow_4] at hF
    refine J.icmp_ge tk_Mod_worthNow 3 rfl rfl hF (fun hF => ?_) (fun hF => ?_)
    · exact J.wI hF (J.reti tk_Mod_worthNow 1 rfl rfl rfl)
    · refine J.cpI tk_Mod_worthNow (as := [mR 30 0, mI l2]) (rest := [mI l1]) 3 rfl rfl rfl (ckV (md' := md_Mod_sleptBy) lk_6_195 ok_Mod_sleptBy rfl rfl rfl) rfl (by decide) (fun v1 h => c_Mod_sleptBy n _ _ _ h) hF (fun v1 hF => ?_)
      exact J.run tk_Mod_worthNow 4 rfl (ih _ _ _ hF)
theorem c_Mod_worthNow (n : Nat) (σ : St) (w : Int32) (hF : F_Mod_worthNow n σ = some w) : Call md_Mod_worthNow 6 [mR 30 0] σ (some (mI w)) σ := by
  rw [F_Mod_worthNow] at hF
  refine Call.of ok_Mod_worthNow.1 (Nat.le_of_ble_eq_true rfl) (L := [some (mR 30 0), none, none]) rfl ?_
  exact J.run tk_Mod_worthNow 4 rfl (h_Mod_worthNow_4 n w n _ _ _ hF)
