noncomputable def F_Tent_undo (n : Nat) (a1 : Int32) (σ : St) : Option (Int32 × St) :=
  if a1 < 0 then
    some ((-1), σ)
  else
  if a1 ≤ σ.1 4 0 16 then
    if ((σ.1 4 0 16) - a1) ≤ 0 then
      some ((σ.1 4 0 16) - a1, σ)
    else
    (F_Camp_recall n 0 a1 σ).bind fun σ1 =>
    some ((σ.1 4 0 16) - a1, σ1)
  else
  some ((-1), σ)
theorem c_Tent_undo (n : Nat) (a1 : Int32) (σ : St) (w : (Int32 × St)) (hF : F_Tent_undo n a1 σ = some w) : Call md_Tent_undo 2 [mR 0 0, mI a1] σ (some (mI w.1)) w.2 := by
  rw [F_Tent_undo] at hF
  refine Call.of ok_Tent_undo.1 (Nat.le_of_ble_eq_true rfl) (L := [some (mR 0 0), some (mI a1), none]) rfl ?_
  refine J.if_lt tk_Tent_undo 1 rfl rfl hF (fun hF => ?_) (fun hF => ?_)
  · exact J.wsI hF (J.reti tk_Tent_undo 1 rfl rfl rfl)
  · refine J.icmp_le tk_Tent_undo 4 rfl rfl hF (fun hF => ?_) (fun hF => ?_)
    · refine J.if_le tk_Tent_undo 7 rfl rfl hF (fun hF => ?_) (fun hF => ?_)
      · exact J.wsI hF (J.reti tk_Tent_undo 1 rfl rfl rfl)
      · refine J.csV tk_Tent_undo (as := [mR 4 0, mI a1]) (rest := []) 3 rfl rfl rfl (ckV (md' := md_Camp_recall) lk_5_215 ok_Camp_recall rfl rfl rfl) rfl (by decide) (fun s1 h => c_Camp_recall n _ _ _ _ h) hF (fun σ1 hF => ?_)
        exact J.wsI hF (J.reti tk_Tent_undo 1 rfl rfl rfl)
    · exact J.wsI hF (J.reti tk_Tent_undo 1 rfl rfl rfl)
noncomputable def F_Tent_now (σ : St) : Option (Int32 × St) :=
  if σ.1 4 0 10 = 0 then
    some ((-4), σ)
  else
  bs (si σ 0 0 10 (σ.1 4 0 15)) fun σ1 =>
  some (σ1.1 4 0 14, σ1)
theorem c_Tent_now (σ : St) (w : (Int32 × St)) (hF : F_Tent_now σ = some w) : Call md_Tent_now 0 [mR 0 0] σ (some (mI w.1)) w.2 := by
  rw [F_Tent_now] at hF
  refine Call.of ok_Tent_now.1 (Nat.le_of_ble_eq_true rfl) (L := [some (mR 0 0)]) rfl ?_
  refine J.if_ne tk_Tent_now 3 rfl rfl hF (fun hF => ?_) (fun hF => ?_)
  · refine J.putI tk_Tent_now 4 rfl rfl rfl rfl rfl ⟨rfl, rfl⟩ hF (fun σ1 hF => ?_)
    exact J.wsI hF (J.reti tk_Tent_now 3 rfl rfl rfl)
  · exact J.wsI hF (J.reti tk_Tent_now 1 rfl rfl rfl)
noncomputable def F_Tent_keep (a1 : Int32) (σ : St) : Option (Int32 × St) :=
  if a1 < 0 then
    some ((-1), σ)
  else
  if a1 < 3 then
    if σ.1 4 0 10 = 0 then
      some ((-4), σ)
    else
    (kld a1).bind fun q1 =>
    (F_Camp_takeWhole q1 0 σ).bind fun σ2 =>
    some (σ2.1 4 0 16, σ2)
  else
  some ((-1), σ)
theorem c_Tent_keep (a1 : Int32) (σ : St) (w : (Int32 × St)) (hF : F_Tent_keep a1 σ = some w) : Call md_Tent_keep 3 [mR 0 0, mI a1] σ (some (mI w.1)) w.2 := by
  rw [F_Tent_keep] at hF
  refine Call.of ok_Tent_keep.1 (Nat.le_of_ble_eq_true rfl) (L := [some (mR 0 0), some (mI a1)]) rfl ?_
  refine J.if_lt tk_Tent_keep 1 rfl rfl hF (fun hF => ?_) (fun hF => ?_)
  · exact J.wsI hF (J.reti tk_Tent_keep 1 rfl rfl rfl)
  · refine J.icmp_lt tk_Tent_keep 2 rfl rfl hF (fun hF => ?_) (fun hF => ?_)
    · refine J.if_ne tk_Tent_keep 3 rfl rfl hF (fun hF => ?_) (fun hF => ?_)
      · refine J.aald tk_Tent_keep 3 rfl rfl hF (fun q1 hF => ?_)
        refine J.csV tk_Tent_keep (as := [mR 4 q1, mR 4 0]) (rest := []) 2 rfl rfl rfl (ckV (md' := md_Camp_takeWhole) lk_5_123 ok_Camp_takeWhole rfl rfl rfl) rfl (by decide) (fun s1 h => c_Camp_takeWhole _ _ _ _ h) hF (fun σ2 hF => ?_)
        exact J.wsI hF (J.reti tk_Tent_keep 3 rfl rfl rfl)
      · exact J.wsI hF (J.reti tk_Tent_keep 1 rfl rfl rfl)
    · exact J.wsI hF (J.reti tk_Tent_keep 1 rfl rfl rfl)
noncomputable def F_Tent_isKept (a1 : Int32) (σ : St) : Option Int32 :=
  (kld a1).bind fun q1 =>
  if σ.1 4 q1 10 ≤ 0 then
    some 0
  else
  some 1
theorem c_Tent_isKept (a1 : Int32) (σ : St) (w : Int32) (hF : F_Tent_isKept a1 σ = some w) : Call md_Tent_isKept 0 [mR 0 0, mI a1] σ (some (mI w)) σ := by
  rw [F_Tent_isKept] at hF
  refine Call.of ok_Tent_isKept.1 (Nat.le_of_ble_eq_true rfl) (L := [some (mR 0 0), some (mI a1)]) rfl ?_
  refine J.aald tk_Tent_isKept 3 rfl rfl hF (fun q1 hF => ?_)
  refine J.if_le tk_Tent_isKept 1 rfl rfl hF (fun hF => ?_) (fun hF => ?_)
  · exact J.wI hF (J.retz tk_Tent_isKept 1 rfl rfl rfl rfl)
  · exact J.wI hF (J.retz tk_Tent_isKept 2 rfl rfl rfl rfl)
noncomputable def F_Tent_on (a1 : Int32) (σ : St) : Option (Int32 × St) :=
  if a1 < 0 then
    some ((-1), σ)
  else
  if a1 < 3 then
    (F_Tent_isKept a1 σ).bind fun v1 =>
    if v1 = 0 then
      b2 (F_Tent_found 1 σ) fun v4 σ5 =>
      some (v4, σ5)
    else
    (kld a1).bind fun q2 =>
    (F_Camp_takeWhole 0 q2 σ).bind fun σ3 =>
    some (σ3.1 4 0 16, σ3)
  else
  some ((-1), σ)
theorem c_Tent_on (a1 : Int32) (σ : St) (w : (Int32 × St)) (hF : F_Tent_on a1 σ = some w) : Call md_Tent_on 3 [mR 0 0, mI a1] σ (some (mI w.1)) w.2 := by
  rw [F_Tent_on] at hF
  refine Call.of ok_Tent_on.1 (Nat.le_of_ble_eq_true rfl) (L := [some (mR 0 0), some (mI a1)]) rfl ?_
  refine J.if_lt tk_Tent_on 1 rfl rfl hF (fun hF => ?_) (fun hF => ?_)
  · exact J.wsI hF (J.reti tk_Tent_on 1 rfl rfl rfl)
  · refine J.icmp_lt tk_Tent_on 2 rfl rfl hF (fun hF => ?_) (fun hF => ?_)
    · refine J.cpI tk_Tent_on (as := [mR 0 0, mI a1]) (rest := []) 2 rfl rfl rfl (ckV (md' := md_Tent_isKept) lk_5_218 ok_Tent_isKept rfl rfl rfl) rfl (by decide) (fun v1 h => c_Tent_isKept _ _ _ h) hF (fun v1 hF => ?_)
      refine J.if_ne tk_Tent_on 0 rfl rfl hF (fun hF => ?_) (fun hF => ?_)
      · refine J.aald tk_Tent_on 5 rfl rfl hF (fun q2 hF => ?_)
        refine J.csV tk_Tent_on (as := [mR 4 0, mR 4 q2]) (rest := []) 0 rfl rfl rfl (ckV (md' := md_Camp_takeWhole) lk_5_123 ok_Camp_takeWhole rfl rfl rfl) rfl (by decide) (fun s1 h => c_Camp_takeWhole _ _ _ _ h) hF (fun σ3 hF => ?_)
        exact J.wsI hF (J.reti tk_Tent_on 3 rfl rfl rfl)
      · refine J.csI tk_Tent_on (as := [mR 0 0, mI 1]) (rest := []) 2 rfl rfl rfl (ckV (md' := md_Tent_found) lk_5_97 ok_Tent_found rfl rfl rfl) rfl (by decide) (fun v1 s1 h => c_Tent_found _ _ (v1, s1) h) hF (fun v4 σ5 hF => ?_)
        exact J.wsI hF (J.reti tk_Tent_on 0 rfl rfl rfl)
    · exact J.wsI hF (J.reti tk_Tent_on 1 rfl rfl rfl)
noncomputable def F_Tent_isHour (a1 : Int32) : Option Int32 :=
  if a1 < 0 then
    some 0
  else
  if 8 ≤ a1 then
    some 0
  else
  some 1
theorem c_Tent_isHour (a1 : Int32) (σ : St) (w : Int32) (hF : F_Tent_isHour a1 = some w) : Call md_Tent_isHour 0 [mI a1] σ (some (mI w)) σ := by
  rw [F_Tent_isHour] at hF
  refine Call.of ok_Tent_isHour.1 (Nat.le_of_ble_eq_true rfl) (L := [some (mI a1)]) rfl ?_
  refine J.if_lt tk_Tent_isHour 1 rfl rfl hF (fun hF => ?_) (fun hF => ?_)
  · exact J.wI hF (J.retz tk_Tent_isHour 1 rfl rfl rfl rfl)
  · refine J.icmp_ge tk_Tent_isHour 2 rfl rfl hF (fun hF => ?_) (fun hF => ?_)
    · exact J.wI hF (J.retz tk_Tent_isHour 1 rfl rfl rfl rfl)
    · exact J.wI hF (J.retz tk_Tent_isHour 2 rfl rfl rfl rfl)
noncomputable def F_Tent_feels (a1 : Int32) (a2 : Int32) (σ : St) : Option (Int32 × St) :=
  (F_Camp_isSleeper 0 a1 σ).bind fun v1 =>
  if v1 = 0 then
    some ((-1), σ)
  else
  (F_Tent_isHour a2).bind fun v2 =>
  if v2 = 0 then
    some ((-1), σ)
  else
  (F_Camp_feeling 0 a1 a2 σ).bind fun v3 =>
  bs (si σ 0 0 10 v3) fun σ4 =>
  some (1, σ4)
theorem c_Tent_feels (a1 : Int32) (a2 : Int32) (σ : St) (w : (Int32 × St)) (hF : F_Tent_feels a1 a2 σ = some w) : Call md_Tent_feels 3 [mR 0 0, mI a1, mI a2] σ (some (mI w.1)) w.2 := by
  rw [F_Tent_feels] at hF
  refine Call.of ok_Tent_feels.1 (Nat.le_of_ble_eq_true rfl) (L := [some (mR 0 0), some (mI a1), some (mI a2)]) rfl ?_
  refine J.cpI tk_Tent_feels (as := [mR 4 0, mI a1]) (rest := []) 3 rfl rfl rfl (ckV (md' := md_Camp_isSleeper) lk_5_133 ok_Camp_isSleeper rfl rfl rfl) rfl (by decide) (fun v1 h => c_Camp_isSleeper _ _ _ _ h) hF (fun v1 hF => ?_)
  refine J.if_eq tk_Tent_feels 0 rfl rfl hF (fun hF => ?_) (fun hF => ?_)
  · exact J.wsI hF (J.reti tk_Tent_feels 1 rfl rfl rfl)
  · refine J.cpI tk_Tent_feels (as := [mI a2]) (rest := []) 1 rfl rfl rfl (ckS (md' := md_Tent_isHour) lk_5_221 ok_Tent_isHour rfl) rfl (by decide) (fun v1 h => c_Tent_isHour _ _ _ h) hF (fun v2 hF => ?_)
    refine J.if_ne tk_Tent_feels 0 rfl rfl hF (fun hF => ?_) (fun hF => ?_)
    · refine J.cpI tk_Tent_feels (as := [mR 4 0, mI a1, mI a2]) (rest := [mR 0 0]) 5 rfl rfl rfl (ckV (md' := md_Camp_feeling) lk_5_224 ok_Camp_feeling rfl rfl rfl) rfl (by decide) (fun v1 h => c_Camp_feeling _ _ _ _ _ h) hF (fun v3 hF => ?_)
      refine J.putI tk_Tent_feels 0 rfl rfl rfl rfl rfl ⟨rfl, rfl⟩ hF (fun σ4 hF => ?_)
      exact J.wsI hF (J.reti tk_Tent_feels 1 rfl rfl rfl)
    · exact J.wsI hF (J.reti tk_Tent_feels 1 rfl rfl rfl)
noncomputable def F_Tent_why (n : Nat) (a1 : Int32) (a2 : Int32) (σ : St) : Option Int32 :=
  (F_Camp_isSleeper 0 a1 σ).bind fun v1 =>
  if v1 = 0 then
    some (-1)
  else
  (F_Tent_isHour a2).bind fun v2 =>
  if v2 = 0 then
    some (-1)
  else
  (F_Camp_reasons n 0 a1 a2 σ).bind fun v3 =>
  some v3
theorem c_Tent_why (n : Nat) (a1 : Int32) (a2 : Int32) (σ : St) (w : Int32) (hF : F_Tent_why n a1 a2 σ = some w) : Call md_Tent_why 4 [mR 0 0, mI a1, mI a2] σ (some (mI w)) σ := by
  rw [F_Tent_why] at hF
  refine Call.of ok_Tent_why.1 (Nat.le_of_ble_eq_true rfl) (L := [some (mR 0 0), some (mI a1), some (mI a2)]) rfl ?_
  refine J.cpI tk_Tent_why (as := [mR 4 0, mI a1]) (rest := []) 3 rfl rfl rfl (ckV (md' := md_Camp_isSleeper) lk_5_133 ok_Camp_isSleeper rfl rfl rfl) rfl (by decide) (fun v1 h => c_Camp_isSleeper _ _ _ _ h) hF (fun v1 hF => ?_)
  refine J.if_eq tk_Tent_why 0 rfl rfl hF (fun hF => ?_) (fun hF => ?_)
  · exact J.wI hF (J.reti tk_Tent_why 1 rfl rfl rfl)
  · refine J.cpI tk_Tent_why (as := [mI a2]) (rest := []) 1 rfl rfl rfl (ckS (md' := md_Tent_isHour) lk_5_221 ok_Tent_isHour rfl) rfl (by decide) (fun v1 h => c_Tent_isHour _ _ _ h) hF (fun v2 hF => ?_)
    refine J.if_eq tk_Tent_why 0 rfl rfl hF (fun hF => ?_) (fun hF => ?_)
    · exact J.wI hF (J.reti tk_Tent_why 1 rfl rfl rfl)
    · refine J.cpI tk_Tent_why (as := [mR 4 0, mI a1, mI a2]) (rest := []) 4 rfl rfl rfl (ckV (md' := md_Camp_reasons) lk_5_227 ok_Camp_reasons rfl rfl rfl) rfl (by decide) (fun v1 h => c_Camp_reasons n _ _ _ _ _ h) hF (fun v3 hF => ?_)
      exact J.wI hF (J.reti tk_Tent_why 1 rfl rfl rfl)
noncomputable def F_Camp_coldOnes_29 (n : Nat) (t : Nat) (K4 : Int32 → Int32 → Int32 → St → Option Int32) (l1 : Int32) (l3 : Int32) (s0 : Int32) (s1 : Int32) (σ : St) : Option Int32 :=
  K4 l1 (s0 ||| s1) (l3 + 1) σ
noncomputable def F_Camp_coldOnes_4 (n : Nat) (t : Nat) : Nat → Int32 → Int32 → Int32 → St → Option Int32
  | 0, _, _, _, _ => none
  | k + 1, l1, l2, l3, σ =>
    if σ.1 4 t 10 ≤ l3 then
      some l2
    else
    (F_Camp_feeling t l3 l1 σ).bind fun v1 =>
    F_Camp_coldOnes_29 n t (F_Camp_coldOnes_4 n t k) l1 l3 l2 (if 0 ≤ v1 then 0 else 1 <<< (l3 &&& 31)) σ
noncomputable def F_Camp_coldOnes (n : Nat) (t : Nat) (a1 : Int32) (σ : St) : Option Int32 :=
  F_Camp_coldOnes_4 n t n a1 0 0 σ
theorem h_Camp_coldOnes_29 (n : Nat) (t : Nat) (w : Int32) (K4 : Int32 → Int32 → Int32 → St → Option Int32) (hK4 : ∀ (l1 : Int32) (l2 : Int32) (l3 : Int32) (σ : St), K4 l1 l2 l3 σ = some w → J md_Camp_coldOnes 3 4 [some (mR 4 t), some (mI l1), some (mI l2), some (mI l3)] [] σ (some (mI w)) σ) (l1 : Int32) (l3 : Int32) (s0 : Int32) (s1 : Int32) (σ : St) (hF : F_Camp_coldOnes_29 n t K4 l1 l3 s0 s1 σ = some w) : J md_Camp_coldOnes 3 29 [some (mR 4 t), some (mI l1), none, some (mI l3)] [mI s1, mI s0] σ (some (mI w)) σ := by
  rw [F_Camp_coldOnes_29] at hF
  exact J.run tk_Camp_coldOnes 4 rfl (hK4 _ _ _ _ hF)
theorem h_Camp_coldOnes_4 (n : Nat) (t : Nat) (w : Int32) : ∀ (k : Nat) (l1 : Int32) (l2 : Int32) (l3 : Int32) (σ : St), F_Camp_coldOnes_4 n t k l1 l2 l3 σ = some w → J md_Camp_coldOnes 3 4 [some (mR 4 t), some (mI l1), some (mI l2), some (mI l3)] [] σ (some (mI w)) σ := by
  intro k
  induction k with
  | zero => intro l1 l2 l3 σ hF; exact no_s hF
  | succ k ih =>
    intro l1 l2 l3 σ hF
    rw [F_Camp_coldOnes_4] at hF
    refine J.icmp_ge tk_Camp_coldOnes 3 rfl rfl hF (fun hF => ?_) (fun hF => ?_)
    · exact J.wI hF (J.reti tk_Camp_coldOnes 1 rfl rfl rfl)
    · refine J.cpI tk_Camp_coldOnes (as := [mR 4 t, mI l3, mI l1]) (rest := [mI l2]) 4 rfl rfl rfl (ckV (md' := md_Camp_feeling) lk_0_117 ok_Camp_feeling rfl rfl rfl) rfl (by decide) (fun v1 h => c_Camp_feeling _ _ _ _ _ h) hF (fun v1 hF => ?_)
      by_cases hc : 0 ≤ v1
      · simp only [if_pos hc] at hF
        exact J.if_geT' tk_Camp_coldOnes 0 rfl rfl hc (J.run tk_Camp_coldOnes 1 rfl (J.fgt [true, true, false, true] (h_Camp_coldOnes_29 n t w (F_Camp_coldOnes_4 n t k) ih _ _ _ _ _ hF)))
      · simp only [if_neg hc] at hF
        exact J.if_geF' tk_Camp_coldOnes 0 rfl rfl hc (J.run tk_Camp_coldOnes 4 rfl (J.fgt [true, true, false, true] (h_Camp_coldOnes_29 n t w (F_Camp_coldOnes_4 n t k) ih _ _ _ _ _ hF)))
theorem c_Camp_coldOnes (n : Nat) (t : Nat) (a1 : Int32) (σ : St) (w : Int32) (hF : F_Camp_coldOnes n t a1 σ = some w) : Call md_Camp_coldOnes 3 [mR 4 t, mI a1] σ (some (mI w)) σ := by
  rw [F_Camp_coldOnes] at hF
  refine Call.of ok_Camp_coldOnes.1 (Nat.le_of_ble_eq_true rfl) (L := [some (mR 4 t), some (mI a1), none, none]) rfl ?_
  exact J.run tk_Camp_coldOnes 4 rfl (h_Camp_coldOnes_4 n t w n _ _ _ _ hF)
noncomputable def F_Tent_sleeps (n : Nat) (a1 : Int32) (σ : St) : Option (Int32 × St) :=
  (F_Tent_isHour a1).bind fun v1 =>
  if v1 = 0 then
    some ((-1), σ)
  else
  (F_Camp_coldOnes n 0 a1 σ).bind fun v2 =>
  bs (si σ 0 0 10 v2) fun σ3 =>
  (F_Camp_sleepingOnes n 0 a1 σ3).bind fun v4 =>
  some (v4, σ3)
theorem c_Tent_sleeps (n : Nat) (a1 : Int32) (σ : St) (w : (Int32 × St)) (hF : F_Tent_sleeps n a1 σ = some w) : Call md_Tent_sleeps 5 [mR 0 0, mI a1] σ (some (mI w.1)) w.2 := by
  rw [F_Tent_sleeps] at hF
  refine Call.of ok_Tent_sleeps.1 (Nat.le_of_ble_eq_true rfl) (L := [some (mR 0 0), some (mI a1)]) rfl ?_
  refine J.cpI tk_Tent_sleeps (as := [mI a1]) (rest := []) 1 rfl rfl rfl (ckS (md' := md_Tent_isHour) lk_5_221 ok_Tent_isHour rfl) rfl (by decide) (fun v1 h => c_Tent_isHour _ _ _ h) hF (fun v1 hF => ?_)
  refine J.if_ne tk_Tent_sleeps 0 rfl rfl hF (fun hF => ?_) (fun hF => ?_)
  · refine J.cpI tk_Tent_sleeps (as := [mR 4 0, mI a1]) (rest := [mR 0 0]) 4 rfl rfl rfl (ckV (md' := md_Camp_coldOnes) lk_5_230 ok_Camp_coldOnes rfl rfl rfl) rfl (by decide) (fun v1 h => c_Camp_coldOnes n _ _ _ _ h) hF (fun v2 hF => ?_)
    refine J.putI tk_Tent_sleeps 0 rfl rfl rfl rfl rfl ⟨rfl, rfl⟩ hF (fun σ3 hF => ?_)
    refine J.cpI tk_Tent_sleeps (as := [mR 4 0, mI a1]) (rest := []) 3 rfl rfl rfl (ckV (md' := md_Camp_sleepingOnes) lk_5_233 ok_Camp_sleepingOnes rfl rfl rfl) rfl (by decide) (fun v1 h => c_Camp_sleepingOnes n _ _ _ _ h) hF (fun v4 hF => ?_)
    exact J.wsI hF (J.reti tk_Tent_sleeps 0 rfl rfl rfl)
  · exact J.wsI hF (J.reti tk_Tent_sleeps 1 rfl rfl rfl)
noncomputable def F_Camp_calmHours_49 (n : Nat) (t : Nat) (K21 : Int32 → Int32 → Int32 → Int32 → St → Option Int32) (l1 : Int32) (l2 : Int32) (l4 : Int32) (s0 : Int32) (s1 : Int32) (σ : St) : Option Int32 :=
  K21 l1 l2 (s0 ||| s1) (l4 + 1) σ
noncomputable def F_Camp_calmHours_21 (n : Nat) (t : Nat) : Nat → Int32 → Int32 → Int32 → Int32 → St → Option Int32
  | 0, _, _, _, _, _ => none
  | k + 1, l1, l2, l3, l4, σ =>
    if 8 ≤ l4 then
      some l3
    else
    (F_Camp_hourlyFeeling t l1 l4 σ).bind fun v3 =>
    F_Camp_calmHours_49 n t (F_Camp_calmHours_21 n t k) l1 l2 l4 l3 (if (l2 + v3) < 0 then 0 else 1 <<< (l4 &&& 31)) σ
noncomputable def F_Camp_calmHours (n : Nat) (t : Nat) (a1 : Int32) (σ : St) : Option Int32 :=
  (F_Camp_hearsAny n t a1 σ).bind fun v1 =>
  if v1 = 0 then
    (F_Camp_steadyFeeling t a1 σ).bind fun v2 =>
    F_Camp_calmHours_21 n t n a1 v2 0 0 σ
  else
  some 0
theorem h_Camp_calmHours_49 (n : Nat) (t : Nat) (w : Int32) (K21 : Int32 → Int32 → Int32 → Int32 → St → Option Int32) (hK21 : ∀ (l1 : Int32) (l2 : Int32) (l3 : Int32) (l4 : Int32) (σ : St), K21 l1 l2 l3 l4 σ = some w → J md_Camp_calmHours 2 21 [some (mR 4 t), some (mI l1), some (mI l2), some (mI l3), some (mI l4)] [] σ (some (mI w)) σ) (l1 : Int32) (l2 : Int32) (l4 : Int32) (s0 : Int32) (s1 : Int32) (σ : St) (hF : F_Camp_calmHours_49 n t K21 l1 l2 l4 s0 s1 σ = some w) : J md_Camp_calmHours 2 49 [some (mR 4 t), some (mI l1), some (mI l2), none, some (mI l4)] [mI s1, mI s0] σ (some (mI w)) σ := by
  rw [F_Camp_calmHours_49] at hF
  exact J.run tk_Camp_calmHours 4 rfl (hK21 _ _ _ _ _ hF)
theorem h_Camp_calmHours_21 (n : Nat) (t : Nat) (w : Int32) : ∀ (k : Nat) (l1 : Int32) (l2 : Int32) (l3 : Int32) (l4 : Int32) (σ : St), F_Camp_calmHours_21 n t k l1 l2 l3 l4 σ = some w → J md_Camp_calmHours 2 21 [some (mR 4 t), some (mI l1), some (mI l2), some (mI l3), some (mI l4)] [] σ (some (mI w)) σ := by
  intro k
  induction k with
  | zero => intro l1 l2 l3 l4 σ hF; exact no_s hF
  | succ k ih =>
    intro l1 l2 l3 l4 σ hF
    rw [F_Camp_calmHours_21] at hF
    refine J.icmp_ge tk_Camp_calmHours 2 rfl rfl hF (fun hF => ?_) (fun hF => ?_)
    · exact J.wI hF (J.reti tk_Camp_calmHours 1 rfl rfl rfl)
    · refine J.cpI tk_Camp_calmHours (as := [mR 4 t, mI l1, mI l4]) (rest := [mI l2, mI l3]) 5 rfl rfl rfl (ckV (md' := md_Camp_hourlyFeeling) lk_0_114 ok_Camp_hourlyFeeling rfl rfl rfl) rfl (by decide) (fun v1 h => c_Camp_hourlyFeeling _ _ _ _ _ h) hF (fun v3 hF => ?_)
      by_cases hc : (l2 + v3) < 0
      · simp only [if_pos hc] at hF
        exact J.if_ltT' tk_Camp_calmHours 1 rfl rfl hc (J.run tk_Camp_calmHours 1 rfl (J.fgt [true, true, true, false, true] (h_Camp_calmHours_49 n t w (F_Camp_calmHours_21 n t k) ih _ _ _ _ _ _ hF)))
      · simp only [if_neg hc] at hF
        exact J.if_ltF' tk_Camp_calmHours 1 rfl rfl hc (J.run tk_Camp_calmHours 4 rfl (J.fgt [true, true, true, false, true] (h_Camp_calmHours_49 n t w (F_Camp_calmHours_21 n t k) ih _ _ _ _ _ _ hF)))
theorem c_Camp_calmHours (n : Nat) (t : Nat) (a1 : Int32) (σ : St) (w : Int32) (hF : F_Camp_calmHours n t a1 σ = some w) : Call md_Camp_calmHours 2 [mR 4 t, mI a1] σ (some (mI w)) σ := by
  rw [F_Camp_calmHours] at hF
  refine Call.of ok_Camp_calmHours.1 (Nat.le_of_ble_eq_true rfl) (L := [some (mR 4 t), some (mI a1), none, none, none]) rfl ?_
  refine J.cpI tk_Camp_calmHours (as := [mR 4 t, mI a1]) (rest := []) 2 rfl rfl rfl (ckV (md' := md_Camp_hearsAny) lk_0_120 ok_Camp_hearsAny rfl rfl rfl) rfl (by decide) (fun v1 h => c_Camp_hearsAny n _ _ _ _ h) hF (fun v1 hF => ?_)
  refine J.if_eq tk_Camp_calmHours 0 rfl rfl hF (fun hF => ?_) (fun hF => ?_)
  · refine J.cpI tk_Camp_calmHours (as := [mR 4 t, mI a1]) (rest := []) 2 rfl rfl rfl (ckV (md' := md_Camp_steadyFeeling) lk_0_111 ok_Camp_steadyFeeling rfl rfl rfl) rfl (by decide) (fun v1 h => c_Camp_steadyFeeling _ _ _ _ h) hF (fun v2 hF => ?_)
    exact J.run tk_Camp_calmHours 5 rfl (h_Camp_calmHours_21 n t w n _ _ _ _ _ hF)
  · exact J.wI hF (J.reti tk_Camp_calmHours 1 rfl rfl rfl)
noncomputable def F_Camp_hoursSlept (n : Nat) (t : Nat) (a1 : Int32) (σ : St) : Option Int32 :=
  (F_Camp_calmHours n t a1 σ).bind fun v1 =>
  (F_Camp_soreHours n t σ).bind fun v2 =>
  (F_Camp_wokenHours t a1 σ).bind fun v3 =>
  (F_Integer_bitCount (v1 &&& ((v2 ||| v3) ^^^ (-1)))).bind fun v4 =>
  some v4
theorem c_Camp_hoursSlept (n : Nat) (t : Nat) (a1 : Int32) (σ : St) (w : Int32) (hF : F_Camp_hoursSlept n t a1 σ = some w) : Call md_Camp_hoursSlept 3 [mR 4 t, mI a1] σ (some (mI w)) σ := by
  rw [F_Camp_hoursSlept] at hF
  refine Call.of ok_Camp_hoursSlept.1 (Nat.le_of_ble_eq_true rfl) (L := [some (mR 4 t), some (mI a1)]) rfl ?_
  refine J.cpI tk_Camp_hoursSlept (as := [mR 4 t, mI a1]) (rest := []) 2 rfl rfl rfl (ckV (md' := md_Camp_calmHours) lk_0_133 ok_Camp_calmHours rfl rfl rfl) rfl (by decide) (fun v1 h => c_Camp_calmHours n _ _ _ _ h) hF (fun v1 hF => ?_)
  refine J.cpI tk_Camp_hoursSlept (as := [mR 4 t]) (rest := [mI v1]) 1 rfl rfl rfl (ckV (md' := md_Camp_soreHours) lk_0_123 ok_Camp_soreHours rfl rfl rfl) rfl (by decide) (fun v1 h => c_Camp_soreHours n _ _ _ h) hF (fun v2 hF => ?_)
  refine J.cpI tk_Camp_hoursSlept (as := [mR 4 t, mI a1]) (rest := [mI v2, mI v1]) 2 rfl rfl rfl (ckV (md' := md_Camp_wokenHours) lk_0_127 ok_Camp_wokenHours rfl rfl rfl) rfl (by decide) (fun v1 h => c_Camp_wokenHours _ _ _ _ h) hF (fun v3 hF => ?_)
  refine J.cpI tk_Camp_hoursSlept (as := [mI (v1 &&& ((v2 ||| v3) ^^^ (-1)))]) (rest := []) 4 rfl rfl rfl (ckS (md' := md_Integer_bitCount) lk_0_136 ok_Integer_bitCount rfl) rfl (by decide) (fun v1 h => c_Integer_bitCount _ _ _ h) hF (fun v4 hF => ?_)
  exact J.wI hF (J.reti tk_Camp_hoursSlept 0 rfl rfl rfl)
noncomputable def F_Tent_slept (n : Nat) (a1 : Int32) (σ : St) : Option Int32 :=
  (F_Camp_isSleeper 0 a1 σ).bind fun v1 =>
  if v1 = 0 then
    some (-1)
  else
  (F_Camp_hoursSlept n 0 a1 σ).bind fun v2 =>
  some v2
theorem c_Tent_slept (n : Nat) (a1 : Int32) (σ : St) (w : Int32) (hF : F_Tent_slept n a1 σ = some w) : Call md_Tent_slept 4 [mR 0 0, mI a1] σ (some (mI w)) σ := by
  rw [F_Tent_slept] at hF
  refine Call.of ok_Tent_slept.1 (Nat.le_of_ble_eq_true rfl) (L := [some (mR 0 0), some (mI a1)]) rfl ?_
  refine J.cpI tk_Tent_slept (as := [mR 4 0, mI a1]) (rest := []) 3 rfl rfl rfl (ckV (md' := md_Camp_isSleeper) lk_5_133 ok_Camp_isSleeper rfl rfl rfl) rfl (by decide) (fun v1 h => c_Camp_isSleeper _ _ _ _ h) hF (fun v1 hF => ?_)
  refine J.if_eq tk_Tent_slept 0 rfl rfl hF (fun hF => ?_) (fun hF => ?_)
  · exact J.wI hF (J.reti tk_Tent_slept 1 rfl rfl rfl)
  · refine J.cpI tk_Tent_slept (as := [mR 4 0, mI a1]) (rest := []) 3 rfl rfl rfl (ckV (md' := md_Camp_hoursSlept) lk_5_236 ok_Camp_hoursSlept rfl rfl rfl) rfl (by decide) (fun v1 h => c_Camp_hoursSlept n _ _ _ _ h) hF (fun v2 hF => ?_)
    exact J.wI hF (J.reti tk_Tent_slept 1 rfl rfl rfl)
noncomputable def F_Tent_coldest_67 (n : Nat) (K19 : Int32 → Int32 → Int32 → St → Option (Int32 × St)) (K33 : Int32 → Int32 → Int32 → Int32 → St → Option (Int32 × St)) (l1 : Int32) (l2 : Int32) (l3 : Int32) (l4 : Int32) (σ : St) : Option (Int32 × St) :=
  K33 l1 l2 l3 (l4 + 1) σ
noncomputable def F_Tent_coldest_33 (n : Nat) (K19 : Int32 → Int32 → Int32 → St → Option (Int32 × St)) : Nat → Int32 → Int32 → Int32 → Int32 → St → Option (Int32 × St)
  | 0, _, _, _, _, _ => none
  | k + 1, l1, l2, l3, l4, σ =>
    if 8 ≤ l4 then
      K19 l1 l2 (l3 + 1) σ
    else
    (F_Camp_feeling 0 l3 l4 σ).bind fun v2 =>
    (F_Camp_feeling 0 l1 l2 σ).bind fun v3 =>
    F_Tent_coldest_67 n K19 (F_Tent_coldest_33 n K19 k) (if v3 ≤ v2 then l1 else l3) (if v3 ≤ v2 then l2 else l4) l3 l4 σ
noncomputable def F_Tent_coldest_19 (n : Nat) : Nat → Int32 → Int32 → Int32 → St → Option (Int32 × St)
  | 0, _, _, _, _ => none
  | k + 1, l1, l2, l3, σ =>
    if σ.1 4 0 10 ≤ l3 then
      bs (si σ 0 0 10 l2) fun σ1 =>
      some (l1, σ1)
    else
    F_Tent_coldest_33 n (F_Tent_coldest_19 n k) n l1 l2 l3 0 σ
noncomputable def F_Tent_coldest (n : Nat) (σ : St) : Option (Int32 × St) :=
  if σ.1 4 0 10 = 0 then
    some ((-4), σ)
  else
  F_Tent_coldest_19 n n 0 0 0 σ
theorem h_Tent_coldest_67 (n : Nat) (w : (Int32 × St)) (K19 : Int32 → Int32 → Int32 → St → Option (Int32 × St)) (hK19 : ∀ (l1 : Int32) (l2 : Int32) (l3 : Int32) (σ : St), K19 l1 l2 l3 σ = some w → J md_Tent_coldest 3 19 [some (mR 0 0), some (mI l1), some (mI l2), some (mI l3), none] [] σ (some (mI w.1)) w.2) (K33 : Int32 → Int32 → Int32 → Int32 → St → Option (Int32 × St)) (hK33 : ∀ (l1 : Int32) (l2 : Int32) (l3 : Int32) (l4 : Int32) (σ : St), K33 l1 l2 l3 l4 σ = some w → J md_Tent_coldest 3 33 [some (mR 0 0), some (mI l1), some (mI l2), some (mI l3), some (mI l4)] [] σ (some (mI w.1)) w.2) (l1 : Int32) (l2 : Int32) (l3 : Int32) (l4 : Int32) (σ : St) (hF : F_Tent_coldest_67 n K19 K33 l1 l2 l3 l4 σ = some w) : J md_Tent_coldest 3 67 [some (mR 0 0), some (mI l1), some (mI l2), some (mI l3), some (mI l4)] [] σ (some (mI w.1)) w.2 := by
  rw [F_Tent_coldest_67] at hF
  exact J.run tk_Tent_coldest 2 rfl (hK33 _ _ _ _ _ hF)
theorem h_Tent_coldest_33 (n : Nat) (w : (Int32 × St)) (K19 : Int32 → Int32 → Int32 → St → Option (Int32 × St)) (hK19 : ∀ (l1 : Int32) (l2 : Int32) (l3 : Int32) (σ : St), K19 l1 l2 l3 σ = some w → J md_Tent_coldest 3 19 [some (mR 0 0), some (mI l1), some (mI l2), some (mI l3), none] [] σ (some (mI w.1)) w.2) : ∀ (k : Nat) (l1 : Int32) (l2 : Int32) (l3 : Int32) (l4 : Int32) (σ : St), F_Tent_coldest_33 n K19 k l1 l2 l3 l4 σ = some w → J md_Tent_coldest 3 33 [some (mR 0 0), some (mI l1), some (mI l2), some (mI l3), some (mI l4)] [] σ (some (mI w.1)) w.2 := by
  intro k
  induction k with
  | zero => intro l1 l2 l3 l4 σ hF; exact no_s hF
  | succ k ih =>
    intro l1 l2 l3 l4 σ hF
    rw [F_Tent_coldest_33] at hF
    refine J.icmp_ge tk_Tent_coldest 2 rfl rfl hF (fun hF => ?_) (fun hF => ?_)
    · exact J.run tk_Tent_coldest 2 rfl (J.fgt [true, true, true, true, false] (hK19 _ _ _ _ hF))
    · refine J.cpI tk_Tent_coldest (as := [mR 4 0, mI l3, mI l4]) (rest := []) 4 rfl rfl rfl (ckV (md' := md_Camp_feeling) lk_5_224 ok_Camp_feeling rfl rfl rfl) rfl (by decide) (fun v1 h => c_Camp_feeling _ _ _ _ _ h) hF (fun v2 hF => ?_)
      refine J.cpI tk_Tent_coldest (as := [mR 4 0, mI l1, mI l2]) (rest := [mI v2]) 4 rfl rfl rfl (ckV (md' := md_Camp_feeling) lk_5_224 ok_Camp_feeling rfl rfl rfl) rfl (by decide) (fun v1 h => c_Camp_feeling _ _ _ _ _ h) hF (fun v3 hF => ?_)
      by_cases hc : v3 ≤ v2
      · simp only [if_pos hc] at hF
        exact J.icmp_geT' tk_Tent_coldest 0 rfl rfl hc (h_Tent_coldest_67 n w K19 hK19 (F_Tent_coldest_33 n K19 k) ih _ _ _ _ _ hF)
      · simp only [if_neg hc] at hF
        exact J.icmp_geF' tk_Tent_coldest 0 rfl rfl hc (J.run tk_Tent_coldest 4 rfl (h_Tent_coldest_67 n w K19 hK19 (F_Tent_coldest_33 n K19 k) ih _ _ _ _ _ hF))
theorem h_Tent_coldest_19 (n : Nat) (w : (Int32 × St)) : ∀ (k : Nat) (l1 : Int32) (l2 : Int32) (l3 : Int32) (σ : St), F_Tent_coldest_19 n k l1 l2 l3 σ = some w → J md_Tent_coldest 3 19 [some (mR 0 0), some (mI l1), some (mI l2), some (mI l3), none] [] σ (some (mI w.1)) w.2 := by
  intro k
  induction k with
  | zero => intro l1 l2 l3 σ hF; exact no_s hF
  | succ k ih =>
    intro l1 l2 l3 σ hF
    rw [F_Tent_coldest_19] at hF
    refine J.icmp_ge tk_Tent_coldest 4 rfl rfl hF (fun hF => ?_) (fun hF => ?_)
    · refine J.putI tk_Tent_coldest 2 rfl rfl rfl rfl rfl ⟨rfl, rfl⟩ hF (fun σ1 hF => ?_)
      exact J.wsI hF (J.reti tk_Tent_coldest 1 rfl rfl rfl)
    · exact J.run tk_Tent_coldest 2 rfl (h_Tent_coldest_33 n w (F_Tent_coldest_19 n k) ih n _ _ _ _ _ hF)
theorem c_Tent_coldest (n : Nat) (σ : St) (w : (Int32 × St)) (hF : F_Tent_coldest n σ = some w) : Call md_Tent_coldest 3 [mR 0 0] σ (some (mI w.1)) w.2 := by
  rw [F_Tent_coldest] at hF
  refine Call.of ok_Tent_coldest.1 (Nat.le_of_ble_eq_true rfl) (L := [some (mR 0 0), none, none, none, none]) rfl ?_
  refine J.if_ne tk_Tent_coldest 3 rfl rfl hF (fun hF => ?_) (fun hF => ?_)
  · exact J.run tk_Tent_coldest 6 rfl (h_Tent_coldest_19 n w n _ _ _ _ hF)
  · exact J.wsI hF (J.reti tk_Tent_coldest 1 rfl rfl rfl)
noncomputable def F_Camp_sleptByAll_4 (n : Nat) (t : Nat) : Nat → Int32 → Int32 → St → Option Int32
  | 0, _, _, _ => none
  | k + 1, l1, l2, σ =>
    if σ.1 4 t 10 ≤ l2 then
      some l1
    else
    (F_Camp_hoursSlept n t l2 σ).bind fun v1 =>
    (F_Camp_sleptByAll_4 n t k) (l1 + v1) (l2 + 1) σ
noncomputable def F_Camp_sleptByAll (n : Nat) (t : Nat) (σ : St) : Option Int32 :=
  F_Camp_sleptByAll_4 n t n 0 0 σ
theorem h_Camp_sleptByAll_4 (n : Nat) (t : Nat) (w : Int32) : ∀ (k : Nat) (l1 : Int32) (l2 : Int32) (σ : St), F_Camp_sleptByAll_4 n t k l1 l2 σ = some w → J md_Camp_sleptByAll 4 4 [some (mR 4 t), some (mI l1), some (mI l2)] [] σ (some (mI w)) σ := by
  intro k
  induction k with
  | zero => intro l1 l2 σ hF; exact no_s hF
  | succ k ih =>
    intro l1 l2 σ hF
    rw [F_Camp_sleptByAll_4] at hF
    refine J.icmp_ge tk_Camp_sleptByAll 3 rfl rfl hF (fun hF => ?_) (fun hF => ?_)
    · exact J.wI hF (J.reti tk_Camp_sleptByAll 1 rfl rfl rfl)
    · refine J.cpI tk_Camp_sleptByAll (as := [mR 4 t, mI l2]) (rest := [mI l1]) 3 rfl rfl rfl (ckV (md' := md_Camp_hoursSlept) lk_0_141 ok_Camp_hoursSlept rfl rfl rfl) rfl (by decide) (fun v1 h => c_Camp_hoursSlept n _ _ _ _ h) hF (fun v1 hF => ?_)
      exact J.run tk_Camp_sleptByAll 4 rfl (ih _ _ _ hF)
theorem c_Camp_sleptByAll (n : Nat) (t : Nat) (σ : St) (w : Int32) (hF : F_Camp_sleptByAll n t σ = some w) : Call md_Camp_sleptByAll 4 [mR 4 t] σ (some (mI w)) σ := by
  rw [F_Camp_sleptByAll] at hF
  refine Call.of ok_Camp_sleptByAll.1 (Nat.le_of_ble_eq_true rfl) (L := [some (mR 4 t), none, none]) rfl ?_
  exact J.run tk_Camp_sleptByAll 4 rfl (h_Camp_sleptByAll_4 n t w n _ _ _ hF)
noncomputable def F_Camp_sleptByOthers (n : Nat) (t : Nat) (a1 : Int32) (σ : St) : Option Int32 :=
  (F_Camp_sleptByAll n t σ).bind fun v1 =>
  (F_Camp_hoursSlept n t a1 σ).bind fun v2 =>
  some (v1 - v2)
theorem c_Camp_sleptByOthers (n : Nat) (t : Nat) (a1 : Int32) (σ : St) (w : Int32) (hF : F_Camp_sleptByOthers n t a1 σ = some w) : Call md_Camp_sleptByOthers 5 [mR 4 t, mI a1] σ (some (mI w)) σ := by
  rw [F_Camp_sleptByOthers] at hF
  refine Call.of ok_Camp_sleptByOthers.1 (Nat.le_of_ble_eq_true rfl) (L := [some (mR 4 t), some (mI a1)]) rfl ?_
  refine J.cpI tk_Camp_sleptByOthers (as := [mR 4 t]) (rest := []) 1 rfl rfl rfl (ckV (md' := md_Camp_sleptByAll) lk_0_144 ok_Camp_sleptByAll rfl rfl rfl) rfl (by decide) (fun v1 h => c_Camp_sleptByAll n _ _ _ h) hF (fun v1 hF => ?_)
  refine J.cpI tk_Camp_sleptByOthers (as := [mR 4 t, mI a1]) (rest := [mI v1]) 2 rfl rfl rfl (ckV (md' := md_Camp_hoursSlept) lk_0_141 ok_Camp_hoursSlept rfl rfl rfl) rfl (by decide) (fun v1 h => c_Camp_hoursSlept n _ _ _ _ h) hF (fun v2 hF => ?_)
  exact J.wI hF (J.reti tk_Camp_sleptByOthers 1 rfl rfl rfl)
noncomputable def F_Tent_good (n : Nat) (a1 : Int32) (σ : St) : Option (Int32 × St) :=
  (F_Camp_isSleeper 0 a1 σ).bind fun v1 =>
  if v1 = 0 then
    some ((-1), σ)
  else
  (F_Camp_takePresent 4 0 σ).bind fun σ2 =>
  (ast σ2 6 4 a1 0).bind fun σ3 =>
  (ast σ3 7 4 a1 0).bind fun σ4 =>
  (F_Camp_sleptByOthers n 0 a1 σ4).bind fun v5 =>
  (F_Camp_sleptByOthers n 4 a1 σ4).bind fun v6 =>
  bs (si σ4 0 0 10 (v5 - v6)) fun σ7 =>
  some (1, σ7)
theorem c_Tent_good (n : Nat) (a1 : Int32) (σ : St) (w : (Int32 × St)) (hF : F_Tent_good n a1 σ = some w) : Call md_Tent_good 6 [mR 0 0, mI a1] σ (some (mI w.1)) w.2 := by
  rw [F_Tent_good] at hF
  refine Call.of ok_Tent_good.1 (Nat.le_of_ble_eq_true rfl) (L := [some (mR 0 0), some (mI a1)]) rfl ?_
  refine J.cpI tk_Tent_good (as := [mR 4 0, mI a1]) (rest := []) 3 rfl rfl rfl (ckV (md' := md_Camp_isSleeper) lk_5_133 ok_Camp_isSleeper rfl rfl rfl) rfl (by decide) (fun v1 h => c_Camp_isSleeper _ _ _ _ h) hF (fun v1 hF => ?_)
  refine J.if_ne tk_Tent_good 0 rfl rfl hF (fun hF => ?_) (fun hF => ?_)
  · refine J.csV tk_Tent_good (as := [mR 4 4, mR 4 0]) (rest := []) 4 rfl rfl rfl (ckV (md' := md_Camp_takePresent) lk_5_239 ok_Camp_takePresent rfl rfl rfl) rfl (by decide) (fun s1 h => c_Camp_takePresent _ _ _ _ h) hF (fun σ2 hF => ?_)
    refine J.iast tk_Tent_good 5 rfl rfl hF (fun σ3 hF => ?_)
    refine J.iast tk_Tent_good 5 rfl rfl hF (fun σ4 hF => ?_)
    refine J.cpI tk_Tent_good (as := [mR 4 0, mI a1]) (rest := [mR 0 0]) 4 rfl rfl rfl (ckV (md' := md_Camp_sleptByOthers) lk_5_245 ok_Camp_sleptByOthers rfl rfl rfl) rfl (by decide) (fun v1 h => c_Camp_sleptByOthers n _ _ _ _ h) hF (fun v5 hF => ?_)
    refine J.cpI tk_Tent_good (as := [mR 4 4, mI a1]) (rest := [mI v5, mR 0 0]) 3 rfl rfl rfl (ckV (md' := md_Camp_sleptByOthers) lk_5_245 ok_Camp_sleptByOthers rfl rfl rfl) rfl (by decide) (fun v1 h => c_Camp_sleptByOthers n _ _ _ _ h) hF (fun v6 hF => ?_)
    refine J.putI tk_Tent_good 1 rfl rfl rfl rfl rfl ⟨rfl, rfl⟩ hF (fun σ7 hF => ?_)
    exact J.wsI hF (J.reti tk_Tent_good 1 rfl rfl rfl)
  · exact J.wsI hF (J.reti tk_Tent_good 1 rfl rfl rfl)
noncomputable def F_Camp_leastSlept_5 (n : Nat) (t : Nat) : Nat → Int32 → Int32 → St → Option Int32
  | 0, _, _, _ => none
  | k + 1, l1, l2, σ =>
    if σ.1 4 t 10 ≤ l2 then
      some l1
    else
    (F_Camp_hoursSlept n t l2 σ).bind fun v1 =>
    (F_Camp_leastSlept_5 n t k) (mmin l1 v1) (l2 + 1) σ
noncomputable def F_Camp_leastSlept (n : Nat) (t : Nat) (σ : St) : Option Int32 :=
  F_Camp_leastSlept_5 n t n 8 0 σ
theorem h_Camp_leastSlept_5 (n : Nat) (t : Nat) (w : Int32) : ∀ (k : Nat) (l1 : Int32) (l2 : Int32) (σ : St), F_Camp_leastSlept_5 n t k l1 l2 σ = some w → J md_Camp_leastSlept 4 5 [some (mR 4 t), some (mI l1), some (mI l2)] [] σ (some (mI w)) σ := by
  intro k
  induction k with
  | zero => intro l1 l2 σ hF; exact no_s hF
  | succ k ih =>
    intro l1 l2 σ hF
    rw [F_Camp_leastSlept_5] at hF
    refine J.icmp_ge tk_Camp_leastSlept 3 rfl rfl hF (fun hF => ?_) (fun hF => ?_)
    · exact J.wI hF (J.reti tk_Camp_leastSlept 1 rfl rfl rfl)
    · refine J.cpI tk_Camp_leastSlept (as := [mR 4 t, mI l2]) (rest := [mI l1]) 3 rfl rfl rfl (ckV (md' := md_Camp_hoursSlept) lk_0_141 ok_Camp_hoursSlept rfl rfl rfl) rfl (by decide) (fun v1 h => c_Camp_hoursSlept n _ _ _ _ h) hF (fun v1 hF => ?_)
      refine J.mmin tk_Camp_leastSlept 0 rfl rfl lk_0_74 rfl rfl ?_
      exact J.run tk_Camp_leastSlept 3 rfl (ih _ _ _ hF)
theorem c_Camp_leastSlept (n : Nat) (t : Nat) (σ : St) (w : Int32) (hF : F_Camp_leastSlept n t σ = some w) : Call md_Camp_leastSlept 4 [mR 4 t] σ (some (mI w)) σ := by
  rw [F_Camp_leastSlept] at hF
  refine Call.of ok_Camp_leastSlept.1 (Nat.le_of_ble_eq_true rfl) (L := [some (mR 4 t), none, none]) rfl ?_
  exact J.run tk_Camp_leastSlept 4 rfl (h_Camp_leastSlept_5 n t w n _ _ _ hF)
noncomputable def F_Tent_worth (n : Nat) (σ : St) : Option (Int32 × St) :=
  if σ.1 4 0 10 = 0 then
    some ((-4), σ)
  else
  (F_Camp_leastSlept n 0 σ).bind fun v1 =>
  bs (si σ 0 0 10 v1) fun σ2 =>
  (F_Camp_sleptByAll n 0 σ2).bind fun v3 =>
  some (v3, σ2)
theorem c_Tent_worth (n : Nat) (σ : St) (w : (Int32 × St)) (hF : F_Tent_worth n σ = some w) : Call md_Tent_worth 5 [mR 0 0] σ (some (mI w.1)) w.2 := by
  rw [F_Tent_worth] at hF
  refine Call.of ok_Tent_worth.1 (Nat.le_of_ble_eq_true rfl) (L := [some (mR 0 0)]) rfl ?_
  refine J.if_ne tk_Tent_worth 3 rfl rfl hF (fun hF => ?_) (fun hF => ?_)
  · refine J.cpI tk_Tent_worth (as := [mR 4 0]) (rest := [mR 0 0]) 3 rfl rfl rfl (ckV (md' := md_Camp_leastSlept) lk_5_248 ok_Camp_leastSlept rfl rfl rfl) rfl (by decide) (fun v1 h => c_Camp_leastSlept n _ _ _ h) hF (fun v1 hF => ?_)
    refine J.putI tk_Tent_worth 0 rfl rfl rfl rfl rfl ⟨rfl, rfl⟩ hF (fun σ2 hF => ?_)
    refine J.cpI tk_Tent_worth (as := [mR 4 0]) (rest := []) 2 rfl rfl rfl (ckV (md' := md_Camp_sleptByAll) lk_5_251 ok_Camp_sleptByAll rfl rfl rfl) rfl (by decide) (fun v1 h => c_Camp_sleptByAll n _ _ _ h) hF (fun v3 hF => ?_)
    exact J.wsI hF (J.reti tk_Tent_worth 0 rfl rfl rfl)
  · exact J.wsI hF (J.reti tk_Tent_worth 1 rfl rfl rfl)
noncomputable def F_Camp_takeBags_2 (n : Nat) (t : Nat) (t1 : Nat) (g2 : Nat) (u2 : Nat) : Nat → Int32 → St → Option St
  | 0, _, _ => none
  | k + 1, l3, σ =>
    if σ.1 4 t 10 ≤ l3 then
      some σ
    else
    (ald σ g2 u2 l3).bind fun v1 =>
    (ald σ 8 t1 v1).bind fun v2 =>
    (ast σ 8 t l3 v2).bind fun σ3 =>
    (F_Camp_takeBags_2 n t t1 g2 u2 k) (l3 + 1) σ3
noncomputable def F_Camp_takeBags (n : Nat) (t : Nat) (t1 : Nat) (g2 : Nat) (u2 : Nat) (σ : St) : Option St :=
  F_Camp_takeBags_2 n t t1 g2 u2 n 0 σ
theorem h_Camp_takeBags_2 (n : Nat) (t : Nat) (t1 : Nat) (g2 : Nat) (u2 : Nat) (w : St) : ∀ (k : Nat) (l3 : Int32) (σ : St), F_Camp_takeBags_2 n t t1 g2 u2 k l3 σ = some w → J md_Camp_takeBags 0 2 [some (mR 4 t), some (mR 4 t1), some (mA g2 u2), some (mI l3)] [] σ none w := by
  intro k
  induction k with
  | zero => intro l3 σ hF; exact no_s hF
  | succ k ih =>
    intro l3 σ hF
    rw [F_Camp_takeBags_2] at hF
    refine J.icmp_ge tk_Camp_takeBags 3 rfl rfl hF (fun hF => ?_) (fun hF => ?_)
    · exact J.wsV hF (J.retv tk_Camp_takeBags 0 rfl rfl rfl)
    · refine J.iald tk_Camp_takeBags 7 rfl rfl hF (fun v1 hF => ?_)
      refine J.iald tk_Camp_takeBags 0 rfl rfl hF (fun v2 hF => ?_)
      refine J.iast tk_Camp_takeBags 0 rfl rfl hF (fun σ3 hF => ?_)
      exact J.run tk_Camp_takeBags 2 rfl (ih _ _ hF)
theorem c_Camp_takeBags (n : Nat) (t : Nat) (t1 : Nat) (g2 : Nat) (u2 : Nat) (σ : St) (w : St) (hF : F_Camp_takeBags n t t1 g2 u2 σ = some w) : Call md_Camp_takeBags 0 [mR 4 t, mR 4 t1, mA g2 u2] σ none w := by
  rw [F_Camp_takeBags] at hF
  refine Call.of ok_Camp_takeBags.1 (Nat.le_of_ble_eq_true rfl) (L := [some (mR 4 t), some (mR 4 t1), some (mA g2 u2), none]) rfl ?_
  exact J.run tk_Camp_takeBags 2 rfl (h_Camp_takeBags_2 n t t1 g2 u2 w n _ _ hF)
noncomputable def F_Orders_advance_94 (n : Nat) : Nat → Int32 → Int32 → St → Option (Int32 × St)
  | 0, _, _, _ => none
  | k + 1, l3, l4, σ =>
    if l4 ≤ l3 then
      some (1, σ)
    else
    (F_Tent_swap 19 0 l3 l4 σ).bind fun σ2 =>
    (F_Orders_advance_94 n k) (l3 + 1) (l4 + (-1)) σ2
noncomputable def F_Orders_advance_73 (n : Nat) (l1 : Int32) (l2 : Int32) (σ : St) : Option (Int32 × St) :=
  (F_Tent_swap 19 0 l1 l2 σ).bind fun σ1 =>
  F_Orders_advance_94 n n (l1 + 1) ((σ1.1 18 0 1) - 1) σ1
noncomputable def F_Orders_advance_47 (n : Nat) : Nat → Int32 → Int32 → St → Option (Int32 × St)
  | 0, _, _, _ => none
  | k + 1, l1, l2, σ =>
    if l2 ≤ l1 then
      F_Orders_advance_73 n l1 l2 σ
    else
    (ald σ 19 0 l2).bind fun v3 =>
    (ald σ 19 0 l1).bind fun v4 =>
    if v4 ≤ v3 then
      F_Orders_advance_73 n l1 l2 σ
    else
    (F_Orders_advance_47 n k) l1 (l2 + (-1)) σ
noncomputable def F_Orders_advance_34 (n : Nat) (l1 : Int32) (σ : St) : Option (Int32 × St) :=
  if 0 ≤ l1 then
    F_Orders_advance_47 n n l1 ((σ.1 18 0 1) - 1) σ
  else
  some (0, σ)
noncomputable def F_Orders_advance_7 (n : Nat) : Nat → Int32 → St → Option (Int32 × St)
  | 0, _, _ => none
  | k + 1, l1, σ =>
    if l1 < 0 then
      F_Orders_advance_34 n l1 σ
    else
    (ald σ 19 0 l1).bind fun v5 =>
    (ald σ 19 0 (l1 + 1)).bind fun v6 =>
    if v5 ≤ v6 then
      F_Orders_advance_34 n l1 σ
    else
    (F_Orders_advance_7 n k) (l1 + (-1)) σ
noncomputable def F_Orders_advance (n : Nat) (σ : St) : Option (Int32 × St) :=
  F_Orders_advance_7 n n ((σ.1 18 0 1) - 2) σ
theorem h_Orders_advance_94 (n : Nat) (w : (Int32 × St)) : ∀ (k : Nat) (l3 : Int32) (l4 : Int32) (σ : St), F_Orders_advance_94 n k l3 l4 σ = some w → J md_Orders_advance 1 94 [some (mR 18 0), none, none, some (mI l3), some (mI l4)] [] σ (some (mI w.1)) w.2 := by
  intro k
  induction k with
  | zero => intro l3 l4 σ hF; exact no_s hF
  | succ k ih =>
    intro l3 l4 σ hF
    rw [F_Orders_advance_94] at hF
    refine J.icmp_ge tk_Orders_advance 2 rfl rfl hF (fun hF => ?_) (fun hF => ?_)
    · exact J.wsI hF (J.retz tk_Orders_advance 1 rfl rfl rfl rfl)
    · refine J.csV tk_Orders_advance (as := [mA 19 0, mI l3, mI l4]) (rest := []) 4 rfl rfl rfl (ckN (md' := md_Tent_swap) rfl ok_Tent_swap rfl) rfl (by decide) (fun s1 h => c_Tent_swap _ _ _ _ _ _ h) hF (fun σ2 hF => ?_)
      exact J.run tk_Orders_advance 3 rfl (ih _ _ _ hF)
theorem h_Orders_advance_73 (n : Nat) (w : (Int32 × St)) (l1 : Int32) (l2 : Int32) (σ : St) (hF : F_Orders_advance_73 n l1 l2 σ = some w) : J md_Orders_advance 1 73 [some (mR 18 0), some (mI l1), some (mI l2), none, none] [] σ (some (mI w.1)) w.2 := by
  rw [F_Orders_advance_73] at hF
  refine J.csV tk_Orders_advance (as := [mA 19 0, mI l1, mI l2]) (rest := []) 4 rfl rfl rfl (ckN (md' := md_Tent_swap) rfl ok_Tent_swap rfl) rfl (by decide) (fun s1 h => c_Tent_swap _ _ _ _ _ _ h) hF (fun σ1 hF => ?_)
  exact J.run tk_Orders_advance 9 rfl (J.fgt [true, false, false, true, true] (h_Orders_advance_94 n w n _ _ _ hF))
theorem h_Orders_advance_47 (n : Nat) (w : (Int32 × St)) : ∀ (k : Nat) (l1 : Int32) (l2 : Int32) (σ : St), F_Orders_advance_47 n k l1 l2 σ = some w → J md_Orders_advance 1 47 [some (mR 18 0), some (mI l1), some (mI l2), none, none] [] σ (some (mI w.1)) w.2 := by
  intro k
  induction k with
  | zero => intro l1 l2 σ hF; exact no_s hF
  | succ k ih =>
    intro l1 l2 σ hF
    rw [F_Orders_advance_47] at hF
    refine J.icmp_le tk_Orders_advance 2 rfl rfl hF (fun hF => ?_) (fun hF => ?_)
    · exact h_Orders_advance_73 n w _ _ _ hF
    · refine J.iald tk_Orders_advance 3 rfl rfl hF (fun v3 hF => ?_)
      refine J.iald tk_Orders_advance 3 rfl rfl hF (fun v4 hF => ?_)
      refine J.icmp_ge tk_Orders_advance 0 rfl rfl hF (fun hF => ?_) (fun hF => ?_)
      · exact h_Orders_advance_73 n w _ _ _ hF
      · exact J.run tk_Orders_advance 2 rfl (ih _ _ _ hF)
theorem h_Orders_advance_34 (n : Nat) (w : (Int32 × St)) (l1 : Int32) (σ : St) (hF : F_Orders_advance_34 n l1 σ = some w) : J md_Orders_advance 1 34 [some (mR 18 0), some (mI l1), none, none, none] [] σ (some (mI w.1)) w.2 := by
  rw [F_Orders_advance_34] at hF
  refine J.if_ge tk_Orders_advance 1 rfl rfl hF (fun hF => ?_) (fun hF => ?_)
  · exact J.run tk_Orders_advance 5 rfl (h_Orders_advance_47 n w n _ _ _ hF)
  · exact J.wsI hF (J.retz tk_Orders_advance 1 rfl rfl rfl rfl)
theorem h_Orders_advance_7 (n : Nat) (w : (Int32 × St)) : ∀ (k : Nat) (l1 : Int32) (σ : St), F_Orders_advance_7 n k l1 σ = some w → J md_Orders_advance 1 7 [some (mR 18 0), some (mI l1), none, none, none] [] σ (some (mI w.1)) w.2 := by
  intro k
  induction k with
  | zero => intro l1 σ hF; exact no_s hF
  | succ k ih =>
    intro l1 σ hF
    rw [F_Orders_advance_7] at hF
    refine J.if_lt tk_Orders_advance 1 rfl rfl hF (fun hF => ?_) (fun hF => ?_)
    · exact h_Orders_advance_34 n w _ _ hF
    · refine J.iald tk_Orders_advance 3 rfl rfl hF (fun v5 hF => ?_)
      refine J.iald tk_Orders_advance 5 rfl rfl hF (fun v6 hF => ?_)
      refine J.icmp_le tk_Orders_advance 0 rfl rfl hF (fun hF => ?_) (fun hF => ?_)
      · exact h_Orders_advance_34 n w _ _ hF
      · exact J.run tk_Orders_advance 2 rfl (ih _ _ hF)
theorem c_Orders_advance (n : Nat) (σ : St) (w : (Int32 × St)) (hF : F_Orders_advance n σ = some w) : Call md_Orders_advance 1 [mR 18 0] σ (some (mI w.1)) w.2 := by
  rw [F_Orders_advance] at hF
  refine Call.of ok_Orders_advance.1 (Nat.le_of_ble_eq_true rfl) (L := [some (mR 18 0), none, none, none, none]) rfl ?_
  exact J.run tk_Orders_advance 5 rfl (h_Orders_advance_7 n w n _ _ hF)
noncomputable def F_Orders_begin_11 (n : Nat) : Nat → Int32 → St → Option St
  | 0, _, _ => none
  | k + 1, l2, σ =>
    if σ.1 18 0 1 ≤ l2 then
      some σ
    else
    (ast σ 19 0 l2 l2).bind fun σ2 =>
    (F_Orders_begin_11 n k) (l2 + 1) σ2
noncomputable def F_Orders_begin (n : Nat) (a1 : Int32) (σ : St) : Option St :=
  bs (si σ 18 0 1 (mmin a1 5)) fun σ1 =>
  F_Orders_begin_11 n n 0 σ1
theorem h_Orders_begin_11 (n : Nat) (w : St) : ∀ (k : Nat) (l2 : Int32) (σ : St), F_Orders_begin_11 n k l2 σ = some w → J md_Orders_begin 1 11 [some (mR 18 0), none, some (mI l2)] [] σ none w := by
  intro k
  induction k with
  | zero => intro l2 σ hF; exact no_s hF
  | succ k ih =>
    intro l2 σ hF
    rw [F_Orders_begin_11] at hF
    refine J.icmp_ge tk_Orders_begin 3 rfl rfl hF (fun hF => ?_) (fun hF => ?_)
    · exact J.wsV hF (J.retv tk_Orders_begin 0 rfl rfl rfl)
    · refine J.iast tk_Orders_begin 4 rfl rfl hF (fun σ2 hF => ?_)
      exact J.run tk_Orders_begin 2 rfl (ih _ _ hF)
theorem c_Orders_begin (n : Nat) (a1 : Int32) (σ : St) (w : St) (hF : F_Orders_begin n a1 σ = some w) : Call md_Orders_begin 1 [mR 18 0, mI a1] σ none w := by
  rw [F_Orders_begin] at hF
  refine Call.of ok_Orders_begin.1 (Nat.le_of_ble_eq_true rfl) (L := [some (mR 18 0), some (mI a1), none]) rfl ?_
  refine J.mmin tk_Orders_begin 3 rfl rfl lk_1_15 rfl rfl ?_
  refine J.putI tk_Orders_begin 0 rfl rfl rfl rfl rfl ⟨rfl, rfl⟩ hF (fun σ1 hF => ?_)
  exact J.run tk_Orders_begin 2 rfl (J.fgt [true, false, true] (h_Orders_begin_11 n w n _ _ hF))
noncomputable def F_Orders_howMany_4 (n : Nat) : Nat → Int32 → Int32 → Int32 → Option Int32
  | 0, _, _, _ => none
  | k + 1, l0, l1, l2 =>
    if l0 < l2 then
      some l1
    else
    (F_Orders_howMany_4 n k) l0 (l1 * l2) (l2 + 1)
noncomputable def F_Orders_howMany (n : Nat) (a1 : Int32) : Option Int32 :=
  F_Orders_howMany_4 n n a1 1 2
theorem h_Orders_howMany_4 (n : Nat) (w : Int32) (σ : St) : ∀ (k : Nat) (l0 : Int32) (l1 : Int32) (l2 : Int32), F_Orders_howMany_4 n k l0 l1 l2 = some w → J md_Orders_howMany 0 4 [some (mI l0), some (mI l1), some (mI l2)] [] σ (some (mI w)) σ := by
  intro k
  induction k with
  | zero => intro l0 l1 l2 hF; exact no_s hF
  | succ k ih =>
    intro l0 l1 l2 hF
    rw [F_Orders_howMany_4] at hF
    refine J.icmp_gt tk_Orders_howMany 2 rfl rfl hF (fun hF => ?_) (fun hF => ?_)
    · exact J.wI hF (J.reti tk_Orders_howMany 1 rfl rfl rfl)
    · exact J.run tk_Orders_howMany 6 rfl (ih _ _ _ hF)
theorem c_Orders_howMany (n : Nat) (a1 : Int32) (σ : St) (w : Int32) (hF : F_Orders_howMany n a1 = some w) : Call md_Orders_howMany 0 [mI a1] σ (some (mI w)) σ := by
  rw [F_Orders_howMany] at hF
  refine Call.of ok_Orders_howMany.1 (Nat.le_of_ble_eq_true rfl) (L := [some (mI a1), none, none]) rfl ?_
  exact J.run tk_Orders_howMany 4 rfl (h_Orders_howMany_4 n w σ n _ _ _ hF)
noncomputable def F_Orders_pick_28 (n : Nat) (K4 : Int32 → Int32 → Int32 → Int32 → Option Int32) (l0 : Int32) (l1 : Int32) (l2 : Int32) (l3 : Int32) : Option Int32 :=
  K4 l0 l1 l2 (l3 + 1)
noncomputable def F_Orders_pick_4 (n : Nat) : Nat → Int32 → Int32 → Int32 → Int32 → Option Int32
  | 0, _, _, _, _ => none
  | k + 1, l0, l1, l2, l3 =>
    if 5 ≤ l3 then
      some 0
    else
    if ((l0 >>> (l3 &&& 31)) &&& 1) = 1 then
      if l2 = l1 then
        some l3
      else
      F_Orders_pick_28 n (F_Orders_pick_4 n k) l0 l1 (l2 + 1) l3
    else
    F_Orders_pick_28 n (F_Orders_pick_4 n k) l0 l1 l2 l3
noncomputable def F_Orders_pick (n : Nat) (a1 : Int32) (a2 : Int32) : Option Int32 :=
  F_Orders_pick_4 n n a1 a2 0 0
theorem h_Orders_pick_28 (n : Nat) (w : Int32) (σ : St) (K4 : Int32 → Int32 → Int32 → Int32 → Option Int32) (hK4 : ∀ (l0 : Int32) (l1 : Int32) (l2 : Int32) (l3 : Int32), K4 l0 l1 l2 l3 = some w → J md_Orders_pick 0 4 [some (mI l0), some (mI l1), some (mI l2), some (mI l3)] [] σ (some (mI w)) σ) (l0 : Int32) (l1 : Int32) (l2 : Int32) (l3 : Int32) (hF : F_Orders_pick_28 n K4 l0 l1 l2 l3 = some w) : J md_Orders_pick 0 28 [some (mI l0), some (mI l1), some (mI l2), some (mI l3)] [] σ (some (mI w)) σ := by
  rw [F_Orders_pick_28] at hF
  exact J.run tk_Orders_pick 2 rfl (hK4 _ _ _ _ hF)
theorem h_Orders_pick_4 (n : Nat) (w : Int32) (σ : St) : ∀ (k : Nat) (l0 : Int32) (l1 : Int32) (l2 : Int32) (l3 : Int32), F_Orders_pick_4 n k l0 l1 l2 l3 = some w → J md_Orders_pick 0 4 [some (mI l0), some (mI l1), some (mI l2), some (mI l3)] [] σ (some (mI w)) σ := by
  intro k
  induction k with
  | zero => intro l0 l1 l2 l3 hF; exact no_s hF
  | succ k ih =>
    intro l0 l1 l2 l3 hF
    rw [F_Orders_pick_4] at hF
    refine J.icmp_ge tk_Orders_pick 2 rfl rfl hF (fun hF => ?_) (fun hF => ?_)
    · exact J.wI hF (J.reti tk_Orders_pick 1 rfl rfl rfl)
    · refine J.icmp_ne tk_Orders_pick 6 rfl rfl hF (fun hF => ?_) (fun hF => ?_)
      · exact h_Orders_pick_28 n w σ (F_Orders_pick_4 n k) ih _ _ _ _ hF
      · refine J.icmp_ne tk_Orders_pick 2 rfl rfl hF (fun hF => ?_) (fun hF => ?_)
        · exact J.run tk_Orders_pick 1 rfl (h_Orders_pick_28 n w σ (F_Orders_pick_4 n k) ih _ _ _ _ hF)
        · exact J.wI hF (J.reti tk_Orders_pick 1 rfl rfl rfl)
theorem c_Orders_pick (n : Nat) (a1 : Int32) (a2 : Int32) (σ : St) (w : Int32) (hF : F_Orders_pick n a1 a2 = some w) : Call md_Orders_pick 0 [mI a1, mI a2] σ (some (mI w)) σ := by
  rw [F_Orders_pick] at hF
  refine Call.of ok_Orders_pick.1 (Nat.le_of_ble_eq_true rfl) (L := [some (mI a1), some (mI a2), none, none]) rfl ?_
  exact J.run tk_Orders_pick 4 rfl (h_Orders_pick_4 n w σ n _ _ _ _ hF)
noncomputable def F_Orders_goTo_30 (n : Nat) : Nat → Int32 → Int32 → Int32 → Int32 → St → Option St
  | 0, _, _, _, _, _ => none
  | k + 1, l2, l3, l4, l5, σ =>
    if σ.1 18 0 1 ≤ l5 then
      some σ
    else
    (dvI l4 ((σ.1 18 0 1) - l5)).bind fun v3 =>
    (dvI l2 v3).bind fun v4 =>
    (rmI v4 ((σ.1 18 0 1) - l5)).bind fun v5 =>
    (F_Orders_pick n l3 v5).bind fun v6 =>
    (ast σ 19 0 l5 v6).bind fun σ7 =>
    (ald σ7 19 0 l5).bind fun v8 =>
    (F_Orders_goTo_30 n k) l2 (l3 &&& ((1 <<< (v8 &&& 31)) ^^^ (-1))) v3 (l5 + 1) σ7
noncomputable def F_Orders_goTo (n : Nat) (a1 : Int32) (a2 : Int32) (σ : St) : Option St :=
  bs (si σ 18 0 1 (mmin a1 5)) fun σ1 =>
  (F_Orders_howMany n (σ1.1 18 0 1)).bind fun v2 =>
  F_Orders_goTo_30 n n a2 ((1 <<< ((σ1.1 18 0 1) &&& 31)) - 1) v2 0 σ1
theorem h_Orders_goTo_30 (n : Nat) (w : St) : ∀ (k : Nat) (l2 : Int32) (l3 : Int32) (l4 : Int32) (l5 : Int32) (σ : St), F_Orders_goTo_30 n k l2 l3 l4 l5 σ = some w → J md_Orders_goTo 1 30 [some (mR 18 0), none, some (mI l2), some (mI l3), some (mI l4), some (mI l5)] [] σ none w := by
  intro k
  induction k with
  | zero => intro l2 l3 l4 l5 σ hF; exact no_s hF
  | succ k ih =>
    intro l2 l3 l4 l5 σ hF
    rw [F_Orders_goTo_30] at hF
    refine J.icmp_ge tk_Orders_goTo 3 rfl rfl hF (fun hF => ?_) (fun hF => ?_)
    · exact J.wsV hF (J.retv tk_Orders_goTo 0 rfl rfl rfl)
    · refine J.idiv tk_Orders_goTo 5 rfl rfl hF (fun v3 hF => ?_)
      refine J.idiv tk_Orders_goTo 7 rfl rfl hF (fun v4 hF => ?_)
      refine J.irem tk_Orders_goTo 4 rfl rfl hF (fun v5 hF => ?_)
      refine J.cpI tk_Orders_goTo (as := [mI l3, mI v5]) (rest := [mI l5, mA 19 0]) 0 rfl rfl rfl (ckS (md' := md_Orders_pick) lk_1_33 ok_Orders_pick rfl) rfl (by decide) (fun v1 h => c_Orders_pick n _ _ _ _ h) hF (fun v6 hF => ?_)
      refine J.iast tk_Orders_goTo 0 rfl rfl hF (fun σ7 hF => ?_)
      refine J.iald tk_Orders_goTo 5 rfl rfl hF (fun v8 hF => ?_)
      exact J.run tk_Orders_goTo 7 rfl (ih _ _ _ _ _ hF)
theorem c_Orders_goTo (n : Nat) (a1 : Int32) (a2 : Int32) (σ : St) (w : St) (hF : F_Orders_goTo n a1 a2 σ = some w) : Call md_Orders_goTo 1 [mR 18 0, mI a1, mI a2] σ none w := by
  rw [F_Orders_goTo] at hF
  refine Call.of ok_Orders_goTo.1 (Nat.le_of_ble_eq_true rfl) (L := [some (mR 18 0), some (mI a1), some (mI a2), none, none, none]) rfl ?_
  refine J.mmin tk_Orders_goTo 3 rfl rfl lk_1_15 rfl rfl ?_
  refine J.putI tk_Orders_goTo 0 rfl rfl rfl rfl rfl ⟨rfl, rfl⟩ hF (fun σ1 hF => ?_)
  refine J.cpI tk_Orders_goTo (as := [mI (σ1.1 18 0 1)]) (rest := []) 9 rfl rfl rfl (ckS (md' := md_Orders_howMany) lk_1_29 ok_Orders_howMany rfl) rfl (by decide) (fun v1 h => c_Orders_howMany n _ _ _ h) hF (fun v2 hF => ?_)
  exact J.run tk_Orders_goTo 3 rfl (J.fgt [true, false, true, true, true, true] (h_Orders_goTo_30 n w n _ _ _ _ _ hF))
noncomputable def F_Orders_writeTo_12 (n : Nat) (t1 : Nat) : Nat → Int32 → Int32 → St → Option St
  | 0, _, _, _ => none
  | k + 1, l2, l3, σ =>
    if σ.1 18 0 1 ≤ l3 then
      some σ
    else
    (ald σ 19 0 l3).bind fun v2 =>
    (F_Shelf_set t1 l2 l3 v2 σ).bind fun σ3 =>
    (F_Orders_writeTo_12 n t1 k) l2 (l3 + 1) σ3
noncomputable def F_Orders_writeTo (n : Nat) (t1 : Nat) (a2 : Int32) (σ : St) : Option St :=
  (F_Shelf_make n t1 a2 (σ.1 18 0 1) 0 σ).bind fun σ1 =>
  F_Orders_writeTo_12 n t1 n a2 0 σ1
theorem h_Orders_writeTo_12 (n : Nat) (t1 : Nat) (w : St) : ∀ (k : Nat) (l2 : Int32) (l3 : Int32) (σ : St), F_Orders_writeTo_12 n t1 k l2 l3 σ = some w → J md_Orders_writeTo 4 12 [some (mR 18 0), some (mR 1 t1), some (mI l2), some (mI l3)] [] σ none w := by
  intro k
  induction k with
  | zero => intro l2 l3 σ hF; exact no_s hF
  | succ k ih =>
    intro l2 l3 σ hF
    rw [F_Orders_writeTo_12] at hF
    refine J.icmp_ge tk_Orders_writeTo 3 rfl rfl hF (fun hF => ?_) (fun hF => ?_)
    · exact J.wsV hF (J.retv tk_Orders_writeTo 0 rfl rfl rfl)
    · refine J.iald tk_Orders_writeTo 6 rfl rfl hF (fun v2 hF => ?_)
      refine J.csV tk_Orders_writeTo (as := [mR 1 t1, mI l2, mI l3, mI v2]) (rest := []) 0 rfl rfl rfl (ckV (md' := md_Shelf_set) lk_1_49 ok_Shelf_set rfl rfl rfl) rfl (by decide) (fun s1 h => c_Shelf_set _ _ _ _ _ _ h) hF (fun σ3 hF => ?_)
      exact J.run tk_Orders_writeTo 2 rfl (ih _ _ _ hF)
theorem c_Orders_writeTo (n : Nat) (t1 : Nat) (a2 : Int32) (σ : St) (w : St) (hF : F_Orders_writeTo n t1 a2 σ = some w) : Call md_Orders_writeTo 4 [mR 18 0, mR 1 t1, mI a2] σ none w := by
  rw [F_Orders_writeTo] at hF
  refine Call.of ok_Orders_writeTo.1 (Nat.le_of_ble_eq_true rfl) (L := [some (mR 18 0), some (mR 1 t1), some (mI a2), none]) rfl ?_
  refine J.csV tk_Orders_writeTo (as := [mR 1 t1, mI a2, mI (σ.1 18 0 1), mI 0]) (rest := []) 5 rfl rfl rfl (ckV (md' := md_Shelf_make) lk_1_45 ok_Shelf_make rfl rfl rfl) rfl (by decide) (fun s1 h => c_Shelf_make n _ _ _ _ _ _ h) hF (fun σ1 hF => ?_)
  exact J.run tk_Orders_writeTo 2 rfl (h_Orders_writeTo_12 n t1 w n _ _ _ hF)
noncomputable def F_Tent_seekOrder_151 (n : Nat) (l1 : Int32) (l4 : Int32) (l5 : Int32) (σ : St) : Option (Int32 × St) :=
  (F_Orders_goTo n (σ.1 4 0 10) l5 σ).bind fun σ4 =>
  (F_Orders_writeTo n 0 l1 σ4).bind fun σ5 =>
  some (l4, σ5)
noncomputable def F_Tent_seekOrder_132 (n : Nat) (K46 : Int32 → Int32 → Int32 → Int32 → Int32 → St → Option (Int32 × St)) (l1 : Int32) (l2 : Int32) (l4 : Int32) (l5 : Int32) (l6 : Int32) (σ : St) : Option (Int32 × St) :=
  b2 (F_Orders_advance n σ) fun v8 σ9 =>
  if v8 = 0 then
    F_Tent_seekOrder_151 n l1 l4 l5 σ9
  else
  K46 l1 l2 l4 l5 (l6 + 1) σ9
noncomputable def F_Tent_seekOrder_115 (n : Nat) (K46 : Int32 → Int32 → Int32 → Int32 → Int32 → St → Option (Int32 × St)) (l1 : Int32) (l2 : Int32) (l4 : Int32) (l5 : Int32) (l6 : Int32) (s0 : Int32) (σ : St) : Option (Int32 × St) :=
  F_Tent_seekOrder_132 n K46 l1 l2 (if s0 ≤ l4 then l4 else s0) (if s0 ≤ l4 then l5 else l6) l6 σ
noncomputable def F_Tent_seekOrder_93 (n : Nat) (K46 : Int32 → Int32 → Int32 → Int32 → Int32 → St → Option (Int32 × St)) (l1 : Int32) (l2 : Int32) (l4 : Int32) (l5 : Int32) (l6 : Int32) (σ : St) : Option (Int32 × St) :=
  if l2 = 1 then
    (F_Camp_leastSlept n 4 σ).bind fun v10 =>
    F_Tent_seekOrder_115 n K46 l1 l2 l4 l5 l6 v10 σ
  else
  (F_Camp_sleptByAll n 4 σ).bind fun v7 =>
  F_Tent_seekOrder_115 n K46 l1 l2 l4 l5 l6 v7 σ
noncomputable def F_Tent_seekOrder_46 (n : Nat) : Nat → Int32 → Int32 → Int32 → Int32 → Int32 → St → Option (Int32 × St)
  | 0, _, _, _, _, _, _ => none
  | k + 1, l1, l2, l4, l5, l6, σ =>
    if 120 ≤ l6 then
      F_Tent_seekOrder_151 n l1 l4 l5 σ
    else
    if l2 = 2 then
      (F_Camp_takeBags n 4 0 19 0 σ).bind fun σ11 =>
      F_Tent_seekOrder_93 n (F_Tent_seekOrder_46 n k) l1 l2 l4 l5 l6 σ11
    else
    (F_Camp_layBy n 4 19 0 σ).bind fun σ6 =>
    F_Tent_seekOrder_93 n (F_Tent_seekOrder_46 n k) l1 l2 l4 l5 l6 σ6
noncomputable def F_Tent_seekOrder (n : Nat) (a1 : Int32) (a2 : Int32) (σ : St) : Option (Int32 × St) :=
  (F_Tent_refuseRowToFill a1 σ).bind fun v1 =>
  if v1 = 0 then
    (F_Camp_takePresent 4 0 σ).bind fun σ2 =>
    (F_Orders_begin n (σ2.1 4 0 10) σ2).bind fun σ3 =>
    F_Tent_seekOrder_46 n n a1 a2 (-1) 0 0 σ3
  else
  some (v1, σ)
theorem h_Tent_seekOrder_151 (n : Nat) (w : (Int32 × St)) (l1 : Int32) (l4 : Int32) (l5 : Int32) (σ : St) (hF : F_Tent_seekOrder_151 n l1 l4 l5 σ = some w) : J md_Tent_seekOrder 5 151 [some (mR 0 0), some (mI l1), none, none, some (mI l4), some (mI l5), none, none] [] σ (some (mI w.1)) w.2 := by
  rw [F_Tent_seekOrder_151] at hF
  refine J.csV tk_Tent_seekOrder (as := [mR 18 0, mI (σ.1 4 0 10), mI l5]) (rest := []) 6 rfl rfl rfl (ckV (md' := md_Orders_goTo) lk_5_286 ok_Orders_goTo rfl rfl rfl) rfl (by decide) (fun s1 h => c_Orders_goTo n _ _ _ _ h) hF (fun σ4 hF => ?_)
  refine J.csV tk_Tent_seekOrder (as := [mR 18 0, mR 1 0, mI l1]) (rest := []) 5 rfl rfl rfl (ckV (md' := md_Orders_writeTo) lk_5_289 ok_Orders_writeTo rfl rfl rfl) rfl (by decide) (fun s1 h => c_Orders_writeTo n _ _ _ _ h) hF (fun σ5 hF => ?_)
  exact J.wsI hF (J.reti tk_Tent_seekOrder 1 rfl rfl rfl)
theorem h_Tent_seekOrder_132 (n : Nat) (w : (Int32 × St)) (K46 : Int32 → Int32 → Int32 → Int32 → Int32 → St → Option (Int32 × St)) (hK46 : ∀ (l1 : Int32) (l2 : Int32) (l4 : Int32) (l5 : Int32) (l6 : Int32) (σ : St), K46 l1 l2 l4 l5 l6 σ = some w → J md_Tent_seekOrder 5 46 [some (mR 0 0), some (mI l1), some (mI l2), none, some (mI l4), some (mI l5), some (mI l6), none] [] σ (some (mI w.1)) w.2) (l1 : Int32) (l2 : Int32) (l4 : Int32) (l5 : Int32) (l6 : Int32) (σ : St) (hF : F_Tent_seekOrder_132 n K46 l1 l2 l4 l5 l6 σ = some w) : J md_Tent_seekOrder 5 132 [some (mR 0 0), some (mI l1), some (mI l2), none, some (mI l4), some (mI l5), some (mI l6), none] [] σ (some (mI w.1)) w.2 := by
  rw [F_Tent_seekOrder_132] at hF
  refine J.csI tk_Tent_seekOrder (as := [mR 18 0]) (rest := []) 2 rfl rfl rfl (ckV (md' := md_Orders_advance) lk_5_273 ok_Orders_advance rfl rfl rfl) rfl (by decide) (fun v1 s1 h => c_Orders_advance n _ (v1, s1) h) hF (fun v8 σ9 hF => ?_)
  refine J.if_ne tk_Tent_seekOrder 0 rfl rfl hF (fun hF => ?_) (fun hF => ?_)
  · exact J.run tk_Tent_seekOrder 2 rfl (hK46 _ _ _ _ _ _ hF)
  · exact J.run tk_Tent_seekOrder 1 rfl (J.fgt [true, true, false, false, true, true, false, false] (h_Tent_seekOrder_151 n w _ _ _ _ hF))
theorem h_Tent_seekOrder_115 (n : Nat) (w : (Int32 × St)) (K46 : Int32 → Int32 → Int32 → Int32 → Int32 → St → Option (Int32 × St)) (hK46 : ∀ (l1 : Int32) (l2 : Int32) (l4 : Int32) (l5 : Int32) (l6 : Int32) (σ : St), K46 l1 l2 l4 l5 l6 σ = some w → J md_Tent_seekOrder 5 46 [some (mR 0 0), some (mI l1), some (mI l2), none, some (mI l4), some (mI l5), some (mI l6), none] [] σ (some (mI w.1)) w.2) (l1 : Int32) (l2 : Int32) (l4 : Int32) (l5 : Int32) (l6 : Int32) (s0 : Int32) (σ : St) (hF : F_Tent_seekOrder_115 n K46 l1 l2 l4 l5 l6 s0 σ = some w) : J md_Tent_seekOrder 5 115 [some (mR 0 0), some (mI l1), some (mI l2), none, some (mI l4), some (mI l5), some (mI l6), none] [mI s0] σ (some (mI w.1)) w.2 := by
  rw [F_Tent_seekOrder_115] at hF
  by_cases hc : s0 ≤ l4
  · simp only [if_pos hc] at hF
    exact J.icmp_leT' tk_Tent_seekOrder 3 rfl rfl hc (J.fgt [true, true, true, false, true, true, true, false] (h_Tent_seekOrder_132 n w K46 hK46 _ _ _ _ _ _ hF))
  · simp only [if_neg hc] at hF
    exact J.icmp_leF' tk_Tent_seekOrder 3 rfl rfl hc (J.run tk_Tent_seekOrder 4 rfl (J.fgt [true, true, true, false, true, true, true, false] (h_Tent_seekOrder_132 n w K46 hK46 _ _ _ _ _ _ hF)))
theorem h_Tent_seekOrder_93 (n : Nat) (w : (Int32 × St)) (K46 : Int32 → Int32 → Int32 → Int32 → Int32 → St → Option (Int32 × St)) (hK46 : ∀ (l1 : Int32) (l2 : Int32) (l4 : Int32) (l5 : Int32) (l6 : Int32) (σ : St), K46 l1 l2 l4 l5 l6 σ = some w → J md_Tent_seekOrder 5 46 [some (mR 0 0), some (mI l1), some (mI l2), none, some (mI l4), some (mI l5), some (mI l6), none] [] σ (some (mI w.1)) w.2) (l1 : Int32) (l2 : Int32) (l4 : Int32) (l5 : Int32) (l6 : Int32) (σ : St) (hF : F_Tent_seekOrder_93 n K46 l1 l2 l4 l5 l6 σ = some w) : J md_Tent_seekOrder 5 93 [some (mR 0 0), some (mI l1), some (mI l2), none, some (mI l4), some (mI l5), some (mI l6), none] [] σ (some (mI w.1)) w.2 := by
  rw [F_Tent_seekOrder_93] at hF
  refine J.icmp_ne tk_Tent_seekOrder 2 rfl rfl hF (fun hF => ?_) (fun hF => ?_)
  · refine J.cpI tk_Tent_seekOrder (as := [mR 4 4]) (rest := []) 2 rfl rfl rfl (ckV (md' := md_Camp_sleptByAll) lk_5_251 ok_Camp_sleptByAll rfl rfl rfl) rfl (by decide) (fun v1 h => c_Camp_sleptByAll n _ _ _ h) hF (fun v7 hF => ?_)
    exact h_Tent_seekOrder_115 n w K46 hK46 _ _ _ _ _ _ _ hF
  · refine J.cpI tk_Tent_seekOrder (as := [mR 4 4]) (rest := []) 2 rfl rfl rfl (ckV (md' := md_Camp_leastSlept) lk_5_248 ok_Camp_leastSlept rfl rfl rfl) rfl (by decide) (fun v1 h => c_Camp_leastSlept n _ _ _ h) hF (fun v10 hF => ?_)
    exact J.run tk_Tent_seekOrder 1 rfl (h_Tent_seekOrder_115 n w K46 hK46 _ _ _ _ _ _ _ hF)
theorem h_Tent_seekOrder_46 (n : Nat) (w : (Int32 × St)) : ∀ (k : Nat) (l1 : Int32) (l2 : Int32) (l4 : Int32) (l5 : Int32) (l6 : Int32) (σ : St), F_Tent_seekOrder_46 n k l1 l2 l4 l5 l6 σ = some w → J md_Tent_seekOrder 5 46 [some (mR 0 0), some (mI l1), some (mI l2), none, some (mI l4), some (mI l5), some (mI l6), none] [] σ (some (mI w.1)) w.2 := by
  intro k
  induction k with
  | zero => intro l1 l2 l4 l5 l6 σ hF; exact no_s hF
  | succ k ih =>
    intro l1 l2 l4 l5 l6 σ hF
    rw [F_Tent_seekOrder_46] at hF
    refine J.icmp_ge tk_Tent_seekOrder 2 rfl rfl hF (fun hF => ?_) (fun hF => ?_)
    · exact J.fgt [true, true, false, false, true, true, false, false] (h_Tent_seekOrder_151 n w _ _ _ _ hF)
    · refine J.icmp_ne tk_Tent_seekOrder 2 rfl rfl hF (fun hF => ?_) (fun hF => ?_)
      · refine J.csV tk_Tent_seekOrder (as := [mR 4 4, mA 19 0]) (rest := []) 5 rfl rfl rfl (ckV (md' := md_Camp_layBy) lk_5_199 ok_Camp_layBy rfl rfl rfl) rfl (by decide) (fun s1 h => c_Camp_layBy n _ _ _ _ _ h) hF (fun σ6 hF => ?_)
        exact h_Tent_seekOrder_93 n w (F_Tent_seekOrder_46 n k) ih _ _ _ _ _ _ hF
      · refine J.csV tk_Tent_seekOrder (as := [mR 4 4, mR 4 0, mA 19 0]) (rest := []) 7 rfl rfl rfl (ckV (md' := md_Camp_takeBags) lk_5_343 ok_Camp_takeBags rfl rfl rfl) rfl (by decide) (fun s1 h => c_Camp_takeBags n _ _ _ _ _ _ h) hF (fun σ11 hF => ?_)
        exact J.run tk_Tent_seekOrder 1 rfl (h_Tent_seekOrder_93 n w (F_Tent_seekOrder_46 n k) ih _ _ _ _ _ _ hF)
theorem c_Tent_seekOrder (n : Nat) (a1 : Int32) (a2 : Int32) (σ : St) (w : (Int32 × St)) (hF : F_Tent_seekOrder n a1 a2 σ = some w) : Call md_Tent_seekOrder 5 [mR 0 0, mI a1, mI a2] σ (some (mI w.1)) w.2 := by
  rw [F_Tent_seekOrder] at hF
  refine Call.of ok_Tent_seekOrder.1 (Nat.le_of_ble_eq_true rfl) (L := [some (mR 0 0), some (mI a1), some (mI a2), none, none, none, none, none]) rfl ?_
  refine J.cpI tk_Tent_seekOrder (as := [mR 0 0, mI a1]) (rest := []) 2 rfl rfl rfl (ckV (md' := md_Tent_refuseRowToFill) lk_5_263 ok_Tent_refuseRowToFill rfl rfl rfl) rfl (by decide) (fun v1 h => c_Tent_refuseRowToFill _ _ _ h) hF (fun v1 hF => ?_)
  refine J.if_eq tk_Tent_seekOrder 2 rfl rfl hF (fun hF => ?_) (fun hF => ?_)
  · refine J.csV tk_Tent_seekOrder (as := [mR 4 4, mR 4 0]) (rest := []) 4 rfl rfl rfl (ckV (md' := md_Camp_takePresent) lk_5_239 ok_Camp_takePresent rfl rfl rfl) rfl (by decide) (fun s1 h => c_Camp_takePresent _ _ _ _ h) hF (fun σ2 hF => ?_)
    refine J.csV tk_Tent_seekOrder (as := [mR 18 0, mI (σ2.1 4 0 10)]) (rest := []) 5 rfl rfl rfl (ckV (md' := md_Orders_begin) lk_5_268 ok_Orders_begin rfl rfl rfl) rfl (by decide) (fun s1 h => c_Orders_begin n _ _ _ h) hF (fun σ3 hF => ?_)
    exact J.run tk_Tent_seekOrder 6 rfl (J.fgt [true, true, true, false, true, true, true, false] (h_Tent_seekOrder_46 n w n _ _ _ _ _ _ hF))
  · exact J.wsI hF (J.reti tk_Tent_seekOrder 1 rfl rfl rfl)
noncomputable def F_Tent_best (n : Nat) (a1 : Int32) (σ : St) : Option (Int32 × St) :=
  b2 (F_Tent_seekOrder n a1 0 σ) fun v1 σ2 =>
  some (v1, σ2)
theorem c_Tent_best (n : Nat) (a1 : Int32) (σ : St) (w : (Int32 × St)) (hF : F_Tent_best n a1 σ = some w) : Call md_Tent_best 6 [mR 0 0, mI a1] σ (some (mI w.1)) w.2 := by
  rw [F_Tent_best] at hF
  refine Call.of ok_Tent_best.1 (Nat.le_of_ble_eq_true rfl) (L := [some (mR 0 0), some (mI a1)]) rfl ?_
  refine J.csI tk_Tent_best (as := [mR 0 0, mI a1, mI 0]) (rest := []) 3 rfl rfl rfl (ckV (md' := md_Tent_seekOrder) lk_5_254 ok_Tent_seekOrder rfl rfl rfl) rfl (by decide) (fun v1 s1 h => c_Tent_seekOrder n _ _ _ (v1, s1) h) hF (fun v1 σ2 hF => ?_)
  exact J.wsI hF (J.reti tk_Tent_best 0 rfl rfl rfl)
noncomputable def F_Tent_fair (n : Nat) (a1 : Int32) (σ : St) : Option (Int32 × St) :=
  b2 (F_Tent_seekOrder n a1 1 σ) fun v1 σ2 =>
  some (v1, σ2)
theorem c_Tent_fair (n : Nat) (a1 : Int32) (σ : St) (w : (Int32 × St)) (hF : F_Tent_fair n a1 σ = some w) : Call md_Tent_fair 6 [mR 0 0, mI a1] σ (some (mI w.1)) w.2 := by
  rw [F_Tent_fair] at hF
  refine Call.of ok_Tent_fair.1 (Nat.le_of_ble_eq_true rfl) (L := [some (mR 0 0), some (mI a1)]) rfl ?_
  refine J.csI tk_Tent_fair (as := [mR 0 0, mI a1, mI 1]) (rest := []) 3 rfl rfl rfl (ckV (md' := md_Tent_seekOrder) lk_5_254 ok_Tent_seekOrder rfl rfl rfl) rfl (by decide) (fun v1 s1 h => c_Tent_seekOrder n _ _ _ (v1, s1) h) hF (fun v1 σ2 hF => ?_)
  exact J.wsI hF (J.reti tk_Tent_fair 0 rfl rfl rfl)
noncomputable def F_Camp_noteCalm_2 (n : Nat) (t : Nat) : Nat → Int32 → St → Option St
  | 0, _, _ => none
  | k + 1, l1, σ =>
    if σ.1 4 t 10 ≤ l1 then
      some σ
    else
    (F_Camp_calmHours n t l1 σ).bind fun v1 =>
    (ast σ 13 t l1 v1).bind fun σ2 =>
    (F_Camp_noteCalm_2 n t k) (l1 + 1) σ2
noncomputable def F_Camp_noteCalm (n : Nat) (t : Nat) (σ : St) : Option St :=
  F_Camp_noteCalm_2 n t n 0 σ
theorem h_Camp_noteCalm_2 (n : Nat) (t : Nat) (w : St) : ∀ (k : Nat) (l1 : Int32) (σ : St), F_Camp_noteCalm_2 n t k l1 σ = some w → J md_Camp_noteCalm 3 2 [some (mR 4 t), some (mI l1)] [] σ none w := by
  intro k
  induction k with
  | zero => intro l1 σ hF; exact no_s hF
  | succ k ih =>
    intro l1 σ hF
    rw [F_Camp_noteCalm_2] at hF
    refine J.icmp_ge tk_Camp_noteCalm 3 rfl rfl hF (fun hF => ?_) (fun hF => ?_)
    · exact J.wsV hF (J.retv tk_Camp_noteCalm 0 rfl rfl rfl)
    · refine J.cpI tk_Camp_noteCalm (as := [mR 4 t, mI l1]) (rest := [mI l1, mA 13 t]) 5 rfl rfl rfl (ckV (md' := md_Camp_calmHours) lk_0_133 ok_Camp_calmHours rfl rfl rfl) rfl (by decide) (fun v1 h => c_Camp_calmHours n _ _ _ _ h) hF (fun v1 hF => ?_)
      refine J.iast tk_Camp_noteCalm 0 rfl rfl hF (fun σ2 hF => ?_)
      exact J.run tk_Camp_noteCalm 2 rfl (ih _ _ hF)
theorem c_Camp_noteCalm (n : Nat) (t : Nat) (σ : St) (w : St) (hF : F_Camp_noteCalm n t σ = some w) : Call md_Camp_noteCalm 3 [mR 4 t] σ none w := by
  rw [F_Camp_noteCalm] at hF
  refine Call.of ok_Camp_noteCalm.1 (Nat.le_of_ble_eq_true rfl) (L := [some (mR 4 t), none]) rfl ?_
  exact J.run tk_Camp_noteCalm 2 rfl (h_Camp_noteCalm_2 n t w n _ _ hF)
noncomputable def F_Camp_sleptOfCalm_9 (n : Nat) (t : Nat) : Nat → Int32 → Int32 → Int32 → St → Option Int32
  | 0, _, _, _, _ => none
  | k + 1, l1, l2, l3, σ =>
    if σ.1 4 t 10 ≤ l3 then
      some l2
    else
    (ald σ 13 t l3).bind fun v2 =>
    (F_Camp_wokenHours t l3 σ).bind fun v3 =>
    (F_Integer_bitCount (v2 &&& ((l1 ||| v3) ^^^ (-1)))).bind fun v4 =>
    (F_Camp_sleptOfCalm_9 n t k) l1 (l2 + v4) (l3 + 1) σ
noncomputable def F_Camp_sleptOfCalm (n : Nat) (t : Nat) (σ : St) : Option Int32 :=
  (F_Camp_soreHours n t σ).bind fun v1 =>
  F_Camp_sleptOfCalm_9 n t n v1 0 0 σ
theorem h_Camp_sleptOfCalm_9 (n : Nat) (t : Nat) (w : Int32) : ∀ (k : Nat) (l1 : Int32) (l2 : Int32) (l3 : Int32) (σ : St), F_Camp_sleptOfCalm_9 n t k l1 l2 l3 σ = some w → J md_Camp_sleptOfCalm 1 9 [some (mR 4 t), some (mI l1), some (mI l2), some (mI l3)] [] σ (some (mI w)) σ := by
  intro k
  induction k with
  | zero => intro l1 l2 l3 σ hF; exact no_s hF
  | succ k ih =>
    intro l1 l2 l3 σ hF
    rw [F_Camp_sleptOfCalm_9] at hF
    refine J.icmp_ge tk_Camp_sleptOfCalm 3 rfl rfl hF (fun hF => ?_) (fun hF => ?_)
    · exact J.wI hF (J.reti tk_Camp_sleptOfCalm 1 rfl rfl rfl)
    · refine J.iald tk_Camp_sleptOfCalm 4 rfl rfl hF (fun v2 hF => ?_)
      refine J.cpI tk_Camp_sleptOfCalm (as := [mR 4 t, mI l3]) (rest := [mI l1, mI v2, mI l2]) 3 rfl rfl rfl (ckV (md' := md_Camp_wokenHours) lk_0_127 ok_Camp_wokenHours rfl rfl rfl) rfl (by decide) (fun v1 h => c_Camp_wokenHours _ _ _ _ h) hF (fun v3 hF => ?_)
      refine J.cpI tk_Camp_sleptOfCalm (as := [mI (v2 &&& ((l1 ||| v3) ^^^ (-1)))]) (rest := [mI l2]) 4 rfl rfl rfl (ckS (md' := md_Integer_bitCount) lk_0_136 ok_Integer_bitCount rfl) rfl (by decide) (fun v1 h => c_Integer_bitCount _ _ _ h) hF (fun v4 hF => ?_)
      exact J.run tk_Camp_sleptOfCalm 4 rfl (ih _ _ _ _ hF)
theorem c_Camp_sleptOfCalm (n : Nat) (t : Nat) (σ : St) (w : Int32) (hF : F_Camp_sleptOfCalm n t σ = some w) : Call md_Camp_sleptOfCalm 1 [mR 4 t] σ (some (mI w)) σ := by
  rw [F_Camp_sleptOfCalm] at hF
  refine Call.of ok_Camp_sleptOfCalm.1 (Nat.le_of_ble_eq_true rfl) (L := [some (mR 4 t), none, none, none]) rfl ?_
  refine J.cpI tk_Camp_sleptOfCalm (as := [mR 4 t]) (rest := []) 1 rfl rfl rfl (ckV (md' := md_Camp_soreHours) lk_0_123 ok_Camp_soreHours rfl rfl rfl) rfl (by decide) (fun v1 h => c_Camp_soreHours n _ _ _ h) hF (fun v1 hF => ?_)
  exact J.run tk_Camp_sleptOfCalm 5 rfl (h_Camp_sleptOfCalm_9 n t w n _ _ _ _ hF)
noncomputable def F_Tent_turning_72 (n : Nat) (K37 : Int32 → Int32 → Int32 → St → Option (Int32 × St)) (l1 : Int32) (l2 : Int32) (l3 : Int32) (σ : St) : Option (Int32 × St) :=
  K37 l1 l2 (l3 + 1) σ
noncomputable def F_Tent_turning_37 (n : Nat) : Nat → Int32 → Int32 → Int32 → St → Option (Int32 × St)
  | 0, _, _, _, _ => none
  | k + 1, l1, l2, l3, σ =>
    if 256 ≤ l3 then
      bs (si σ 0 0 10 l1) fun σ3 =>
      some (l2, σ3)
    else
    bs (si σ 4 4 13 l3) fun σ4 =>
    (F_Camp_sleptOfCalm n 4 σ4).bind fun v5 =>
    F_Tent_turning_72 n (F_Tent_turning_37 n k) (if v5 ≤ l1 then l1 else v5) (if v5 ≤ l1 then l2 else l3) l3 σ4
noncomputable def F_Tent_turning (n : Nat) (σ : St) : Option (Int32 × St) :=
  if σ.1 4 0 10 = 0 then
    some ((-4), σ)
  else
  (F_Camp_takePresent 4 0 σ).bind fun σ1 =>
  (F_Camp_noteCalm n 4 σ1).bind fun σ2 =>
  F_Tent_turning_37 n n (-1) 0 0 σ2
theorem h_Tent_turning_72 (n : Nat) (w : (Int32 × St)) (K37 : Int32 → Int32 → Int32 → St → Option (Int32 × St)) (hK37 : ∀ (l1 : Int32) (l2 : Int32) (l3 : Int32) (σ : St), K37 l1 l2 l3 σ = some w → J md_Tent_turning 4 37 [some (mR 0 0), some (mI l1), some (mI l2), some (mI l3), none] [] σ (some (mI w.1)) w.2) (l1 : Int32) (l2 : Int32) (l3 : Int32) (σ : St) (hF : F_Tent_turning_72 n K37 l1 l2 l3 σ = some w) : J md_Tent_turning 4 72 [some (mR 0 0), some (mI l1), some (mI l2), some (mI l3), none] [] σ (some (mI w.1)) w.2 := by
  rw [F_Tent_turning_72] at hF
  exact J.run tk_Tent_turning 2 rfl (hK37 _ _ _ _ hF)
theorem h_Tent_turning_37 (n : Nat) (w : (Int32 × St)) : ∀ (k : Nat) (l1 : Int32) (l2 : Int32) (l3 : Int32) (σ : St), F_Tent_turning_37 n k l1 l2 l3 σ = some w → J md_Tent_turning 4 37 [some (mR 0 0), some (mI l1), some (mI l2), some (mI l3), none] [] σ (some (mI w.1)) w.2 := by
  intro k
  induction k with
  | zero => intro l1 l2 l3 σ hF; exact no_s hF
  | succ k ih =>
    intro l1 l2 l3 σ hF
    rw [F_Tent_turning_37] at hF
    refine J.icmp_ge tk_Tent_turning 2 rfl rfl hF (fun hF => ?_) (fun hF => ?_)
    · refine J.putI tk_Tent_turning 2 rfl rfl rfl rfl rfl ⟨rfl, rfl⟩ hF (fun σ3 hF => ?_)
      exact J.wsI hF (J.reti tk_Tent_turning 1 rfl rfl rfl)
    · refine J.putI tk_Tent_turning 3 rfl rfl rfl rfl rfl ⟨rfl, rfl⟩ hF (fun σ4 hF => ?_)
      refine J.cpI tk_Tent_turning (as := [mR 4 4]) (rest := []) 2 rfl rfl rfl (ckV (md' := md_Camp_sleptOfCalm) lk_5_260 ok_Camp_sleptOfCalm rfl rfl rfl) rfl (by decide) (fun v1 h => c_Camp_sleptOfCalm n _ _ _ h) hF (fun v5 hF => ?_)
      by_cases hc : v5 ≤ l1
      · simp only [if_pos hc] at hF
        exact J.icmp_leT' tk_Tent_turning 3 rfl rfl hc (J.fgt [true, true, true, true, false] (h_Tent_turning_72 n w (F_Tent_turning_37 n k) ih _ _ _ _ hF))
      · simp only [if_neg hc] at hF
        exact J.icmp_leF' tk_Tent_turning 3 rfl rfl hc (J.run tk_Tent_turning 4 rfl (J.fgt [true, true, true, true, false] (h_Tent_turning_72 n w (F_Tent_turning_37 n k) ih _ _ _ _ hF)))
theorem c_Tent_turning (n : Nat) (σ : St) (w : (Int32 × St)) (hF : F_Tent_turning n σ = some w) : Call md_Tent_turning 4 [mR 0 0] σ (some (mI w.1)) w.2 := by
  rw [F_Tent_turning] at hF
  refine Call.of ok_Tent_turning.1 (Nat.le_of_ble_eq_true rfl) (L := [some (mR 0 0), none, none, none, none]) rfl ?_
  refine J.if_ne tk_Tent_turning 3 rfl rfl hF (fun hF => ?_) (fun hF => ?_)
  · refine J.csV tk_Tent_turning (as := [mR 4 4, mR 4 0]) (rest := []) 4 rfl rfl rfl (ckV (md' := md_Camp_takePresent) lk_5_239 ok_Camp_takePresent rfl rfl rfl) rfl (by decide) (fun s1 h => c_Camp_takePresent _ _ _ _ h) hF (fun σ1 hF => ?_)
    refine J.csV tk_Tent_turning (as := [mR 4 4]) (rest := []) 2 rfl rfl rfl (ckV (md' := md_Camp_noteCalm) lk_5_257 ok_Camp_noteCalm rfl rfl rfl) rfl (by decide) (fun s1 h => c_Camp_noteCalm n _ _ _ h) hF (fun σ2 hF => ?_)
    exact J.run tk_Tent_turning 6 rfl (h_Tent_turning_37 n w n _ _ _ _ hF)
  · exact J.wsI hF (J.reti tk_Tent_turning 1 rfl rfl rfl)
noncomputable def F_Tent_warm_69 (n : Nat) (K30 : Int32 → Int32 → Int32 → St → Option (Int32 × St)) (l1 : Int32) (l2 : Int32) (l3 : Int32) (σ : St) : Option (Int32 × St) :=
  K30 l1 l2 (l3 + 1) σ
noncomputable def F_Tent_warm_30 (n : Nat) : Nat → Int32 → Int32 → Int32 → St → Option (Int32 × St)
  | 0, _, _, _, _ => none
  | k + 1, l1, l2, l3, σ =>
    if σ.1 4 0 10 ≤ l3 then
      bs (si σ 0 0 10 l1) fun σ2 =>
      some (l2, σ2)
    else
    bs (si σ 4 4 12 l3) fun σ3 =>
    (F_Camp_sleptByAll n 4 σ3).bind fun v4 =>
    F_Tent_warm_69 n (F_Tent_warm_30 n k) (if v4 ≤ l1 then l1 else v4) (if v4 ≤ l1 then l2 else l3) l3 σ3
noncomputable def F_Tent_warm (n : Nat) (σ : St) : Option (Int32 × St) :=
  if σ.1 4 0 10 = 0 then
    some ((-4), σ)
  else
  (F_Camp_takePresent 4 0 σ).bind fun σ1 =>
  F_Tent_warm_30 n n (-1) 0 0 σ1
theorem h_Tent_warm_69 (n : Nat) (w : (Int32 × St)) (K30 : Int32 → Int32 → Int32 → St → Option (Int32 × St)) (hK30 : ∀ (l1 : Int32) (l2 : Int32) (l3 : Int32) (σ : St), K30 l1 l2 l3 σ = some w → J md_Tent_warm 5 30 [some (mR 0 0), some (mI l1), some (mI l2), some (mI l3), none] [] σ (some (mI w.1)) w.2) (l1 : Int32) (l2 : Int32) (l3 : Int32) (σ : St) (hF : F_Tent_warm_69 n K30 l1 l2 l3 σ = some w) : J md_Tent_warm 5 69 [some (mR 0 0), some (mI l1), some (mI l2), some (mI l3), none] [] σ (some (mI w.1)) w.2 := by
  rw [F_Tent_warm_69] at hF
  exact J.run tk_Tent_warm 2 rfl (hK30 _ _ _ _ hF)
theorem h_Tent_warm_30 (n : Nat) (w : (Int32 × St)) : ∀ (k : Nat) (l1 : Int32) (l2 : Int32) (l3 : Int32) (σ : St), F_Tent_warm_30 n k l1 l2 l3 σ = some w → J md_Tent_warm 5 30 [some (mR 0 0), some (mI l1), some (mI l2), some (mI l3), none] [] σ (some (mI w.1)) w.2 := by
  intro k
  induction k with
  | zero => intro l1 l2 l3 σ hF; exact no_s hF
  | succ k ih =>
    intro l1 l2 l3 σ hF
    rw [F_Tent_warm_30] at hF
    refine J.icmp_ge tk_Tent_warm 4 rfl rfl hF (fun hF => ?_) (fun hF => ?_)
    · refine J.putI tk_Tent_warm 2 rfl rfl rfl rfl rfl ⟨rfl, rfl⟩ hF (fun σ2 hF => ?_)
      exact J.wsI hF (J.reti tk_Tent_warm 1 rfl rfl rfl)
    · refine J.putI tk_Tent_warm 3 rfl rfl rfl rfl rfl ⟨rfl, rfl⟩ hF (fun σ3 hF => ?_)
      refine J.cpI tk_Tent_warm (as := [mR 4 4]) (rest := []) 2 rfl rfl rfl (ckV (md' := md_Camp_sleptByAll) lk_5_251 ok_Camp_sleptByAll rfl rfl rfl) rfl (by decide) (fun v1 h => c_Camp_sleptByAll n _ _ _ h) hF (fun v4 hF => ?_)
      by_cases hc : v4 ≤ l1
      · simp only [if_pos hc] at hF
        exact J.icmp_leT' tk_Tent_warm 3 rfl rfl hc (J.fgt [true, true, true, true, false] (h_Tent_warm_69 n w (F_Tent_warm_30 n k) ih _ _ _ _ hF))
      · simp only [if_neg hc] at hF
        exact J.icmp_leF' tk_Tent_warm 3 rfl rfl hc (J.run tk_Tent_warm 4 rfl (J.fgt [true, true, true, true, false] (h_Tent_warm_69 n w (F_Tent_warm_30 n k) ih _ _ _ _ hF)))
theorem c_Tent_warm (n : Nat) (σ : St) (w : (Int32 × St)) (hF : F_Tent_warm n σ = some w) : Call md_Tent_warm 5 [mR 0 0] σ (some (mI w.1)) w.2 := by
  rw [F_Tent_warm] at hF
  refine Call.of ok_Tent_warm.1 (Nat.le_of_ble_eq_true rfl) (L := [some (mR 0 0), none, none, none, none]) rfl ?_
  refine J.if_ne tk_Tent_warm 3 rfl rfl hF (fun hF => ?_) (fun hF => ?_)
  · refine J.csV tk_Tent_warm (as := [mR 4 4, mR 4 0]) (rest := []) 4 rfl rfl rfl (ckV (md' := md_Camp_takePresent) lk_5_239 ok_Camp_takePresent rfl rfl rfl) rfl (by decide) (fun s1 h => c_Camp_takePresent _ _ _ _ h) hF (fun σ1 hF => ?_)
    exact J.run tk_Tent_warm 6 rfl (h_Tent_warm_30 n w n _ _ _ _ hF)
  · exact J.wsI hF (J.reti tk_Tent_warm 1 rfl rfl rfl)
noncomputable def F_Tent_thin (n : Nat) (a1 : Int32) (σ : St) : Option (Int32 × St) :=
  b2 (F_Tent_seekOrder n a1 2 σ) fun v1 σ2 =>
  some (v1, σ2)
theorem c_Tent_thin (n : Nat) (a1 : Int32) (σ : St) (w : (Int32 × St)) (hF : F_Tent_thin n a1 σ = some w) : Call md_Tent_thin 6 [mR 0 0, mI a1] σ (some (mI w.1)) w.2 := by
  rw [F_Tent_thin] at hF
  refine Call.of ok_Tent_thin.1 (Nat.le_of_ble_eq_true rfl) (L := [some (mR 0 0), some (mI a1)]) rfl ?_
  refine J.csI tk_Tent_thin (as := [mR 0 0, mI a1, mI 2]) (rest := []) 3 rfl rfl rfl (ckV (md' := md_Tent_seekOrder) lk_5_254 ok_Tent_seekOrder rfl rfl rfl) rfl (by decide) (fun v1 s1 h => c_Tent_seekOrder n _ _ _ (v1, s1) h) hF (fun v1 σ2 hF => ?_)
  exact J.wsI hF (J.reti tk_Tent_thin 0 rfl rfl rfl)
noncomputable def F_Plan_begin (n : Nat) (a1 : Int32) (σ : St) : Option St :=
  bs (si σ 20 0 8 (mmin a1 5)) fun σ1 =>
  bs (si σ1 20 0 7 0) fun σ2 =>
  (F_Arrays_fill2 n 23 0 0 σ2).bind fun σ3 =>
  some σ3
theorem c_Plan_begin (n : Nat) (a1 : Int32) (σ : St) (w : St) (hF : F_Plan_begin n a1 σ = some w) : Call md_Plan_begin 1 [mR 20 0, mI a1] σ none w := by
  rw [F_Plan_begin] at hF
  refine Call.of ok_Plan_begin.1 (Nat.le_of_ble_eq_true rfl) (L := [some (mR 20 0), some (mI a1)]) rfl ?_
  refine J.mmin tk_Plan_begin 3 rfl rfl lk_2_30 rfl rfl ?_
  refine J.putI tk_Plan_begin 0 rfl rfl rfl rfl rfl ⟨rfl, rfl⟩ hF (fun σ1 hF => ?_)
  refine J.putI tk_Plan_begin 2 rfl rfl rfl rfl rfl ⟨rfl, rfl⟩ hF (fun σ2 hF => ?_)
  refine J.csV tk_Plan_begin (as := [mA 23 0, mI 0]) (rest := []) 3 rfl rfl rfl (ckS (md' := md_Arrays_fill2) lk_2_43 ok_Arrays_fill2 rfl) rfl (by decide) (fun s1 h => c_Arrays_fill2 n _ _ _ _ _ h) hF (fun σ3 hF => ?_)
  exact J.wsV hF (J.retv tk_Plan_begin 0 rfl rfl rfl)
noncomputable def F_Plan_bound_6 (n : Nat) : Nat → Int32 → Int32 → Int32 → Int32 → St → Option Int32
  | 0, _, _, _, _, _ => none
  | k + 1, l1, l2, l3, l4, σ =>
    if σ.1 20 0 8 ≤ l4 then
      some l3
    else
    (ald σ 24 0 ((l1 * 5) + l4)).bind fun v1 =>
    (ald σ 23 0 l4).bind fun v2 =>
    (F_Plan_bound_6 n k) l1 l2 (mmin l3 (v1 + ((l2 - l1) * v2))) (l4 + 1) σ
noncomputable def F_Plan_bound (n : Nat) (a1 : Int32) (a2 : Int32) (σ : St) : Option Int32 :=
  F_Plan_bound_6 n n a1 a2 24 0 σ
theorem h_Plan_bound_6 (n : Nat) (w : Int32) : ∀ (k : Nat) (l1 : Int32) (l2 : Int32) (l3 : Int32) (l4 : Int32) (σ : St), F_Plan_bound_6 n k l1 l2 l3 l4 σ = some w → J md_Plan_bound 1 6 [some (mR 20 0), some (mI l1), some (mI l2), some (mI l3), some (mI l4), none] [] σ (some (mI w)) σ := by
  intro k
  induction k with
  | zero => intro l1 l2 l3 l4 σ hF; exact no_s hF
  | succ k ih =>
    intro l1 l2 l3 l4 σ hF
    rw [F_Plan_bound_6] at hF
    refine J.icmp_ge tk_Plan_bound 3 rfl rfl hF (fun hF => ?_) (fun hF => ?_)
    · exact J.wI hF (J.reti tk_Plan_bound 1 rfl rfl rfl)
    · refine J.iald tk_Plan_bound 7 rfl rfl hF (fun v1 hF => ?_)
      refine J.iald tk_Plan_bound 6 rfl rfl hF (fun v2 hF => ?_)
      refine J.mmin tk_Plan_bound 5 rfl rfl lk_2_30 rfl rfl ?_
      exact J.run tk_Plan_bound 3 rfl (J.fgt [true, true, true, true, true, false] (ih _ _ _ _ _ hF))
theorem c_Plan_bound (n : Nat) (a1 : Int32) (a2 : Int32) (σ : St) (w : Int32) (hF : F_Plan_bound n a1 a2 σ = some w) : Call md_Plan_bound 1 [mR 20 0, mI a1, mI a2] σ (some (mI w)) σ := by
  rw [F_Plan_bound] at hF
  refine Call.of ok_Plan_bound.1 (Nat.le_of_ble_eq_true rfl) (L := [some (mR 20 0), some (mI a1), some (mI a2), none, none, none]) rfl ?_
  exact J.run tk_Plan_bound 4 rfl (h_Plan_bound_6 n w n _ _ _ _ _ hF)
noncomputable def F_Plan_chooseFrom_64 (n : Nat) (dp : Nat) (FR : Int32 → Int32 → Int32 → St → Option St) (K52 : Int32 → Int32 → Int32 → Int32 → St → Option St) : Nat → Int32 → Int32 → Int32 → Int32 → Int32 → St → Option St
  | 0, _, _, _, _, _, _ => none
  | k + 1, l2, l3, l5, l6, l7, σ =>
    if σ.1 20 0 8 ≤ l7 then
      (ast σ 25 0 l2 l6).bind fun σ2 =>
      (FR l6 (l2 + 1) l3 σ2).bind fun σ3 =>
      K52 l2 l3 l5 (l6 + 1) σ3
    else
    (ald σ 24 0 (l5 + l7)).bind fun v4 =>
    (ald σ 22 0 ((l6 * 5) + l7)).bind fun v5 =>
    (ast σ 24 0 ((l5 + 5) + l7) (v4 + v5)).bind fun σ6 =>
    (F_Plan_chooseFrom_64 n dp FR K52 k) l2 l3 l5 l6 (l7 + 1) σ6
noncomputable def F_Plan_chooseFrom_52 (n : Nat) (dp : Nat) (FR : Int32 → Int32 → Int32 → St → Option St) : Nat → Int32 → Int32 → Int32 → Int32 → St → Option St
  | 0, _, _, _, _, _ => none
  | k + 1, l2, l3, l5, l6, σ =>
    if σ.1 20 0 7 ≤ l6 then
      some σ
    else
    F_Plan_chooseFrom_64 n dp FR (F_Plan_chooseFrom_52 n dp FR k) n l2 l3 l5 l6 0 σ
noncomputable def F_Plan_chooseFrom_b (n : Nat) (dp : Nat) (FR : Int32 → Int32 → Int32 → St → Option St) (a1 : Int32) (a2 : Int32) (a3 : Int32) (σ : St) : Option St :=
  (F_Plan_bound n a2 a3 σ).bind fun v1 =>
  if σ.1 20 0 6 < v1 then
    if a2 < a3 then
      F_Plan_chooseFrom_52 n dp FR n a2 a3 (a2 * 5) a1 σ
    else
    bs (si σ 20 0 6 v1) fun σ7 =>
    (acp σ7 25 0 0 26 0 0 a3).bind fun σ8 =>
    some σ8
  else
  some σ
noncomputable def F_Plan_chooseFrom (n : Nat) : Nat → Int32 → Int32 → Int32 → St → Option St
  | 0, _, _, _, _ => none
  | dp + 1, a1, a2, a3, σ => F_Plan_chooseFrom_b n dp (F_Plan_chooseFrom n dp) a1 a2 a3 σ
theorem h_Plan_chooseFrom_64 (n : Nat) (dp : Nat) (FR : Int32 → Int32 → Int32 → St → Option St) (hFR : ∀ (a1 : Int32) (a2 : Int32) (a3 : Int32) (σ : St) (w : St), FR a1 a2 a3 σ = some w → Call md_Plan_chooseFrom (dp + 1) [mR 20 0, mI a1, mI a2, mI a3] σ none w) (w : St) (K52 : Int32 → Int32 → Int32 → Int32 → St → Option St) (hK52 : ∀ (l2 : Int32) (l3 : Int32) (l5 : Int32) (l6 : Int32) (σ : St), K52 l2 l3 l5 l6 σ = some w → J md_Plan_chooseFrom (dp + 2) 52 [some (mR 20 0), none, some (mI l2), some (mI l3), none, some (mI l5), some (mI l6), none] [] σ none w) : ∀ (k : Nat) (l2 : Int32) (l3 : Int32) (l5 : Int32) (l6 : Int32) (l7 : Int32) (σ : St), F_Plan_chooseFrom_64 n dp FR K52 k l2 l3 l5 l6 l7 σ = some w → J md_Plan_chooseFrom (dp + 2) 64 [some (mR 20 0), none, some (mI l2), some (mI l3), none, some (mI l5), some (mI l6), some (mI l7)] [] σ none w := by
  intro k
  induction k with
  | zero => intro l2 l3 l5 l6 l7 σ hF; exact no_s hF
  | succ k ih =>
    intro l2 l3 l5 l6 l7 σ hF
    rw [F_Plan_chooseFrom_64] at hF
    refine J.icmp_ge tk_Plan_chooseFrom 3 rfl rfl hF (fun hF => ?_) (fun hF => ?_)
    · refine J.iast tk_Plan_chooseFrom 4 rfl rfl hF (fun σ2 hF => ?_)
      refine J.csV tk_Plan_chooseFrom (as := [mR 20 0, mI l6, mI (l2 + 1), mI l3]) (rest := []) 6 rfl rfl rfl (ckV (md' := md_Plan_chooseFrom) lk_2_65 ok_Plan_chooseFrom rfl rfl rfl) rfl (by omega) (fun s1 h => hFR _ _ _ _ _ h) hF (fun σ3 hF => ?_)
      exact J.run tk_Plan_chooseFrom 2 rfl (J.fgt [true, false, true, true, false, true, true, false] (hK52 _ _ _ _ _ hF))
    · refine J.iald tk_Plan_chooseFrom 12 rfl rfl hF (fun v4 hF => ?_)
      refine J.iald tk_Plan_chooseFrom 7 rfl rfl hF (fun v5 hF => ?_)
      refine J.iast tk_Plan_chooseFrom 1 rfl rfl hF (fun σ6 hF => ?_)
      exact J.run tk_Plan_chooseFrom 2 rfl (ih _ _ _ _ _ _ hF)
theorem h_Plan_chooseFrom_52 (n : Nat) (dp : Nat) (FR : Int32 → Int32 → Int32 → St → Option St) (hFR : ∀ (a1 : Int32) (a2 : Int32) (a3 : Int32) (σ : St) (w : St), FR a1 a2 a3 σ = some w → Call md_Plan_chooseFrom (dp + 1) [mR 20 0, mI a1, mI a2, mI a3] σ none w) (w : St) : ∀ (k : Nat) (l2 : Int32) (l3 : Int32) (l5 : Int32) (l6 : Int32) (σ : St), F_Plan_chooseFrom_52 n dp FR k l2 l3 l5 l6 σ = some w → J md_Plan_chooseFrom (dp + 2) 52 [some (mR 20 0), none, some (mI l2), some (mI l3), none, some (mI l5), some (mI l6), none] [] σ none w := by
  intro k
  induction k with
  | zero => intro l2 l3 l5 l6 σ hF; exact no_s hF
  | succ k ih =>
    intro l2 l3 l5 l6 σ hF
    rw [F_Plan_chooseFrom_52] at hF
    refine J.icmp_ge tk_Plan_chooseFrom 3 rfl rfl hF (fun hF => ?_) (fun hF => ?_)
    · exact J.wsV hF (J.retv tk_Plan_chooseFrom 0 rfl rfl rfl)
    · exact J.run tk_Plan_chooseFrom 2 rfl (h_Plan_chooseFrom_64 n dp FR hFR w (F_Plan_chooseFrom_52 n dp FR k) ih n _ _ _ _ _ _ hF)
theorem c_Plan_chooseFrom_b (n : Nat) (dp : Nat) (FR : Int32 → Int32 → Int32 → St → Option St) (hFR : ∀ (a1 : Int32) (a2 : Int32) (a3 : Int32) (σ : St) (w : St), FR a1 a2 a3 σ = some w → Call md_Plan_chooseFrom (dp + 1) [mR 20 0, mI a1, mI a2, mI a3] σ none w) (a1 : Int32) (a2 : Int32) (a3 : Int32) (σ : St) (w : St) (hF : F_Plan_chooseFrom_b n dp FR a1 a2 a3 σ = some w) : Call md_Plan_chooseFrom (dp + 2) [mR 20 0, mI a1, mI a2, mI a3] σ none w := by
  rw [F_Plan_chooseFrom_b] at hF
  refine Call.of ok_Plan_chooseFrom.1 (Nat.le_of_ble_eq_true rfl) (L := [some (mR 20 0), some (mI a1), some (mI a2), some (mI a3), none, none, none, none]) rfl ?_
  refine J.cpI tk_Plan_chooseFrom (as := [mR 20 0, mI a2, mI a3]) (rest := []) 3 rfl rfl rfl (ckV (md' := md_Plan_bound) lk_2_69 ok_Plan_bound rfl rfl rfl) rfl (by omega) (fun v1 h => c_Plan_bound n _ _ _ _ h) hF (fun v1 hF => ?_)
  refine J.icmp_gt tk_Plan_chooseFrom 4 rfl rfl hF (fun hF => ?_) (fun hF => ?_)
  · refine J.icmp_lt tk_Plan_chooseFrom 2 rfl rfl hF (fun hF => ?_) (fun hF => ?_)
    · exact J.run tk_Plan_chooseFrom 6 rfl (J.fgt [true, false, true, true, false, true, true, false] (h_Plan_chooseFrom_52 n dp FR hFR w n _ _ _ _ _ hF))
    · refine J.putI tk_Plan_chooseFrom 2 rfl rfl rfl rfl rfl ⟨rfl, rfl⟩ hF (fun σ7 hF => ?_)
      refine J.acp tk_Plan_chooseFrom 7 rfl rfl lk_2_72 rfl rfl hF (fun σ8 hF => ?_)
      exact J.wsV hF (J.retv tk_Plan_chooseFrom 0 rfl rfl rfl)
  · exact J.wsV hF (J.retv tk_Plan_chooseFrom 0 rfl rfl rfl)
theorem c_Plan_chooseFrom (n : Nat) : ∀ (dp : Nat) (a1 : Int32) (a2 : Int32) (a3 : Int32) (σ : St) (w : St), F_Plan_chooseFrom n dp a1 a2 a3 σ = some w → Call md_Plan_chooseFrom (dp + 1) [mR 20 0, mI a1, mI a2, mI a3] σ none w := by
  intro dp
  induction dp with
  | zero => intro a1 a2 a3 σ w hF; exact no_s hF
  | succ dp ih =>
    intro a1 a2 a3 σ w hF
    exact (show dp + 1 + 1 = dp + 2 by omega) ▸ c_Plan_chooseFrom_b n dp (F_Plan_chooseFrom n dp) (fun a1 a2 a3 σ w h => ih a1 a2 a3 σ w h) a1 a2 a3 σ w hF
