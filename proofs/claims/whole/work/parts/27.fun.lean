noncomputable def F_Mod_areHeard_52 (n : Nat) (K4 : Int32 → Int32 → Int32 → St → Option Int32) (l1 : Int32) (l3 : Int32) (s0 : Int32) (σ : St) : Option Int32 :=
  K4 l1 s0 (l3 + 1) σ
noncomputable def F_Mod_areHeard_51 (n : Nat) (K4 : Int32 → Int32 → Int32 → St → Option Int32) (l1 : Int32) (l3 : Int32) (σ : St) : Option Int32 :=
  F_Mod_areHeard_52 n K4 l1 l3 0 σ
noncomputable def F_Mod_areHeard_47 (n : Nat) (K4 : Int32 → Int32 → Int32 → St → Option Int32) (l1 : Int32) (l3 : Int32) (σ : St) : Option Int32 :=
  F_Mod_areHeard_52 n K4 l1 l3 1 σ
noncomputable def F_Mod_areHeard_4 (n : Nat) : Nat → Int32 → Int32 → Int32 → St → Option Int32
  | 0, _, _, _, _ => none
  | k + 1, l1, l2, l3, σ =>
    if σ.1 30 0 1 ≤ l3 then
      some (l2 &&& 1)
    else
    (ald σ 36 0 ((40 * l1) + l3)).bind fun v1 =>
    if l2 = 0 then
      F_Mod_areHeard_51 n (F_Mod_areHeard_4 n k) l1 l3 σ
    else
    if v1 = 0 then
      F_Mod_areHeard_47 n (F_Mod_areHeard_4 n k) l1 l3 σ
    else
    if v1 = 1 then
      F_Mod_areHeard_47 n (F_Mod_areHeard_4 n k) l1 l3 σ
    else
    F_Mod_areHeard_52 n (F_Mod_areHeard_4 n k) l1 l3 (if v1 = (-9) then 1 else 0) σ
noncomputable def F_Mod_areHeard (n : Nat) (a1 : Int32) (σ : St) : Option Int32 :=
  F_Mod_areHeard_4 n n a1 1 0 σ
theorem h_Mod_areHeard_52 (n : Nat) (w : Int32) (K4 : Int32 → Int32 → Int32 → St → Option Int32) (hK4 : ∀ (l1 : Int32) (l2 : Int32) (l3 : Int32) (σ : St), K4 l1 l2 l3 σ = some w → J md_Mod_areHeard 0 4 [some (mR 30 0), some (mI l1), some (mI l2), some (mI l3), none] [] σ (some (mI w)) σ) (l1 : Int32) (l3 : Int32) (s0 : Int32) (σ : St) (hF : F_Mod_areHeard_52 n K4 l1 l3 s0 σ = some w) : J md_Mod_areHeard 0 52 [some (mR 30 0), some (mI l1), none, some (mI l3), none] [mI s0] σ (some (mI w)) σ := by
  rw [F_Mod_areHeard_52] at hF
  exact J.run tk_Mod_areHeard 3 rfl (hK4 _ _ _ _ hF)
theorem h_Mod_areHeard_51 (n : Nat) (w : Int32) (K4 : Int32 → Int32 → Int32 → St → Option Int32) (hK4 : ∀ (l1 : Int32) (l2 : Int32) (l3 : Int32) (σ : St), K4 l1 l2 l3 σ = some w → J md_Mod_areHeard 0 4 [some (mR 30 0), some (mI l1), some (mI l2), some (mI l3), none] [] σ (some (mI w)) σ) (l1 : Int32) (l3 : Int32) (σ : St) (hF : F_Mod_areHeard_51 n K4 l1 l3 σ = some w) : J md_Mod_areHeard 0 51 [some (mR 30 0), some (mI l1), none, some (mI l3), none] [] σ (some (mI w)) σ := by
  rw [F_Mod_areHeard_51] at hF
  exact J.run tk_Mod_areHeard 1 rfl (h_Mod_areHeard_52 n w K4 hK4 _ _ _ _ hF)
theorem h_Mod_areHeard_47 (n : Nat) (w : Int32) (K4 : Int32 → Int32 → Int32 → St → Option Int32) (hK4 : ∀ (l1 : Int32) (l2 : Int32) (l3 : Int32) (σ : St), K4 l1 l2 l3 σ = some w → J md_Mod_areHeard 0 4 [some (mR 30 0), some (mI l1), some (mI l2), some (mI l3), none] [] σ (some (mI w)) σ) (l1 : Int32) (l3 : Int32) (σ : St) (hF : F_Mod_areHeard_47 n K4 l1 l3 σ = some w) : J md_Mod_areHeard 0 47 [some (mR 30 0), some (mI l1), none, some (mI l3), none] [] σ (some (mI w)) σ := by
  rw [F_Mod_areHeard_47] at hF
  exact J.run tk_Mod_areHeard 2 rfl (h_Mod_areHeard_52 n w K4 hK4 _ _ _ _ hF)
theorem h_Mod_areHeard_4 (n : Nat) (w : Int32) : ∀ (k : Nat) (l1 : Int32) (l2 : Int32) (l3 : Int32) (σ : St), F_Mod_areHeard_4 n k l1 l2 l3 σ = some w → J md_Mod_areHeard 0 4 [some (mR 30 0), some (mI l1), some (mI l2), some (mI l3), none] [] σ (some (mI w)) σ := by
  intro k
  induction k with
  | zero => intro l1 l2 l3 σ hF; exact no_s hF
  | succ k ih =>
    intro l1 l2 l3 σ hF
    rw [F_Mod_areHeard_4] at hF
    refine J.icmp_ge tk_Mod_areHeard 3 rfl rfl hF (fun hF => ?_) (fun hF => ?_)
    · exact J.wI hF (J.retz tk_Mod_areHeard 1 rfl rfl rfl rfl)
    · refine J.iald tk_Mod_areHeard 7 rfl rfl hF (fun v1 hF => ?_)
      refine J.if_eq tk_Mod_areHeard 2 rfl rfl hF (fun hF => ?_) (fun hF => ?_)
      · exact J.fgt [true, true, false, true, false] (h_Mod_areHeard_51 n w (F_Mod_areHeard_4 n k) ih _ _ _ hF)
      · refine J.if_eq tk_Mod_areHeard 1 rfl rfl hF (fun hF => ?_) (fun hF => ?_)
        · exact J.fgt [true, true, false, true, false] (h_Mod_areHeard_47 n w (F_Mod_areHeard_4 n k) ih _ _ _ hF)
        · refine J.icmp_eq tk_Mod_areHeard 2 rfl rfl hF (fun hF => ?_) (fun hF => ?_)
          · exact J.fgt [true, true, false, true, false] (h_Mod_areHeard_47 n w (F_Mod_areHeard_4 n k) ih _ _ _ hF)
          · by_cases hc : v1 = (-9)
            · simp only [if_pos hc] at hF
              exact J.icmp_neF' tk_Mod_areHeard 2 rfl rfl hc (J.run tk_Mod_areHeard 2 rfl (J.fgt [true, true, false, true, false] (h_Mod_areHeard_52 n w (F_Mod_areHeard_4 n k) ih _ _ _ _ hF)))
            · simp only [if_neg hc] at hF
              exact J.icmp_neT' tk_Mod_areHeard 2 rfl rfl hc (J.run tk_Mod_areHeard 1 rfl (J.fgt [true, true, false, true, false] (h_Mod_areHeard_52 n w (F_Mod_areHeard_4 n k) ih _ _ _ _ hF)))
theorem c_Mod_areHeard (n : Nat) (a1 : Int32) (σ : St) (w : Int32) (hF : F_Mod_areHeard n a1 σ = some w) : Call md_Mod_areHeard 0 [mR 30 0, mI a1] σ (some (mI w)) σ := by
  rw [F_Mod_areHeard] at hF
  refine Call.of ok_Mod_areHeard.1 (Nat.le_of_ble_eq_true rfl) (L := [some (mR 30 0), some (mI a1), none, none, none]) rfl ?_
  exact J.run tk_Mod_areHeard 4 rfl (h_Mod_areHeard_4 n w n _ _ _ _ hF)
noncomputable def F_Mod_fits_116 (n : Nat) (K6 : Int32 → Int32 → Int32 → Int32 → Int32 → St → Option Int32) (l1 : Int32) (l2 : Int32) (l3 : Int32) (l5 : Int32) (s0 : Int32) (σ : St) : Option Int32 :=
  K6 l1 l2 l3 s0 (l5 + 1) σ
noncomputable def F_Mod_fits_115 (n : Nat) (K6 : Int32 → Int32 → Int32 → Int32 → Int32 → St → Option Int32) (l1 : Int32) (l2 : Int32) (l3 : Int32) (l5 : Int32) (σ : St) : Option Int32 :=
  F_Mod_fits_116 n K6 l1 l2 l3 l5 0 σ
noncomputable def F_Mod_fits_111 (n : Nat) (K6 : Int32 → Int32 → Int32 → Int32 → Int32 → St → Option Int32) (l1 : Int32) (l2 : Int32) (l3 : Int32) (l5 : Int32) (σ : St) : Option Int32 :=
  F_Mod_fits_116 n K6 l1 l2 l3 l5 1 σ
noncomputable def F_Mod_fits_108 (n : Nat) (K6 : Int32 → Int32 → Int32 → Int32 → Int32 → St → Option Int32) (l1 : Int32) (l2 : Int32) (l3 : Int32) (l5 : Int32) (s0 : Int32) (s1 : Int32) (σ : St) : Option Int32 :=
  F_Mod_fits_116 n K6 l1 l2 l3 l5 (if s0 = s1 then 1 else 0) σ
noncomputable def F_Mod_fits_67 (n : Nat) (K6 : Int32 → Int32 → Int32 → Int32 → Int32 → St → Option Int32) (l1 : Int32) (l2 : Int32) (l3 : Int32) (l4 : Int32) (l5 : Int32) (s0 : Int32) (σ : St) : Option Int32 :=
  (ald σ 36 0 ((40 * l1) + l5)).bind fun v2 =>
  if l4 = 0 then
    F_Mod_fits_115 n K6 l1 l2 l3 l5 σ
  else
  if v2 = (-9) then
    F_Mod_fits_111 n K6 l1 l2 l3 l5 σ
  else
  F_Mod_fits_108 n K6 l1 l2 l3 l5 s0 (if v2 = 1 then 1 else 0) σ
noncomputable def F_Mod_fits_66 (n : Nat) (K6 : Int32 → Int32 → Int32 → Int32 → Int32 → St → Option Int32) (l1 : Int32) (l2 : Int32) (l3 : Int32) (l4 : Int32) (l5 : Int32) (σ : St) : Option Int32 :=
  F_Mod_fits_67 n K6 l1 l2 l3 l4 l5 0 σ
noncomputable def F_Mod_fits_6 (n : Nat) : Nat → Int32 → Int32 → Int32 → Int32 → Int32 → St → Option Int32
  | 0, _, _, _, _, _, _ => none
  | k + 1, l1, l2, l3, l4, l5, σ =>
    if σ.1 30 0 1 ≤ l5 then
      some (l4 &&& 1)
    else
    (F_Mod_placeOf n l2 σ).bind fun v1 =>
    if (l5 - v1) = 0 then
      F_Mod_fits_66 n (F_Mod_fits_6 n k) l1 l2 l3 l4 l5 σ
    else
    (F_Mod_in ((l5 - v1).toInt64) ((-l3).toInt64) l3.toInt64).bind fun v3 =>
    if v3 = 0 then
      F_Mod_fits_66 n (F_Mod_fits_6 n k) l1 l2 l3 l4 l5 σ
    else
    (ald σ 42 0 l5).bind fun v4 =>
    (ald σ 32 0 v4).bind fun v5 =>
    (F_Mod_hearsNone v5).bind fun v6 =>
    F_Mod_fits_67 n (F_Mod_fits_6 n k) l1 l2 l3 l4 l5 (if v6 = 0 then 1 else 0) σ
noncomputable def F_Mod_fits (n : Nat) (a1 : Int32) (a2 : Int32) (a3 : Int32) (σ : St) : Option Int32 :=
  F_Mod_fits_6 n n a1 a2 a3 1 0 σ
theorem h_Mod_fits_116 (n : Nat) (w : Int32) (K6 : Int32 → Int32 → Int32 → Int32 → Int32 → St → Option Int32) (hK6 : ∀ (l1 : Int32) (l2 : Int32) (l3 : Int32) (l4 : Int32) (l5 : Int32) (σ : St), K6 l1 l2 l3 l4 l5 σ = some w → J md_Mod_fits 1 6 [some (mR 30 0), some (mI l1), some (mI l2), some (mI l3), some (mI l4), some (mI l5), none, none, none] [] σ (some (mI w)) σ) (l1 : Int32) (l2 : Int32) (l3 : Int32) (l5 : Int32) (s0 : Int32) (σ : St) (hF : F_Mod_fits_116 n K6 l1 l2 l3 l5 s0 σ = some w) : J md_Mod_fits 1 116 [some (mR 30 0), some (mI l1), some (mI l2), some (mI l3), none, some (mI l5), none, none, none] [mI s0] σ (some (mI w)) σ := by
  rw [F_Mod_fits_116] at hF
  exact J.run tk_Mod_fits 3 rfl (hK6 _ _ _ _ _ _ hF)
theorem h_Mod_fits_115 (n : Nat) (w : Int32) (K6 : Int32 → Int32 → Int32 → Int32 → Int32 → St → Option Int32) (hK6 : ∀ (l1 : Int32) (l2 : Int32) (l3 : Int32) (l4 : Int32) (l5 : Int32) (σ : St), K6 l1 l2 l3 l4 l5 σ = some w → J md_Mod_fits 1 6 [some (mR 30 0), some (mI l1), some (mI l2), some (mI l3), some (mI l4), some (mI l5), none, none, none] [] σ (some (mI w)) σ) (l1 : Int32) (l2 : Int32) (l3 : Int32) (l5 : Int32) (σ : St) (hF : F_Mod_fits_115 n K6 l1 l2 l3 l5 σ = some w) : J md_Mod_fits 1 115 [some (mR 30 0), some (mI l1), some (mI l2), some (mI l3), none, some (mI l5), none, none, none] [] σ (some (mI w)) σ := by
  rw [F_Mod_fits_115] at hF
  exact J.run tk_Mod_fits 1 rfl (h_Mod_fits_116 n w K6 hK6 _ _ _ _ _ _ hF)
theorem h_Mod_fits_111 (n : Nat) (w : Int32) (K6 : Int32 → Int32 → Int32 → Int32 → Int32 → St → Option Int32) (hK6 : ∀ (l1 : Int32) (l2 : Int32) (l3 : Int32) (l4 : Int32) (l5 : Int32) (σ : St), K6 l1 l2 l3 l4 l5 σ = some w → J md_Mod_fits 1 6 [some (mR 30 0), some (mI l1), some (mI l2), some (mI l3), some (mI l4), some (mI l5), none, none, none] [] σ (some (mI w)) σ) (l1 : Int32) (l2 : Int32) (l3 : Int32) (l5 : Int32) (σ : St) (hF : F_Mod_fits_111 n K6 l1 l2 l3 l5 σ = some w) : J md_Mod_fits 1 111 [some (mR 30 0), some (mI l1), some (mI l2), some (mI l3), none, some (mI l5), none, none, none] [] σ (some (mI w)) σ := by
  rw [F_Mod_fits_111] at hF
  exact J.run tk_Mod_fits 2 rfl (h_Mod_fits_116 n w K6 hK6 _ _ _ _ _ _ hF)
theorem h_Mod_fits_108 (n : Nat) (w : Int32) (K6 : Int32 → Int32 → Int32 → Int32 → Int32 → St → Option Int32) (hK6 : ∀ (l1 : Int32) (l2 : Int32) (l3 : Int32) (l4 : Int32) (l5 : Int32) (σ : St), K6 l1 l2 l3 l4 l5 σ = some w → J md_Mod_fits 1 6 [some (mR 30 0), some (mI l1), some (mI l2), some (mI l3), some (mI l4), some (mI l5), none, none, none] [] σ (some (mI w)) σ) (l1 : Int32) (l2 : Int32) (l3 : Int32) (l5 : Int32) (s0 : Int32) (s1 : Int32) (σ : St) (hF : F_Mod_fits_108 n K6 l1 l2 l3 l5 s0 s1 σ = some w) : J md_Mod_fits 1 108 [some (mR 30 0), some (mI l1), some (mI l2), some (mI l3), none, some (mI l5), none, none, none] [mI s1, mI s0] σ (some (mI w)) σ := by
  rw [F_Mod_fits_108] at hF
  by_cases hc : s0 = s1
  · simp only [if_pos hc] at hF
    exact J.icmp_neF' tk_Mod_fits 0 rfl rfl hc (J.run tk_Mod_fits 2 rfl (h_Mod_fits_116 n w K6 hK6 _ _ _ _ _ _ hF))
  · simp only [if_neg hc] at hF
    exact J.icmp_neT' tk_Mod_fits 0 rfl rfl hc (J.run tk_Mod_fits 1 rfl (h_Mod_fits_116 n w K6 hK6 _ _ _ _ _ _ hF))
theorem h_Mod_fits_67 (n : Nat) (w : Int32) (K6 : Int32 → Int32 → Int32 → Int32 → Int32 → St → Option Int32) (hK6 : ∀ (l1 : Int32) (l2 : Int32) (l3 : Int32) (l4 : Int32) (l5 : Int32) (σ : St), K6 l1 l2 l3 l4 l5 σ = some w → J md_Mod_fits 1 6 [some (mR 30 0), some (mI l1), some (mI l2), some (mI l3), some (mI l4), some (mI l5), none, none, none] [] σ (some (mI w)) σ) (l1 : Int32) (l2 : Int32) (l3 : Int32) (l4 : Int32) (l5 : Int32) (s0 : Int32) (σ : St) (hF : F_Mod_fits_67 n K6 l1 l2 l3 l4 l5 s0 σ = some w) : J md_Mod_fits 1 67 [some (mR 30 0), some (mI l1), some (mI l2), some (mI l3), some (mI l4), some (mI l5), none, none, none] [mI s0] σ (some (mI w)) σ := by
  rw [F_Mod_fits_67] at hF
  refine J.iald tk_Mod_fits 8 rfl rfl hF (fun v2 hF => ?_)
  refine J.if_eq tk_Mod_fits 2 rfl rfl hF (fun hF => ?_) (fun hF => ?_)
  · exact J.fgt [true, true, true, true, false, true, false, false, false] (h_Mod_fits_115 n w K6 hK6 _ _ _ _ _ hF)
  · refine J.icmp_eq tk_Mod_fits 2 rfl rfl hF (fun hF => ?_) (fun hF => ?_)
    · exact J.fgt [true, true, true, true, false, true, false, false, false] (h_Mod_fits_111 n w K6 hK6 _ _ _ _ _ hF)
    · by_cases hc : v2 = 1
      · simp only [if_pos hc] at hF
        exact J.icmp_neF' tk_Mod_fits 3 rfl rfl hc (J.run tk_Mod_fits 2 rfl (J.fgt [true, true, true, true, false, true, false, false, false] (h_Mod_fits_108 n w K6 hK6 _ _ _ _ _ _ _ hF)))
      · simp only [if_neg hc] at hF
        exact J.icmp_neT' tk_Mod_fits 3 rfl rfl hc (J.run tk_Mod_fits 1 rfl (J.fgt [true, true, true, true, false, true, false, false, false] (h_Mod_fits_108 n w K6 hK6 _ _ _ _ _ _ _ hF)))
theorem h_Mod_fits_66 (n : Nat) (w : Int32) (K6 : Int32 → Int32 → Int32 → Int32 → Int32 → St → Option Int32) (hK6 : ∀ (l1 : Int32) (l2 : Int32) (l3 : Int32) (l4 : Int32) (l5 : Int32) (σ : St), K6 l1 l2 l3 l4 l5 σ = some w → J md_Mod_fits 1 6 [some (mR 30 0), some (mI l1), some (mI l2), some (mI l3), some (mI l4), some (mI l5), none, none, none] [] σ (some (mI w)) σ) (l1 : Int32) (l2 : Int32) (l3 : Int32) (l4 : Int32) (l5 : Int32) (σ : St) (hF : F_Mod_fits_66 n K6 l1 l2 l3 l4 l5 σ = some w) : J md_Mod_fits 1 66 [some (mR 30 0), some (mI l1), some (mI l2), some (mI l3), some (mI l4), some (mI l5), none, none, none] [] σ (some (mI w)) σ := by
  rw [F_Mod_fits_66] at hF
  exact J.run tk_Mod_fits 1 rfl (h_Mod_fits_67 n w K6 hK6 _ _ _ _ _ _ _ hF)
theorem h_Mod_fits_6 (n : Nat) (w : Int32) : ∀ (k : Nat) (l1 : Int32) (l2 : Int32) (l3 : Int32) (l4 : Int32) (l5 : Int32) (σ : St), F_Mod_fits_6 n k l1 l2 l3 l4 l5 σ = some w → J md_Mod_fits 1 6 [some (mR 30 0), some (mI l1), some (mI l2), some (mI l3), some (mI l4), some (mI l5), none, none, none] [] σ (some (mI w)) σ := by
  intro k
  induction k with
  | zero => intro l1 l2 l3 l4 l5 σ hF; exact no_s hF
  | succ k ih =>
    intro l1 l2 l3 l4 l5 σ hF
    rw [F_Mod_fits_6] at hF
    refine J.icmp_ge tk_Mod_fits 3 rfl rfl hF (fun hF => ?_) (fun hF => ?_)
    · exact J.wI hF (J.retz tk_Mod_fits 1 rfl rfl rfl rfl)
    · refine J.cpI tk_Mod_fits (as := [mR 30 0, mI l2]) (rest := [mI l5]) 3 rfl rfl rfl (ckV (md' := md_Mod_placeOf) lk_6_158 ok_Mod_placeOf rfl rfl rfl) rfl (by decide) (fun v1 h => c_Mod_placeOf n _ _ _ h) hF (fun v1 hF => ?_)
      refine J.if_eq tk_Mod_fits 3 rfl rfl hF (fun hF => ?_) (fun hF => ?_)
      · exact J.fgt [true, true, true, true, true, true, false, false, false] (h_Mod_fits_66 n w (F_Mod_fits_6 n k) ih _ _ _ _ _ _ hF)
      · refine J.cpI tk_Mod_fits (as := [mL ((l5 - v1).toInt64), mL ((-l3).toInt64), mL l3.toInt64]) (rest := []) 7 rfl rfl rfl (ckS (md' := md_Mod_in) lk_6_74 ok_Mod_in rfl) rfl (by decide) (fun v1 h => c_Mod_in _ _ _ _ _ h) hF (fun v3 hF => ?_)
        refine J.if_eq tk_Mod_fits 0 rfl rfl hF (fun hF => ?_) (fun hF => ?_)
        · exact J.fgt [true, true, true, true, true, true, false, false, false] (h_Mod_fits_66 n w (F_Mod_fits_6 n k) ih _ _ _ _ _ _ hF)
        · refine J.iald tk_Mod_fits 5 rfl rfl hF (fun v4 hF => ?_)
          refine J.iald tk_Mod_fits 0 rfl rfl hF (fun v5 hF => ?_)
          refine J.cpI tk_Mod_fits (as := [mI v5]) (rest := []) 0 rfl rfl rfl (ckS (md' := md_Mod_hearsNone) lk_6_174 ok_Mod_hearsNone rfl) rfl (by decide) (fun v1 h => c_Mod_hearsNone _ _ _ h) hF (fun v6 hF => ?_)
          by_cases hc : v6 = 0
          · simp only [if_pos hc] at hF
            exact J.if_neF' tk_Mod_fits 0 rfl rfl hc (J.run tk_Mod_fits 2 rfl (J.fgt [true, true, true, true, true, true, false, false, false] (h_Mod_fits_67 n w (F_Mod_fits_6 n k) ih _ _ _ _ _ _ _ hF)))
          · simp only [if_neg hc] at hF
            exact J.if_neT' tk_Mod_fits 0 rfl rfl hc (J.run tk_Mod_fits 1 rfl (J.fgt [true, true, true, true, true, true, false, false, false] (h_Mod_fits_67 n w (F_Mod_fits_6 n k) ih _ _ _ _ _ _ _ hF)))
theorem c_Mod_fits (n : Nat) (a1 : Int32) (a2 : Int32) (a3 : Int32) (σ : St) (w : Int32) (hF : F_Mod_fits n a1 a2 a3 σ = some w) : Call md_Mod_fits 1 [mR 30 0, mI a1, mI a2, mI a3] σ (some (mI w)) σ := by
  rw [F_Mod_fits] at hF
  refine Call.of ok_Mod_fits.1 (Nat.le_of_ble_eq_true rfl) (L := [some (mR 30 0), some (mI a1), some (mI a2), some (mI a3), none, none, none, none, none]) rfl ?_
  exact J.run tk_Mod_fits 4 rfl (h_Mod_fits_6 n w n _ _ _ _ _ _ hF)
noncomputable def F_Mod_whose_130 (n : Nat) (K80 : Int32 → Int32 → Int32 → St → Option (Int32 × St)) (l1 : Int32) (l2 : Int32) (l3 : Int32) (s1 : Int32) (s2 : Int32) (σ : St) : Option (Int32 × St) :=
  bs (si σ 30 0 9 (s1 ||| s2)) fun σ9 =>
  K80 l1 l2 (l3 + 1) σ9
noncomputable def F_Mod_whose_106 (n : Nat) (K80 : Int32 → Int32 → Int32 → St → Option (Int32 × St)) (l1 : Int32) (l3 : Int32) (s0 : Int32) (s1 : Int32) (σ : St) : Option (Int32 × St) :=
  (F_Mod_fits n l1 l3 2 σ).bind fun v8 =>
  F_Mod_whose_130 n K80 l1 (s0 ||| s1) l3 (σ.1 30 0 9) (if v8 = 0 then 0 else 1 <<< (l3 &&& 31)) σ
noncomputable def F_Mod_whose_80 (n : Nat) : Nat → Int32 → Int32 → Int32 → St → Option (Int32 × St)
  | 0, _, _, _, _ => none
  | k + 1, l1, l2, l3, σ =>
    if σ.1 30 0 1 ≤ l3 then
      some (l2, σ)
    else
    (F_Mod_fits n l1 l3 1 σ).bind fun v7 =>
    F_Mod_whose_106 n (F_Mod_whose_80 n k) l1 l3 l2 (if v7 = 0 then 0 else 1 <<< (l3 &&& 31)) σ
noncomputable def F_Mod_whose (n : Nat) (a1 : Int32) (σ : St) : Option (Int32 × St) :=
  (F_Mod_isRow a1).bind fun v1 =>
  if v1 = 0 then
    some ((-1), σ)
  else
  if σ.1 30 0 1 = 0 then
    some ((-4), σ)
  else
  (ald σ 35 0 a1).bind fun v2 =>
  if 0 ≤ v2 then
    (ald σ 35 0 a1).bind fun v3 =>
    if v3 = σ.1 30 0 1 then
      (F_Mod_areHeard n a1 σ).bind fun v4 =>
      if v4 = 0 then
        b2 (F_Mod_find 3 σ) fun v10 σ11 =>
        some (v10, σ11)
      else
      (F_Mod_layNow n σ).bind fun σ5 =>
      bs (si σ5 30 0 9 0) fun σ6 =>
      F_Mod_whose_80 n n a1 0 0 σ6
    else
    b2 (F_Mod_find 5 σ) fun v12 σ13 =>
    some (v12, σ13)
  else
  b2 (F_Mod_find 1 σ) fun v14 σ15 =>
  some (v14, σ15)
theorem h_Mod_whose_130 (n : Nat) (w : (Int32 × St)) (K80 : Int32 → Int32 → Int32 → St → Option (Int32 × St)) (hK80 : ∀ (l1 : Int32) (l2 : Int32) (l3 : Int32) (σ : St), K80 l1 l2 l3 σ = some w → J md_Mod_whose 2 80 [some (mR 30 0), some (mI l1), some (mI l2), some (mI l3)] [] σ (some (mI w.1)) w.2) (l1 : Int32) (l2 : Int32) (l3 : Int32) (s1 : Int32) (s2 : Int32) (σ : St) (hF : F_Mod_whose_130 n K80 l1 l2 l3 s1 s2 σ = some w) : J md_Mod_whose 2 130 [some (mR 30 0), some (mI l1), some (mI l2), some (mI l3)] [mI s2, mI s1, mR 30 0] σ (some (mI w.1)) w.2 := by
  rw [F_Mod_whose_130] at hF
  refine J.putI tk_Mod_whose 1 rfl rfl rfl rfl rfl ⟨rfl, rfl⟩ hF (fun σ9 hF => ?_)
  exact J.run tk_Mod_whose 2 rfl (hK80 _ _ _ _ hF)
theorem h_Mod_whose_106 (n : Nat) (w : (Int32 × St)) (K80 : Int32 → Int32 → Int32 → St → Option (Int32 × St)) (hK80 : ∀ (l1 : Int32) (l2 : Int32) (l3 : Int32) (σ : St), K80 l1 l2 l3 σ = some w → J md_Mod_whose 2 80 [some (mR 30 0), some (mI l1), some (mI l2), some (mI l3)] [] σ (some (mI w.1)) w.2) (l1 : Int32) (l3 : Int32) (s0 : Int32) (s1 : Int32) (σ : St) (hF : F_Mod_whose_106 n K80 l1 l3 s0 s1 σ = some w) : J md_Mod_whose 2 106 [some (mR 30 0), some (mI l1), none, some (mI l3)] [mI s1, mI s0] σ (some (mI w.1)) w.2 := by
  rw [F_Mod_whose_106] at hF
  refine J.cpI tk_Mod_whose (as := [mR 30 0, mI l1, mI l3, mI 2]) (rest := [mI (σ.1 30 0 9), mR 30 0]) 9 rfl rfl rfl (ckV (md' := md_Mod_fits) lk_6_273 ok_Mod_fits rfl rfl rfl) rfl (by decide) (fun v1 h => c_Mod_fits n _ _ _ _ _ h) hF (fun v8 hF => ?_)
  by_cases hc : v8 = 0
  · simp only [if_pos hc] at hF
    exact J.if_eqT' tk_Mod_whose 0 rfl rfl hc (J.run tk_Mod_whose 1 rfl (h_Mod_whose_130 n w K80 hK80 _ _ _ _ _ _ hF))
  · simp only [if_neg hc] at hF
    exact J.if_eqF' tk_Mod_whose 0 rfl rfl hc (J.run tk_Mod_whose 4 rfl (h_Mod_whose_130 n w K80 hK80 _ _ _ _ _ _ hF))
theorem h_Mod_whose_80 (n : Nat) (w : (Int32 × St)) : ∀ (k : Nat) (l1 : Int32) (l2 : Int32) (l3 : Int32) (σ : St), F_Mod_whose_80 n k l1 l2 l3 σ = some w → J md_Mod_whose 2 80 [some (mR 30 0), some (mI l1), some (mI l2), some (mI l3)] [] σ (some (mI w.1)) w.2 := by
  intro k
  induction k with
  | zero => intro l1 l2 l3 σ hF; exact no_s hF
  | succ k ih =>
    intro l1 l2 l3 σ hF
    rw [F_Mod_whose_80] at hF
    refine J.icmp_ge tk_Mod_whose 3 rfl rfl hF (fun hF => ?_) (fun hF => ?_)
    · exact J.wsI hF (J.reti tk_Mod_whose 1 rfl rfl rfl)
    · refine J.cpI tk_Mod_whose (as := [mR 30 0, mI l1, mI l3, mI 1]) (rest := [mI l2]) 5 rfl rfl rfl (ckV (md' := md_Mod_fits) lk_6_273 ok_Mod_fits rfl rfl rfl) rfl (by decide) (fun v1 h => c_Mod_fits n _ _ _ _ _ h) hF (fun v7 hF => ?_)
      by_cases hc : v7 = 0
      · simp only [if_pos hc] at hF
        exact J.if_eqT' tk_Mod_whose 0 rfl rfl hc (J.run tk_Mod_whose 1 rfl (J.fgt [true, true, false, true] (h_Mod_whose_106 n w (F_Mod_whose_80 n k) ih _ _ _ _ _ hF)))
      · simp only [if_neg hc] at hF
        exact J.if_eqF' tk_Mod_whose 0 rfl rfl hc (J.run tk_Mod_whose 4 rfl (J.fgt [true, true, false, true] (h_Mod_whose_106 n w (F_Mod_whose_80 n k) ih _ _ _ _ _ hF)))
theorem c_Mod_whose (n : Nat) (a1 : Int32) (σ : St) (w : (Int32 × St)) (hF : F_Mod_whose n a1 σ = some w) : Call md_Mod_whose 2 [mR 30 0, mI a1] σ (some (mI w.1)) w.2 := by
  rw [F_Mod_whose] at hF
  refine Call.of ok_Mod_whose.1 (Nat.le_of_ble_eq_true rfl) (L := [some (mR 30 0), some (mI a1), none, none]) rfl ?_
  refine J.cpI tk_Mod_whose (as := [mI a1]) (rest := []) 1 rfl rfl rfl (ckS (md' := md_Mod_isRow) lk_6_80 ok_Mod_isRow rfl) rfl (by decide) (fun v1 h => c_Mod_isRow _ _ _ h) hF (fun v1 hF => ?_)
  refine J.if_ne tk_Mod_whose 0 rfl rfl hF (fun hF => ?_) (fun hF => ?_)
  · refine J.if_ne tk_Mod_whose 2 rfl rfl hF (fun hF => ?_) (fun hF => ?_)
    · refine J.iald tk_Mod_whose 3 rfl rfl hF (fun v2 hF => ?_)
      refine J.if_ge tk_Mod_whose 0 rfl rfl hF (fun hF => ?_) (fun hF => ?_)
      · refine J.iald tk_Mod_whose 3 rfl rfl hF (fun v3 hF => ?_)
        refine J.icmp_eq tk_Mod_whose 2 rfl rfl hF (fun hF => ?_) (fun hF => ?_)
        · refine J.cpI tk_Mod_whose (as := [mR 30 0, mI a1]) (rest := []) 2 rfl rfl rfl (ckV (md' := md_Mod_areHeard) lk_6_270 ok_Mod_areHeard rfl rfl rfl) rfl (by decide) (fun v1 h => c_Mod_areHeard n _ _ _ h) hF (fun v4 hF => ?_)
          refine J.if_ne tk_Mod_whose 0 rfl rfl hF (fun hF => ?_) (fun hF => ?_)
          · refine J.csV tk_Mod_whose (as := [mR 30 0]) (rest := []) 1 rfl rfl rfl (ckV (md' := md_Mod_layNow) lk_6_204 ok_Mod_layNow rfl rfl rfl) rfl (by decide) (fun s1 h => c_Mod_layNow n _ _ h) hF (fun σ5 hF => ?_)
            refine J.putI tk_Mod_whose 4 rfl rfl rfl rfl rfl ⟨rfl, rfl⟩ hF (fun σ6 hF => ?_)
            exact J.run tk_Mod_whose 2 rfl (h_Mod_whose_80 n w n _ _ _ _ hF)
          · refine J.csI tk_Mod_whose (as := [mR 30 0, mI 3]) (rest := []) 2 rfl rfl rfl (ckV (md' := md_Mod_find) lk_6_84 ok_Mod_find rfl rfl rfl) rfl (by decide) (fun v1 s1 h => c_Mod_find _ _ (v1, s1) h) hF (fun v10 σ11 hF => ?_)
            exact J.wsI hF (J.reti tk_Mod_whose 0 rfl rfl rfl)
        · refine J.csI tk_Mod_whose (as := [mR 30 0, mI 5]) (rest := []) 2 rfl rfl rfl (ckV (md' := md_Mod_find) lk_6_84 ok_Mod_find rfl rfl rfl) rfl (by decide) (fun v1 s1 h => c_Mod_find _ _ (v1, s1) h) hF (fun v12 σ13 hF => ?_)
          exact J.wsI hF (J.reti tk_Mod_whose 0 rfl rfl rfl)
      · refine J.csI tk_Mod_whose (as := [mR 30 0, mI 1]) (rest := []) 2 rfl rfl rfl (ckV (md' := md_Mod_find) lk_6_84 ok_Mod_find rfl rfl rfl) rfl (by decide) (fun v1 s1 h => c_Mod_find _ _ (v1, s1) h) hF (fun v14 σ15 hF => ?_)
        exact J.wsI hF (J.reti tk_Mod_whose 0 rfl rfl rfl)
    · exact J.wsI hF (J.reti tk_Mod_whose 1 rfl rfl rfl)
  · exact J.wsI hF (J.reti tk_Mod_whose 1 rfl rfl rfl)
noncomputable def F_Mod_kinds_54 (n : Nat) (K24 : Int32 → Int32 → Int32 → St → Option (Int32 × St)) (l2 : Int32) (l4 : Int32) (s0 : Int32) (s1 : Int32) (σ : St) : Option (Int32 × St) :=
  K24 l2 (s0 ||| s1) (l4 + 1) σ
noncomputable def F_Mod_kinds_24 (n : Nat) : Nat → Int32 → Int32 → Int32 → St → Option (Int32 × St)
  | 0, _, _, _, _ => none
  | k + 1, l2, l3, l4, σ =>
    if 6 ≤ l4 then
      bs (si σ 30 0 25 (-9)) fun σ4 =>
      some (l3, σ4)
    else
    bs (si σ 30 0 26 l4) fun σ5 =>
    (F_Mod_worthNow n σ5).bind fun v6 =>
    F_Mod_kinds_54 n (F_Mod_kinds_24 n k) l2 l4 l3 (if v6 = l2 then 1 <<< (l4 &&& 31) else 0) σ5
noncomputable def F_Mod_kinds (n : Nat) (a1 : Int32) (a2 : Int32) (σ : St) : Option (Int32 × St) :=
  (F_Mod_isSleeper a1 σ).bind fun v1 =>
  if v1 = 0 then
    some ((-1), σ)
  else
  (F_Mod_layNow n σ).bind fun σ2 =>
  bs (si σ2 30 0 25 a1) fun σ3 =>
  F_Mod_kinds_24 n n a2 0 0 σ3
theorem h_Mod_kinds_54 (n : Nat) (w : (Int32 × St)) (K24 : Int32 → Int32 → Int32 → St → Option (Int32 × St)) (hK24 : ∀ (l2 : Int32) (l3 : Int32) (l4 : Int32) (σ : St), K24 l2 l3 l4 σ = some w → J md_Mod_kinds 7 24 [some (mR 30 0), none, some (mI l2), some (mI l3), some (mI l4)] [] σ (some (mI w.1)) w.2) (l2 : Int32) (l4 : Int32) (s0 : Int32) (s1 : Int32) (σ : St) (hF : F_Mod_kinds_54 n K24 l2 l4 s0 s1 σ = some w) : J md_Mod_kinds 7 54 [some (mR 30 0), none, some (mI l2), none, some (mI l4)] [mI s1, mI s0] σ (some (mI w.1)) w.2 := by
  rw [F_Mod_kinds_54] at hF
  exact J.run tk_Mod_kinds 4 rfl (hK24 _ _ _ _ hF)
theorem h_Mod_kinds_24 (n : Nat) (w : (Int32 × St)) : ∀ (k : Nat) (l2 : Int32) (l3 : Int32) (l4 : Int32) (σ : St), F_Mod_kinds_24 n k l2 l3 l4 σ = some w → J md_Mod_kinds 7 24 [some (mR 30 0), none, some (mI l2), some (mI l3), some (mI l4)] [] σ (some (mI w.1)) w.2 := by
  intro k
  induction k with
  | zero => intro l2 l3 l4 σ hF; exact no_s hF
  | succ k ih =>
    intro l2 l3 l4 σ hF
    rw [F_Mod_kinds_24] at hF
    refine J.icmp_ge tk_Mod_kinds 2 rfl rfl hF (fun hF => ?_) (fun hF => ?_)
    · refine J.putI tk_Mod_kinds 2 rfl rfl rfl rfl rfl ⟨rfl, rfl⟩ hF (fun σ4 hF => ?_)
      exact J.wsI hF (J.reti tk_Mod_kinds 1 rfl rfl rfl)
    · refine J.putI tk_Mod_kinds 2 rfl rfl rfl rfl rfl ⟨rfl, rfl⟩ hF (fun σ5 hF => ?_)
      refine J.cpI tk_Mod_kinds (as := [mR 30 0]) (rest := [mI l3]) 2 rfl rfl rfl (ckV (md' := md_Mod_worthNow) lk_6_243 ok_Mod_worthNow rfl rfl rfl) rfl (by decide) (fun v1 h => c_Mod_worthNow n _ _ h) hF (fun v6 hF => ?_)
      by_cases hc : v6 = l2
      · simp only [if_pos hc] at hF
        exact J.icmp_neF' tk_Mod_kinds 1 rfl rfl hc (J.run tk_Mod_kinds 4 rfl (J.fgt [true, false, true, false, true] (h_Mod_kinds_54 n w (F_Mod_kinds_24 n k) ih _ _ _ _ _ hF)))
      · simp only [if_neg hc] at hF
        exact J.icmp_neT' tk_Mod_kinds 1 rfl rfl hc (J.run tk_Mod_kinds 1 rfl (J.fgt [true, false, true, false, true] (h_Mod_kinds_54 n w (F_Mod_kinds_24 n k) ih _ _ _ _ _ hF)))
theorem c_Mod_kinds (n : Nat) (a1 : Int32) (a2 : Int32) (σ : St) (w : (Int32 × St)) (hF : F_Mod_kinds n a1 a2 σ = some w) : Call md_Mod_kinds 7 [mR 30 0, mI a1, mI a2] σ (some (mI w.1)) w.2 := by
  rw [F_Mod_kinds] at hF
  refine Call.of ok_Mod_kinds.1 (Nat.le_of_ble_eq_true rfl) (L := [some (mR 30 0), some (mI a1), some (mI a2), none, none]) rfl ?_
  refine J.cpI tk_Mod_kinds (as := [mR 30 0, mI a1]) (rest := []) 2 rfl rfl rfl (ckV (md' := md_Mod_isSleeper) lk_6_198 ok_Mod_isSleeper rfl rfl rfl) rfl (by decide) (fun v1 h => c_Mod_isSleeper _ _ _ h) hF (fun v1 hF => ?_)
  refine J.if_ne tk_Mod_kinds 0 rfl rfl hF (fun hF => ?_) (fun hF => ?_)
  · refine J.csV tk_Mod_kinds (as := [mR 30 0]) (rest := []) 1 rfl rfl rfl (ckV (md' := md_Mod_layNow) lk_6_204 ok_Mod_layNow rfl rfl rfl) rfl (by decide) (fun s1 h => c_Mod_layNow n _ _ h) hF (fun σ2 hF => ?_)
    refine J.putI tk_Mod_kinds 4 rfl rfl rfl rfl rfl ⟨rfl, rfl⟩ hF (fun σ3 hF => ?_)
    exact J.run tk_Mod_kinds 2 rfl (J.fgt [true, false, true, true, true] (h_Mod_kinds_24 n w n _ _ _ _ hF))
  · exact J.wsI hF (J.reti tk_Mod_kinds 1 rfl rfl rfl)
noncomputable def F_Mod_divisor_6 (n : Nat) : Nat → Int64 → Int64 → Option Int64
  | 0, _, _ => none
  | k + 1, l4, l6 =>
    if lg_cmp l6 0 = 0 then
      some l4
    else
    (rmL l4 l6).bind fun v1 =>
    (F_Mod_divisor_6 n k) l6 v1
noncomputable def F_Mod_divisor (n : Nat) (a1 : Int64) (a2 : Int64) : Option Int64 :=
  F_Mod_divisor_6 n n a1 a2
theorem h_Mod_divisor_6 (n : Nat) (w : Int64) (σ : St) : ∀ (k : Nat) (l4 : Int64) (l6 : Int64), F_Mod_divisor_6 n k l4 l6 = some w → J md_Mod_divisor 0 6 [none, none, none, none, some (mL l4), none, some (mL l6), none, none, none] [] σ (some (mL w)) σ := by
  intro k
  induction k with
  | zero => intro l4 l6 hF; exact no_s hF
  | succ k ih =>
    intro l4 l6 hF
    rw [F_Mod_divisor_6] at hF
    refine J.if_eq tk_Mod_divisor 3 rfl rfl hF (fun hF => ?_) (fun hF => ?_)
    · exact J.wL hF (J.retl tk_Mod_divisor 1 rfl rfl rfl)
    · refine J.lrem tk_Mod_divisor 2 rfl rfl hF (fun v1 hF => ?_)
      exact J.run tk_Mod_divisor 6 rfl (J.fgt [false, false, false, false, true, false, true, false, false, false] (ih _ _ hF))
theorem c_Mod_divisor (n : Nat) (a1 : Int64) (a2 : Int64) (σ : St) (w : Int64) (hF : F_Mod_divisor n a1 a2 = some w) : Call md_Mod_divisor 0 [mL a1, mL a2] σ (some (mL w)) σ := by
  rw [F_Mod_divisor] at hF
  refine Call.of ok_Mod_divisor.1 (Nat.le_of_ble_eq_true rfl) (L := [some (mL a1), none, some (mL a2), none, none, none, none, none, none, none]) rfl ?_
  exact J.run tk_Mod_divisor 4 rfl (J.fgt [false, false, false, false, true, false, true, false, false, false] (h_Mod_divisor_6 n w σ n _ _ hF))
noncomputable def F_Mod_odds_83 (n : Nat) : Nat → Int32 → Int32 → Int64 → Int64 → Int32 → St → Option (Int32 × St)
  | 0, _, _, _, _, _, _ => none
  | k + 1, l3, l4, l5, l7, l9, σ =>
    if l4 < l9 then
      (F_Mod_divisor n l5 l7).bind fun v8 =>
      (dvL l5 v8).bind fun v9 =>
      bs (sl σ 30 0 10 v9) fun σ10 =>
      (dvL l7 v8).bind fun v11 =>
      bs (sl σ10 30 0 11 v11) fun σ12 =>
      some (1, σ12)
    else
    (F_Mod_odds_83 n k) l3 l4 (l5 * ((12 - l3).toInt64)) (l7 * 12) (l9 + 1) σ
noncomputable def F_Mod_odds_75 (n : Nat) (l3 : Int32) (l4 : Int32) (s0 : Int64) (σ : St) : Option (Int32 × St) :=
  F_Mod_odds_83 n n l3 l4 s0 1 0 σ
noncomputable def F_Mod_odds_59 (n : Nat) (l1 : Int32) (l2 : Int32) (l3 : Int32) (s0 : Int32) (σ : St) : Option (Int32 × St) :=
  (F_Mod_whyNot n l1 l2 σ).bind fun v7 =>
  F_Mod_odds_75 n l3 s0 (if v7 = 0 then 1 else 0) σ
noncomputable def F_Mod_odds (n : Nat) (a1 : Int32) (a2 : Int32) (a3 : Int32) (σ : St) : Option (Int32 × St) :=
  (F_Mod_isSleeper a1 σ).bind fun v1 =>
  if v1 = 0 then
    some ((-1), σ)
  else
  (F_Mod_isHour a2).bind fun v2 =>
  if v2 = 0 then
    some ((-1), σ)
  else
  (F_Mod_in a3.toInt64 0 12).bind fun v3 =>
  if v3 = 0 then
    some ((-1), σ)
  else
  (F_Mod_layNow n σ).bind fun σ4 =>
  (ald σ4 32 0 a1).bind fun v5 =>
  if v5 = 5 then
    F_Mod_odds_59 n a1 a2 a3 0 σ4
  else
  (F_Mod_placeOf n a1 σ4).bind fun v6 =>
  F_Mod_odds_59 n a1 a2 a3 (((σ4.1 30 0 1) - 1) - v6) σ4
theorem h_Mod_odds_83 (n : Nat) (w : (Int32 × St)) : ∀ (k : Nat) (l3 : Int32) (l4 : Int32) (l5 : Int64) (l7 : Int64) (l9 : Int32) (σ : St), F_Mod_odds_83 n k l3 l4 l5 l7 l9 σ = some w → J md_Mod_odds 5 83 [some (mR 30 0), none, none, some (mI l3), some (mI l4), some (mL l5), none, some (mL l7), none, some (mI l9), none] [] σ (some (mI w.1)) w.2 := by
  intro k
  induction k with
  | zero => intro l3 l4 l5 l7 l9 σ hF; exact no_s hF
  | succ k ih =>
    intro l3 l4 l5 l7 l9 σ hF
    rw [F_Mod_odds_83] at hF
    refine J.icmp_gt tk_Mod_odds 2 rfl rfl hF (fun hF => ?_) (fun hF => ?_)
    · refine J.cpL tk_Mod_odds (as := [mL l5, mL l7]) (rest := []) 2 rfl rfl rfl (ckS (md' := md_Mod_divisor) lk_6_278 ok_Mod_divisor rfl) rfl (by decide) (fun v1 h => c_Mod_divisor n _ _ _ _ h) hF (fun v8 hF => ?_)
      refine J.ldiv tk_Mod_odds 4 rfl rfl hF (fun v9 hF => ?_)
      refine J.putL tk_Mod_odds 0 rfl rfl rfl rfl rfl ⟨rfl, rfl⟩ hF (fun σ10 hF => ?_)
      refine J.ldiv tk_Mod_odds 3 rfl rfl hF (fun v11 hF => ?_)
      refine J.putL tk_Mod_odds 0 rfl rfl rfl rfl rfl ⟨rfl, rfl⟩ hF (fun σ12 hF => ?_)
      exact J.wsI hF (J.reti tk_Mod_odds 1 rfl rfl rfl)
    · exact J.run tk_Mod_odds 13 rfl (ih _ _ _ _ _ _ hF)
theorem h_Mod_odds_75 (n : Nat) (w : (Int32 × St)) (l3 : Int32) (l4 : Int32) (s0 : Int64) (σ : St) (hF : F_Mod_odds_75 n l3 l4 s0 σ = some w) : J md_Mod_odds 5 75 [some (mR 30 0), none, none, some (mI l3), some (mI l4), none, none, none, none, none, none] [mL s0] σ (some (mI w.1)) w.2 := by
  rw [F_Mod_odds_75] at hF
  exact J.run tk_Mod_odds 5 rfl (h_Mod_odds_83 n w n _ _ _ _ _ _ hF)
theorem h_Mod_odds_59 (n : Nat) (w : (Int32 × St)) (l1 : Int32) (l2 : Int32) (l3 : Int32) (s0 : Int32) (σ : St) (hF : F_Mod_odds_59 n l1 l2 l3 s0 σ = some w) : J md_Mod_odds 5 59 [some (mR 30 0), some (mI l1), some (mI l2), some (mI l3), none, none, none, none, none, none, none] [mI s0] σ (some (mI w.1)) w.2 := by
  rw [F_Mod_odds_59] at hF
  refine J.cpI tk_Mod_odds (as := [mR 30 0, mI l1, mI l2]) (rest := []) 4 rfl rfl rfl (ckV (md' := md_Mod_whyNot) lk_6_192 ok_Mod_whyNot rfl rfl rfl) rfl (by decide) (fun v1 h => c_Mod_whyNot n _ _ _ _ h) hF (fun v7 hF => ?_)
  by_cases hc : v7 = 0
  · simp only [if_pos hc] at hF
    exact J.if_neF' tk_Mod_odds 0 rfl rfl hc (J.run tk_Mod_odds 2 rfl (J.fgt [true, false, false, true, true, false, false, false, false, false, false] (h_Mod_odds_75 n w _ _ _ _ hF)))
  · simp only [if_neg hc] at hF
    exact J.if_neT' tk_Mod_odds 0 rfl rfl hc (J.run tk_Mod_odds 1 rfl (J.fgt [true, false, false, true, true, false, false, false, false, false, false] (h_Mod_odds_75 n w _ _ _ _ hF)))
theorem c_Mod_odds (n : Nat) (a1 : Int32) (a2 : Int32) (a3 : Int32) (σ : St) (w : (Int32 × St)) (hF : F_Mod_odds n a1 a2 a3 σ = some w) : Call md_Mod_odds 5 [mR 30 0, mI a1, mI a2, mI a3] σ (some (mI w.1)) w.2 := by
  rw [F_Mod_odds] at hF
  refine Call.of ok_Mod_odds.1 (Nat.le_of_ble_eq_true rfl) (L := [some (mR 30 0), some (mI a1), some (mI a2), some (mI a3), none, none, none, none, none, none, none]) rfl ?_
  refine J.cpI tk_Mod_odds (as := [mR 30 0, mI a1]) (rest := []) 2 rfl rfl rfl (ckV (md' := md_Mod_isSleeper) lk_6_198 ok_Mod_isSleeper rfl rfl rfl) rfl (by decide) (fun v1 h => c_Mod_isSleeper _ _ _ h) hF (fun v1 hF => ?_)
  refine J.if_eq tk_Mod_odds 0 rfl rfl hF (fun hF => ?_) (fun hF => ?_)
  · exact J.wsI hF (J.reti tk_Mod_odds 1 rfl rfl rfl)
  · refine J.cpI tk_Mod_odds (as := [mI a2]) (rest := []) 1 rfl rfl rfl (ckS (md' := md_Mod_isHour) lk_6_240 ok_Mod_isHour rfl) rfl (by decide) (fun v1 h => c_Mod_isHour _ _ _ h) hF (fun v2 hF => ?_)
    refine J.if_eq tk_Mod_odds 0 rfl rfl hF (fun hF => ?_) (fun hF => ?_)
    · exact J.wsI hF (J.reti tk_Mod_odds 1 rfl rfl rfl)
    · refine J.cpI tk_Mod_odds (as := [mL a3.toInt64, mL 0, mL 12]) (rest := []) 4 rfl rfl rfl (ckS (md' := md_Mod_in) lk_6_74 ok_Mod_in rfl) rfl (by decide) (fun v1 h => c_Mod_in _ _ _ _ _ h) hF (fun v3 hF => ?_)
      refine J.if_ne tk_Mod_odds 0 rfl rfl hF (fun hF => ?_) (fun hF => ?_)
      · refine J.csV tk_Mod_odds (as := [mR 30 0]) (rest := []) 1 rfl rfl rfl (ckV (md' := md_Mod_layNow) lk_6_204 ok_Mod_layNow rfl rfl rfl) rfl (by decide) (fun s1 h => c_Mod_layNow n _ _ h) hF (fun σ4 hF => ?_)
        refine J.iald tk_Mod_odds 3 rfl rfl hF (fun v5 hF => ?_)
        refine J.icmp_ne tk_Mod_odds 1 rfl rfl hF (fun hF => ?_) (fun hF => ?_)
        · refine J.cpI tk_Mod_odds (as := [mR 30 0, mI a1]) (rest := [mI ((σ4.1 30 0 1) - 1)]) 6 rfl rfl rfl (ckV (md' := md_Mod_placeOf) lk_6_158 ok_Mod_placeOf rfl rfl rfl) rfl (by decide) (fun v1 h => c_Mod_placeOf n _ _ _ h) hF (fun v6 hF => ?_)
          exact J.run tk_Mod_odds 1 rfl (h_Mod_odds_59 n w _ _ _ _ _ hF)
        · exact J.run tk_Mod_odds 2 rfl (h_Mod_odds_59 n w _ _ _ _ _ hF)
      · exact J.wsI hF (J.reti tk_Mod_odds 1 rfl rfl rfl)
noncomputable def F_Mod_lots_90 (n : Nat) (K40 : Int64 → Int32 → Int32 → St → Option (Int32 × St)) (K75 : Int64 → Int32 → Int32 → Int32 → Int32 → St → Option (Int32 × St)) (l2 : Int64) (l4 : Int32) (l5 : Int32) (l6 : Int32) (l7 : Int32) (σ : St) : Option (Int32 × St) :=
  K75 l2 l4 l5 (l6 - ((l4 >>> (l7 &&& 31)) &&& 1)) (l7 + 1) σ
noncomputable def F_Mod_lots_75 (n : Nat) (K40 : Int64 → Int32 → Int32 → St → Option (Int32 × St)) : Nat → Int64 → Int32 → Int32 → Int32 → Int32 → St → Option (Int32 × St)
  | 0, _, _, _, _, _, _ => none
  | k + 1, l2, l4, l5, l6, l7, σ =>
    (F_Mod_has l4 l7).bind fun v6 =>
    if v6 = 0 then
      F_Mod_lots_90 n K40 (F_Mod_lots_75 n K40 k) l2 l4 l5 l6 l7 σ
    else
    if l6 ≤ 0 then
      (ast σ 31 0 (1 + l5) l7).bind fun σ7 =>
      K40 l2 (l4 &&& ((1 <<< (l7 &&& 31)) ^^^ (-1))) (l5 + 1) σ7
    else
    F_Mod_lots_90 n K40 (F_Mod_lots_75 n K40 k) l2 l4 l5 l6 l7 σ
noncomputable def F_Mod_lots_40 (n : Nat) : Nat → Int64 → Int32 → Int32 → St → Option (Int32 × St)
  | 0, _, _, _, _ => none
  | k + 1, l2, l4, l5, σ =>
    if σ.1 30 0 1 ≤ l5 then
      (F_Mod_layNow n σ).bind fun σ2 =>
      (F_Mod_worthNow n σ2).bind fun v3 =>
      some (v3, σ2)
    else
    (rmL (l2 * 48271) 2147483647).bind fun v4 =>
    (rmL v4 (((σ.1 30 0 1) - l5).toInt64)).bind fun v5 =>
    F_Mod_lots_75 n (F_Mod_lots_40 n k) n v4 l4 l5 v5.toInt32 0 σ
noncomputable def F_Mod_lots (n : Nat) (a1 : Int32) (σ : St) : Option (Int32 × St) :=
  (F_Mod_in a1.toInt64 1 2147483646).bind fun v1 =>
  if v1 = 0 then
    some ((-1), σ)
  else
  if σ.1 30 0 1 = 0 then
    some ((-4), σ)
  else
  F_Mod_lots_40 n n a1.toInt64 ((1 <<< ((σ.1 30 0 1) &&& 31)) - 1) 0 σ
theorem h_Mod_lots_90 (n : Nat) (w : (Int32 × St)) (K40 : Int64 → Int32 → Int32 → St → Option (Int32 × St)) (hK40 : ∀ (l2 : Int64) (l4 : Int32) (l5 : Int32) (σ : St), K40 l2 l4 l5 σ = some w → J md_Mod_lots 7 40 [some (mR 30 0), none, some (mL l2), none, some (mI l4), some (mI l5), none, none] [] σ (some (mI w.1)) w.2) (K75 : Int64 → Int32 → Int32 → Int32 → Int32 → St → Option (Int32 × St)) (hK75 : ∀ (l2 : Int64) (l4 : Int32) (l5 : Int32) (l6 : Int32) (l7 : Int32) (σ : St), K75 l2 l4 l5 l6 l7 σ = some w → J md_Mod_lots 7 75 [some (mR 30 0), none, some (mL l2), none, some (mI l4), some (mI l5), some (mI l6), some (mI l7)] [] σ (some (mI w.1)) w.2) (l2 : Int64) (l4 : Int32) (l5 : Int32) (l6 : Int32) (l7 : Int32) (σ : St) (hF : F_Mod_lots_90 n K40 K75 l2 l4 l5 l6 l7 σ = some w) : J md_Mod_lots 7 90 [some (mR 30 0), none, some (mL l2), none, some (mI l4), some (mI l5), some (mI l6), some (mI l7)] [] σ (some (mI w.1)) w.2 := by
  rw [F_Mod_lots_90] at hF
  exact J.run tk_Mod_lots 10 rfl (hK75 _ _ _ _ _ _ hF)
theorem h_Mod_lots_75 (n : Nat) (w : (Int32 × St)) (K40 : Int64 → Int32 → Int32 → St → Option (Int32 × St)) (hK40 : ∀ (l2 : Int64) (l4 : Int32) (l5 : Int32) (σ : St), K40 l2 l4 l5 σ = some w → J md_Mod_lots 7 40 [some (mR 30 0), none, some (mL l2), none, some (mI l4), some (mI l5), none, none] [] σ (some (mI w.1)) w.2) : ∀ (k : Nat) (l2 : Int64) (l4 : Int32) (l5 : Int32) (l6 : Int32) (l7 : Int32) (σ : St), F_Mod_lots_75 n K40 k l2 l4 l5 l6 l7 σ = some w → J md_Mod_lots 7 75 [some (mR 30 0), none, some (mL l2), none, some (mI l4), some (mI l5), some (mI l6), some (mI l7)] [] σ (some (mI w.1)) w.2 := by
  intro k
  induction k with
  | zero => intro l2 l4 l5 l6 l7 σ hF; exact no_s hF
  | succ k ih =>
    intro l2 l4 l5 l6 l7 σ hF
    rw [F_Mod_lots_75] at hF
    refine J.cpI tk_Mod_lots (as := [mI l4, mI l7]) (rest := []) 2 rfl rfl rfl (ckS (md' := md_Mod_has) lk_6_180 ok_Mod_has rfl) rfl (by decide) (fun v1 h => c_Mod_has _ _ _ _ h) hF (fun v6 hF => ?_)
    refine J.if_eq tk_Mod_lots 0 rfl rfl hF (fun hF => ?_) (fun hF => ?_)
    · exact h_Mod_lots_90 n w K40 hK40 (F_Mod_lots_75 n K40 k) ih _ _ _ _ _ _ hF
    · refine J.if_le tk_Mod_lots 1 rfl rfl hF (fun hF => ?_) (fun hF => ?_)
      · refine J.iast tk_Mod_lots 6 rfl rfl hF (fun σ7 hF => ?_)
        exact J.run tk_Mod_lots 10 rfl (J.fgt [true, false, true, false, true, true, false, false] (hK40 _ _ _ _ hF))
      · exact h_Mod_lots_90 n w K40 hK40 (F_Mod_lots_75 n K40 k) ih _ _ _ _ _ _ hF
theorem h_Mod_lots_40 (n : Nat) (w : (Int32 × St)) : ∀ (k : Nat) (l2 : Int64) (l4 : Int32) (l5 : Int32) (σ : St), F_Mod_lots_40 n k l2 l4 l5 σ = some w → J md_Mod_lots 7 40 [some (mR 30 0), none, some (mL l2), none, some (mI l4), some (mI l5), none, none] [] σ (some (mI w.1)) w.2 := by
  intro k
  induction k with
  | zero => intro l2 l4 l5 σ hF; exact no_s hF
  | succ k ih =>
    intro l2 l4 l5 σ hF
    rw [F_Mod_lots_40] at hF
    refine J.icmp_ge tk_Mod_lots 3 rfl rfl hF (fun hF => ?_) (fun hF => ?_)
    · refine J.csV tk_Mod_lots (as := [mR 30 0]) (rest := []) 1 rfl rfl rfl (ckV (md' := md_Mod_layNow) lk_6_204 ok_Mod_layNow rfl rfl rfl) rfl (by decide) (fun s1 h => c_Mod_layNow n _ _ h) hF (fun σ2 hF => ?_)
      refine J.cpI tk_Mod_lots (as := [mR 30 0]) (rest := []) 1 rfl rfl rfl (ckV (md' := md_Mod_worthNow) lk_6_243 ok_Mod_worthNow rfl rfl rfl) rfl (by decide) (fun v1 h => c_Mod_worthNow n _ _ h) hF (fun v3 hF => ?_)
      exact J.wsI hF (J.reti tk_Mod_lots 0 rfl rfl rfl)
    · refine J.lrem tk_Mod_lots 4 rfl rfl hF (fun v4 hF => ?_)
      refine J.lrem tk_Mod_lots 7 rfl rfl hF (fun v5 hF => ?_)
      exact J.run tk_Mod_lots 4 rfl (h_Mod_lots_75 n w (F_Mod_lots_40 n k) ih n _ _ _ _ _ _ hF)
theorem c_Mod_lots (n : Nat) (a1 : Int32) (σ : St) (w : (Int32 × St)) (hF : F_Mod_lots n a1 σ = some w) : Call md_Mod_lots 7 [mR 30 0, mI a1] σ (some (mI w.1)) w.2 := by
  rw [F_Mod_lots] at hF
  refine Call.of ok_Mod_lots.1 (Nat.le_of_ble_eq_true rfl) (L := [some (mR 30 0), some (mI a1), none, none, none, none, none, none]) rfl ?_
  refine J.cpI tk_Mod_lots (as := [mL a1.toInt64, mL 1, mL 2147483646]) (rest := []) 4 rfl rfl rfl (ckS (md' := md_Mod_in) lk_6_74 ok_Mod_in rfl) rfl (by decide) (fun v1 h => c_Mod_in _ _ _ _ _ h) hF (fun v1 hF => ?_)
  refine J.if_ne tk_Mod_lots 0 rfl rfl hF (fun hF => ?_) (fun hF => ?_)
  · refine J.if_ne tk_Mod_lots 2 rfl rfl hF (fun hF => ?_) (fun hF => ?_)
    · exact J.run tk_Mod_lots 12 rfl (J.fgt [true, false, true, false, true, true, false, false] (h_Mod_lots_40 n w n _ _ _ _ hF))
    · exact J.wsI hF (J.reti tk_Mod_lots 1 rfl rfl rfl)
  · exact J.wsI hF (J.reti tk_Mod_lots 1 rfl rfl rfl)
noncomputable def F_Mod_asked (σ : St) : Option Int32 :=
  some (σ.1 30 0 9)
theorem c_Mod_asked (σ : St) (w : Int32) (hF : F_Mod_asked σ = some w) : Call md_Mod_asked 0 [mR 30 0] σ (some (mI w)) σ := by
  rw [F_Mod_asked] at hF
  refine Call.of ok_Mod_asked.1 (Nat.le_of_ble_eq_true rfl) (L := [some (mR 30 0)]) rfl ?_
  exact J.wI hF (J.reti tk_Mod_asked 2 rfl rfl rfl)
noncomputable def F_Mod_upper (σ : St) : Option Int64 :=
  some (σ.2 30 0 10)
theorem c_Mod_upper (σ : St) (w : Int64) (hF : F_Mod_upper σ = some w) : Call md_Mod_upper 0 [mR 30 0] σ (some (mL w)) σ := by
  rw [F_Mod_upper] at hF
  refine Call.of ok_Mod_upper.1 (Nat.le_of_ble_eq_true rfl) (L := [some (mR 30 0)]) rfl ?_
  exact J.wL hF (J.retl tk_Mod_upper 2 rfl rfl rfl)
noncomputable def F_Mod_lower (σ : St) : Option Int64 :=
  some (σ.2 30 0 11)
theorem c_Mod_lower (σ : St) (w : Int64) (hF : F_Mod_lower σ = some w) : Call md_Mod_lower 0 [mR 30 0] σ (some (mL w)) σ := by
  rw [F_Mod_lower] at hF
  refine Call.of ok_Mod_lower.1 (Nat.le_of_ble_eq_true rfl) (L := [some (mR 30 0)]) rfl ?_
  exact J.wL hF (J.retl tk_Mod_lower 2 rfl rfl rfl)
noncomputable def F_Mod_thereOf_89 (n : Nat) (K4 : Int32 → Int32 → Int32 → St → Option Int32) (l1 : Int32) (l3 : Int32) (s0 : Int32) (s1 : Int32) (σ : St) : Option Int32 :=
  K4 l1 (s0 + s1) (l3 + 1) σ
noncomputable def F_Mod_thereOf_88 (n : Nat) (K4 : Int32 → Int32 → Int32 → St → Option Int32) (l1 : Int32) (l3 : Int32) (s0 : Int32) (σ : St) : Option Int32 :=
  F_Mod_thereOf_89 n K4 l1 l3 s0 0 σ
noncomputable def F_Mod_thereOf_58 (n : Nat) (K4 : Int32 → Int32 → Int32 → St → Option Int32) (l1 : Int32) (l3 : Int32) (s0 : Int32) (σ : St) : Option Int32 :=
  F_Mod_thereOf_89 n K4 l1 l3 s0 0 σ
noncomputable def F_Mod_thereOf_4 (n : Nat) : Nat → Int32 → Int32 → Int32 → St → Option Int32
  | 0, _, _, _, _ => none
  | k + 1, l1, l2, l3, σ =>
    if 6 ≤ l3 then
      some l2
    else
    if l1 = 6 then
      (ald σ 35 0 l3).bind fun v3 =>
      F_Mod_thereOf_89 n (F_Mod_thereOf_4 n k) l1 l3 l2 (if 0 ≤ v3 then 1 else 0) σ
    else
    if l1 = 7 then
      if 4 ≤ l3 then
        F_Mod_thereOf_58 n (F_Mod_thereOf_4 n k) l1 l3 l2 σ
      else
      (ald σ 37 0 l3).bind fun v2 =>
      F_Mod_thereOf_89 n (F_Mod_thereOf_4 n k) l1 l3 l2 (if v2 < 0 then 0 else 1) σ
    else
    if 3 ≤ l3 then
      F_Mod_thereOf_88 n (F_Mod_thereOf_4 n k) l1 l3 l2 σ
    else
    (ald σ 31 0 ((1026 * (1 + l3)) + 0)).bind fun v1 =>
    F_Mod_thereOf_89 n (F_Mod_thereOf_4 n k) l1 l3 l2 (if v1 < 0 then 0 else 1) σ
noncomputable def F_Mod_thereOf (n : Nat) (a1 : Int32) (σ : St) : Option Int32 :=
  F_Mod_thereOf_4 n n a1 0 0 σ
theorem h_Mod_thereOf_89 (n : Nat) (w : Int32) (K4 : Int32 → Int32 → Int32 → St → Option Int32) (hK4 : ∀ (l1 : Int32) (l2 : Int32) (l3 : Int32) (σ : St), K4 l1 l2 l3 σ = some w → J md_Mod_thereOf 0 4 [some (mR 30 0), some (mI l1), some (mI l2), some (mI l3)] [] σ (some (mI w)) σ) (l1 : Int32) (l3 : Int32) (s0 : Int32) (s1 : Int32) (σ : St) (hF : F_Mod_thereOf_89 n K4 l1 l3 s0 s1 σ = some w) : J md_Mod_thereOf 0 89 [some (mR 30 0), some (mI l1), none, some (mI l3)] [mI s1, mI s0] σ (some (mI w)) σ := by
  rw [F_Mod_thereOf_89] at hF
  exact J.run tk_Mod_thereOf 4 rfl (hK4 _ _ _ _ hF)
theorem h_Mod_thereOf_88 (n : Nat) (w : Int32) (K4 : Int32 → Int32 → Int32 → St → Option Int32) (hK4 : ∀ (l1 : Int32) (l2 : Int32) (l3 : Int32) (σ : St), K4 l1 l2 l3 σ = some w → J md_Mod_thereOf 0 4 [some (mR 30 0), some (mI l1), some (mI l2), some (mI l3)] [] σ (some (mI w)) σ) (l1 : Int32) (l3 : Int32) (s0 : Int32) (σ : St) (hF : F_Mod_thereOf_88 n K4 l1 l3 s0 σ = some w) : J md_Mod_thereOf 0 88 [some (mR 30 0), some (mI l1), none, some (mI l3)] [mI s0] σ (some (mI w)) σ := by
  rw [F_Mod_thereOf_88] at hF
  exact J.run tk_Mod_thereOf 1 rfl (h_Mod_thereOf_89 n w K4 hK4 _ _ _ _ _ hF)
theorem h_Mod_thereOf_58 (n : Nat) (w : Int32) (K4 : Int32 → Int32 → Int32 → St → Option Int32) (hK4 : ∀ (l1 : Int32) (l2 : Int32) (l3 : Int32) (σ : St), K4 l1 l2 l3 σ = some w → J md_Mod_thereOf 0 4 [some (mR 30 0), some (mI l1), some (mI l2), some (mI l3)] [] σ (some (mI w)) σ) (l1 : Int32) (l3 : Int32) (s0 : Int32) (σ : St) (hF : F_Mod_thereOf_58 n K4 l1 l3 s0 σ = some w) : J md_Mod_thereOf 0 58 [some (mR 30 0), some (mI l1), none, some (mI l3)] [mI s0] σ (some (mI w)) σ := by
  rw [F_Mod_thereOf_58] at hF
  exact J.run tk_Mod_thereOf 2 rfl (h_Mod_thereOf_89 n w K4 hK4 _ _ _ _ _ hF)
theorem h_Mod_thereOf_4 (n : Nat) (w : Int32) : ∀ (k : Nat) (l1 : Int32) (l2 : Int32) (l3 : Int32) (σ : St), F_Mod_thereOf_4 n k l1 l2 l3 σ = some w → J md_Mod_thereOf 0 4 [some (mR 30 0), some (mI l1), some (mI l2), some (mI l3)] [] σ (some (mI w)) σ := by
  intro k
  induction k with
  | zero => intro l1 l2 l3 σ hF; exact no_s hF
  | succ k ih =>
    intro l1 l2 l3 σ hF
    rw [F_Mod_thereOf_4] at hF
    refine J.icmp_ge tk_Mod_thereOf 2 rfl rfl hF (fun hF => ?_) (fun hF => ?_)
    · exact J.wI hF (J.reti tk_Mod_thereOf 1 rfl rfl rfl)
    · refine J.icmp_ne tk_Mod_thereOf 3 rfl rfl hF (fun hF => ?_) (fun hF => ?_)
      · refine J.icmp_ne tk_Mod_thereOf 2 rfl rfl hF (fun hF => ?_) (fun hF => ?_)
        · refine J.icmp_ge tk_Mod_thereOf 2 rfl rfl hF (fun hF => ?_) (fun hF => ?_)
          · exact J.fgt [true, true, false, true] (h_Mod_thereOf_88 n w (F_Mod_thereOf_4 n k) ih _ _ _ _ hF)
          · refine J.iald tk_Mod_thereOf 9 rfl rfl hF (fun v1 hF => ?_)
            by_cases hc : v1 < 0
            · simp only [if_pos hc] at hF
              exact J.if_ltT' tk_Mod_thereOf 0 rfl rfl hc (J.run tk_Mod_thereOf 1 rfl (J.fgt [true, true, false, true] (h_Mod_thereOf_89 n w (F_Mod_thereOf_4 n k) ih _ _ _ _ _ hF)))
            · simp only [if_neg hc] at hF
              exact J.if_ltF' tk_Mod_thereOf 0 rfl rfl hc (J.run tk_Mod_thereOf 2 rfl (J.fgt [true, true, false, true] (h_Mod_thereOf_89 n w (F_Mod_thereOf_4 n k) ih _ _ _ _ _ hF)))
        · refine J.icmp_ge tk_Mod_thereOf 2 rfl rfl hF (fun hF => ?_) (fun hF => ?_)
          · exact J.fgt [true, true, false, true] (h_Mod_thereOf_58 n w (F_Mod_thereOf_4 n k) ih _ _ _ _ hF)
          · refine J.iald tk_Mod_thereOf 3 rfl rfl hF (fun v2 hF => ?_)
            by_cases hc : v2 < 0
            · simp only [if_pos hc] at hF
              exact J.if_ltT' tk_Mod_thereOf 0 rfl rfl hc (J.run tk_Mod_thereOf 2 rfl (J.fgt [true, true, false, true] (h_Mod_thereOf_89 n w (F_Mod_thereOf_4 n k) ih _ _ _ _ _ hF)))
            · simp only [if_neg hc] at hF
              exact J.if_ltF' tk_Mod_thereOf 0 rfl rfl hc (J.run tk_Mod_thereOf 2 rfl (J.fgt [true, true, false, true] (h_Mod_thereOf_89 n w (F_Mod_thereOf_4 n k) ih _ _ _ _ _ hF)))
      · refine J.iald tk_Mod_thereOf 3 rfl rfl hF (fun v3 hF => ?_)
        by_cases hc : 0 ≤ v3
        · simp only [if_pos hc] at hF
          exact J.if_geT' tk_Mod_thereOf 0 rfl rfl hc (J.run tk_Mod_thereOf 2 rfl (J.fgt [true, true, false, true] (h_Mod_thereOf_89 n w (F_Mod_thereOf_4 n k) ih _ _ _ _ _ hF)))
        · simp only [if_neg hc] at hF
          exact J.if_geF' tk_Mod_thereOf 0 rfl rfl hc (J.run tk_Mod_thereOf 2 rfl (J.fgt [true, true, false, true] (h_Mod_thereOf_89 n w (F_Mod_thereOf_4 n k) ih _ _ _ _ _ hF)))
theorem c_Mod_thereOf (n : Nat) (a1 : Int32) (σ : St) (w : Int32) (hF : F_Mod_thereOf n a1 σ = some w) : Call md_Mod_thereOf 0 [mR 30 0, mI a1] σ (some (mI w)) σ := by
  rw [F_Mod_thereOf] at hF
  refine Call.of ok_Mod_thereOf.1 (Nat.le_of_ble_eq_true rfl) (L := [some (mR 30 0), some (mI a1), none, none]) rfl ?_
  exact J.run tk_Mod_thereOf 4 rfl (h_Mod_thereOf_4 n w n _ _ _ _ hF)
noncomputable def F_Mod_countOf (n : Nat) (a1 : Int32) (σ : St) : Option Int32 :=
  if a1 = 0 then
    some (σ.1 30 0 1)
  else
  if a1 = 1 then
    (ald σ 31 0 0).bind fun v1 =>
    some v1
  else
  if a1 = 2 then
    (ald σ 31 0 14).bind fun v2 =>
    some v2
  else
  if a1 = 3 then
    (ald σ 31 0 13).bind fun v3 =>
    some v3
  else
  if a1 = 4 then
    (ald σ 31 0 11).bind fun v4 =>
    some v4
  else
  if a1 = 5 then
    (F_Mod_snorers n σ).bind fun v5 =>
    some v5
  else
  (F_Mod_thereOf n a1 σ).bind fun v6 =>
  some v6
theorem c_Mod_countOf (n : Nat) (a1 : Int32) (σ : St) (w : Int32) (hF : F_Mod_countOf n a1 σ = some w) : Call md_Mod_countOf 2 [mR 30 0, mI a1] σ (some (mI w)) σ := by
  rw [F_Mod_countOf] at hF
  refine Call.of ok_Mod_countOf.1 (Nat.le_of_ble_eq_true rfl) (L := [some (mR 30 0), some (mI a1)]) rfl ?_
  by_cases hs0 : a1 = 0
  · rw [if_pos hs0] at hF
    refine J.tswIn tk_Mod_countOf 40 1 rfl rfl 0 hs0 (by decide) (by decide) rfl (by decide) ?_
    exact J.wI hF (J.reti tk_Mod_countOf 2 rfl rfl rfl)
  rw [if_neg hs0] at hF
  by_cases hs1 : a1 = 1
  · rw [if_pos hs1] at hF
    refine J.tswIn tk_Mod_countOf 45 1 rfl rfl 1 hs1 (by decide) (by decide) rfl (by decide) ?_
    refine J.iald tk_Mod_countOf 3 rfl rfl hF (fun v1 hF => ?_)
    exact J.wI hF (J.reti tk_Mod_countOf 0 rfl rfl rfl)
  rw [if_neg hs1] at hF
  by_cases hs2 : a1 = 2
  · rw [if_pos hs2] at hF
    refine J.tswIn tk_Mod_countOf 52 1 rfl rfl 2 hs2 (by decide) (by decide) rfl (by decide) ?_
    refine J.iald tk_Mod_countOf 3 rfl rfl hF (fun v2 hF => ?_)
    exact J.wI hF (J.reti tk_Mod_countOf 0 rfl rfl rfl)
  rw [if_neg hs2] at hF
  by_cases hs3 : a1 = 3
  · rw [if_pos hs3] at hF
    refine J.tswIn tk_Mod_countOf 60 1 rfl rfl 3 hs3 (by decide) (by decide) rfl (by decide) ?_
    refine J.iald tk_Mod_countOf 3 rfl rfl hF (fun v3 hF => ?_)
    exact J.wI hF (J.reti tk_Mod_countOf 0 rfl rfl rfl)
  rw [if_neg hs3] at hF
  by_cases hs4 : a1 = 4
  · rw [if_pos hs4] at hF
    refine J.tswIn tk_Mod_countOf 68 1 rfl rfl 4 hs4 (by decide) (by decide) rfl (by decide) ?_
    refine J.iald tk_Mod_countOf 3 rfl rfl hF (fun v4 hF => ?_)
    exact J.wI hF (J.reti tk_Mod_countOf 0 rfl rfl rfl)
  rw [if_neg hs4] at hF
  by_cases hs5 : a1 = 5
  · rw [if_pos hs5] at hF
    refine J.tswIn tk_Mod_countOf 76 1 rfl rfl 5 hs5 (by decide) (by decide) rfl (by decide) ?_
    refine J.cpI tk_Mod_countOf (as := [mR 30 0]) (rest := []) 1 rfl rfl rfl (ckV (md' := md_Mod_snorers) lk_6_216 ok_Mod_snorers rfl rfl rfl) rfl (by decide) (fun v1 h => c_Mod_snorers n _ _ h) hF (fun v5 hF => ?_)
    exact J.wI hF (J.reti tk_Mod_countOf 0 rfl rfl rfl)
  rw [if_neg hs5] at hF
  refine J.tswOut tk_Mod_countOf 81 1 rfl rfl (by have z0 := lv_neT hs0 (a := 0) (by decide); have z1 := lv_neT hs1 (a := 1) (by decide); have z2 := lv_neT hs2 (a := 2) (by decide); have z3 := lv_neT hs3 (a := 3) (by decide); have z4 := lv_neT hs4 (a := 4) (by decide); have z5 := lv_neT hs5 (a := 5) (by decide); omega) (by decide) ?_
  refine J.cpI tk_Mod_countOf (as := [mR 30 0, mI a1]) (rest := []) 2 rfl rfl rfl (ckV (md' := md_Mod_thereOf) lk_6_291 ok_Mod_thereOf rfl rfl rfl) rfl (by decide) (fun v1 h => c_Mod_thereOf n _ _ _ h) hF (fun v6 hF => ?_)
  exact J.wI hF (J.reti tk_Mod_countOf 0 rfl rfl rfl)
noncomputable def F_Mod_count (n : Nat) (a1 : Int32) (σ : St) : Option Int32 :=
  (F_Mod_in a1.toInt64 0 8).bind fun v1 =>
  if v1 = 0 then
    some (-1)
  else
  (F_Mod_countOf n a1 σ).bind fun v2 =>
  some v2
theorem c_Mod_count (n : Nat) (a1 : Int32) (σ : St) (w : Int32) (hF : F_Mod_count n a1 σ = some w) : Call md_Mod_count 3 [mR 30 0, mI a1] σ (some (mI w)) σ := by
  rw [F_Mod_count] at hF
  refine Call.of ok_Mod_count.1 (Nat.le_of_ble_eq_true rfl) (L := [some (mR 30 0), some (mI a1)]) rfl ?_
  refine J.cpI tk_Mod_count (as := [mL a1.toInt64, mL 0, mL 8]) (rest := []) 4 rfl rfl rfl (ckS (md' := md_Mod_in) lk_6_74 ok_Mod_in rfl) rfl (by decide) (fun v1 h => c_Mod_in _ _ _ _ _ h) hF (fun v1 hF => ?_)
  refine J.if_eq tk_Mod_count 0 rfl rfl hF (fun hF => ?_) (fun hF => ?_)
  · exact J.wI hF (J.reti tk_Mod_count 1 rfl rfl rfl)
  · refine J.cpI tk_Mod_count (as := [mR 30 0, mI a1]) (rest := []) 2 rfl rfl rfl (ckV (md' := md_Mod_countOf) lk_6_296 ok_Mod_countOf rfl rfl rfl) rfl (by decide) (fun v1 h => c_Mod_countOf n _ _ _ h) hF (fun v2 hF => ?_)
    exact J.wI hF (J.reti tk_Mod_count 1 rfl rfl rfl)
noncomputable def F_Mod_finding (σ : St) : Option Int32 :=
  some (σ.1 30 0 12)
theorem c_Mod_finding (σ : St) (w : Int32) (hF : F_Mod_finding σ = some w) : Call md_Mod_finding 0 [mR 30 0] σ (some (mI w)) σ := by
  rw [F_Mod_finding] at hF
  refine Call.of ok_Mod_finding.1 (Nat.le_of_ble_eq_true rfl) (L := [some (mR 30 0)]) rfl ?_
  exact J.wI hF (J.reti tk_Mod_finding 2 rfl rfl rfl)
noncomputable def F_Mod_findings (a1 : Int32) (σ : St) : Option Int32 :=
  (F_Mod_in a1.toInt64 1 5).bind fun v1 =>
  if v1 = 0 then
    some (-1)
  else
  (ald σ 39 0 a1).bind fun v2 =>
  some v2
theorem c_Mod_findings (a1 : Int32) (σ : St) (w : Int32) (hF : F_Mod_findings a1 σ = some w) : Call md_Mod_findings 1 [mR 30 0, mI a1] σ (some (mI w)) σ := by
  rw [F_Mod_findings] at hF
  refine Call.of ok_Mod_findings.1 (Nat.le_of_ble_eq_true rfl) (L := [some (mR 30 0), some (mI a1)]) rfl ?_
  refine J.cpI tk_Mod_findings (as := [mL a1.toInt64, mL 1, mL 5]) (rest := []) 4 rfl rfl rfl (ckS (md' := md_Mod_in) lk_6_74 ok_Mod_in rfl) rfl (by decide) (fun v1 h => c_Mod_in _ _ _ _ _ h) hF (fun v1 hF => ?_)
  refine J.if_eq tk_Mod_findings 0 rfl rfl hF (fun hF => ?_) (fun hF => ?_)
  · exact J.wI hF (J.reti tk_Mod_findings 1 rfl rfl rfl)
  · refine J.iald tk_Mod_findings 3 rfl rfl hF (fun v2 hF => ?_)
    exact J.wI hF (J.reti tk_Mod_findings 1 rfl rfl rfl)
noncomputable def F_Mod_digest_210 (n : Nat) (K188 : Int64 → Int32 → St → Option (Int64 × St)) : Nat → Int64 → Int32 → Int32 → St → Option (Int64 × St)
  | 0, _, _, _, _ => none
  | k + 1, l1, l3, l4, σ =>
    (ald σ 37 0 l3).bind fun v3 =>
    if v3 ≤ l4 then
      K188 l1 (l3 + 1) σ
    else
    (ald σ 38 0 ((60 * l3) + l4)).bind fun v4 =>
    (F_Mod_digest_210 n K188 k) ((31 * l1) + v4.toInt64) l3 (l4 + 1) σ
noncomputable def F_Mod_digest_188 (n : Nat) : Nat → Int64 → Int32 → St → Option (Int64 × St)
  | 0, _, _, _ => none
  | k + 1, l1, l3, σ =>
    if 4 ≤ l3 then
      some (l1, σ)
    else
    (ald σ 37 0 l3).bind fun v2 =>
    F_Mod_digest_210 n (F_Mod_digest_188 n k) n ((31 * l1) + v2.toInt64) l3 0 σ
noncomputable def F_Mod_digest_143 (n : Nat) (K120 : Int64 → Int32 → St → Option (Int64 × St)) : Nat → Int64 → Int32 → Int32 → St → Option (Int64 × St)
  | 0, _, _, _, _ => none
  | k + 1, l1, l3, l4, σ =>
    (ald σ 35 0 l3).bind fun v6 =>
    if v6 ≤ l4 then
      K120 l1 (l3 + 1) σ
    else
    (ald σ 36 0 ((40 * l3) + l4)).bind fun v7 =>
    (F_Mod_digest_143 n K120 k) ((31 * l1) + v7.toInt64) l3 (l4 + 1) σ
noncomputable def F_Mod_digest_120 (n : Nat) : Nat → Int64 → Int32 → St → Option (Int64 × St)
  | 0, _, _, _ => none
  | k + 1, l1, l3, σ =>
    if 6 ≤ l3 then
      F_Mod_digest_188 n n l1 0 σ
    else
    (ald σ 35 0 l3).bind fun v5 =>
    F_Mod_digest_143 n (F_Mod_digest_120 n k) n ((31 * l1) + v5.toInt64) l3 0 σ
noncomputable def F_Mod_digest_87 (n : Nat) : Nat → Int64 → Int32 → St → Option (Int64 × St)
  | 0, _, _, _ => none
  | k + 1, l1, l3, σ =>
    if 4 ≤ l3 then
      F_Mod_digest_120 n n l1 0 σ
    else
    (ald σ 31 0 ((1026 * l3) + 0)).bind fun v8 =>
    (F_Mod_digest_87 n k) ((31 * l1) + v8.toInt64) (l3 + 1) σ
noncomputable def F_Mod_digest_48 (n : Nat) : Nat → Int64 → Int32 → St → Option (Int64 × St)
  | 0, _, _, _ => none
  | k + 1, l1, l3, σ =>
    if (6 * (σ.1 30 0 1)) ≤ l3 then
      F_Mod_digest_87 n n l1 1 σ
    else
    (dvI l3 6).bind fun v9 =>
    (rmI l3 6).bind fun v10 =>
    b2 (F_Mod_toldOf n v9 v10 σ) fun v11 σ12 =>
    (F_Mod_digest_48 n k) ((31 * l1) + v11.toInt64) (l3 + 1) σ12
noncomputable def F_Mod_digest_6 (n : Nat) : Nat → Int64 → Int32 → St → Option (Int64 × St)
  | 0, _, _, _ => none
  | k + 1, l1, l3, σ =>
    if 9 ≤ l3 then
      (ald σ 31 0 12).bind fun v1 =>
      F_Mod_digest_48 n n ((31 * l1) + v1.toInt64) 0 σ
    else
    (F_Mod_countOf n l3 σ).bind fun v13 =>
    (F_Mod_digest_6 n k) ((31 * l1) + v13.toInt64) (l3 + 1) σ
noncomputable def F_Mod_digest (n : Nat) (σ : St) : Option (Int64 × St) :=
  F_Mod_digest_6 n n 17 0 σ
theorem h_Mod_digest_210 (n : Nat) (w : (Int64 × St)) (K188 : Int64 → Int32 → St → Option (Int64 × St)) (hK188 : ∀ (l1 : Int64) (l3 : Int32) (σ : St), K188 l1 l3 σ = some w → J md_Mod_digest 3 188 [some (mR 30 0), some (mL l1), none, some (mI l3), none] [] σ (some (mL w.1)) w.2) : ∀ (k : Nat) (l1 : Int64) (l3 : Int32) (l4 : Int32) (σ : St), F_Mod_digest_210 n K188 k l1 l3 l4 σ = some w → J md_Mod_digest 3 210 [some (mR 30 0), some (mL l1), none, some (mI l3), some (mI l4)] [] σ (some (mL w.1)) w.2 := by
  intro k
  induction k with
  | zero => intro l1 l3 l4 σ hF; exact no_s hF
  | succ k ih =>
    intro l1 l3 l4 σ hF
    rw [F_Mod_digest_210] at hF
    refine J.iald tk_Mod_digest 4 rfl rfl hF (fun v3 hF => ?_)
    refine J.icmp_ge tk_Mod_digest 0 rfl rfl hF (fun hF => ?_) (fun hF => ?_)
    · exact J.run tk_Mod_digest 2 rfl (J.fgt [true, true, false, true, false] (hK188 _ _ _ hF))
    · refine J.iald tk_Mod_digest 10 rfl rfl hF (fun v4 hF => ?_)
      exact J.run tk_Mod_digest 5 rfl (ih _ _ _ _ hF)
theorem h_Mod_digest_188 (n : Nat) (w : (Int64 × St)) : ∀ (k : Nat) (l1 : Int64) (l3 : Int32) (σ : St), F_Mod_digest_188 n k l1 l3 σ = some w → J md_Mod_digest 3 188 [some (mR 30 0), some (mL l1), none, some (mI l3), none] [] σ (some (mL w.1)) w.2 := by
  intro k
  induction k with
  | zero => intro l1 l3 σ hF; exact no_s hF
  | succ k ih =>
    intro l1 l3 σ hF
    rw [F_Mod_digest_188] at hF
    refine J.icmp_ge tk_Mod_digest 2 rfl rfl hF (fun hF => ?_) (fun hF => ?_)
    · exact J.wsL hF (J.retl tk_Mod_digest 1 rfl rfl rfl)
    · refine J.iald tk_Mod_digest 6 rfl rfl hF (fun v2 hF => ?_)
      exact J.run tk_Mod_digest 5 rfl (h_Mod_digest_210 n w (F_Mod_digest_188 n k) ih n _ _ _ _ hF)
theorem h_Mod_digest_143 (n : Nat) (w : (Int64 × St)) (K120 : Int64 → Int32 → St → Option (Int64 × St)) (hK120 : ∀ (l1 : Int64) (l3 : Int32) (σ : St), K120 l1 l3 σ = some w → J md_Mod_digest 3 120 [some (mR 30 0), some (mL l1), none, some (mI l3), none] [] σ (some (mL w.1)) w.2) : ∀ (k : Nat) (l1 : Int64) (l3 : Int32) (l4 : Int32) (σ : St), F_Mod_digest_143 n K120 k l1 l3 l4 σ = some w → J md_Mod_digest 3 143 [some (mR 30 0), some (mL l1), none, some (mI l3), some (mI l4)] [] σ (some (mL w.1)) w.2 := by
  intro k
  induction k with
  | zero => intro l1 l3 l4 σ hF; exact no_s hF
  | succ k ih =>
    intro l1 l3 l4 σ hF
    rw [F_Mod_digest_143] at hF
    refine J.iald tk_Mod_digest 4 rfl rfl hF (fun v6 hF => ?_)
    refine J.icmp_ge tk_Mod_digest 0 rfl rfl hF (fun hF => ?_) (fun hF => ?_)
    · exact J.run tk_Mod_digest 2 rfl (J.fgt [true, true, false, true, false] (hK120 _ _ _ hF))
    · refine J.iald tk_Mod_digest 10 rfl rfl hF (fun v7 hF => ?_)
      exact J.run tk_Mod_digest 5 rfl (ih _ _ _ _ hF)
theorem h_Mod_digest_120 (n : Nat) (w : (Int64 × St)) : ∀ (k : Nat) (l1 : Int64) (l3 : Int32) (σ : St), F_Mod_digest_120 n k l1 l3 σ = some w → J md_Mod_digest 3 120 [some (mR 30 0), some (mL l1), none, some (mI l3), none] [] σ (some (mL w.1)) w.2 := by
  intro k
  induction k with
  | zero => intro l1 l3 σ hF; exact no_s hF
  | succ k ih =>
    intro l1 l3 σ hF
    rw [F_Mod_digest_120] at hF
    refine J.icmp_ge tk_Mod_digest 2 rfl rfl hF (fun hF => ?_) (fun hF => ?_)
    · exact J.run tk_Mod_digest 2 rfl (h_Mod_digest_188 n w n _ _ _ hF)
    · refine J.iald tk_Mod_digest 6 rfl rfl hF (fun v5 hF => ?_)
      exact J.run tk_Mod_digest 5 rfl (h_Mod_digest_143 n w (F_Mod_digest_120 n k) ih n _ _ _ _ hF)
theorem h_Mod_digest_87 (n : Nat) (w : (Int64 × St)) : ∀ (k : Nat) (l1 : Int64) (l3 : Int32) (σ : St), F_Mod_digest_87 n k l1 l3 σ = some w → J md_Mod_digest 3 87 [some (mR 30 0), some (mL l1), none, some (mI l3), none] [] σ (some (mL w.1)) w.2 := by
  intro k
  induction k with
  | zero => intro l1 l3 σ hF; exact no_s hF
  | succ k ih =>
    intro l1 l3 σ hF
    rw [F_Mod_digest_87] at hF
    refine J.icmp_ge tk_Mod_digest 2 rfl rfl hF (fun hF => ?_) (fun hF => ?_)
    · exact J.run tk_Mod_digest 2 rfl (h_Mod_digest_120 n w n _ _ _ hF)
    · refine J.iald tk_Mod_digest 10 rfl rfl hF (fun v8 hF => ?_)
      exact J.run tk_Mod_digest 5 rfl (ih _ _ _ hF)
theorem h_Mod_digest_48 (n : Nat) (w : (Int64 × St)) : ∀ (k : Nat) (l1 : Int64) (l3 : Int32) (σ : St), F_Mod_digest_48 n k l1 l3 σ = some w → J md_Mod_digest 3 48 [some (mR 30 0), some (mL l1), none, some (mI l3), none] [] σ (some (mL w.1)) w.2 := by
  intro k
  induction k with
  | zero => intro l1 l3 σ hF; exact no_s hF
  | succ k ih =>
    intro l1 l3 σ hF
    rw [F_Mod_digest_48] at hF
    refine J.icmp_ge tk_Mod_digest 5 rfl rfl hF (fun hF => ?_) (fun hF => ?_)
    · exact J.run tk_Mod_digest 2 rfl (h_Mod_digest_87 n w n _ _ _ hF)
    · refine J.idiv tk_Mod_digest 6 rfl rfl hF (fun v9 hF => ?_)
      refine J.irem tk_Mod_digest 2 rfl rfl hF (fun v10 hF => ?_)
      refine J.csI tk_Mod_digest (as := [mR 30 0, mI v9, mI v10]) (rest := [mL (31 * l1)]) 0 rfl rfl rfl (ckV (md' := md_Mod_toldOf) lk_6_201 ok_Mod_toldOf rfl rfl rfl) rfl (by decide) (fun v1 s1 h => c_Mod_toldOf n _ _ _ (v1, s1) h) hF (fun v11 σ12 hF => ?_)
      exact J.run tk_Mod_digest 5 rfl (ih _ _ _ hF)
theorem h_Mod_digest_6 (n : Nat) (w : (Int64 × St)) : ∀ (k : Nat) (l1 : Int64) (l3 : Int32) (σ : St), F_Mod_digest_6 n k l1 l3 σ = some w → J md_Mod_digest 3 6 [some (mR 30 0), some (mL l1), none, some (mI l3), none] [] σ (some (mL w.1)) w.2 := by
  intro k
  induction k with
  | zero => intro l1 l3 σ hF; exact no_s hF
  | succ k ih =>
    intro l1 l3 σ hF
    rw [F_Mod_digest_6] at hF
    refine J.icmp_ge tk_Mod_digest 2 rfl rfl hF (fun hF => ?_) (fun hF => ?_)
    · refine J.iald tk_Mod_digest 6 rfl rfl hF (fun v1 hF => ?_)
      exact J.run tk_Mod_digest 5 rfl (h_Mod_digest_48 n w n _ _ _ hF)
    · refine J.cpI tk_Mod_digest (as := [mR 30 0, mI l3]) (rest := [mL (31 * l1)]) 5 rfl rfl rfl (ckV (md' := md_Mod_countOf) lk_6_296 ok_Mod_countOf rfl rfl rfl) rfl (by decide) (fun v1 h => c_Mod_countOf n _ _ _ h) hF (fun v13 hF => ?_)
      exact J.run tk_Mod_digest 5 rfl (ih _ _ _ hF)
theorem c_Mod_digest (n : Nat) (σ : St) (w : (Int64 × St)) (hF : F_Mod_digest n σ = some w) : Call md_Mod_digest 3 [mR 30 0] σ (some (mL w.1)) w.2 := by
  rw [F_Mod_digest] at hF
  refine Call.of ok_Mod_digest.1 (Nat.le_of_ble_eq_true rfl) (L := [some (mR 30 0), none, none, none, none]) rfl ?_
  exact J.run tk_Mod_digest 4 rfl (h_Mod_digest_6 n w n _ _ _ hF)
