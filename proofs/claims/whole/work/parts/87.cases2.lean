section LAW
variable {p : Program} {l : Launch} {e : Env} {s : State} {m : MethodId} {b L : Nat} {xs : Nat → Int32} {below : List Frame} {meth : Method} {c : Code} {D : va_G} {kI kA : ClassId} {ad : CI → Nat} {σ : St} {i : Nat} {H : Heap} {locs : List Loc} {ls : Array Slot}
theorem law_25 (h : LwS p l e s m b L xs below meth c D kI kA ad σ i H locs ls) (kk : LwK p l e s m b L xs below meth c D kI kA ad i ls) : W p l e room_1 s m #[Value.ref b] below meth c H locs 200 20000 (lw_Z below #[Value.ref b] s) (F0 m 953 ls []) := by
  obtain ⟨C, hX, hbl, hr, hlk, hL, hi, hR, hP, hD, hS, hl⟩ := id h
  obtain ⟨r, σ2, e1, e2, h2⟩ := op_why (n := 5000) (xs (i + 1)) (xs (i + 2)) (by decide) hR
  refine lv_aload_n C.1 C.2.1 dw_953 rfl (lv_at hl 2 rfl) ?_
  refine lw_ld (k := 1) C hX hbl (Nat.not_le.mpr hbl) hL hi hl hS dw_954 dw_955 dw_956 dw_957 dw_958 (by decide) (by omega) ?_
  refine lw_ld (k := 2) C hX hbl (Nat.not_le.mpr hbl) hL hi hl hS dw_959 dw_960 dw_961 dw_962 dw_963 (by decide) (by omega) ?_
  refine L_call (md' := md_Tent_why) (as := [mR 0 0, mI (xs (i + 1)), mI (xs (i + 2))]) (rest := []) (σ := σ) (σ1 := σ) (r := some (mI r)) (d' := 4) C dw_964 (ckV (nn := 2) lk_7_118 ok_Tent_why rfl rfl rfl) (c_Tent_why (hF := e1)) (Nat.le_of_ble_eq_true rfl) ⟨by show 4 + 1 ≤ 2048; decide, by show 8 + (3 + 11) + 64 * 4 ≤ 84000; decide⟩ ⟨by decide, by decide⟩ hl.1 (vaN inM0 [xs (i + 1), xs (i + 2)]) hP hD hS (fun H locs hP hD hS => ?_)
  refine W.eq (g2 := F0 m 967 ls [.int r]) rfl ?_
  refine lv_aload_n C.1 C.2.1 dw_967 rfl (lv_at hl 1 rfl) ?_
  refine lw_ld (k := 1) C hX hbl (Nat.not_le.mpr hbl) hL hi hl hS dw_968 dw_969 dw_970 dw_971 dw_972 (by decide) (by omega) ?_
  refine lw_ld (k := 2) C hX hbl (Nat.not_le.mpr hbl) hL hi hl hS dw_973 dw_974 dw_975 dw_976 dw_977 (by decide) (by omega) ?_
  refine L_call (md' := md_Mod_why) (as := [mR 30 0, mI (xs (i + 1)), mI (xs (i + 2))]) (rest := [mI r]) (σ := σ) (σ1 := σ2) (r := some (mI r)) (d' := 5) C dw_978 (ckV (nn := 2) lk_7_121 ok_Mod_why rfl rfl rfl) (c_Mod_why (hF := e2)) (Nat.le_of_ble_eq_true rfl) ⟨by show 5 + 1 ≤ 2048; decide, by show 8 + (3 + 11) + 64 * 5 ≤ 84000; decide⟩ ⟨by decide, by decide⟩ hl.1 (vaN inM30 [xs (i + 1), xs (i + 2)]) hP hD hS (fun H locs hP hD hS => ?_)
  refine W.eq (g2 := F0 m 981 ls [.int r, .int r]) rfl ?_
  refine lv_icmp_eq (tgt := 1501) C.1 C.2.1 dw_981 (by decide) (fun _ => ?_) (fun h => absurd rfl h)
  exact kk σ2 H locs h2 hP hD hS
theorem law_26 (h : LwS p l e s m b L xs below meth c D kI kA ad σ i H locs ls) (kk : LwK p l e s m b L xs below meth c D kI kA ad i ls) : W p l e room_1 s m #[Value.ref b] below meth c H locs 200 20000 (lw_Z below #[Value.ref b] s) (F0 m 986 ls []) := by
  obtain ⟨C, hX, hbl, hr, hlk, hL, hi, hR, hP, hD, hS, hl⟩ := id h
  obtain ⟨r, σ1, σ2, e1, e2, h2⟩ := op_sleeps (n := 5000) (xs (i + 1)) (by decide) hR
  refine lv_aload_n C.1 C.2.1 dw_986 rfl (lv_at hl 2 rfl) ?_
  refine lw_ld (k := 1) C hX hbl (Nat.not_le.mpr hbl) hL hi hl hS dw_987 dw_988 dw_989 dw_990 dw_991 (by decide) (by omega) ?_
  refine L_call (md' := md_Tent_sleeps) (as := [mR 0 0, mI (xs (i + 1))]) (rest := []) (σ := σ) (σ1 := σ1) (r := some (mI r)) (d' := 5) C dw_992 (ckV (nn := 1) lk_7_122 ok_Tent_sleeps rfl rfl rfl) (c_Tent_sleeps (hF := e1)) (Nat.le_of_ble_eq_true rfl) ⟨by show 5 + 1 ≤ 2048; decide, by show 8 + (2 + 11) + 64 * 5 ≤ 84000; decide⟩ ⟨by decide, by decide⟩ hl.1 (vaN inM0 [xs (i + 1)]) hP hD hS (fun H locs hP hD hS => ?_)
  refine W.eq (g2 := F0 m 995 ls [.int r]) rfl ?_
  refine lv_aload_n C.1 C.2.1 dw_995 rfl (lv_at hl 1 rfl) ?_
  refine lw_ld (k := 1) C hX hbl (Nat.not_le.mpr hbl) hL hi hl hS dw_996 dw_997 dw_998 dw_999 dw_1000 (by decide) (by omega) ?_
  refine L_call (md' := md_Mod_sleeps) (as := [mR 30 0, mI (xs (i + 1))]) (rest := [mI r]) (σ := σ1) (σ1 := σ2) (r := some (mI r)) (d' := 6) C dw_1001 (ckV (nn := 1) lk_7_125 ok_Mod_sleeps rfl rfl rfl) (c_Mod_sleeps (hF := e2)) (Nat.le_of_ble_eq_true rfl) ⟨by show 6 + 1 ≤ 2048; decide, by show 8 + (3 + 11) + 64 * 6 ≤ 84000; decide⟩ ⟨by decide, by decide⟩ hl.1 (vaN inM30 [xs (i + 1)]) hP hD hS (fun H locs hP hD hS => ?_)
  refine W.eq (g2 := F0 m 1004 ls [.int r, .int r]) rfl ?_
  refine lv_icmp_eq (tgt := 1501) C.1 C.2.1 dw_1004 (by decide) (fun _ => ?_) (fun h => absurd rfl h)
  exact kk σ2 H locs h2 hP hD hS
theorem law_27 (h : LwS p l e s m b L xs below meth c D kI kA ad σ i H locs ls) (kk : LwK p l e s m b L xs below meth c D kI kA ad i ls) : W p l e room_1 s m #[Value.ref b] below meth c H locs 200 20000 (lw_Z below #[Value.ref b] s) (F0 m 1009 ls []) := by
  obtain ⟨C, hX, hbl, hr, hlk, hL, hi, hR, hP, hD, hS, hl⟩ := id h
  obtain ⟨r, σ2, e1, e2, h2⟩ := op_slept (n := 5000) (xs (i + 1)) (by decide) hR
  refine lv_aload_n C.1 C.2.1 dw_1009 rfl (lv_at hl 2 rfl) ?_
  refine lw_ld (k := 1) C hX hbl (Nat.not_le.mpr hbl) hL hi hl hS dw_1010 dw_1011 dw_1012 dw_1013 dw_1014 (by decide) (by omega) ?_
  refine L_call (md' := md_Tent_slept) (as := [mR 0 0, mI (xs (i + 1))]) (rest := []) (σ := σ) (σ1 := σ) (r := some (mI r)) (d' := 4) C dw_1015 (ckV (nn := 1) lk_7_126 ok_Tent_slept rfl rfl rfl) (c_Tent_slept (hF := e1)) (Nat.le_of_ble_eq_true rfl) ⟨by show 4 + 1 ≤ 2048; decide, by show 8 + (2 + 11) + 64 * 4 ≤ 84000; decide⟩ ⟨by decide, by decide⟩ hl.1 (vaN inM0 [xs (i + 1)]) hP hD hS (fun H locs hP hD hS => ?_)
  refine W.eq (g2 := F0 m 1018 ls [.int r]) rfl ?_
  refine lv_aload_n C.1 C.2.1 dw_1018 rfl (lv_at hl 1 rfl) ?_
  refine lw_ld (k := 1) C hX hbl (Nat.not_le.mpr hbl) hL hi hl hS dw_1019 dw_1020 dw_1021 dw_1022 dw_1023 (by decide) (by omega) ?_
  refine L_call (md' := md_Mod_slept) (as := [mR 30 0, mI (xs (i + 1))]) (rest := [mI r]) (σ := σ) (σ1 := σ2) (r := some (mI r)) (d' := 6) C dw_1024 (ckV (nn := 1) lk_7_129 ok_Mod_slept rfl rfl rfl) (c_Mod_slept (hF := e2)) (Nat.le_of_ble_eq_true rfl) ⟨by show 6 + 1 ≤ 2048; decide, by show 8 + (2 + 11) + 64 * 6 ≤ 84000; decide⟩ ⟨by decide, by decide⟩ hl.1 (vaN inM30 [xs (i + 1)]) hP hD hS (fun H locs hP hD hS => ?_)
  refine W.eq (g2 := F0 m 1027 ls [.int r, .int r]) rfl ?_
  refine lv_icmp_eq (tgt := 1501) C.1 C.2.1 dw_1027 (by decide) (fun _ => ?_) (fun h => absurd rfl h)
  exact kk σ2 H locs h2 hP hD hS
theorem law_28 (h : LwS p l e s m b L xs below meth c D kI kA ad σ i H locs ls) (kk : LwK p l e s m b L xs below meth c D kI kA ad i ls) : W p l e room_1 s m #[Value.ref b] below meth c H locs 200 20000 (lw_Z below #[Value.ref b] s) (F0 m 1032 ls []) := by
  obtain ⟨C, hX, hbl, hr, hlk, hL, hi, hR, hP, hD, hS, hl⟩ := id h
  obtain ⟨r, σ1, σ2, e1, e2, h2⟩ := op_coldest (n := 5000)  (by decide) hR
  refine lv_aload_n C.1 C.2.1 dw_1032 rfl (lv_at hl 2 rfl) ?_
  refine L_call (md' := md_Tent_coldest) (as := [mR 0 0]) (rest := []) (σ := σ) (σ1 := σ1) (r := some (mI r)) (d' := 3) C dw_1033 (ckV (nn := 0) lk_7_130 ok_Tent_coldest rfl rfl rfl) (c_Tent_coldest (hF := e1)) (Nat.le_of_ble_eq_true rfl) ⟨by show 3 + 1 ≤ 2048; decide, by show 8 + (5 + 11) + 64 * 3 ≤ 84000; decide⟩ ⟨by decide, by decide⟩ hl.1 (vaN inM0 []) hP hD hS (fun H locs hP hD hS => ?_)
  refine W.eq (g2 := F0 m 1036 ls [.int r]) rfl ?_
  refine lv_aload_n C.1 C.2.1 dw_1036 rfl (lv_at hl 1 rfl) ?_
  refine L_call (md' := md_Mod_coldest) (as := [mR 30 0]) (rest := [mI r]) (σ := σ1) (σ1 := σ2) (r := some (mI r)) (d' := 3) C dw_1037 (ckV (nn := 0) lk_7_133 ok_Mod_coldest rfl rfl rfl) (c_Mod_coldest (hF := e2)) (Nat.le_of_ble_eq_true rfl) ⟨by show 3 + 1 ≤ 2048; decide, by show 8 + (6 + 11) + 64 * 3 ≤ 84000; decide⟩ ⟨by decide, by decide⟩ hl.1 (vaN inM30 []) hP hD hS (fun H locs hP hD hS => ?_)
  refine W.eq (g2 := F0 m 1040 ls [.int r, .int r]) rfl ?_
  refine lv_icmp_eq (tgt := 1501) C.1 C.2.1 dw_1040 (by decide) (fun _ => ?_) (fun h => absurd rfl h)
  exact kk σ2 H locs h2 hP hD hS
theorem law_29 (h : LwS p l e s m b L xs below meth c D kI kA ad σ i H locs ls) (kk : LwK p l e s m b L xs below meth c D kI kA ad i ls) : W p l e room_1 s m #[Value.ref b] below meth c H locs 200 20000 (lw_Z below #[Value.ref b] s) (F0 m 1045 ls []) := by
  obtain ⟨C, hX, hbl, hr, hlk, hL, hi, hR, hP, hD, hS, hl⟩ := id h
  obtain ⟨r, σ1, σ2, e1, e2, h2⟩ := op_good (n := 5000) (xs (i + 1)) (by decide) hR
  refine lv_aload_n C.1 C.2.1 dw_1045 rfl (lv_at hl 2 rfl) ?_
  refine lw_ld (k := 1) C hX hbl (Nat.not_le.mpr hbl) hL hi hl hS dw_1046 dw_1047 dw_1048 dw_1049 dw_1050 (by decide) (by omega) ?_
  refine L_call (md' := md_Tent_good) (as := [mR 0 0, mI (xs (i + 1))]) (rest := []) (σ := σ) (σ1 := σ1) (r := some (mI r)) (d' := 6) C dw_1051 (ckV (nn := 1) lk_7_134 ok_Tent_good rfl rfl rfl) (c_Tent_good (hF := e1)) (Nat.le_of_ble_eq_true rfl) ⟨by show 6 + 1 ≤ 2048; decide, by show 8 + (2 + 11) + 64 * 6 ≤ 84000; decide⟩ ⟨by decide, by decide⟩ hl.1 (vaN inM0 [xs (i + 1)]) hP hD hS (fun H locs hP hD hS => ?_)
  refine W.eq (g2 := F0 m 1054 ls [.int r]) rfl ?_
  refine lv_aload_n C.1 C.2.1 dw_1054 rfl (lv_at hl 1 rfl) ?_
  refine lw_ld (k := 1) C hX hbl (Nat.not_le.mpr hbl) hL hi hl hS dw_1055 dw_1056 dw_1057 dw_1058 dw_1059 (by decide) (by omega) ?_
  refine L_call (md' := md_Mod_good) (as := [mR 30 0, mI (xs (i + 1))]) (rest := [mI r]) (σ := σ1) (σ1 := σ2) (r := some (mI r)) (d' := 7) C dw_1060 (ckV (nn := 1) lk_7_137 ok_Mod_good rfl rfl rfl) (c_Mod_good (hF := e2)) (Nat.le_of_ble_eq_true rfl) ⟨by show 7 + 1 ≤ 2048; decide, by show 8 + (4 + 11) + 64 * 7 ≤ 84000; decide⟩ ⟨by decide, by decide⟩ hl.1 (vaN inM30 [xs (i + 1)]) hP hD hS (fun H locs hP hD hS => ?_)
  refine W.eq (g2 := F0 m 1063 ls [.int r, .int r]) rfl ?_
  refine lv_icmp_eq (tgt := 1501) C.1 C.2.1 dw_1063 (by decide) (fun _ => ?_) (fun h => absurd rfl h)
  exact kk σ2 H locs h2 hP hD hS
theorem law_30 (h : LwS p l e s m b L xs below meth c D kI kA ad σ i H locs ls) (kk : LwK p l e s m b L xs below meth c D kI kA ad i ls) : W p l e room_1 s m #[Value.ref b] below meth c H locs 200 20000 (lw_Z below #[Value.ref b] s) (F0 m 1068 ls []) := by
  obtain ⟨C, hX, hbl, hr, hlk, hL, hi, hR, hP, hD, hS, hl⟩ := id h
  obtain ⟨r, σ1, σ2, e1, e2, h2⟩ := op_worth (n := 5000)  (by decide) hR
  refine lv_aload_n C.1 C.2.1 dw_1068 rfl (lv_at hl 2 rfl) ?_
  refine L_call (md' := md_Tent_worth) (as := [mR 0 0]) (rest := []) (σ := σ) (σ1 := σ1) (r := some (mI r)) (d' := 5) C dw_1069 (ckV (nn := 0) lk_7_138 ok_Tent_worth rfl rfl rfl) (c_Tent_worth (hF := e1)) (Nat.le_of_ble_eq_true rfl) ⟨by show 5 + 1 ≤ 2048; decide, by show 8 + (1 + 11) + 64 * 5 ≤ 84000; decide⟩ ⟨by decide, by decide⟩ hl.1 (vaN inM0 []) hP hD hS (fun H locs hP hD hS => ?_)
  refine W.eq (g2 := F0 m 1072 ls [.int r]) rfl ?_
  refine lv_aload_n C.1 C.2.1 dw_1072 rfl (lv_at hl 1 rfl) ?_
  refine L_call (md' := md_Mod_worth) (as := [mR 30 0]) (rest := [mI r]) (σ := σ1) (σ1 := σ2) (r := some (mI r)) (d' := 7) C dw_1073 (ckV (nn := 0) lk_7_141 ok_Mod_worth rfl rfl rfl) (c_Mod_worth (hF := e2)) (Nat.le_of_ble_eq_true rfl) ⟨by show 7 + 1 ≤ 2048; decide, by show 8 + (1 + 11) + 64 * 7 ≤ 84000; decide⟩ ⟨by decide, by decide⟩ hl.1 (vaN inM30 []) hP hD hS (fun H locs hP hD hS => ?_)
  refine W.eq (g2 := F0 m 1076 ls [.int r, .int r]) rfl ?_
  refine lv_icmp_eq (tgt := 1501) C.1 C.2.1 dw_1076 (by decide) (fun _ => ?_) (fun h => absurd rfl h)
  exact kk σ2 H locs h2 hP hD hS
theorem law_31 (h : LwS p l e s m b L xs below meth c D kI kA ad σ i H locs ls) (kk : LwK p l e s m b L xs below meth c D kI kA ad i ls) : W p l e room_1 s m #[Value.ref b] below meth c H locs 200 20000 (lw_Z below #[Value.ref b] s) (F0 m 1081 ls []) := by
  obtain ⟨C, hX, hbl, hr, hlk, hL, hi, hR, hP, hD, hS, hl⟩ := id h
  obtain ⟨r, σ1, σ2, e1, e2, h2⟩ := op_best (n := 5000) (xs (i + 1)) (by decide) hR
  refine lv_aload_n C.1 C.2.1 dw_1081 rfl (lv_at hl 2 rfl) ?_
  refine lw_ld (k := 1) C hX hbl (Nat.not_le.mpr hbl) hL hi hl hS dw_1082 dw_1083 dw_1084 dw_1085 dw_1086 (by decide) (by omega) ?_
  refine L_call (md' := md_Tent_best) (as := [mR 0 0, mI (xs (i + 1))]) (rest := []) (σ := σ) (σ1 := σ1) (r := some (mI r)) (d' := 6) C dw_1087 (ckV (nn := 1) lk_7_142 ok_Tent_best rfl rfl rfl) (c_Tent_best (hF := e1)) (Nat.le_of_ble_eq_true rfl) ⟨by show 6 + 1 ≤ 2048; decide, by show 8 + (2 + 11) + 64 * 6 ≤ 84000; decide⟩ ⟨by decide, by decide⟩ hl.1 (vaN inM0 [xs (i + 1)]) hP hD hS (fun H locs hP hD hS => ?_)
  refine W.eq (g2 := F0 m 1090 ls [.int r]) rfl ?_
  refine lv_aload_n C.1 C.2.1 dw_1090 rfl (lv_at hl 1 rfl) ?_
  refine lw_ld (k := 1) C hX hbl (Nat.not_le.mpr hbl) hL hi hl hS dw_1091 dw_1092 dw_1093 dw_1094 dw_1095 (by decide) (by omega) ?_
  refine L_call (md' := md_Mod_best) (as := [mR 30 0, mI (xs (i + 1))]) (rest := [mI r]) (σ := σ1) (σ1 := σ2) (r := some (mI r)) (d' := 8) C dw_1096 (ckV (nn := 1) lk_7_145 ok_Mod_best rfl rfl rfl) (c_Mod_best (hF := e2)) (Nat.le_of_ble_eq_true rfl) ⟨by show 8 + 1 ≤ 2048; decide, by show 8 + (2 + 11) + 64 * 8 ≤ 84000; decide⟩ ⟨by decide, by decide⟩ hl.1 (vaN inM30 [xs (i + 1)]) hP hD hS (fun H locs hP hD hS => ?_)
  refine W.eq (g2 := F0 m 1099 ls [.int r, .int r]) rfl ?_
  refine lv_icmp_eq (tgt := 1501) C.1 C.2.1 dw_1099 (by decide) (fun _ => ?_) (fun h => absurd rfl h)
  exact kk σ2 H locs h2 hP hD hS
theorem law_32 (h : LwS p l e s m b L xs below meth c D kI kA ad σ i H locs ls) (kk : LwK p l e s m b L xs below meth c D kI kA ad i ls) : W p l e room_1 s m #[Value.ref b] below meth c H locs 200 20000 (lw_Z below #[Value.ref b] s) (F0 m 1104 ls []) := by
  obtain ⟨C, hX, hbl, hr, hlk, hL, hi, hR, hP, hD, hS, hl⟩ := id h
  obtain ⟨r, σ1, σ2, e1, e2, h2⟩ := op_fair (n := 5000) (xs (i + 1)) (by decide) hR
  refine lv_aload_n C.1 C.2.1 dw_1104 rfl (lv_at hl 2 rfl) ?_
  refine lw_ld (k := 1) C hX hbl (Nat.not_le.mpr hbl) hL hi hl hS dw_1105 dw_1106 dw_1107 dw_1108 dw_1109 (by decide) (by omega) ?_
  refine L_call (md' := md_Tent_fair) (as := [mR 0 0, mI (xs (i + 1))]) (rest := []) (σ := σ) (σ1 := σ1) (r := some (mI r)) (d' := 6) C dw_1110 (ckV (nn := 1) lk_7_146 ok_Tent_fair rfl rfl rfl) (c_Tent_fair (hF := e1)) (Nat.le_of_ble_eq_true rfl) ⟨by show 6 + 1 ≤ 2048; decide, by show 8 + (2 + 11) + 64 * 6 ≤ 84000; decide⟩ ⟨by decide, by decide⟩ hl.1 (vaN inM0 [xs (i + 1)]) hP hD hS (fun H locs hP hD hS => ?_)
  refine W.eq (g2 := F0 m 1113 ls [.int r]) rfl ?_
  refine lv_aload_n C.1 C.2.1 dw_1113 rfl (lv_at hl 1 rfl) ?_
  refine lw_ld (k := 1) C hX hbl (Nat.not_le.mpr hbl) hL hi hl hS dw_1114 dw_1115 dw_1116 dw_1117 dw_1118 (by decide) (by omega) ?_
  refine L_call (md' := md_Mod_fair) (as := [mR 30 0, mI (xs (i + 1))]) (rest := [mI r]) (σ := σ1) (σ1 := σ2) (r := some (mI r)) (d' := 8) C dw_1119 (ckV (nn := 1) lk_7_149 ok_Mod_fair rfl rfl rfl) (c_Mod_fair (hF := e2)) (Nat.le_of_ble_eq_true rfl) ⟨by show 8 + 1 ≤ 2048; decide, by show 8 + (2 + 11) + 64 * 8 ≤ 84000; decide⟩ ⟨by decide, by decide⟩ hl.1 (vaN inM30 [xs (i + 1)]) hP hD hS (fun H locs hP hD hS => ?_)
  refine W.eq (g2 := F0 m 1122 ls [.int r, .int r]) rfl ?_
  refine lv_icmp_eq (tgt := 1501) C.1 C.2.1 dw_1122 (by decide) (fun _ => ?_) (fun h => absurd rfl h)
  exact kk σ2 H locs h2 hP hD hS
theorem law_33 (h : LwS p l e s m b L xs below meth c D kI kA ad σ i H locs ls) (kk : LwK p l e s m b L xs below meth c D kI kA ad i ls) : W p l e room_1 s m #[Value.ref b] below meth c H locs 200 20000 (lw_Z below #[Value.ref b] s) (F0 m 1127 ls []) := by
  obtain ⟨C, hX, hbl, hr, hlk, hL, hi, hR, hP, hD, hS, hl⟩ := id h
  obtain ⟨r, σ1, σ2, e1, e2, h2⟩ := op_turning (n := 5000)  (by decide) hR
  refine lv_aload_n C.1 C.2.1 dw_1127 rfl (lv_at hl 2 rfl) ?_
  refine L_call (md' := md_Tent_turning) (as := [mR 0 0]) (rest := []) (σ := σ) (σ1 := σ1) (r := some (mI r)) (d' := 4) C dw_1128 (ckV (nn := 0) lk_7_150 ok_Tent_turning rfl rfl rfl) (c_Tent_turning (hF := e1)) (Nat.le_of_ble_eq_true rfl) ⟨by show 4 + 1 ≤ 2048; decide, by show 8 + (5 + 11) + 64 * 4 ≤ 84000; decide⟩ ⟨by decide, by decide⟩ hl.1 (vaN inM0 []) hP hD hS (fun H locs hP hD hS => ?_)
  refine W.eq (g2 := F0 m 1131 ls [.int r]) rfl ?_
  refine lv_aload_n C.1 C.2.1 dw_1131 rfl (lv_at hl 1 rfl) ?_
  refine L_call (md' := md_Mod_turning) (as := [mR 30 0]) (rest := [mI r]) (σ := σ1) (σ1 := σ2) (r := some (mI r)) (d' := 7) C dw_1132 (ckV (nn := 0) lk_7_153 ok_Mod_turning rfl rfl rfl) (c_Mod_turning (hF := e2)) (Nat.le_of_ble_eq_true rfl) ⟨by show 7 + 1 ≤ 2048; decide, by show 8 + (5 + 11) + 64 * 7 ≤ 84000; decide⟩ ⟨by decide, by decide⟩ hl.1 (vaN inM30 []) hP hD hS (fun H locs hP hD hS => ?_)
  refine W.eq (g2 := F0 m 1135 ls [.int r, .int r]) rfl ?_
  refine lv_icmp_eq (tgt := 1501) C.1 C.2.1 dw_1135 (by decide) (fun _ => ?_) (fun h => absurd rfl h)
  exact kk σ2 H locs h2 hP hD hS
theorem law_34 (h : LwS p l e s m b L xs below meth c D kI kA ad σ i H locs ls) (kk : LwK p l e s m b L xs below meth c D kI kA ad i ls) : W p l e room_1 s m #[Value.ref b] below meth c H locs 200 20000 (lw_Z below #[Value.ref b] s) (F0 m 1140 ls []) := by
  obtain ⟨C, hX, hbl, hr, hlk, hL, hi, hR, hP, hD, hS, hl⟩ := id h
  obtain ⟨r, σ1, σ2, e1, e2, h2⟩ := op_warm (n := 5000)  (by decide) hR
  refine lv_aload_n C.1 C.2.1 dw_1140 rfl (lv_at hl 2 rfl) ?_
  refine L_call (md' := md_Tent_warm) (as := [mR 0 0]) (rest := []) (σ := σ) (σ1 := σ1) (r := some (mI r)) (d' := 5) C dw_1141 (ckV (nn := 0) lk_7_154 ok_Tent_warm rfl rfl rfl) (c_Tent_warm (hF := e1)) (Nat.le_of_ble_eq_true rfl) ⟨by show 5 + 1 ≤ 2048; decide, by show 8 + (5 + 11) + 64 * 5 ≤ 84000; decide⟩ ⟨by decide, by decide⟩ hl.1 (vaN inM0 []) hP hD hS (fun H locs hP hD hS => ?_)
  refine W.eq (g2 := F0 m 1144 ls [.int r]) rfl ?_
  refine lv_aload_n C.1 C.2.1 dw_1144 rfl (lv_at hl 1 rfl) ?_
  refine L_call (md' := md_Mod_warm) (as := [mR 30 0]) (rest := [mI r]) (σ := σ1) (σ1 := σ2) (r := some (mI r)) (d' := 7) C dw_1145 (ckV (nn := 0) lk_7_157 ok_Mod_warm rfl rfl rfl) (c_Mod_warm (hF := e2)) (Nat.le_of_ble_eq_true rfl) ⟨by show 7 + 1 ≤ 2048; decide, by show 8 + (5 + 11) + 64 * 7 ≤ 84000; decide⟩ ⟨by decide, by decide⟩ hl.1 (vaN inM30 []) hP hD hS (fun H locs hP hD hS => ?_)
  refine W.eq (g2 := F0 m 1148 ls [.int r, .int r]) rfl ?_
  refine lv_icmp_eq (tgt := 1501) C.1 C.2.1 dw_1148 (by decide) (fun _ => ?_) (fun h => absurd rfl h)
  exact kk σ2 H locs h2 hP hD hS
theorem law_35 (h : LwS p l e s m b L xs below meth c D kI kA ad σ i H locs ls) (kk : LwK p l e s m b L xs below meth c D kI kA ad i ls) : W p l e room_1 s m #[Value.ref b] below meth c H locs 200 20000 (lw_Z below #[Value.ref b] s) (F0 m 1153 ls []) := by
  obtain ⟨C, hX, hbl, hr, hlk, hL, hi, hR, hP, hD, hS, hl⟩ := id h
  obtain ⟨r, σ1, σ2, e1, e2, h2⟩ := op_thin (n := 5000) (xs (i + 1)) (by decide) hR
  refine lv_aload_n C.1 C.2.1 dw_1153 rfl (lv_at hl 2 rfl) ?_
  refine lw_ld (k := 1) C hX hbl (Nat.not_le.mpr hbl) hL hi hl hS dw_1154 dw_1155 dw_1156 dw_1157 dw_1158 (by decide) (by omega) ?_
  refine L_call (md' := md_Tent_thin) (as := [mR 0 0, mI (xs (i + 1))]) (rest := []) (σ := σ) (σ1 := σ1) (r := some (mI r)) (d' := 6) C dw_1159 (ckV (nn := 1) lk_7_158 ok_Tent_thin rfl rfl rfl) (c_Tent_thin (hF := e1)) (Nat.le_of_ble_eq_true rfl) ⟨by show 6 + 1 ≤ 2048; decide, by show 8 + (2 + 11) + 64 * 6 ≤ 84000; decide⟩ ⟨by decide, by decide⟩ hl.1 (vaN inM0 [xs (i + 1)]) hP hD hS (fun H locs hP hD hS => ?_)
  refine W.eq (g2 := F0 m 1162 ls [.int r]) rfl ?_
  refine lv_aload_n C.1 C.2.1 dw_1162 rfl (lv_at hl 1 rfl) ?_
  refine lw_ld (k := 1) C hX hbl (Nat.not_le.mpr hbl) hL hi hl hS dw_1163 dw_1164 dw_1165 dw_1166 dw_1167 (by decide) (by omega) ?_
  refine L_call (md' := md_Mod_thin) (as := [mR 30 0, mI (xs (i + 1))]) (rest := [mI r]) (σ := σ1) (σ1 := σ2) (r := some (mI r)) (d' := 7) C dw_1168 (ckV (nn := 1) lk_7_161 ok_Mod_thin rfl rfl rfl) (c_Mod_thin (hF := e2)) (Nat.le_of_ble_eq_true rfl) ⟨by show 7 + 1 ≤ 2048; decide, by show 8 + (6 + 11) + 64 * 7 ≤ 84000; decide⟩ ⟨by decide, by decide⟩ hl.1 (vaN inM30 [xs (i + 1)]) hP hD hS (fun H locs hP hD hS => ?_)
  refine W.eq (g2 := F0 m 1171 ls [.int r, .int r]) rfl ?_
  refine lv_icmp_eq (tgt := 1501) C.1 C.2.1 dw_1171 (by decide) (fun _ => ?_) (fun h => absurd rfl h)
  exact kk σ2 H locs h2 hP hD hS
theorem law_36 (h : LwS p l e s m b L xs below meth c D kI kA ad σ i H locs ls) (kk : LwK p l e s m b L xs below meth c D kI kA ad i ls) : W p l e room_1 s m #[Value.ref b] below meth c H locs 200 20000 (lw_Z below #[Value.ref b] s) (F0 m 1176 ls []) := by
  obtain ⟨C, hX, hbl, hr, hlk, hL, hi, hR, hP, hD, hS, hl⟩ := id h
  obtain ⟨r, σ1, σ2, e1, e2, h2⟩ := op_nights (n := 5000) (xs (i + 1)) (xs (i + 2)) (by decide) hR
  refine lv_aload_n C.1 C.2.1 dw_1176 rfl (lv_at hl 2 rfl) ?_
  refine lw_ld (k := 1) C hX hbl (Nat.not_le.mpr hbl) hL hi hl hS dw_1177 dw_1178 dw_1179 dw_1180 dw_1181 (by decide) (by omega) ?_
  refine lw_ld (k := 2) C hX hbl (Nat.not_le.mpr hbl) hL hi hl hS dw_1182 dw_1183 dw_1184 dw_1185 dw_1186 (by decide) (by omega) ?_
  refine L_call (md' := md_Tent_nights) (as := [mR 0 0, mI (xs (i + 1)), mI (xs (i + 2))]) (rest := []) (σ := σ) (σ1 := σ1) (r := some (mI r)) (d' := 7) C dw_1187 (ckV (nn := 2) lk_7_162 ok_Tent_nights rfl rfl rfl) (c_Tent_nights (hF := e1)) (Nat.le_of_ble_eq_true rfl) ⟨by show 7 + 1 ≤ 2048; decide, by show 8 + (5 + 11) + 64 * 7 ≤ 84000; decide⟩ ⟨by decide, by decide⟩ hl.1 (vaN inM0 [xs (i + 1), xs (i + 2)]) hP hD hS (fun H locs hP hD hS => ?_)
  refine W.eq (g2 := F0 m 1190 ls [.int r]) rfl ?_
  refine lv_aload_n C.1 C.2.1 dw_1190 rfl (lv_at hl 1 rfl) ?_
  refine lw_ld (k := 1) C hX hbl (Nat.not_le.mpr hbl) hL hi hl hS dw_1191 dw_1192 dw_1193 dw_1194 dw_1195 (by decide) (by omega) ?_
  refine lw_ld (k := 2) C hX hbl (Nat.not_le.mpr hbl) hL hi hl hS dw_1196 dw_1197 dw_1198 dw_1199 dw_1200 (by decide) (by omega) ?_
  refine L_call (md' := md_Mod_nights) (as := [mR 30 0, mI (xs (i + 1)), mI (xs (i + 2))]) (rest := [mI r]) (σ := σ1) (σ1 := σ2) (r := some (mI r)) (d' := 6) C dw_1201 (ckV (nn := 2) lk_7_165 ok_Mod_nights rfl rfl rfl) (c_Mod_nights (hF := e2)) (Nat.le_of_ble_eq_true rfl) ⟨by show 6 + 1 ≤ 2048; decide, by show 8 + (9 + 11) + 64 * 6 ≤ 84000; decide⟩ ⟨by decide, by decide⟩ hl.1 (vaN inM30 [xs (i + 1), xs (i + 2)]) hP hD hS (fun H locs hP hD hS => ?_)
  refine W.eq (g2 := F0 m 1204 ls [.int r, .int r]) rfl ?_
  refine lv_icmp_eq (tgt := 1501) C.1 C.2.1 dw_1204 (by decide) (fun _ => ?_) (fun h => absurd rfl h)
  exact kk σ2 H locs h2 hP hD hS
theorem law_37 (h : LwS p l e s m b L xs below meth c D kI kA ad σ i H locs ls) (kk : LwK p l e s m b L xs below meth c D kI kA ad i ls) : W p l e room_1 s m #[Value.ref b] below meth c H locs 200 20000 (lw_Z below #[Value.ref b] s) (F0 m 1209 ls []) := by
  obtain ⟨C, hX, hbl, hr, hlk, hL, hi, hR, hP, hD, hS, hl⟩ := id h
  obtain ⟨r, σ1, σ2, e1, e2, h2⟩ := op_nth (n := 5000) (xs (i + 1)) (xs (i + 2)) (by decide) hR
  refine lv_aload_n C.1 C.2.1 dw_1209 rfl (lv_at hl 2 rfl) ?_
  refine lw_ld (k := 1) C hX hbl (Nat.not_le.mpr hbl) hL hi hl hS dw_1210 dw_1211 dw_1212 dw_1213 dw_1214 (by decide) (by omega) ?_
  refine lw_ld (k := 2) C hX hbl (Nat.not_le.mpr hbl) hL hi hl hS dw_1215 dw_1216 dw_1217 dw_1218 dw_1219 (by decide) (by omega) ?_
  refine L_call (md' := md_Tent_nth) (as := [mR 0 0, mI (xs (i + 1)), mI (xs (i + 2))]) (rest := []) (σ := σ) (σ1 := σ1) (r := some (mI r)) (d' := 5) C dw_1220 (ckV (nn := 2) lk_7_166 ok_Tent_nth rfl rfl rfl) (c_Tent_nth (hF := e1)) (Nat.le_of_ble_eq_true rfl) ⟨by show 5 + 1 ≤ 2048; decide, by show 8 + (4 + 11) + 64 * 5 ≤ 84000; decide⟩ ⟨by decide, by decide⟩ hl.1 (vaN inM0 [xs (i + 1), xs (i + 2)]) hP hD hS (fun H locs hP hD hS => ?_)
  refine W.eq (g2 := F0 m 1223 ls [.int r]) rfl ?_
  refine lv_aload_n C.1 C.2.1 dw_1223 rfl (lv_at hl 1 rfl) ?_
  refine lw_ld (k := 1) C hX hbl (Nat.not_le.mpr hbl) hL hi hl hS dw_1224 dw_1225 dw_1226 dw_1227 dw_1228 (by decide) (by omega) ?_
  refine lw_ld (k := 2) C hX hbl (Nat.not_le.mpr hbl) hL hi hl hS dw_1229 dw_1230 dw_1231 dw_1232 dw_1233 (by decide) (by omega) ?_
  refine L_call (md' := md_Mod_nth) (as := [mR 30 0, mI (xs (i + 1)), mI (xs (i + 2))]) (rest := [mI r]) (σ := σ1) (σ1 := σ2) (r := some (mI r)) (d' := 3) C dw_1234 (ckV (nn := 2) lk_7_169 ok_Mod_nth rfl rfl rfl) (c_Mod_nth (hF := e2)) (Nat.le_of_ble_eq_true rfl) ⟨by show 3 + 1 ≤ 2048; decide, by show 8 + (3 + 11) + 64 * 3 ≤ 84000; decide⟩ ⟨by decide, by decide⟩ hl.1 (vaN inM30 [xs (i + 1), xs (i + 2)]) hP hD hS (fun H locs hP hD hS => ?_)
  refine W.eq (g2 := F0 m 1237 ls [.int r, .int r]) rfl ?_
  refine lv_icmp_eq (tgt := 1501) C.1 C.2.1 dw_1237 (by decide) (fun _ => ?_) (fun h => absurd rfl h)
  exact kk σ2 H locs h2 hP hD hS
theorem law_38 (h : LwS p l e s m b L xs below meth c D kI kA ad σ i H locs ls) (kk : LwK p l e s m b L xs below meth c D kI kA ad i ls) : W p l e room_1 s m #[Value.ref b] below meth c H locs 200 20000 (lw_Z below #[Value.ref b] s) (F0 m 1242 ls []) := by
  obtain ⟨C, hX, hbl, hr, hlk, hL, hi, hR, hP, hD, hS, hl⟩ := id h
  obtain ⟨r, σ1, σ2, e1, e2, h2⟩ := op_out (n := 5000) (xs (i + 1)) (by decide) hR
  refine lv_aload_n C.1 C.2.1 dw_1242 rfl (lv_at hl 2 rfl) ?_
  refine lw_ld (k := 1) C hX hbl (Nat.not_le.mpr hbl) hL hi hl hS dw_1243 dw_1244 dw_1245 dw_1246 dw_1247 (by decide) (by omega) ?_
  refine L_call (md' := md_Tent_out) (as := [mR 0 0, mI (xs (i + 1))]) (rest := []) (σ := σ) (σ1 := σ1) (r := some (mI r)) (d' := 1) C dw_1248 (ckV (nn := 1) lk_7_170 ok_Tent_out rfl rfl rfl) (c_Tent_out (hF := e1)) (Nat.le_of_ble_eq_true rfl) ⟨by show 1 + 1 ≤ 2048; decide, by show 8 + (5 + 11) + 64 * 1 ≤ 84000; decide⟩ ⟨by decide, by decide⟩ hl.1 (vaN inM0 [xs (i + 1)]) hP hD hS (fun H locs hP hD hS => ?_)
  refine W.eq (g2 := F0 m 1251 ls [.int r]) rfl ?_
  refine lv_aload_n C.1 C.2.1 dw_1251 rfl (lv_at hl 1 rfl) ?_
  refine lw_ld (k := 1) C hX hbl (Nat.not_le.mpr hbl) hL hi hl hS dw_1252 dw_1253 dw_1254 dw_1255 dw_1256 (by decide) (by omega) ?_
  refine L_call (md' := md_Mod_out) (as := [mR 30 0, mI (xs (i + 1))]) (rest := [mI r]) (σ := σ1) (σ1 := σ2) (r := some (mI r)) (d' := 2) C dw_1257 (ckV (nn := 1) lk_7_173 ok_Mod_out rfl rfl rfl) (c_Mod_out (hF := e2)) (Nat.le_of_ble_eq_true rfl) ⟨by show 2 + 1 ≤ 2048; decide, by show 8 + (4 + 11) + 64 * 2 ≤ 84000; decide⟩ ⟨by decide, by decide⟩ hl.1 (vaN inM30 [xs (i + 1)]) hP hD hS (fun H locs hP hD hS => ?_)
  refine W.eq (g2 := F0 m 1260 ls [.int r, .int r]) rfl ?_
  refine lv_icmp_eq (tgt := 1501) C.1 C.2.1 dw_1260 (by decide) (fun _ => ?_) (fun h => absurd rfl h)
  exact kk σ2 H locs h2 hP hD hS
theorem law_39 (h : LwS p l e s m b L xs below meth c D kI kA ad σ i H locs ls) (kk : LwK p l e s m b L xs below meth c D kI kA ad i ls) : W p l e room_1 s m #[Value.ref b] below meth c H locs 200 20000 (lw_Z below #[Value.ref b] s) (F0 m 1265 ls []) := by
  obtain ⟨C, hX, hbl, hr, hlk, hL, hi, hR, hP, hD, hS, hl⟩ := id h
  obtain ⟨r, σ1, σ2, e1, e2, h2⟩ := op_whose (n := 5000) (xs (i + 1)) (by decide) hR
  refine lv_aload_n C.1 C.2.1 dw_1265 rfl (lv_at hl 2 rfl) ?_
  refine lw_ld (k := 1) C hX hbl (Nat.not_le.mpr hbl) hL hi hl hS dw_1266 dw_1267 dw_1268 dw_1269 dw_1270 (by decide) (by omega) ?_
  refine L_call (md' := md_Tent_whose) (as := [mR 0 0, mI (xs (i + 1))]) (rest := []) (σ := σ) (σ1 := σ1) (r := some (mI r)) (d' := 6) C dw_1271 (ckV (nn := 1) lk_7_174 ok_Tent_whose rfl rfl rfl) (c_Tent_whose (hF := e1)) (Nat.le_of_ble_eq_true rfl) ⟨by show 6 + 1 ≤ 2048; decide, by show 8 + (5 + 11) + 64 * 6 ≤ 84000; decide⟩ ⟨by decide, by decide⟩ hl.1 (vaN inM0 [xs (i + 1)]) hP hD hS (fun H locs hP hD hS => ?_)
  refine W.eq (g2 := F0 m 1274 ls [.int r]) rfl ?_
  refine lv_aload_n C.1 C.2.1 dw_1274 rfl (lv_at hl 1 rfl) ?_
  refine lw_ld (k := 1) C hX hbl (Nat.not_le.mpr hbl) hL hi hl hS dw_1275 dw_1276 dw_1277 dw_1278 dw_1279 (by decide) (by omega) ?_
  refine L_call (md' := md_Mod_whose) (as := [mR 30 0, mI (xs (i + 1))]) (rest := [mI r]) (σ := σ1) (σ1 := σ2) (r := some (mI r)) (d' := 2) C dw_1280 (ckV (nn := 1) lk_7_177 ok_Mod_whose rfl rfl rfl) (c_Mod_whose (hF := e2)) (Nat.le_of_ble_eq_true rfl) ⟨by show 2 + 1 ≤ 2048; decide, by show 8 + (4 + 11) + 64 * 2 ≤ 84000; decide⟩ ⟨by decide, by decide⟩ hl.1 (vaN inM30 [xs (i + 1)]) hP hD hS (fun H locs hP hD hS => ?_)
  refine W.eq (g2 := F0 m 1283 ls [.int r, .int r]) rfl ?_
  refine lv_icmp_eq (tgt := 1501) C.1 C.2.1 dw_1283 (by decide) (fun _ => ?_) (fun h => absurd rfl h)
  exact kk σ2 H locs h2 hP hD hS
theorem law_40 (h : LwS p l e s m b L xs below meth c D kI kA ad σ i H locs ls) (kk : LwK p l e s m b L xs below meth c D kI kA ad i ls) : W p l e room_1 s m #[Value.ref b] below meth c H locs 200 20000 (lw_Z below #[Value.ref b] s) (F0 m 1288 ls []) := by
  obtain ⟨C, hX, hbl, hr, hlk, hL, hi, hR, hP, hD, hS, hl⟩ := id h
  obtain ⟨r, σ1, σ2, e1, e2, h2⟩ := op_kinds (n := 5000) (xs (i + 1)) (xs (i + 2)) (by decide) hR
  refine lv_aload_n C.1 C.2.1 dw_1288 rfl (lv_at hl 2 rfl) ?_
  refine lw_ld (k := 1) C hX hbl (Nat.not_le.mpr hbl) hL hi hl hS dw_1289 dw_1290 dw_1291 dw_1292 dw_1293 (by decide) (by omega) ?_
  refine lw_ld (k := 2) C hX hbl (Nat.not_le.mpr hbl) hL hi hl hS dw_1294 dw_1295 dw_1296 dw_1297 dw_1298 (by decide) (by omega) ?_
  refine L_call (md' := md_Tent_kinds) (as := [mR 0 0, mI (xs (i + 1)), mI (xs (i + 2))]) (rest := []) (σ := σ) (σ1 := σ1) (r := some (mI r)) (d' := 5) C dw_1299 (ckV (nn := 2) lk_7_178 ok_Tent_kinds rfl rfl rfl) (c_Tent_kinds (hF := e1)) (Nat.le_of_ble_eq_true rfl) ⟨by show 5 + 1 ≤ 2048; decide, by show 8 + (5 + 11) + 64 * 5 ≤ 84000; decide⟩ ⟨by decide, by decide⟩ hl.1 (vaN inM0 [xs (i + 1), xs (i + 2)]) hP hD hS (fun H locs hP hD hS => ?_)
  refine W.eq (g2 := F0 m 1302 ls [.int r]) rfl ?_
  refine lv_aload_n C.1 C.2.1 dw_1302 rfl (lv_at hl 1 rfl) ?_
  refine lw_ld (k := 1) C hX hbl (Nat.not_le.mpr hbl) hL hi hl hS dw_1303 dw_1304 dw_1305 dw_1306 dw_1307 (by decide) (by omega) ?_
  refine lw_ld (k := 2) C hX hbl (Nat.not_le.mpr hbl) hL hi hl hS dw_1308 dw_1309 dw_1310 dw_1311 dw_1312 (by decide) (by omega) ?_
  refine L_call (md' := md_Mod_kinds) (as := [mR 30 0, mI (xs (i + 1)), mI (xs (i + 2))]) (rest := [mI r]) (σ := σ1) (σ1 := σ2) (r := some (mI r)) (d' := 7) C dw_1313 (ckV (nn := 2) lk_7_181 ok_Mod_kinds rfl rfl rfl) (c_Mod_kinds (hF := e2)) (Nat.le_of_ble_eq_true rfl) ⟨by show 7 + 1 ≤ 2048; decide, by show 8 + (5 + 11) + 64 * 7 ≤ 84000; decide⟩ ⟨by decide, by decide⟩ hl.1 (vaN inM30 [xs (i + 1), xs (i + 2)]) hP hD hS (fun H locs hP hD hS => ?_)
  refine W.eq (g2 := F0 m 1316 ls [.int r, .int r]) rfl ?_
  refine lv_icmp_eq (tgt := 1501) C.1 C.2.1 dw_1316 (by decide) (fun _ => ?_) (fun h => absurd rfl h)
  exact kk σ2 H locs h2 hP hD hS
theorem law_41 (h : LwS p l e s m b L xs below meth c D kI kA ad σ i H locs ls) (kk : LwK p l e s m b L xs below meth c D kI kA ad i ls) : W p l e room_1 s m #[Value.ref b] below meth c H locs 200 20000 (lw_Z below #[Value.ref b] s) (F0 m 1321 ls []) := by
  obtain ⟨C, hX, hbl, hr, hlk, hL, hi, hR, hP, hD, hS, hl⟩ := id h
  obtain ⟨r, σ1, σ2, e1, e2, h2⟩ := op_odds (n := 5000) (xs (i + 1)) (xs (i + 2)) (xs (i + 3)) (by decide) hR
  refine lv_aload_n C.1 C.2.1 dw_1321 rfl (lv_at hl 2 rfl) ?_
  refine lw_ld (k := 1) C hX hbl (Nat.not_le.mpr hbl) hL hi hl hS dw_1322 dw_1323 dw_1324 dw_1325 dw_1326 (by decide) (by omega) ?_
  refine lw_ld (k := 2) C hX hbl (Nat.not_le.mpr hbl) hL hi hl hS dw_1327 dw_1328 dw_1329 dw_1330 dw_1331 (by decide) (by omega) ?_
  refine lw_ld (k := 3) C hX hbl (Nat.not_le.mpr hbl) hL hi hl hS dw_1332 dw_1333 dw_1334 dw_1335 dw_1336 (by decide) (by omega) ?_
  refine L_call (md' := md_Tent_odds) (as := [mR 0 0, mI (xs (i + 1)), mI (xs (i + 2)), mI (xs (i + 3))]) (rest := []) (σ := σ) (σ1 := σ1) (r := some (mI r)) (d' := 4) C dw_1337 (ckV (nn := 3) lk_7_182 ok_Tent_odds rfl rfl rfl) (c_Tent_odds (hF := e1)) (Nat.le_of_ble_eq_true rfl) ⟨by show 4 + 1 ≤ 2048; decide, by show 8 + (4 + 11) + 64 * 4 ≤ 84000; decide⟩ ⟨by decide, by decide⟩ hl.1 (vaN inM0 [xs (i + 1), xs (i + 2), xs (i + 3)]) hP hD hS (fun H locs hP hD hS => ?_)
  refine W.eq (g2 := F0 m 1340 ls [.int r]) rfl ?_
  refine lv_aload_n C.1 C.2.1 dw_1340 rfl (lv_at hl 1 rfl) ?_
  refine lw_ld (k := 1) C hX hbl (Nat.not_le.mpr hbl) hL hi hl hS dw_1341 dw_1342 dw_1343 dw_1344 dw_1345 (by decide) (by omega) ?_
  refine lw_ld (k := 2) C hX hbl (Nat.not_le.mpr hbl) hL hi hl hS dw_1346 dw_1347 dw_1348 dw_1349 dw_1350 (by decide) (by omega) ?_
  refine lw_ld (k := 3) C hX hbl (Nat.not_le.mpr hbl) hL hi hl hS dw_1351 dw_1352 dw_1353 dw_1354 dw_1355 (by decide) (by omega) ?_
  refine L_call (md' := md_Mod_odds) (as := [mR 30 0, mI (xs (i + 1)), mI (xs (i + 2)), mI (xs (i + 3))]) (rest := [mI r]) (σ := σ1) (σ1 := σ2) (r := some (mI r)) (d' := 5) C dw_1356 (ckV (nn := 3) lk_7_185 ok_Mod_odds rfl rfl rfl) (c_Mod_odds (hF := e2)) (Nat.le_of_ble_eq_true rfl) ⟨by show 5 + 1 ≤ 2048; decide, by show 8 + (11 + 11) + 64 * 5 ≤ 84000; decide⟩ ⟨by decide, by decide⟩ hl.1 (vaN inM30 [xs (i + 1), xs (i + 2), xs (i + 3)]) hP hD hS (fun H locs hP hD hS => ?_)
  refine W.eq (g2 := F0 m 1359 ls [.int r, .int r]) rfl ?_
  refine lv_icmp_eq (tgt := 1501) C.1 C.2.1 dw_1359 (by decide) (fun _ => ?_) (fun h => absurd rfl h)
  exact kk σ2 H locs h2 hP hD hS
theorem law_42 (h : LwS p l e s m b L xs below meth c D kI kA ad σ i H locs ls) (kk : LwK p l e s m b L xs below meth c D kI kA ad i ls) : W p l e room_1 s m #[Value.ref b] below meth c H locs 200 20000 (lw_Z below #[Value.ref b] s) (F0 m 1364 ls []) := by
  obtain ⟨C, hX, hbl, hr, hlk, hL, hi, hR, hP, hD, hS, hl⟩ := id h
  obtain ⟨r, σ1, σ2, e1, e2, h2⟩ := op_lots (n := 5000) (xs (i + 1)) (by decide) hR
  refine lv_aload_n C.1 C.2.1 dw_1364 rfl (lv_at hl 2 rfl) ?_
  refine lw_ld (k := 1) C hX hbl (Nat.not_le.mpr hbl) hL hi hl hS dw_1365 dw_1366 dw_1367 dw_1368 dw_1369 (by decide) (by omega) ?_
  refine L_call (md' := md_Tent_lots) (as := [mR 0 0, mI (xs (i + 1))]) (rest := []) (σ := σ) (σ1 := σ1) (r := some (mI r)) (d' := 5) C dw_1370 (ckV (nn := 1) lk_7_186 ok_Tent_lots rfl rfl rfl) (c_Tent_lots (hF := e1)) (Nat.le_of_ble_eq_true rfl) ⟨by show 5 + 1 ≤ 2048; decide, by show 8 + (2 + 11) + 64 * 5 ≤ 84000; decide⟩ ⟨by decide, by decide⟩ hl.1 (vaN inM0 [xs (i + 1)]) hP hD hS (fun H locs hP hD hS => ?_)
  refine W.eq (g2 := F0 m 1373 ls [.int r]) rfl ?_
  refine lv_aload_n C.1 C.2.1 dw_1373 rfl (lv_at hl 1 rfl) ?_
  refine lw_ld (k := 1) C hX hbl (Nat.not_le.mpr hbl) hL hi hl hS dw_1374 dw_1375 dw_1376 dw_1377 dw_1378 (by decide) (by omega) ?_
  refine L_call (md' := md_Mod_lots) (as := [mR 30 0, mI (xs (i + 1))]) (rest := [mI r]) (σ := σ1) (σ1 := σ2) (r := some (mI r)) (d' := 7) C dw_1379 (ckV (nn := 1) lk_7_189 ok_Mod_lots rfl rfl rfl) (c_Mod_lots (hF := e2)) (Nat.le_of_ble_eq_true rfl) ⟨by show 7 + 1 ≤ 2048; decide, by show 8 + (8 + 11) + 64 * 7 ≤ 84000; decide⟩ ⟨by decide, by decide⟩ hl.1 (vaN inM30 [xs (i + 1)]) hP hD hS (fun H locs hP hD hS => ?_)
  refine W.eq (g2 := F0 m 1382 ls [.int r, .int r]) rfl ?_
  refine lv_icmp_eq (tgt := 1501) C.1 C.2.1 dw_1382 (by decide) (fun _ => ?_) (fun h => absurd rfl h)
  exact kk σ2 H locs h2 hP hD hS
theorem law_43 (h : LwS p l e s m b L xs below meth c D kI kA ad σ i H locs ls) (kk : LwK p l e s m b L xs below meth c D kI kA ad i ls) : W p l e room_1 s m #[Value.ref b] below meth c H locs 200 20000 (lw_Z below #[Value.ref b] s) (F0 m 1387 ls []) := by
  obtain ⟨C, hX, hbl, hr, hlk, hL, hi, hR, hP, hD, hS, hl⟩ := id h
  obtain ⟨r, e1, e2⟩ := op_asked    hR
  refine lv_aload_n C.1 C.2.1 dw_1387 rfl (lv_at hl 2 rfl) ?_
  refine L_call (md' := md_Tent_asked) (as := [mR 0 0]) (rest := []) (σ := σ) (σ1 := σ) (r := some (mI r)) (d' := 0) C dw_1388 (ckV (nn := 0) lk_7_190 ok_Tent_asked rfl rfl rfl) (c_Tent_asked (hF := e1)) (Nat.le_of_ble_eq_true rfl) ⟨by show 0 + 1 ≤ 2048; decide, by show 8 + (1 + 11) + 64 * 0 ≤ 84000; decide⟩ ⟨by decide, by decide⟩ hl.1 (vaN inM0 []) hP hD hS (fun H locs hP hD hS => ?_)
  refine W.eq (g2 := F0 m 1391 ls [.int r]) rfl ?_
  refine lv_aload_n C.1 C.2.1 dw_1391 rfl (lv_at hl 1 rfl) ?_
  refine L_call (md' := md_Mod_asked) (as := [mR 30 0]) (rest := [mI r]) (σ := σ) (σ1 := σ) (r := some (mI r)) (d' := 0) C dw_1392 (ckV (nn := 0) lk_7_193 ok_Mod_asked rfl rfl rfl) (c_Mod_asked (hF := e2)) (Nat.le_of_ble_eq_true rfl) ⟨by show 0 + 1 ≤ 2048; decide, by show 8 + (1 + 11) + 64 * 0 ≤ 84000; decide⟩ ⟨by decide, by decide⟩ hl.1 (vaN inM30 []) hP hD hS (fun H locs hP hD hS => ?_)
  refine W.eq (g2 := F0 m 1395 ls [.int r, .int r]) rfl ?_
  refine lv_icmp_eq (tgt := 1501) C.1 C.2.1 dw_1395 (by decide) (fun _ => ?_) (fun h => absurd rfl h)
  exact kk σ H locs hR hP hD hS
theorem law_44 (h : LwS p l e s m b L xs below meth c D kI kA ad σ i H locs ls) (kk : LwK p l e s m b L xs below meth c D kI kA ad i ls) : W p l e room_1 s m #[Value.ref b] below meth c H locs 200 20000 (lw_Z below #[Value.ref b] s) (F0 m 1400 ls []) := by
  obtain ⟨C, hX, hbl, hr, hlk, hL, hi, hR, hP, hD, hS, hl⟩ := id h
  obtain ⟨r, e1, e2⟩ := op_upper    hR
  refine lv_aload_n C.1 C.2.1 dw_1400 rfl (lv_at hl 2 rfl) ?_
  refine L_call (md' := md_Tent_upper) (as := [mR 0 0]) (rest := []) (σ := σ) (σ1 := σ) (r := some (mL r)) (d' := 0) C dw_1401 (ckV (nn := 0) lk_7_194 ok_Tent_upper rfl rfl rfl) (c_Tent_upper (hF := e1)) (Nat.le_of_ble_eq_true rfl) ⟨by show 0 + 1 ≤ 2048; decide, by show 8 + (1 + 11) + 64 * 0 ≤ 84000; decide⟩ ⟨by decide, by decide⟩ hl.1 (vaN inM0 []) hP hD hS (fun H locs hP hD hS => ?_)
  refine W.eq (g2 := F0 m 1404 ls [.long r]) rfl ?_
  refine lv_aload_n C.1 C.2.1 dw_1404 rfl (lv_at hl 1 rfl) ?_
  refine L_call (md' := md_Mod_upper) (as := [mR 30 0]) (rest := [mL r]) (σ := σ) (σ1 := σ) (r := some (mL r)) (d' := 0) C dw_1405 (ckV (nn := 0) lk_7_198 ok_Mod_upper rfl rfl rfl) (c_Mod_upper (hF := e2)) (Nat.le_of_ble_eq_true rfl) ⟨by show 0 + 1 ≤ 2048; decide, by show 8 + (1 + 11) + 64 * 0 ≤ 84000; decide⟩ ⟨by decide, by decide⟩ hl.1 (vaN inM30 []) hP hD hS (fun H locs hP hD hS => ?_)
  refine W.eq (g2 := F0 m 1408 ls [.long r, .long r]) rfl ?_
  refine W.lcmp C.1 C.2.1 dw_1408 ?_
  refine lv_if_eq (tgt := 1501) C.1 C.2.1 dw_1409 (by decide) (fun _ => ?_) (fun h => absurd (cmp_same r) h)
  exact kk σ H locs hR hP hD hS
theorem law_45 (h : LwS p l e s m b L xs below meth c D kI kA ad σ i H locs ls) (kk : LwK p l e s m b L xs below meth c D kI kA ad i ls) : W p l e room_1 s m #[Value.ref b] below meth c H locs 200 20000 (lw_Z below #[Value.ref b] s) (F0 m 1414 ls []) := by
  obtain ⟨C, hX, hbl, hr, hlk, hL, hi, hR, hP, hD, hS, hl⟩ := id h
  obtain ⟨r, e1, e2⟩ := op_lower    hR
  refine lv_aload_n C.1 C.2.1 dw_1414 rfl (lv_at hl 2 rfl) ?_
  refine L_call (md' := md_Tent_lower) (as := [mR 0 0]) (rest := []) (σ := σ) (σ1 := σ) (r := some (mL r)) (d' := 0) C dw_1415 (ckV (nn := 0) lk_7_199 ok_Tent_lower rfl rfl rfl) (c_Tent_lower (hF := e1)) (Nat.le_of_ble_eq_true rfl) ⟨by show 0 + 1 ≤ 2048; decide, by show 8 + (1 + 11) + 64 * 0 ≤ 84000; decide⟩ ⟨by decide, by decide⟩ hl.1 (vaN inM0 []) hP hD hS (fun H locs hP hD hS => ?_)
  refine W.eq (g2 := F0 m 1418 ls [.long r]) rfl ?_
  refine lv_aload_n C.1 C.2.1 dw_1418 rfl (lv_at hl 1 rfl) ?_
  refine L_call (md' := md_Mod_lower) (as := [mR 30 0]) (rest := [mL r]) (σ := σ) (σ1 := σ) (r := some (mL r)) (d' := 0) C dw_1419 (ckV (nn := 0) lk_7_202 ok_Mod_lower rfl rfl rfl) (c_Mod_lower (hF := e2)) (Nat.le_of_ble_eq_true rfl) ⟨by show 0 + 1 ≤ 2048; decide, by show 8 + (1 + 11) + 64 * 0 ≤ 84000; decide⟩ ⟨by decide, by decide⟩ hl.1 (vaN inM30 []) hP hD hS (fun H locs hP hD hS => ?_)
  refine W.eq (g2 := F0 m 1422 ls [.long r, .long r]) rfl ?_
  refine W.lcmp C.1 C.2.1 dw_1422 ?_
  refine lv_if_eq (tgt := 1501) C.1 C.2.1 dw_1423 (by decide) (fun _ => ?_) (fun h => absurd (cmp_same r) h)
  exact kk σ H locs hR hP hD hS
theorem law_46 (h : LwS p l e s m b L xs below meth c D kI kA ad σ i H locs ls) (kk : LwK p l e s m b L xs below meth c D kI kA ad i ls) : W p l e room_1 s m #[Value.ref b] below meth c H locs 200 20000 (lw_Z below #[Value.ref b] s) (F0 m 1428 ls []) := by
  obtain ⟨C, hX, hbl, hr, hlk, hL, hi, hR, hP, hD, hS, hl⟩ := id h
  obtain ⟨r, e1, e2⟩ := op_count (n := 5000) (xs (i + 1)) (by decide) hR
  refine lv_aload_n C.1 C.2.1 dw_1428 rfl (lv_at hl 2 rfl) ?_
  refine lw_ld (k := 1) C hX hbl (Nat.not_le.mpr hbl) hL hi hl hS dw_1429 dw_1430 dw_1431 dw_1432 dw_1433 (by decide) (by omega) ?_
  refine L_call (md' := md_Tent_count) (as := [mR 0 0, mI (xs (i + 1))]) (rest := []) (σ := σ) (σ1 := σ) (r := some (mI r)) (d' := 4) C dw_1434 (ckV (nn := 1) lk_7_203 ok_Tent_count rfl rfl rfl) (c_Tent_count (hF := e1)) (Nat.le_of_ble_eq_true rfl) ⟨by show 4 + 1 ≤ 2048; decide, by show 8 + (2 + 11) + 64 * 4 ≤ 84000; decide⟩ ⟨by decide, by decide⟩ hl.1 (vaN inM0 [xs (i + 1)]) hP hD hS (fun H locs hP hD hS => ?_)
  refine W.eq (g2 := F0 m 1437 ls [.int r]) rfl ?_
  refine lv_aload_n C.1 C.2.1 dw_1437 rfl (lv_at hl 1 rfl) ?_
  refine lw_ld (k := 1) C hX hbl (Nat.not_le.mpr hbl) hL hi hl hS dw_1438 dw_1439 dw_1440 dw_1441 dw_1442 (by decide) (by omega) ?_
  refine L_call (md' := md_Mod_count) (as := [mR 30 0, mI (xs (i + 1))]) (rest := [mI r]) (σ := σ) (σ1 := σ) (r := some (mI r)) (d' := 3) C dw_1443 (ckV (nn := 1) lk_7_206 ok_Mod_count rfl rfl rfl) (c_Mod_count (hF := e2)) (Nat.le_of_ble_eq_true rfl) ⟨by show 3 + 1 ≤ 2048; decide, by show 8 + (2 + 11) + 64 * 3 ≤ 84000; decide⟩ ⟨by decide, by decide⟩ hl.1 (vaN inM30 [xs (i + 1)]) hP hD hS (fun H locs hP hD hS => ?_)
  refine W.eq (g2 := F0 m 1446 ls [.int r, .int r]) rfl ?_
  refine lv_icmp_eq (tgt := 1501) C.1 C.2.1 dw_1446 (by decide) (fun _ => ?_) (fun h => absurd rfl h)
  exact kk σ H locs hR hP hD hS
theorem law_47 (h : LwS p l e s m b L xs below meth c D kI kA ad σ i H locs ls) (kk : LwK p l e s m b L xs below meth c D kI kA ad i ls) : W p l e room_1 s m #[Value.ref b] below meth c H locs 200 20000 (lw_Z below #[Value.ref b] s) (F0 m 1451 ls []) := by
  obtain ⟨C, hX, hbl, hr, hlk, hL, hi, hR, hP, hD, hS, hl⟩ := id h
  obtain ⟨r, e1, e2⟩ := op_finding    hR
  refine lv_aload_n C.1 C.2.1 dw_1451 rfl (lv_at hl 2 rfl) ?_
  refine L_call (md' := md_Tent_finding) (as := [mR 0 0]) (rest := []) (σ := σ) (σ1 := σ) (r := some (mI r)) (d' := 0) C dw_1452 (ckV (nn := 0) lk_7_207 ok_Tent_finding rfl rfl rfl) (c_Tent_finding (hF := e1)) (Nat.le_of_ble_eq_true rfl) ⟨by show 0 + 1 ≤ 2048; decide, by show 8 + (1 + 11) + 64 * 0 ≤ 84000; decide⟩ ⟨by decide, by decide⟩ hl.1 (vaN inM0 []) hP hD hS (fun H locs hP hD hS => ?_)
  refine W.eq (g2 := F0 m 1455 ls [.int r]) rfl ?_
  refine lv_aload_n C.1 C.2.1 dw_1455 rfl (lv_at hl 1 rfl) ?_
  refine L_call (md' := md_Mod_finding) (as := [mR 30 0]) (rest := [mI r]) (σ := σ) (σ1 := σ) (r := some (mI r)) (d' := 0) C dw_1456 (ckV (nn := 0) lk_7_210 ok_Mod_finding rfl rfl rfl) (c_Mod_finding (hF := e2)) (Nat.le_of_ble_eq_true rfl) ⟨by show 0 + 1 ≤ 2048; decide, by show 8 + (1 + 11) + 64 * 0 ≤ 84000; decide⟩ ⟨by decide, by decide⟩ hl.1 (vaN inM30 []) hP hD hS (fun H locs hP hD hS => ?_)
  refine W.eq (g2 := F0 m 1459 ls [.int r, .int r]) rfl ?_
  refine lv_icmp_eq (tgt := 1501) C.1 C.2.1 dw_1459 (by decide) (fun _ => ?_) (fun h => absurd rfl h)
  exact kk σ H locs hR hP hD hS
theorem law_48 (h : LwS p l e s m b L xs below meth c D kI kA ad σ i H locs ls) (kk : LwK p l e s m b L xs below meth c D kI kA ad i ls) : W p l e room_1 s m #[Value.ref b] below meth c H locs 200 20000 (lw_Z below #[Value.ref b] s) (F0 m 1464 ls []) := by
  obtain ⟨C, hX, hbl, hr, hlk, hL, hi, hR, hP, hD, hS, hl⟩ := id h
  obtain ⟨r, e1, e2⟩ := op_findings  (xs (i + 1))  hR
  refine lv_aload_n C.1 C.2.1 dw_1464 rfl (lv_at hl 2 rfl) ?_
  refine lw_ld (k := 1) C hX hbl (Nat.not_le.mpr hbl) hL hi hl hS dw_1465 dw_1466 dw_1467 dw_1468 dw_1469 (by decide) (by omega) ?_
  refine L_call (md' := md_Tent_findings) (as := [mR 0 0, mI (xs (i + 1))]) (rest := []) (σ := σ) (σ1 := σ) (r := some (mI r)) (d' := 0) C dw_1470 (ckV (nn := 1) lk_7_211 ok_Tent_findings rfl rfl rfl) (c_Tent_findings (hF := e1)) (Nat.le_of_ble_eq_true rfl) ⟨by show 0 + 1 ≤ 2048; decide, by show 8 + (2 + 11) + 64 * 0 ≤ 84000; decide⟩ ⟨by decide, by decide⟩ hl.1 (vaN inM0 [xs (i + 1)]) hP hD hS (fun H locs hP hD hS => ?_)
  refine W.eq (g2 := F0 m 1473 ls [.int r]) rfl ?_
  refine lv_aload_n C.1 C.2.1 dw_1473 rfl (lv_at hl 1 rfl) ?_
  refine lw_ld (k := 1) C hX hbl (Nat.not_le.mpr hbl) hL hi hl hS dw_1474 dw_1475 dw_1476 dw_1477 dw_1478 (by decide) (by omega) ?_
  refine L_call (md' := md_Mod_findings) (as := [mR 30 0, mI (xs (i + 1))]) (rest := [mI r]) (σ := σ) (σ1 := σ) (r := some (mI r)) (d' := 1) C dw_1479 (ckV (nn := 1) lk_7_214 ok_Mod_findings rfl rfl rfl) (c_Mod_findings (hF := e2)) (Nat.le_of_ble_eq_true rfl) ⟨by show 1 + 1 ≤ 2048; decide, by show 8 + (2 + 11) + 64 * 1 ≤ 84000; decide⟩ ⟨by decide, by decide⟩ hl.1 (vaN inM30 [xs (i + 1)]) hP hD hS (fun H locs hP hD hS => ?_)
  refine W.eq (g2 := F0 m 1482 ls [.int r, .int r]) rfl ?_
  refine lv_icmp_eq (tgt := 1501) C.1 C.2.1 dw_1482 (by decide) (fun _ => ?_) (fun h => absurd rfl h)
  exact kk σ H locs hR hP hD hS
theorem law_49 (h : LwS p l e s m b L xs below meth c D kI kA ad σ i H locs ls) (kk : LwK p l e s m b L xs below meth c D kI kA ad i ls) : W p l e room_1 s m #[Value.ref b] below meth c H locs 200 20000 (lw_Z below #[Value.ref b] s) (F0 m 1487 ls []) := by
  obtain ⟨C, hX, hbl, hr, hlk, hL, hi, hR, hP, hD, hS, hl⟩ := id h
  obtain ⟨r, σ2, e1, e2, h2⟩ := op_digest (n := 5000)  (by decide) hR
  refine lv_aload_n C.1 C.2.1 dw_1487 rfl (lv_at hl 2 rfl) ?_
  refine L_call (md' := md_Tent_digest) (as := [mR 0 0]) (rest := []) (σ := σ) (σ1 := σ) (r := some (mL r)) (d' := 5) C dw_1488 (ckV (nn := 0) lk_7_215 ok_Tent_digest rfl rfl rfl) (c_Tent_digest (hF := e1)) (Nat.le_of_ble_eq_true rfl) ⟨by show 5 + 1 ≤ 2048; decide, by show 8 + (5 + 11) + 64 * 5 ≤ 84000; decide⟩ ⟨by decide, by decide⟩ hl.1 (vaN inM0 []) hP hD hS (fun H locs hP hD hS => ?_)
  refine W.eq (g2 := F0 m 1491 ls [.long r]) rfl ?_
  refine lv_aload_n C.1 C.2.1 dw_1491 rfl (lv_at hl 1 rfl) ?_
  refine L_call (md' := md_Mod_digest) (as := [mR 30 0]) (rest := [mL r]) (σ := σ) (σ1 := σ2) (r := some (mL r)) (d' := 3) C dw_1492 (ckV (nn := 0) lk_7_218 ok_Mod_digest rfl rfl rfl) (c_Mod_digest (hF := e2)) (Nat.le_of_ble_eq_true rfl) ⟨by show 3 + 1 ≤ 2048; decide, by show 8 + (5 + 11) + 64 * 3 ≤ 84000; decide⟩ ⟨by decide, by decide⟩ hl.1 (vaN inM30 []) hP hD hS (fun H locs hP hD hS => ?_)
  refine W.eq (g2 := F0 m 1495 ls [.long r, .long r]) rfl ?_
  refine W.lcmp C.1 C.2.1 dw_1495 ?_
  refine lv_if_eq (tgt := 1501) C.1 C.2.1 dw_1496 (by decide) (fun _ => ?_) (fun h => absurd (cmp_same r) h)
  exact kk σ2 H locs h2 hP hD hS
end LAW
