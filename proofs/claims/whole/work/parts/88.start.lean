theorem lw_in1 {i : Nat} {w : Cond} (h : tables_1_1[i]? = some w) : w ∈ lw_tbl := by
  show w ∈ k2_sels lw_privs ++ tables_1
  unfold tables_1
  simp only [List.mem_append]
  have := List.mem_of_getElem? h
  simp only [this, true_or, or_true]
theorem lw_in2 {i : Nat} {w : Cond} (h : tables_1_2[i]? = some w) : w ∈ lw_tbl := by
  show w ∈ k2_sels lw_privs ++ tables_1
  unfold tables_1
  simp only [List.mem_append]
  have := List.mem_of_getElem? h
  simp only [this, true_or, or_true]
theorem lw_in3 {i : Nat} {w : Cond} (h : tables_1_3[i]? = some w) : w ∈ lw_tbl := by
  show w ∈ k2_sels lw_privs ++ tables_1
  unfold tables_1
  simp only [List.mem_append]
  have := List.mem_of_getElem? h
  simp only [this, true_or, or_true]
theorem lw_in4 {i : Nat} {w : Cond} (h : tables_1_4[i]? = some w) : w ∈ lw_tbl := by
  show w ∈ k2_sels lw_privs ++ tables_1
  unfold tables_1
  simp only [List.mem_append]
  have := List.mem_of_getElem? h
  simp only [this, true_or, or_true]
theorem lw_in5 {i : Nat} {w : Cond} (h : tables_1_5[i]? = some w) : w ∈ lw_tbl := by
  show w ∈ k2_sels lw_privs ++ tables_1
  unfold tables_1
  simp only [List.mem_append]
  have := List.mem_of_getElem? h
  simp only [this, true_or, or_true]
theorem lw_in6 {i : Nat} {w : Cond} (h : tables_1_6[i]? = some w) : w ∈ lw_tbl := by
  show w ∈ k2_sels lw_privs ++ tables_1
  unfold tables_1
  simp only [List.mem_append]
  have := List.mem_of_getElem? h
  simp only [this, true_or, or_true]
set_option maxRecDepth 100000 in
theorem in_nwR : nwR ∈ lw_tbl := lw_in1 (i := 115) rfl
set_option maxRecDepth 100000 in
theorem in_nwO : nwO ∈ lw_tbl := lw_in1 (i := 137) rfl
set_option maxRecDepth 100000 in
theorem in_nwP : nwP ∈ lw_tbl := lw_in1 (i := 151) rfl
set_option maxRecDepth 100000 in
theorem in_nwM : nwM ∈ lw_tbl := lw_in3 (i := 181) rfl
set_option maxRecDepth 100000 in
theorem in_nwF : nwF ∈ lw_tbl := lw_in1 (i := 30) rfl
set_option maxRecDepth 100000 in
theorem in_AO : Cond.arrayOver (.object "TentMiddle$Camp") ∈ lw_tbl := lw_in1 (i := 112) rfl
section LAW
variable {p : Program} {l : Launch} {e : Env} {s : State} {m : MethodId} {b L : Nat} {xs : Nat → Int32} {below : List Frame} {meth : Method} {c : Code} {D : va_G} {kI kA : ClassId} {ad : CI → Nat} {σ : St} {i : Nat} {H : Heap} {locs : List Loc} {ls : Array Slot}
theorem law_sw (h : LwS p l e s m b L xs below meth c D kI kA ad σ i H locs ls) (kk : LwK p l e s m b L xs below meth c D kI kA ad i ls) (k : Nat) (hk : k < 64) : W p l e room_1 s m #[Value.ref b] below meth c H locs 200 20000 (lw_Z below #[Value.ref b] s) (F0 m 33 ls [.int (nI k)]) := by
  by_cases h50 : k < 50
  · match k, h50 with
    | 0, _ => exact lv_tableIn (tgt := 248) h.1.1 h.1.2.1 dw_33 (by decide) (by decide) rfl (by decide) (law_0 h kk)
    | 1, _ => exact lv_tableIn (tgt := 281) h.1.1 h.1.2.1 dw_33 (by decide) (by decide) rfl (by decide) (law_1 h kk)
    | 2, _ => exact lv_tableIn (tgt := 324) h.1.1 h.1.2.1 dw_33 (by decide) (by decide) rfl (by decide) (law_2 h kk)
    | 3, _ => exact lv_tableIn (tgt := 357) h.1.1 h.1.2.1 dw_33 (by decide) (by decide) rfl (by decide) (law_3 h kk)
    | 4, _ => exact lv_tableIn (tgt := 380) h.1.1 h.1.2.1 dw_33 (by decide) (by decide) rfl (by decide) (law_4 h kk)
    | 5, _ => exact lv_tableIn (tgt := 443) h.1.1 h.1.2.1 dw_33 (by decide) (by decide) rfl (by decide) (law_5 h kk)
    | 6, _ => exact lv_tableIn (tgt := 466) h.1.1 h.1.2.1 dw_33 (by decide) (by decide) rfl (by decide) (law_6 h kk)
    | 7, _ => exact lv_tableIn (tgt := 499) h.1.1 h.1.2.1 dw_33 (by decide) (by decide) rfl (by decide) (law_7 h kk)
    | 8, _ => exact lv_tableIn (tgt := 542) h.1.1 h.1.2.1 dw_33 (by decide) (by decide) rfl (by decide) (law_8 h kk)
    | 9, _ => exact lv_tableIn (tgt := 565) h.1.1 h.1.2.1 dw_33 (by decide) (by decide) rfl (by decide) (law_9 h kk)
    | 10, _ => exact lv_tableIn (tgt := 588) h.1.1 h.1.2.1 dw_33 (by decide) (by decide) rfl (by decide) (law_10 h kk)
    | 11, _ => exact lv_tableIn (tgt := 621) h.1.1 h.1.2.1 dw_33 (by decide) (by decide) rfl (by decide) (law_11 h kk)
    | 12, _ => exact lv_tableIn (tgt := 654) h.1.1 h.1.2.1 dw_33 (by decide) (by decide) rfl (by decide) (law_12 h kk)
    | 13, _ => exact lv_tableIn (tgt := 677) h.1.1 h.1.2.1 dw_33 (by decide) (by decide) rfl (by decide) (law_13 h kk)
    | 14, _ => exact lv_tableIn (tgt := 700) h.1.1 h.1.2.1 dw_33 (by decide) (by decide) rfl (by decide) (law_14 h kk)
    | 15, _ => exact lv_tableIn (tgt := 723) h.1.1 h.1.2.1 dw_33 (by decide) (by decide) rfl (by decide) (law_15 h kk)
    | 16, _ => exact lv_tableIn (tgt := 756) h.1.1 h.1.2.1 dw_33 (by decide) (by decide) rfl (by decide) (law_16 h kk)
    | 17, _ => exact lv_tableIn (tgt := 789) h.1.1 h.1.2.1 dw_33 (by decide) (by decide) rfl (by decide) (law_17 h kk)
    | 18, _ => exact lv_tableIn (tgt := 812) h.1.1 h.1.2.1 dw_33 (by decide) (by decide) rfl (by decide) (law_18 h kk)
    | 19, _ => exact lv_tableIn (tgt := 825) h.1.1 h.1.2.1 dw_33 (by decide) (by decide) rfl (by decide) (law_19 h kk)
    | 20, _ => exact lv_tableIn (tgt := 838) h.1.1 h.1.2.1 dw_33 (by decide) (by decide) rfl (by decide) (law_20 h kk)
    | 21, _ => exact lv_tableIn (tgt := 861) h.1.1 h.1.2.1 dw_33 (by decide) (by decide) rfl (by decide) (law_21 h kk)
    | 22, _ => exact lv_tableIn (tgt := 874) h.1.1 h.1.2.1 dw_33 (by decide) (by decide) rfl (by decide) (law_22 h kk)
    | 23, _ => exact lv_tableIn (tgt := 897) h.1.1 h.1.2.1 dw_33 (by decide) (by decide) rfl (by decide) (law_23 h kk)
    | 24, _ => exact lv_tableIn (tgt := 920) h.1.1 h.1.2.1 dw_33 (by decide) (by decide) rfl (by decide) (law_24 h kk)
    | 25, _ => exact lv_tableIn (tgt := 953) h.1.1 h.1.2.1 dw_33 (by decide) (by decide) rfl (by decide) (law_25 h kk)
    | 26, _ => exact lv_tableIn (tgt := 986) h.1.1 h.1.2.1 dw_33 (by decide) (by decide) rfl (by decide) (law_26 h kk)
    | 27, _ => exact lv_tableIn (tgt := 1009) h.1.1 h.1.2.1 dw_33 (by decide) (by decide) rfl (by decide) (law_27 h kk)
    | 28, _ => exact lv_tableIn (tgt := 1032) h.1.1 h.1.2.1 dw_33 (by decide) (by decide) rfl (by decide) (law_28 h kk)
    | 29, _ => exact lv_tableIn (tgt := 1045) h.1.1 h.1.2.1 dw_33 (by decide) (by decide) rfl (by decide) (law_29 h kk)
    | 30, _ => exact lv_tableIn (tgt := 1068) h.1.1 h.1.2.1 dw_33 (by decide) (by decide) rfl (by decide) (law_30 h kk)
    | 31, _ => exact lv_tableIn (tgt := 1081) h.1.1 h.1.2.1 dw_33 (by decide) (by decide) rfl (by decide) (law_31 h kk)
    | 32, _ => exact lv_tableIn (tgt := 1104) h.1.1 h.1.2.1 dw_33 (by decide) (by decide) rfl (by decide) (law_32 h kk)
    | 33, _ => exact lv_tableIn (tgt := 1127) h.1.1 h.1.2.1 dw_33 (by decide) (by decide) rfl (by decide) (law_33 h kk)
    | 34, _ => exact lv_tableIn (tgt := 1140) h.1.1 h.1.2.1 dw_33 (by decide) (by decide) rfl (by decide) (law_34 h kk)
    | 35, _ => exact lv_tableIn (tgt := 1153) h.1.1 h.1.2.1 dw_33 (by decide) (by decide) rfl (by decide) (law_35 h kk)
    | 36, _ => exact lv_tableIn (tgt := 1176) h.1.1 h.1.2.1 dw_33 (by decide) (by decide) rfl (by decide) (law_36 h kk)
    | 37, _ => exact lv_tableIn (tgt := 1209) h.1.1 h.1.2.1 dw_33 (by decide) (by decide) rfl (by decide) (law_37 h kk)
    | 38, _ => exact lv_tableIn (tgt := 1242) h.1.1 h.1.2.1 dw_33 (by decide) (by decide) rfl (by decide) (law_38 h kk)
    | 39, _ => exact lv_tableIn (tgt := 1265) h.1.1 h.1.2.1 dw_33 (by decide) (by decide) rfl (by decide) (law_39 h kk)
    | 40, _ => exact lv_tableIn (tgt := 1288) h.1.1 h.1.2.1 dw_33 (by decide) (by decide) rfl (by decide) (law_40 h kk)
    | 41, _ => exact lv_tableIn (tgt := 1321) h.1.1 h.1.2.1 dw_33 (by decide) (by decide) rfl (by decide) (law_41 h kk)
    | 42, _ => exact lv_tableIn (tgt := 1364) h.1.1 h.1.2.1 dw_33 (by decide) (by decide) rfl (by decide) (law_42 h kk)
    | 43, _ => exact lv_tableIn (tgt := 1387) h.1.1 h.1.2.1 dw_33 (by decide) (by decide) rfl (by decide) (law_43 h kk)
    | 44, _ => exact lv_tableIn (tgt := 1400) h.1.1 h.1.2.1 dw_33 (by decide) (by decide) rfl (by decide) (law_44 h kk)
    | 45, _ => exact lv_tableIn (tgt := 1414) h.1.1 h.1.2.1 dw_33 (by decide) (by decide) rfl (by decide) (law_45 h kk)
    | 46, _ => exact lv_tableIn (tgt := 1428) h.1.1 h.1.2.1 dw_33 (by decide) (by decide) rfl (by decide) (law_46 h kk)
    | 47, _ => exact lv_tableIn (tgt := 1451) h.1.1 h.1.2.1 dw_33 (by decide) (by decide) rfl (by decide) (law_47 h kk)
    | 48, _ => exact lv_tableIn (tgt := 1464) h.1.1 h.1.2.1 dw_33 (by decide) (by decide) rfl (by decide) (law_48 h kk)
    | 49, _ => exact lv_tableIn (tgt := 1487) h.1.1 h.1.2.1 dw_33 (by decide) (by decide) rfl (by decide) (law_49 h kk)
    | k + 50, h5 => exact absurd h5 (by omega)
  · obtain ⟨C, hX, hbl, hr, hlk, hL, hi, hR, hP, hD, hS, hl⟩ := id h
    exact lv_tableOut (tgt := 1501) C.1 C.2.1 dw_33 (Or.inr (by rw [nI_toInt (by omega)]; omega)) (by decide) (kk σ H locs hR hP hD hS)
theorem and63 (a : Int32) : ∃ k, k < 64 ∧ a &&& 63 = nI k := by
  refine ⟨(a &&& 63).toBitVec.toNat, ?_, ?_⟩
  · have : (a &&& 63).toBitVec = a.toBitVec &&& 63#32 := rfl
    rw [this, BitVec.toNat_and]
    exact Nat.lt_of_le_of_lt Nat.and_le_right (by decide)
  · apply Int32.toBitVec_inj.mp
    show _ = BitVec.ofNat 32 _
    rw [BitVec.ofNat_toNat, BitVec.setWidth_eq]
theorem law_step (C : Cx p s m #[Value.ref b] c D kI kA (fun q => s.heap.size ≤ q) "TentMiddleLaw" code 4) (hX : va_X b L xs s s.heap) (hbl : b < s.heap.size) (hr : meth.sig.returnType = ret) (hlk : meth.locks = false) (hL : L ≤ 384) (hi0 : i ≤ 390) (hR : RR σ) (hP : va_P D mcl (wsO ad kI kA σ) H) (hD : va_D (fun q => s.heap.size ≤ q) (wsO ad kI kA σ)) (hS : va_S (fun q => s.heap.size ≤ q) s.heap H locs) (hl : lv_has ls 4 [(3, .int (nI i)), (2, .ref (ad (.inl (30, 0)))), (1, .ref (ad (.inl (0, 0)))), (0, .ref b)])
    (kk : i + 6 ≤ L → ∀ (σ : St) (H : Heap) (locs : List Loc) (ls : Array Slot), RR σ → va_P D mcl (wsO ad kI kA σ) H → va_D (fun q => s.heap.size ≤ q) (wsO ad kI kA σ) → va_S (fun q => s.heap.size ≤ q) s.heap H locs → lv_has ls 4 [(3, .int (nI (i + 6))), (2, .ref (ad (.inl (30, 0)))), (1, .ref (ad (.inl (0, 0)))), (0, .ref b)] → W p l e room_1 s m #[Value.ref b] below meth c H locs 200 20000 (lw_Z below #[Value.ref b] s) (F0 m 18 ls [])) : W p l e room_1 s m #[Value.ref b] below meth c H locs 200 20000 (lw_Z below #[Value.ref b] s) (F0 m 18 ls []) := by
  have hx := C.1
  have hb := C.2.1
  refine lv_iload_n hx hb dw_18 rfl (lv_at hl 0 rfl) ?_
  refine lv_aload_n hx hb dw_19 rfl (lv_at hl 3 rfl) ?_
  refine va_slen hx hb hX hbl (Nat.not_le.mpr hbl) hS dw_20 ?_
  refine lv_bipush (v := 6) hx hb dw_21 (by decide) ?_
  refine lv_isub hx hb dw_23 ?_
  have e6 : (Int32.ofNat L - 6).toInt = (L : Int) - 6 := by
    rw [Int32.toInt_sub, show Int32.ofNat L = nI L from rfl, nI_toInt (by omega), show (6 : Int32).toInt = 6 by decide, Int.bmod_def]
    split <;> omega
  refine lv_icmp_gt (tgt := 1507) hx hb dw_24 (by decide) (fun h => ?_) (fun h => ?_)
  · refine va_forget hS.2.2 ?_
    refine lv_iconst (v := 1) hx hb dw_1507 (by decide) ?_
    refine W.widen (k := 600000) (n := 7302250) (by decide) (by decide) ?_
    exact lw_ret hx hb hr hlk dw_1508
  · have hi6 : i + 6 ≤ L := by
      rw [i32_lt, e6, nI_toInt (by omega)] at h
      omega
    refine lv_aload_n hx hb dw_27 rfl (lv_at hl 3 rfl) ?_
    refine lv_iload_n hx hb dw_28 rfl (lv_at hl 0 rfl) ?_
    refine va_sld hx hb hX hbl (Nat.not_le.mpr hbl) hS (vp_in_iff.mpr (by rw [nI_toInt (by omega)]; omega)) dw_29 ?_
    refine lv_bipush (v := 63) hx hb dw_30 (by decide) ?_
    refine lv_iand hx hb dw_32 ?_
    obtain ⟨k, hk, ek⟩ := and63 (xs (nI i).toNatClampNeg)
    rw [ek]
    refine law_sw (i := i) ⟨C, hX, hbl, hr, hlk, hL, hi6, hR, hP, hD, hS, hl⟩ (fun σ' H' locs' hR' hP' hD' hS' => ?_) k hk
    refine lv_iinc (nL := 4) (k := 0) (v := nI (i + 6)) hx hb dw_1501 hl rfl ?_ (by decide) rfl (fun ls' hl' => ?_)
    · rw [show Int32.ofInt 6 = nI 6 by decide, nI_add]
    · refine lv_goto (tgt := 18) hx hb dw_1504 (by decide) ?_
      exact kk hi6 σ' H' locs' ls' hR' hP' hD' hS' (lv_sub hl' [0, 1, 2, 3] rfl)
theorem law_loop (C : Cx p s m #[Value.ref b] c D kI kA (fun q => s.heap.size ≤ q) "TentMiddleLaw" code 4) (hX : va_X b L xs s s.heap) (hbl : b < s.heap.size) (hr : meth.sig.returnType = ret) (hlk : meth.locks = false) (hL : L ≤ 384) : ∀ (k i : Nat) (σ : St) (H : Heap) (locs : List Loc) (ls : Array Slot), L + 1 ≤ 6 * k + i → i ≤ 390 → RR σ → va_P D mcl (wsO ad kI kA σ) H → va_D (fun q => s.heap.size ≤ q) (wsO ad kI kA σ) → va_S (fun q => s.heap.size ≤ q) s.heap H locs → lv_has ls 4 [(3, .int (nI i)), (2, .ref (ad (.inl (30, 0)))), (1, .ref (ad (.inl (0, 0)))), (0, .ref b)] → W p l e room_1 s m #[Value.ref b] below meth c H locs 200 20000 (lw_Z below #[Value.ref b] s) (F0 m 18 ls []) := by
  intro k
  induction k with
  | zero =>
    intro i σ H locs ls hk hi hR hP hD hS hl
    exact law_step C hX hbl hr hlk hL hi hR hP hD hS hl (fun h6 => by omega)
  | succ k ih =>
    intro i σ H locs ls hk hi hR hP hD hS hl
    exact law_step C hX hbl hr hlk hL hi hR hP hD hS hl (fun h6 σ' H' locs' ls' hR' hP' hD' hS' hl' => ih (i + 6) σ' H' locs' ls' (by omega) (by omega) hR' hP' hD' hS' hl')
end LAW
theorem RR0 : RR σ0 := by
  refine ⟨⟨rfl, fun r hr => ?_⟩, ⟨rfl, fun r hr => ?_⟩, ⟨rfl, rfl, rfl, rfl, fun _ _ => rfl⟩, ⟨0, by omega, rfl, ⟨fun i hi => absurd hi (by omega), fun _ _ => rfl⟩, ⟨rfl, ⟨0, by omega, rfl, rfl, fun _ => rfl, fun h hh => absurd hh (by omega)⟩, ⟨⟨fun i => i, fun i => i, fun i hi => absurd hi (by omega), fun i hi => absurd hi (by omega)⟩, fun i hi => absurd hi (by omega), ⟨rfl, Or.inl rfl⟩, ⟨rfl, 0, rfl, Or.inr ⟨rfl, rfl⟩⟩, ⟨rfl, 0, by omega, rfl⟩, ⟨rfl, 0, by omega, rfl⟩, ⟨rfl, 0, by omega, rfl⟩⟩, fun p hp => absurd hp (by omega)⟩, ⟨rfl, rfl⟩, fun k hk => ?_⟩⟩
  · match r, hr with
    | 0, _ => exact ⟨rfl, Or.inl rfl⟩
    | 1, _ => exact ⟨rfl, Or.inl rfl⟩
    | 2, _ => exact ⟨rfl, Or.inl rfl⟩
    | 3, _ => exact ⟨rfl, Or.inl rfl⟩
    | 4, _ => exact ⟨rfl, Or.inl rfl⟩
    | 5, _ => exact ⟨rfl, Or.inl rfl⟩
    | n + 6, h => exact absurd h (by omega)
  · match r, hr with
    | 0, _ => exact ⟨rfl, Or.inl rfl⟩
    | 1, _ => exact ⟨rfl, Or.inl rfl⟩
    | 2, _ => exact ⟨rfl, Or.inl rfl⟩
    | 3, _ => exact ⟨rfl, Or.inl rfl⟩
    | n + 4, h => exact absurd h (by omega)
  · match k, hk with
    | 0, _ => exact Or.inl ⟨rfl, rfl⟩
    | 1, _ => exact Or.inl ⟨rfl, rfl⟩
    | 2, _ => exact Or.inl ⟨rfl, rfl⟩
    | n + 3, h => exact absurd h (by omega)
def adJ (adC : CI → Nat) (h : Nat) (qs : List Nat) : CI → Nat := fun r => bif Nat.ble 30 (unw r).1 then (match r with
  | .inl _ => h
  | .inr q => qs.getD (q.1 - 31) 0) else adC r
theorem whole_ws {kI kA : ClassId} (adC : CI → Nat) (h q0 q1 q2 q3 q4 q5 q6 q7 q8 q9 q10 q11 q12 q13 q14 : Nat) : wsO (adJ adC h [q0, q1, q2, q3, q4, q5, q6, q7, q8, q9, q10, q11, q12, q13, q14]) kI kA σ0 = TW0 kI kA adC ++ MW0 kI h q0 q1 q2 q3 q4 q5 q6 q7 q8 q9 q10 q11 q12 q13 q14 := by
  have e : mcells = mcC ++ mcM := by decide +kernel
  unfold wsO
  rw [e, List.map_append]
  congr 1
set_option maxHeartbeats 4000000 in
set_option maxRecDepth 100000 in
theorem whole_start {p : Program} {e : Env} {s : State} {m : MethodId} {below : List Frame} {meth : Method} {c : Code} (l : Launch) {b L : Nat} {xs : Nat → Int32} (hL : L ≤ 384) (C0 : lw_At p s m meth c b L xs) : W p l e room_1 s m #[Value.ref b] below meth c s.heap [] 0 0 (lw_Z below #[Value.ref b] s) (entryFrame m ([Value.ref b] : List Value).toArray 4) := by
  obtain ⟨hx, hb, hr, hml, hown, hts, hX, hbl, hlocks, hgv⟩ := id C0
  have hT1 : ∀ w ∈ T1, w.before #[Value.ref b] s = true := fun w hw => hts w (List.mem_filter.mp hw).1
  obtain ⟨c0, i0, K0⟩ := u_known (C := RX0) (T := TX0) (N := 17) hT1 iX0 (hT1 _ in_Camp)
  obtain ⟨c1, i1, K1⟩ := u_known (C := RX1) (T := TX1) (N := 2) hT1 iX1 (hT1 _ in_Orders)
  obtain ⟨c2, i2, K2⟩ := u_known (C := RX2) (T := TX2) (N := 9) hT1 iX2 (hT1 _ in_Plan)
  obtain ⟨c3, i3, K3⟩ := u_known (C := RX3) (T := TX3) (N := 4) hT1 iX3 (hT1 _ in_Reader)
  obtain ⟨c4, i4, K4⟩ := u_known (C := RX4) (T := TX4) (N := 3) hT1 iX4 (hT1 _ in_Shelf)
  obtain ⟨c5, i5, K5⟩ := u_known (C := RX5) (T := TX5) (N := 13) hT1 iX5 (hT1 _ in_Tent)
  obtain ⟨c6, i6, K6⟩ := u_known (C := RX6) (T := TX6) (N := 29) hT1 iX6 (hT1 _ in_Mod)
  obtain ⟨D, hKc⟩ : ∃ D : va_G, ∀ (k : Nat) (q : vw_C), mcl[k]? = some q → u_Kn s q.1 q.2.1 q.2.2 (D.1 k) (D.2 k) := by
    refine ⟨(fun k => [c0, c1, c2, c3, c4, c5, c6].getD k c0, fun k => [i0, i1, i2, i3, i4, i5, i6].getD k i0), ?_⟩
    intro k q hq
    match k, hq with
    | 0, hq => cases hq; exact K0
    | 1, hq => cases hq; exact K1
    | 2, hq => cases hq; exact K2
    | 3, hq => cases hq; exact K3
    | 4, hq => cases hq; exact K4
    | 5, hq => cases hq; exact K5
    | 6, hq => cases hq; exact K6
    | k + 7, hq => cases hq
  obtain ⟨kI, kk1, cmp1, f1, f2, f3⟩ := Cond.arrayClass_spec (hT1 _ hI_int)
  obtain ⟨cmp2, kA, kk2, g1, g2, g3, g4, g5⟩ := Cond.arrayOver_spec (hts _ in_AO)
  have hK : va_K D mcl (mty kI kA) s := by
    refine ⟨hKc, fun k q hk => ?_⟩
    match k, hk with
    | 0, hk => cases hk; exact ⟨fun n z => ⟨fun k h => (by cases h), kk1, f2, cmp1, f3⟩, f1⟩
    | 1, hk => cases hk; exact ⟨fun n z => ⟨fun k h => (by cases h), kk2, g3, cmp2, g4⟩, kk2, cmp2, g3, g4, g1, g5⟩
    | k + 2, hk => cases hk
  have hiN : iNw s := ⟨va_Nw.of rfl (hts _ in_nwR), va_Nw.of rfl (hts _ in_nwO), va_Nw.of rfl (hts _ in_nwP), va_AO.of (hts _ in_AO)⟩
  have hmN : mNw s := ⟨va_Nw.of rfl (hts _ in_nwF), va_Nw.of rfl (hts _ in_nwM)⟩
  have hA : ∀ q : Nat, s.heap.size ≤ q → (fun q : Nat => s.heap.size ≤ q) q := fun _ h => h
  have C : Ix p s m #[Value.ref b] c D kI kA (fun q : Nat => s.heap.size ≤ q) "TentMiddleLaw" code 4 := ⟨hx, hb, hml, hown, hT1, hK, hiN, hA⟩
  have hS : va_S (fun q : Nat => s.heap.size ≤ q) s.heap s.heap [] := va_S.rf
  have hP : va_P D mcl [] s.heap := fun k q h => by simp at h
  have hD : va_D (fun q : Nat => s.heap.size ≤ q) [] := ⟨fun i j p q h => by simp at h, fun k q h => by simp at h⟩
  have hl := lv_entry ([.ref b]) (n := 4) (Nat.le_of_ble_eq_true rfl)
  rw [lg_entry_eq]
  generalize (lg_sl ([.ref b]) ++ List.replicate (4 - (lg_sl ([.ref b])).length) Slot.unset).toArray = ls at hl ⊢
  have hl : lv_has ls 4 [(0, .ref b)] := hl
  refine i_new (ci := 5) (fs := fs0_Tent) (T := TX5) (ty := tyX5) C rfl iX5 tyX5_ok cl_Law_7 in_Tent iz_Tent dfv_Tent (by decide) (by decide) hP hD hS dw_0 (fun a1 H hP hD hS => ?_)
  refine lv_dup hx hb dw_3 rfl ?_
  refine i_call (md' := md_Tent_init) (d' := 3) (mc := 85) (ms := 5726) (As := []) (rest := [.ref a1]) C oki_Tent (c_Tent_init a1) (Or.inl li_Law_9) rfl hl.1 (Nat.le_of_ble_eq_true rfl) dw_4 ⟨by decide, by decide⟩ ⟨by decide, by decide⟩ hP hD hS (fun w1 H locs hw hP hD hS => ?_)
  obtain ⟨adC, hadC, rfl⟩ := hw
  refine lv_astore_n (nL := 4) (lv' := [(1, .ref a1), (0, .ref b)]) hx hb dw_7 rfl hl (by decide) rfl (fun ls hl => ?_)
  refine i_new (ci := 6) (fs := fs0_Mod) (T := TX6) (ty := tyX6) C rfl iX6 tyX6_ok cl_Law_10 in_Mod iz_Mod dfv_Mod (by decide) (by decide) hP hD hS dw_8 (fun a2 H hP hD hS => ?_)
  refine lv_dup hx hb dw_11 rfl ?_
  refine i_call (md' := md_Mod_init) (d' := 1) (mc := 15) (ms := 5256) (As := []) (rest := [.ref a2]) C oki_Mod (c_Mod_init a2) (Or.inl li_Law_12) rfl hl.1 (Nat.le_of_ble_eq_true rfl) dw_12 ⟨by decide, by decide⟩ ⟨by decide, by decide⟩ hP hD hS (fun w1 H locs hw hP hD hS => ?_)
  obtain ⟨q0, q1, q2, q3, q4, q5, q6, q7, q8, q9, q10, q11, q12, q13, q14, rfl⟩ := hw
  refine lv_astore_n (nL := 4) (lv' := [(2, .ref a2), (1, .ref a1), (0, .ref b)]) hx hb dw_15 rfl hl (by decide) rfl (fun ls hl => ?_)
  refine lv_iconst (v := 0) hx hb dw_16 (by decide) ?_
  refine lv_istore_n (nL := 4) (lv' := [(3, .int 0), (2, .ref a2), (1, .ref a1), (0, .ref b)]) hx hb dw_17 rfl hl (by decide) rfl (fun ls hl => ?_)
  refine W.widen (k := 200) (n := 20000) (by decide) (by decide) ?_
  have ew := whole_ws (kI := kI) (kA := kA) adC a2 q0 q1 q2 q3 q4 q5 q6 q7 q8 q9 q10 q11 q12 q13 q14
  have hP2 : va_P D mcl (TW0 kI kA adC ++ MW0 kI a2 q0 q1 q2 q3 q4 q5 q6 q7 q8 q9 q10 q11 q12 q13 q14) H := hP
  have hD2 : va_D (fun q : Nat => s.heap.size ≤ q) (TW0 kI kA adC ++ MW0 kI a2 q0 q1 q2 q3 q4 q5 q6 q7 q8 q9 q10 q11 q12 q13 q14) := hD
  rw [← ew] at hP2 hD2
  have hl2 : lv_has ls 4 [(3, .int (nI 0)), (2, .ref (adJ adC a2 [q0, q1, q2, q3, q4, q5, q6, q7, q8, q9, q10, q11, q12, q13, q14] (.inl (30, 0)))), (1, .ref (adJ adC a2 [q0, q1, q2, q3, q4, q5, q6, q7, q8, q9, q10, q11, q12, q13, q14] (.inl (0, 0)))), (0, .ref b)] := by
    have e0 : adJ adC a2 [q0, q1, q2, q3, q4, q5, q6, q7, q8, q9, q10, q11, q12, q13, q14] (.inl (0, 0)) = a1 := hadC
    rw [e0]
    exact hl
  exact law_loop ⟨hx, hb, hml, hown, hT1, hK, hmN, hA⟩ hX hbl hr hlocks hL 65 0 σ0 H locs ls (by omega) (by omega) RR0 hP2 hD2 hS hl2
