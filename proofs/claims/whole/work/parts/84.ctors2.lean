def fs0_Camp : List Value := [.null, .null, .null, .null, .null, .null, .null, .null, .null, .null, .int 0, .int 0, .int 0, .int 0, .int 0, .int 0, .int 0]
theorem dfv_Camp : ∀ j, j < 17 → defaultValue (tyX0 j) = vp_V fs0_Camp j := fun j hj => match j, hj with
  | 0, _ => rfl
  | 1, _ => rfl
  | 2, _ => rfl
  | 3, _ => rfl
  | 4, _ => rfl
  | 5, _ => rfl
  | 6, _ => rfl
  | 7, _ => rfl
  | 8, _ => rfl
  | 9, _ => rfl
  | 10, _ => rfl
  | 11, _ => rfl
  | 12, _ => rfl
  | 13, _ => rfl
  | 14, _ => rfl
  | 15, _ => rfl
  | 16, _ => rfl
  | k + 17, h => absurd h (by omega)
def fs0_Orders : List Value := [.null, .int 0]
theorem dfv_Orders : ∀ j, j < 2 → defaultValue (tyX1 j) = vp_V fs0_Orders j := fun j hj => match j, hj with
  | 0, _ => rfl
  | 1, _ => rfl
  | k + 2, h => absurd h (by omega)
def fs0_Plan : List Value := [.null, .null, .null, .null, .null, .null, .int 0, .int 0, .int 0]
theorem dfv_Plan : ∀ j, j < 9 → defaultValue (tyX2 j) = vp_V fs0_Plan j := fun j hj => match j, hj with
  | 0, _ => rfl
  | 1, _ => rfl
  | 2, _ => rfl
  | 3, _ => rfl
  | 4, _ => rfl
  | 5, _ => rfl
  | 6, _ => rfl
  | 7, _ => rfl
  | 8, _ => rfl
  | k + 9, h => absurd h (by omega)
def fs0_Reader : List Value := [.null, .null, .int 0, .int 0]
theorem dfv_Reader : ∀ j, j < 4 → defaultValue (tyX3 j) = vp_V fs0_Reader j := fun j hj => match j, hj with
  | 0, _ => rfl
  | 1, _ => rfl
  | 2, _ => rfl
  | 3, _ => rfl
  | k + 4, h => absurd h (by omega)
def fs0_Shelf : List Value := [.int 0, .null, .null]
theorem dfv_Shelf : ∀ j, j < 3 → defaultValue (tyX4 j) = vp_V fs0_Shelf j := fun j hj => match j, hj with
  | 0, _ => rfl
  | 1, _ => rfl
  | 2, _ => rfl
  | k + 3, h => absurd h (by omega)
def fs0_Tent : List Value := [.null, .null, .null, .null, .null, .null, .null, .null, .null, .int 0, .int 0, .long 0, .long 0]
theorem dfv_Tent : ∀ j, j < 13 → defaultValue (tyX5 j) = vp_V fs0_Tent j := fun j hj => match j, hj with
  | 0, _ => rfl
  | 1, _ => rfl
  | 2, _ => rfl
  | 3, _ => rfl
  | 4, _ => rfl
  | 5, _ => rfl
  | 6, _ => rfl
  | 7, _ => rfl
  | 8, _ => rfl
  | 9, _ => rfl
  | 10, _ => rfl
  | 11, _ => rfl
  | 12, _ => rfl
  | k + 13, h => absurd h (by omega)
def fs0_Mod : List Value := [.null, .int 0, .null, .null, .null, .null, .null, .null, .null, .int 0, .long 0, .long 0, .int 0, .null, .int 0, .int 0, .int 0, .null, .null, .int 0, .null, .null, .int 0, .int 0, .int 0, .int 0, .int 0, .null, .null]
theorem dfv_Mod : ∀ j, j < 29 → defaultValue (tyX6 j) = vp_V fs0_Mod j := fun j hj => match j, hj with
  | 0, _ => rfl
  | 1, _ => rfl
  | 2, _ => rfl
  | 3, _ => rfl
  | 4, _ => rfl
  | 5, _ => rfl
  | 6, _ => rfl
  | 7, _ => rfl
  | 8, _ => rfl
  | 9, _ => rfl
  | 10, _ => rfl
  | 11, _ => rfl
  | 12, _ => rfl
  | 13, _ => rfl
  | 14, _ => rfl
  | 15, _ => rfl
  | 16, _ => rfl
  | 17, _ => rfl
  | 18, _ => rfl
  | 19, _ => rfl
  | 20, _ => rfl
  | 21, _ => rfl
  | 22, _ => rfl
  | 23, _ => rfl
  | 24, _ => rfl
  | 25, _ => rfl
  | 26, _ => rfl
  | 27, _ => rfl
  | 28, _ => rfl
  | k + 29, h => absurd h (by omega)
def RW0 (kI : ClassId) (h0 c0 z0 q0 q1 q2 q3 q4 q5 q6 q7 q8 q9 : Nat) : va_W := (h0, .inr (3, [.ref c0, .ref z0, .int 0, .int 0])) :: (CW0 kI 0 c0 q0 q1 q2 q3 q4 q5 q6 q7 q8 q9 ++ [(z0, .inl (kI, 60, .inl (fun _ => 0)))])
set_option maxHeartbeats 8000000 in
set_option maxRecDepth 100000 in
theorem c_Reader_init {kI kA : ClassId} (h0 : Nat) : Ini md_Reader_init 2 12 125 kI kA [.ref h0] [(h0, .inr (3, fs0_Reader))] (fun w => ∃ c0 z0 q0 q1 q2 q3 q4 q5 q6 q7 q8 q9, w = RW0 kI h0 c0 z0 q0 q1 q2 q3 q4 q5 q6 q7 q8 q9) := by
  refine Ini.of (by decide +kernel) (Nat.le_of_ble_eq_true rfl) ?_
  intro l p e s m args below meth c D A ls C hr hlk hname hP hD hl
  have hx := C.1
  have hb := C.2.1
  have hK := C.2.2.2.2.2.1
  have hS : va_S A s.heap s.heap [] := va_S.rf
  have hl : lv_has ls 1 [(0, .ref h0)] := hl
  have hP : va_P D mcl ((h0, .inr (3, [.null, .null, .int 0, .int 0])) :: ([] : va_W)) _ := hP
  have hD : va_D A ((h0, .inr (3, [.null, .null, .int 0, .int 0])) :: ([] : va_W)) := hD
  refine lv_aload_n hx hb di_Reader_0 rfl (lv_at hl 0 rfl) ?_
  refine i_obj C lo_Reader obW hl.1 di_Reader_1 (by show 1 ≤ 2; decide) (by show 64 ≤ 64 * 2; decide) ?_
  refine lv_aload_n hx hb di_Reader_4 rfl (lv_at hl 0 rfl) ?_
  refine i_new (ci := 0) (fs := fs0_Camp) (T := TX0) (ty := tyX0) C rfl iX0 tyX0_ok cl_Reader_9 in_Camp iz_Camp dfv_Camp (by show _ ≤ 12; omega) (by show _ ≤ 125; omega) hP hD hS di_Reader_5 (fun c0 H hP hD hS => ?_)
  refine lv_dup hx hb di_Reader_8 rfl ?_
  refine lv_iconst (v := 0) hx hb di_Reader_9 (by decide) ?_
  refine i_call (md' := md_Camp_init) (d' := 1) (mc := 10) (ms := 48) (As := [.int 0]) (rest := [.ref c0, .ref h0]) C oki_Camp (c_Camp_init c0 0 0 (by decide) (by decide) (by decide)) (Or.inl li_Reader_11) rfl hl.1 (Nat.le_of_ble_eq_true rfl) di_Reader_10 ⟨by show 1 + 1 ≤ 2; decide, by show 8 + (2 + 11) + 64 * 1 ≤ 64 * 2; decide⟩ ⟨by show _ ≤ 12; omega, by show _ ≤ 125; omega⟩ hP hD hS (fun w1 H locs hw hP hD hS => ?_)
  obtain ⟨q0, q1, q2, q3, q4, q5, q6, q7, q8, q9, rfl⟩ := hw
  have hP : va_P D mcl ((h0, .inr (3, [.null, .null, .int 0, .int 0])) :: CW0 kI 0 c0 q0 q1 q2 q3 q4 q5 q6 q7 q8 q9) H := hP
  have hD : va_D A ((h0, .inr (3, [.null, .null, .int 0, .int 0])) :: CW0 kI 0 c0 q0 q1 q2 q3 q4 q5 q6 q7 q8 q9) := hD
  refine i_put C hname df_Reader_13 rfl rfl rfl (Nat.le_of_ble_eq_true rfl) hP hD hS di_Reader_13 (fun H locs hP hD hS => ?_)
  have hP : va_P D mcl ((h0, .inr (3, [.ref c0, .null, .int 0, .int 0])) :: CW0 kI 0 c0 q0 q1 q2 q3 q4 q5 q6 q7 q8 q9) H := hP
  have hD : va_D A ((h0, .inr (3, [.ref c0, .null, .int 0, .int 0])) :: CW0 kI 0 c0 q0 q1 q2 q3 q4 q5 q6 q7 q8 q9) := hD
  refine lv_aload_n hx hb di_Reader_16 rfl (lv_at hl 0 rfl) ?_
  refine lv_bipush (v := 60) hx hb di_Reader_17 (by decide) ?_
  refine i_newI (N := 60) C hI_int (by decide) (by decide) (by decide) (by show _ ≤ 12; omega) (by show _ ≤ 125; omega) hP hD hS di_Reader_19 (fun z0 H hP hD hS => ?_)
  have hP : va_P D mcl ((h0, .inr (3, [.ref c0, .null, .int 0, .int 0])) :: (CW0 kI 0 c0 q0 q1 q2 q3 q4 q5 q6 q7 q8 q9 ++ [(z0, .inl (kI, 60, .inl (fun _ => 0)))])) H := hP
  have hD : va_D A ((h0, .inr (3, [.ref c0, .null, .int 0, .int 0])) :: (CW0 kI 0 c0 q0 q1 q2 q3 q4 q5 q6 q7 q8 q9 ++ [(z0, .inl (kI, 60, .inl (fun _ => 0)))])) := hD
  refine i_put C hname df_Reader_21 rfl rfl rfl (Nat.le_of_ble_eq_true rfl) hP hD hS di_Reader_21 (fun H locs hP hD hS => ?_)
  have hP : va_P D mcl ((h0, .inr (3, [.ref c0, .ref z0, .int 0, .int 0])) :: (CW0 kI 0 c0 q0 q1 q2 q3 q4 q5 q6 q7 q8 q9 ++ [(z0, .inl (kI, 60, .inl (fun _ => 0)))])) H := hP
  have hD : va_D A ((h0, .inr (3, [.ref c0, .ref z0, .int 0, .int 0])) :: (CW0 kI 0 c0 q0 q1 q2 q3 q4 q5 q6 q7 q8 q9 ++ [(z0, .inl (kI, 60, .inl (fun _ => 0)))])) := hD
  exact i_ret C hr hlk ⟨c0, z0, q0, q1, q2, q3, q4, q5, q6, q7, q8, q9, rfl⟩ hP hD hS di_Reader_24
/-- the state that the constructors leave -/
def arN (n : Nat) : Nat → Int32 := fun j => if j < n then -1 else 0
def σ0 : St := (fun g t => bif Nat.beq g 2 then (bif Nat.beq t 0 then (fun j => if j < 6 then -1 else 0) else (fun j => if j < 4 then -1 else 0)) else
  bif Nat.beq g 1 then (bif Nat.beq t 0 then (fun _ => 40) else (fun _ => 60)) else
  bif Nat.beq g 31 then upd (upd (upd (fun _ => 0) 1026 (-1)) 2052 (-1)) 3078 (-1) else
  bif Nat.beq g 35 then upd (upd (upd (upd (upd (upd (fun _ => 0) 0 (-1)) 1 (-1)) 2 (-1)) 3 (-1)) 4 (-1)) 5 (-1) else
  bif Nat.beq g 37 then upd (upd (upd (upd (fun _ => 0) 0 (-1)) 1 (-1)) 2 (-1)) 3 (-1) else
  bif Nat.beq g 30 then (fun j => bif Nat.beq j 24 then -9 else bif Nat.beq j 25 then -9 else 0) else fun _ => 0,
  fun g _ j => bif Nat.beq g 0 then (bif Nat.beq j 12 then 1 else 0) else bif Nat.beq g 30 then (bif Nat.beq j 11 then 1 else 0) else 0)
def mcC : List CI :=
  [.inl (0, 0), .inl (1, 0), .inr (2, 0), .inr (3, 0), .inl (1, 1), .inr (2, 1), .inr (3, 1)]
  ++ ([0, 1, 2, 3, 4, 5] : List Nat).flatMap (fun t => [.inl (4, t), .inr (5, t), .inr (6, t), .inr (7, t), .inr (8, t), .inr (9, t), .inr (10, t), .inr (11, t), .inr (12, t), .inr (13, t), .inr (14, t)])
  ++ [.inl (15, 0), .inl (16, 0), .inr (17, 0), .inl (18, 0), .inr (19, 0), .inl (20, 0), .inr (21, 0), .inr (22, 0), .inr (23, 0), .inr (24, 0), .inr (25, 0), .inr (26, 0), .inr (27, 0)]
def mcM : List CI := [.inl (30, 0), .inr (31, 0), .inr (32, 0), .inr (33, 0), .inr (34, 0), .inr (35, 0), .inr (36, 0), .inr (37, 0), .inr (38, 0), .inr (39, 0), .inr (40, 0), .inr (41, 0), .inr (42, 0), .inr (43, 0), .inr (44, 0), .inr (45, 0)]
def TW0 (kI kA : ClassId) (ad : CI → Nat) : va_W := mcC.map (fun r => (ad r, ent ad kI kA σ0 r))
def adT (h0 s0 sa0 sa1 s1 sb0 sb1 : Nat) (Q : List Nat) (B : List (List Nat)) (k r z o oa p : Nat) (PA : List Nat) (f : Nat) : CI → Nat
  | .inl (g, t) => bif Nat.beq g 4 then Q.getD t 0 else bif Nat.beq g 0 then h0 else bif Nat.beq g 1 then (bif Nat.beq t 0 then s0 else s1) else bif Nat.beq g 15 then k else bif Nat.beq g 16 then r else bif Nat.beq g 18 then o else p
  | .inr (g, t) => bif Nat.ble 5 g && Nat.ble g 14 then (B.getD t []).getD (g - 5) 0 else bif Nat.beq g 2 then (bif Nat.beq t 0 then sa0 else sb0) else bif Nat.beq g 3 then (bif Nat.beq t 0 then sa1 else sb1) else bif Nat.beq g 17 then z else bif Nat.beq g 19 then oa else bif Nat.beq g 27 then f else PA.getD (g - 21) 0
theorem shuf {α : Type} (x k r z f : α) (s0 s1 c0 c1 c2 c3 c4 c5 o p : List α) : List.Perm (x :: (((((((((((s0 ++ s1) ++ c0) ++ [k]) ++ c4) ++ (r :: (c5 ++ [z]))) ++ o) ++ p) ++ [f]) ++ c1) ++ c2) ++ c3)) (x :: (s0 ++ (s1 ++ (c0 ++ (c1 ++ (c2 ++ (c3 ++ (c4 ++ (c5 ++ (k :: r :: z :: (o ++ (p ++ [f])))))))))))) := by
  letI : DecidableEq α := fun a b => Classical.propDecidable (a = b)
  refine List.perm_iff_count.mpr (fun a => ?_)
  simp only [List.count_append, List.count_cons, List.count_nil]
  omega
theorem va_P.perm {D : va_G} {cl : List vw_C} {w w' : va_W} {H : Heap} (h : va_P D cl w H) (hp : List.Perm w w') : va_P D cl w' H := fun k q hq => by
  obtain ⟨i, hi⟩ := List.getElem?_of_mem (hp.mem_iff.mpr (List.mem_of_getElem? hq))
  exact h i q hi
theorem va_D.nd {A : Nat → Prop} {w : va_W} (h : va_D A w) : (w.map Prod.fst).Nodup := by
  refine List.pairwise_iff_getElem.mpr (fun i j hi hj hij e => ?_)
  rw [List.length_map] at hi hj
  rw [List.getElem_map, List.getElem_map] at e
  have := h.1 i j _ _ (List.getElem?_eq_getElem hi) (List.getElem?_eq_getElem hj) e
  omega
theorem va_D.ofnd {A : Nat → Prop} {w : va_W} (h : (w.map Prod.fst).Nodup) (hA : ∀ q ∈ w, A q.1) : va_D A w := by
  refine ⟨fun i j x y hi hj e => ?_, fun k q hk => hA q (List.mem_of_getElem? hk)⟩
  have h1 : (w.map Prod.fst)[i]? = some x.1 := by rw [List.getElem?_map, hi]; rfl
  have h2 : (w.map Prod.fst)[j]? = some y.1 := by rw [List.getElem?_map, hj]; rfl
  have hl : i < (w.map Prod.fst).length := (List.getElem?_eq_some_iff.mp h1).1
  exact (List.getElem?_inj hl h).mp (by rw [h1, h2, e])
theorem va_D.perm {A : Nat → Prop} {w w' : va_W} (h : va_D A w) (hp : List.Perm w w') : va_D A w' :=
  va_D.ofnd ((hp.map Prod.fst).nodup_iff.mp h.nd) (fun q hq => by
    obtain ⟨i, hi⟩ := List.getElem?_of_mem (hp.mem_iff.mpr hq)
    exact h.2 i q hi)
theorem arrV_same {cA : ClassId} {n : Nat} {f g : Nat → Value} (h : ∀ j, j < n → f j = g j) : arrV cA n f = arrV cA n g := by
  unfold arrV
  congr 1
  apply Array.ext
  · simp
  · intro i h1 h2
    simp at h1 ⊢
    exact h i h1
theorem va_P.refq {D : va_G} {cl : List vw_C} {w : va_W} {H : Heap} {k a n : Nat} {cA : ClassId} {f g : Nat → Option Nat} (h : va_P D cl w H) (hk : w[k]? = some (a, .inl (cA, n, .inr (.inr (.inr (.inr f)))))) (hf : ∀ j, j < n → f j = g j) : va_P D cl (w.set k (a, .inl (cA, n, .inr (.inr (.inr (.inr g)))))) H := by
  intro i q hq
  by_cases e : k = i
  · subst e
    rw [List.getElem?_set_self (List.getElem?_eq_some_iff.mp hk).1] at hq
    cases hq
    have := h k _ hk
    show H[a]? = some (vp_cell _ _)
    have h1 : H[a]? = some (vp_cell cA (n, .inr (.inr (.inr (.inr f))))) := this
    rw [h1, vp_cell_q, vp_cell_q, arrV_same (fun j hj => by rw [hf j hj])]
  · rw [List.getElem?_set_ne e] at hq
    exact h i q hq
set_option maxHeartbeats 8000000 in
set_option maxRecDepth 100000 in
theorem c_Tent_init {kI kA : ClassId} (h0 : Nat) : Ini md_Tent_init 3 85 5726 kI kA [.ref h0] [(h0, .inr (5, fs0_Tent))] (fun w => ∃ ad : CI → Nat, ad (.inl (0, 0)) = h0 ∧ w = TW0 kI kA ad) := by
  refine Ini.of (by decide +kernel) (Nat.le_of_ble_eq_true rfl) ?_
  intro l p e s m args below meth c D A ls C hr hlk hname hP hD hl
  have hx := C.1
  have hb := C.2.1
  have hK := C.2.2.2.2.2.1
  have hS : va_S A s.heap s.heap [] := va_S.rf
  have hl : lv_has ls 2 [(0, .ref h0)] := hl
  have hP : va_P D mcl ((h0, .inr (5, [.null, .null, .null, .null, .null, .null, .null, .null, .null, .int 0, .int 0, .long 0, .long 0])) :: ([] : va_W)) _ := hP
  have hD : va_D A ((h0, .inr (5, [.null, .null, .null, .null, .null, .null, .null, .null, .null, .int 0, .int 0, .long 0, .long 0])) :: ([] : va_W)) := hD
  refine lv_aload_n hx hb di_Tent_0 rfl (lv_at hl 0 rfl) ?_
  refine i_obj C lo_Tent obW hl.1 di_Tent_1 (by show 1 ≤ 3; decide) (by show 64 ≤ 64 * 3; decide) ?_
  refine lv_aload_n hx hb di_Tent_4 rfl (lv_at hl 0 rfl) ?_
  refine i_new (ci := 4) (fs := fs0_Shelf) (T := TX4) (ty := tyX4) C rfl iX4 tyX4_ok cl_Tent_7 in_Shelf iz_Shelf dfv_Shelf (by show _ ≤ 85; omega) (by show _ ≤ 5726; omega) hP hD hS di_Tent_5 (fun s0 H hP hD hS => ?_)
  refine lv_dup hx hb di_Tent_8 rfl ?_
  refine lv_bipush (v := 6) hx hb di_Tent_9 (by decide) ?_
  refine lv_bipush (v := 40) hx hb di_Tent_11 (by decide) ?_
  refine i_call (md' := md_Shelf_init) (d' := 1) (mc := 2) (ms := 246) (As := [.int 6, .int 40]) (rest := [.ref s0, .ref h0]) C oki_Shelf (c_Shelf_init s0 6 40 6 240 (by decide) (by decide) (by decide) (by decide) (by decide) (by decide)) (Or.inl li_Tent_11) rfl hl.1 (Nat.le_of_ble_eq_true rfl) di_Tent_13 ⟨by show 1 + 1 ≤ 3; decide, by show 8 + (3 + 11) + 64 * 1 ≤ 64 * 3; decide⟩ ⟨by show _ ≤ 85; omega, by show _ ≤ 5726; omega⟩ hP hD hS (fun w1 H locs hw hP hD hS => ?_)
  obtain ⟨sa0, sa1, rfl⟩ := hw
  have hP : va_P D mcl ((h0, .inr (5, [.null, .null, .null, .null, .null, .null, .null, .null, .null, .int 0, .int 0, .long 0, .long 0])) :: SW0 kI 6 240 40 s0 sa0 sa1) H := hP
  have hD : va_D A ((h0, .inr (5, [.null, .null, .null, .null, .null, .null, .null, .null, .null, .int 0, .int 0, .long 0, .long 0])) :: SW0 kI 6 240 40 s0 sa0 sa1) := hD
  refine i_put C hname df_Tent_16 rfl rfl rfl (Nat.le_of_ble_eq_true rfl) hP hD hS di_Tent_16 (fun H locs hP hD hS => ?_)
  have hP : va_P D mcl ((h0, .inr (5, [.ref s0, .null, .null, .null, .null, .null, .null, .null, .null, .int 0, .int 0, .long 0, .long 0])) :: SW0 kI 6 240 40 s0 sa0 sa1) H := hP
  have hD : va_D A ((h0, .inr (5, [.ref s0, .null, .null, .null, .null, .null, .null, .null, .null, .int 0, .int 0, .long 0, .long 0])) :: SW0 kI 6 240 40 s0 sa0 sa1) := hD
  refine lv_aload_n hx hb di_Tent_19 rfl (lv_at hl 0 rfl) ?_
  refine i_new (ci := 4) (fs := fs0_Shelf) (T := TX4) (ty := tyX4) C rfl iX4 tyX4_ok cl_Tent_7 in_Shelf iz_Shelf dfv_Shelf (by show _ ≤ 85; omega) (by show _ ≤ 5726; omega) hP hD hS di_Tent_20 (fun s1 H hP hD hS => ?_)
  refine lv_dup hx hb di_Tent_23 rfl ?_
  refine lv_iconst (v := 4) hx hb di_Tent_24 (by decide) ?_
  refine lv_bipush (v := 60) hx hb di_Tent_25 (by decide) ?_
  refine i_call (md' := md_Shelf_init) (d' := 1) (mc := 2) (ms := 244) (As := [.int 4, .int 60]) (rest := [.ref s1, .ref h0]) C oki_Shelf (c_Shelf_init s1 4 60 4 240 (by decide) (by decide) (by decide) (by decide) (by decide) (by decide)) (Or.inl li_Tent_11) rfl hl.1 (Nat.le_of_ble_eq_true rfl) di_Tent_27 ⟨by show 1 + 1 ≤ 3; decide, by show 8 + (3 + 11) + 64 * 1 ≤ 64 * 3; decide⟩ ⟨by show _ ≤ 85; omega, by show _ ≤ 5726; omega⟩ hP hD hS (fun w1 H locs hw hP hD hS => ?_)
  obtain ⟨sb0, sb1, rfl⟩ := hw
  have hP : va_P D mcl ((h0, .inr (5, [.ref s0, .null, .null, .null, .null, .null, .null, .null, .null, .int 0, .int 0, .long 0, .long 0])) :: (SW0 kI 6 240 40 s0 sa0 sa1 ++ SW0 kI 4 240 60 s1 sb0 sb1)) H := hP
  have hD : va_D A ((h0, .inr (5, [.ref s0, .null, .null, .null, .null, .null, .null, .null, .null, .int 0, .int 0, .long 0, .long 0])) :: (SW0 kI 6 240 40 s0 sa0 sa1 ++ SW0 kI 4 240 60 s1 sb0 sb1)) := hD
  refine i_put C hname df_Tent_30 rfl rfl rfl (Nat.le_of_ble_eq_true rfl) hP hD hS di_Tent_30 (fun H locs hP hD hS => ?_)
  have hP : va_P D mcl ((h0, .inr (5, [.ref s0, .ref s1, .null, .null, .null, .null, .null, .null, .null, .int 0, .int 0, .long 0, .long 0])) :: (SW0 kI 6 240 40 s0 sa0 sa1 ++ SW0 kI 4 240 60 s1 sb0 sb1)) H := hP
  have hD : va_D A ((h0, .inr (5, [.ref s0, .ref s1, .null, .null, .null, .null, .null, .null, .null, .int 0, .int 0, .long 0, .long 0])) :: (SW0 kI 6 240 40 s0 sa0 sa1 ++ SW0 kI 4 240 60 s1 sb0 sb1)) := hD
  refine lv_aload_n hx hb di_Tent_33 rfl (lv_at hl 0 rfl) ?_
  refine i_new (ci := 0) (fs := fs0_Camp) (T := TX0) (ty := tyX0) C rfl iX0 tyX0_ok cl_Tent_21 in_Camp iz_Camp dfv_Camp (by show _ ≤ 85; omega) (by show _ ≤ 5726; omega) hP hD hS di_Tent_34 (fun c0 H hP hD hS => ?_)
  refine lv_dup hx hb di_Tent_37 rfl ?_
  refine lv_bipush (v := 40) hx hb di_Tent_38 (by decide) ?_
  refine i_call (md' := md_Camp_init) (d' := 1) (mc := 10) (ms := 1048) (As := [.int 40]) (rest := [.ref c0, .ref h0]) C oki_Camp (c_Camp_init c0 40 1000 (by decide) (by decide) (by decide)) (Or.inl li_Tent_23) rfl hl.1 (Nat.le_of_ble_eq_true rfl) di_Tent_40 ⟨by show 1 + 1 ≤ 3; decide, by show 8 + (2 + 11) + 64 * 1 ≤ 64 * 3; decide⟩ ⟨by show _ ≤ 85; omega, by show _ ≤ 5726; omega⟩ hP hD hS (fun w1 H locs hw hP hD hS => ?_)
  obtain ⟨ca0, ca1, ca2, ca3, ca4, ca5, ca6, ca7, ca8, ca9, rfl⟩ := hw
  have hP : va_P D mcl ((h0, .inr (5, [.ref s0, .ref s1, .null, .null, .null, .null, .null, .null, .null, .int 0, .int 0, .long 0, .long 0])) :: ((SW0 kI 6 240 40 s0 sa0 sa1 ++ SW0 kI 4 240 60 s1 sb0 sb1) ++ CW0 kI 1000 c0 ca0 ca1 ca2 ca3 ca4 ca5 ca6 ca7 ca8 ca9)) H := hP
  have hD : va_D A ((h0, .inr (5, [.ref s0, .ref s1, .null, .null, .null, .null, .null, .null, .null, .int 0, .int 0, .long 0, .long 0])) :: ((SW0 kI 6 240 40 s0 sa0 sa1 ++ SW0 kI 4 240 60 s1 sb0 sb1) ++ CW0 kI 1000 c0 ca0 ca1 ca2 ca3 ca4 ca5 ca6 ca7 ca8 ca9)) := hD
  refine i_put C hname df_Tent_43 rfl rfl rfl (Nat.le_of_ble_eq_true rfl) hP hD hS di_Tent_43 (fun H locs hP hD hS => ?_)
  have hP : va_P D mcl ((h0, .inr (5, [.ref s0, .ref s1, .ref c0, .null, .null, .null, .null, .null, .null, .int 0, .int 0, .long 0, .long 0])) :: ((SW0 kI 6 240 40 s0 sa0 sa1 ++ SW0 kI 4 240 60 s1 sb0 sb1) ++ CW0 kI 1000 c0 ca0 ca1 ca2 ca3 ca4 ca5 ca6 ca7 ca8 ca9)) H := hP
  have hD : va_D A ((h0, .inr (5, [.ref s0, .ref s1, .ref c0, .null, .null, .null, .null, .null, .null, .int 0, .int 0, .long 0, .long 0])) :: ((SW0 kI 6 240 40 s0 sa0 sa1 ++ SW0 kI 4 240 60 s1 sb0 sb1) ++ CW0 kI 1000 c0 ca0 ca1 ca2 ca3 ca4 ca5 ca6 ca7 ca8 ca9)) := hD
  refine lv_aload_n hx hb di_Tent_46 rfl (lv_at hl 0 rfl) ?_
  refine lv_iconst (v := 3) hx hb di_Tent_47 (by decide) ?_
  refine i_newq (N := 3) C cl_Tent_21 (by decide) (by decide) (by decide) (by show _ ≤ 85; omega) (by show _ ≤ 5726; omega) hP hD hS di_Tent_48 (fun k0 H hP hD hS => ?_)
  have hP : va_P D mcl ((h0, .inr (5, [.ref s0, .ref s1, .ref c0, .null, .null, .null, .null, .null, .null, .int 0, .int 0, .long 0, .long 0])) :: (((SW0 kI 6 240 40 s0 sa0 sa1 ++ SW0 kI 4 240 60 s1 sb0 sb1) ++ CW0 kI 1000 c0 ca0 ca1 ca2 ca3 ca4 ca5 ca6 ca7 ca8 ca9) ++ [(k0, .inl (kA, 3, .inr (.inr (.inr (.inr (fun _ => none))))))])) H := hP
  have hD : va_D A ((h0, .inr (5, [.ref s0, .ref s1, .ref c0, .null, .null, .null, .null, .null, .null, .int 0, .int 0, .long 0, .long 0])) :: (((SW0 kI 6 240 40 s0 sa0 sa1 ++ SW0 kI 4 240 60 s1 sb0 sb1) ++ CW0 kI 1000 c0 ca0 ca1 ca2 ca3 ca4 ca5 ca6 ca7 ca8 ca9) ++ [(k0, .inl (kA, 3, .inr (.inr (.inr (.inr (fun _ => none))))))])) := hD
  refine i_put C hname df_Tent_51 rfl rfl rfl (Nat.le_of_ble_eq_true rfl) hP hD hS di_Tent_51 (fun H locs hP hD hS => ?_)
  have hP : va_P D mcl ((h0, .inr (5, [.ref s0, .ref s1, .ref c0, .ref k0, .null, .null, .null, .null, .null, .int 0, .int 0, .long 0, .long 0])) :: (((SW0 kI 6 240 40 s0 sa0 sa1 ++ SW0 kI 4 240 60 s1 sb0 sb1) ++ CW0 kI 1000 c0 ca0 ca1 ca2 ca3 ca4 ca5 ca6 ca7 ca8 ca9) ++ [(k0, .inl (kA, 3, .inr (.inr (.inr (.inr (fun _ => none))))))])) H := hP
  have hD : va_D A ((h0, .inr (5, [.ref s0, .ref s1, .ref c0, .ref k0, .null, .null, .null, .null, .null, .int 0, .int 0, .long 0, .long 0])) :: (((SW0 kI 6 240 40 s0 sa0 sa1 ++ SW0 kI 4 240 60 s1 sb0 sb1) ++ CW0 kI 1000 c0 ca0 ca1 ca2 ca3 ca4 ca5 ca6 ca7 ca8 ca9) ++ [(k0, .inl (kA, 3, .inr (.inr (.inr (.inr (fun _ => none))))))])) := hD
  refine lv_aload_n hx hb di_Tent_54 rfl (lv_at hl 0 rfl) ?_
  refine i_new (ci := 0) (fs := fs0_Camp) (T := TX0) (ty := tyX0) C rfl iX0 tyX0_ok cl_Tent_21 in_Camp iz_Camp dfv_Camp (by show _ ≤ 85; omega) (by show _ ≤ 5726; omega) hP hD hS di_Tent_55 (fun c4 H hP hD hS => ?_)
  refine lv_dup hx hb di_Tent_58 rfl ?_
  refine lv_iconst (v := 0) hx hb di_Tent_59 (by decide) ?_
  refine i_call (md' := md_Camp_init) (d' := 1) (mc := 10) (ms := 48) (As := [.int 0]) (rest := [.ref c4, .ref h0]) C oki_Camp (c_Camp_init c4 0 0 (by decide) (by decide) (by decide)) (Or.inl li_Tent_23) rfl hl.1 (Nat.le_of_ble_eq_true rfl) di_Tent_60 ⟨by show 1 + 1 ≤ 3; decide, by show 8 + (2 + 11) + 64 * 1 ≤ 64 * 3; decide⟩ ⟨by show _ ≤ 85; omega, by show _ ≤ 5726; omega⟩ hP hD hS (fun w1 H locs hw hP hD hS => ?_)
  obtain ⟨ce0, ce1, ce2, ce3, ce4, ce5, ce6, ce7, ce8, ce9, rfl⟩ := hw
  have hP : va_P D mcl ((h0, .inr (5, [.ref s0, .ref s1, .ref c0, .ref k0, .null, .null, .null, .null, .null, .int 0, .int 0, .long 0, .long 0])) :: ((((SW0 kI 6 240 40 s0 sa0 sa1 ++ SW0 kI 4 240 60 s1 sb0 sb1) ++ CW0 kI 1000 c0 ca0 ca1 ca2 ca3 ca4 ca5 ca6 ca7 ca8 ca9) ++ [(k0, .inl (kA, 3, .inr (.inr (.inr (.inr (fun _ => none))))))]) ++ CW0 kI 0 c4 ce0 ce1 ce2 ce3 ce4 ce5 ce6 ce7 ce8 ce9)) H := hP
  have hD : va_D A ((h0, .inr (5, [.ref s0, .ref s1, .ref c0, .ref k0, .null, .null, .null, .null, .null, .int 0, .int 0, .long 0, .long 0])) :: ((((SW0 kI 6 240 40 s0 sa0 sa1 ++ SW0 kI 4 240 60 s1 sb0 sb1) ++ CW0 kI 1000 c0 ca0 ca1 ca2 ca3 ca4 ca5 ca6 ca7 ca8 ca9) ++ [(k0, .inl (kA, 3, .inr (.inr (.inr (.inr (fun _ => none))))))]) ++ CW0 kI 0 c4 ce0 ce1 ce2 ce3 ce4 ce5 ce6 ce7 ce8 ce9)) := hD
  refine i_put C hname df_Tent_63 rfl rfl rfl (Nat.le_of_ble_eq_true rfl) hP hD hS di_Tent_63 (fun H locs hP hD hS => ?_)
  have hP : va_P D mcl ((h0, .inr (5, [.ref s0, .ref s1, .ref c0, .ref k0, .ref c4, .null, .null, .null, .null, .int 0, .int 0, .long 0, .long 0])) :: ((((SW0 kI 6 240 40 s0 sa0 sa1 ++ SW0 kI 4 240 60 s1 sb0 sb1) ++ CW0 kI 1000 c0 ca0 ca1 ca2 ca3 ca4 ca5 ca6 ca7 ca8 ca9) ++ [(k0, .inl (kA, 3, .inr (.inr (.inr (.inr (fun _ => none))))))]) ++ CW0 kI 0 c4 ce0 ce1 ce2 ce3 ce4 ce5 ce6 ce7 ce8 ce9)) H := hP
  have hD : va_D A ((h0, .inr (5, [.ref s0, .ref s1, .ref c0, .ref k0, .ref c4, .null, .null, .null, .null, .int 0, .int 0, .long 0, .long 0])) :: ((((SW0 kI 6 240 40 s0 sa0 sa1 ++ SW0 kI 4 240 60 s1 sb0 sb1) ++ CW0 kI 1000 c0 ca0 ca1 ca2 ca3 ca4 ca5 ca6 ca7 ca8 ca9) ++ [(k0, .inl (kA, 3, .inr (.inr (.inr (.inr (fun _ => none))))))]) ++ CW0 kI 0 c4 ce0 ce1 ce2 ce3 ce4 ce5 ce6 ce7 ce8 ce9)) := hD
  refine lv_aload_n hx hb di_Tent_66 rfl (lv_at hl 0 rfl) ?_
  refine i_new (ci := 3) (fs := fs0_Reader) (T := TX3) (ty := tyX3) C rfl iX3 tyX3_ok cl_Tent_37 in_Reader iz_Reader dfv_Reader (by show _ ≤ 85; omega) (by show _ ≤ 5726; omega) hP hD hS di_Tent_67 (fun r0 H hP hD hS => ?_)
  refine lv_dup hx hb di_Tent_70 rfl ?_
  refine i_call (md' := md_Reader_init) (d' := 2) (mc := 12) (ms := 125) (As := []) (rest := [.ref r0, .ref h0]) C oki_Reader (c_Reader_init r0) (Or.inr C.2.2.2.2.2.2.1.1) rfl hl.1 (Nat.le_of_ble_eq_true rfl) di_Tent_71 ⟨by show 2 + 1 ≤ 3; decide, by show 8 + (1 + 11) + 64 * 2 ≤ 64 * 3; decide⟩ ⟨by show _ ≤ 85; omega, by show _ ≤ 5726; omega⟩ hP hD hS (fun w1 H locs hw hP hD hS => ?_)
  obtain ⟨c5, z0, cf0, cf1, cf2, cf3, cf4, cf5, cf6, cf7, cf8, cf9, rfl⟩ := hw
  have hP : va_P D mcl ((h0, .inr (5, [.ref s0, .ref s1, .ref c0, .ref k0, .ref c4, .null, .null, .null, .null, .int 0, .int 0, .long 0, .long 0])) :: (((((SW0 kI 6 240 40 s0 sa0 sa1 ++ SW0 kI 4 240 60 s1 sb0 sb1) ++ CW0 kI 1000 c0 ca0 ca1 ca2 ca3 ca4 ca5 ca6 ca7 ca8 ca9) ++ [(k0, .inl (kA, 3, .inr (.inr (.inr (.inr (fun _ => none))))))]) ++ CW0 kI 0 c4 ce0 ce1 ce2 ce3 ce4 ce5 ce6 ce7 ce8 ce9) ++ RW0 kI r0 c5 z0 cf0 cf1 cf2 cf3 cf4 cf5 cf6 cf7 cf8 cf9)) H := hP
  have hD : va_D A ((h0, .inr (5, [.ref s0, .ref s1, .ref c0, .ref k0, .ref c4, .null, .null, .null, .null, .int 0, .int 0, .long 0, .long 0])) :: (((((SW0 kI 6 240 40 s0 sa0 sa1 ++ SW0 kI 4 240 60 s1 sb0 sb1) ++ CW0 kI 1000 c0 ca0 ca1 ca2 ca3 ca4 ca5 ca6 ca7 ca8 ca9) ++ [(k0, .inl (kA, 3, .inr (.inr (.inr (.inr (fun _ => none))))))]) ++ CW0 kI 0 c4 ce0 ce1 ce2 ce3 ce4 ce5 ce6 ce7 ce8 ce9) ++ RW0 kI r0 c5 z0 cf0 cf1 cf2 cf3 cf4 cf5 cf6 cf7 cf8 cf9)) := hD
  refine i_put C hname df_Tent_74 rfl rfl rfl (Nat.le_of_ble_eq_true rfl) hP hD hS di_Tent_74 (fun H locs hP hD hS => ?_)
  have hP : va_P D mcl ((h0, .inr (5, [.ref s0, .ref s1, .ref c0, .ref k0, .ref c4, .ref r0, .null, .null, .null, .int 0, .int 0, .long 0, .long 0])) :: (((((SW0 kI 6 240 40 s0 sa0 sa1 ++ SW0 kI 4 240 60 s1 sb0 sb1) ++ CW0 kI 1000 c0 ca0 ca1 ca2 ca3 ca4 ca5 ca6 ca7 ca8 ca9) ++ [(k0, .inl (kA, 3, .inr (.inr (.inr (.inr (fun _ => none))))))]) ++ CW0 kI 0 c4 ce0 ce1 ce2 ce3 ce4 ce5 ce6 ce7 ce8 ce9) ++ RW0 kI r0 c5 z0 cf0 cf1 cf2 cf3 cf4 cf5 cf6 cf7 cf8 cf9)) H := hP
  have hD : va_D A ((h0, .inr (5, [.ref s0, .ref s1, .ref c0, .ref k0, .ref c4, .ref r0, .null, .null, .null, .int 0, .int 0, .long 0, .long 0])) :: (((((SW0 kI 6 240 40 s0 sa0 sa1 ++ SW0 kI 4 240 60 s1 sb0 sb1) ++ CW0 kI 1000 c0 ca0 ca1 ca2 ca3 ca4 ca5 ca6 ca7 ca8 ca9) ++ [(k0, .inl (kA, 3, .inr (.inr (.inr (.inr (fun _ => none))))))]) ++ CW0 kI 0 c4 ce0 ce1 ce2 ce3 ce4 ce5 ce6 ce7 ce8 ce9) ++ RW0 kI r0 c5 z0 cf0 cf1 cf2 cf3 cf4 cf5 cf6 cf7 cf8 cf9)) := hD
  refine lv_aload_n hx hb di_Tent_77 rfl (lv_at hl 0 rfl) ?_
  refine i_new (ci := 1) (fs := fs0_Orders) (T := TX1) (ty := tyX1) C rfl iX1 tyX1_ok cl_Tent_44 in_Orders iz_Orders dfv_Orders (by show _ ≤ 85; omega) (by show _ ≤ 5726; omega) hP hD hS di_Tent_78 (fun o0 H hP hD hS => ?_)
  refine lv_dup hx hb di_Tent_81 rfl ?_
  refine i_call (md' := md_Orders_init) (d' := 1) (mc := 1) (ms := 5) (As := []) (rest := [.ref o0, .ref h0]) C oki_Orders (c_Orders_init o0) (Or.inr C.2.2.2.2.2.2.1.2.1) rfl hl.1 (Nat.le_of_ble_eq_true rfl) di_Tent_82 ⟨by show 1 + 1 ≤ 3; decide, by show 8 + (1 + 11) + 64 * 1 ≤ 64 * 3; decide⟩ ⟨by show _ ≤ 85; omega, by show _ ≤ 5726; omega⟩ hP hD hS (fun w1 H locs hw hP hD hS => ?_)
  obtain ⟨oa, rfl⟩ := hw
  have hP : va_P D mcl ((h0, .inr (5, [.ref s0, .ref s1, .ref c0, .ref k0, .ref c4, .ref r0, .null, .null, .null, .int 0, .int 0, .long 0, .long 0])) :: ((((((SW0 kI 6 240 40 s0 sa0 sa1 ++ SW0 kI 4 240 60 s1 sb0 sb1) ++ CW0 kI 1000 c0 ca0 ca1 ca2 ca3 ca4 ca5 ca6 ca7 ca8 ca9) ++ [(k0, .inl (kA, 3, .inr (.inr (.inr (.inr (fun _ => none))))))]) ++ CW0 kI 0 c4 ce0 ce1 ce2 ce3 ce4 ce5 ce6 ce7 ce8 ce9) ++ RW0 kI r0 c5 z0 cf0 cf1 cf2 cf3 cf4 cf5 cf6 cf7 cf8 cf9) ++ OW0 kI o0 oa)) H := hP
  have hD : va_D A ((h0, .inr (5, [.ref s0, .ref s1, .ref c0, .ref k0, .ref c4, .ref r0, .null, .null, .null, .int 0, .int 0, .long 0, .long 0])) :: ((((((SW0 kI 6 240 40 s0 sa0 sa1 ++ SW0 kI 4 240 60 s1 sb0 sb1) ++ CW0 kI 1000 c0 ca0 ca1 ca2 ca3 ca4 ca5 ca6 ca7 ca8 ca9) ++ [(k0, .inl (kA, 3, .inr (.inr (.inr (.inr (fun _ => none))))))]) ++ CW0 kI 0 c4 ce0 ce1 ce2 ce3 ce4 ce5 ce6 ce7 ce8 ce9) ++ RW0 kI r0 c5 z0 cf0 cf1 cf2 cf3 cf4 cf5 cf6 cf7 cf8 cf9) ++ OW0 kI o0 oa)) := hD
  refine i_put C hname df_Tent_85 rfl rfl rfl (Nat.le_of_ble_eq_true rfl) hP hD hS di_Tent_85 (fun H locs hP hD hS => ?_)
  have hP : va_P D mcl ((h0, .inr (5, [.ref s0, .ref s1, .ref c0, .ref k0, .ref c4, .ref r0, .ref o0, .null, .null, .int 0, .int 0, .long 0, .long 0])) :: ((((((SW0 kI 6 240 40 s0 sa0 sa1 ++ SW0 kI 4 240 60 s1 sb0 sb1) ++ CW0 kI 1000 c0 ca0 ca1 ca2 ca3 ca4 ca5 ca6 ca7 ca8 ca9) ++ [(k0, .inl (kA, 3, .inr (.inr (.inr (.inr (fun _ => none))))))]) ++ CW0 kI 0 c4 ce0 ce1 ce2 ce3 ce4 ce5 ce6 ce7 ce8 ce9) ++ RW0 kI r0 c5 z0 cf0 cf1 cf2 cf3 cf4 cf5 cf6 cf7 cf8 cf9) ++ OW0 kI o0 oa)) H := hP
  have hD : va_D A ((h0, .inr (5, [.ref s0, .ref s1, .ref c0, .ref k0, .ref c4, .ref r0, .ref o0, .null, .null, .int 0, .int 0, .long 0, .long 0])) :: ((((((SW0 kI 6 240 40 s0 sa0 sa1 ++ SW0 kI 4 240 60 s1 sb0 sb1) ++ CW0 kI 1000 c0 ca0 ca1 ca2 ca3 ca4 ca5 ca6 ca7 ca8 ca9) ++ [(k0, .inl (kA, 3, .inr (.inr (.inr (.inr (fun _ => none))))))]) ++ CW0 kI 0 c4 ce0 ce1 ce2 ce3 ce4 ce5 ce6 ce7 ce8 ce9) ++ RW0 kI r0 c5 z0 cf0 cf1 cf2 cf3 cf4 cf5 cf6 cf7 cf8 cf9) ++ OW0 kI o0 oa)) := hD
  refine lv_aload_n hx hb di_Tent_88 rfl (lv_at hl 0 rfl) ?_
  refine i_new (ci := 2) (fs := fs0_Plan) (T := TX2) (ty := tyX2) C rfl iX2 tyX2_ok cl_Tent_51 in_Plan iz_Plan dfv_Plan (by show _ ≤ 85; omega) (by show _ ≤ 5726; omega) hP hD hS di_Tent_89 (fun p0 H hP hD hS => ?_)
  refine lv_dup hx hb di_Tent_92 rfl ?_
  refine i_call (md' := md_Plan_init) (d' := 1) (mc := 6) (ms := 751) (As := []) (rest := [.ref p0, .ref h0]) C oki_Plan (c_Plan_init p0) (Or.inr C.2.2.2.2.2.2.1.2.2.1) rfl hl.1 (Nat.le_of_ble_eq_true rfl) di_Tent_93 ⟨by show 1 + 1 ≤ 3; decide, by show 8 + (1 + 11) + 64 * 1 ≤ 64 * 3; decide⟩ ⟨by show _ ≤ 85; omega, by show _ ≤ 5726; omega⟩ hP hD hS (fun w1 H locs hw hP hD hS => ?_)
  obtain ⟨pa0, pa1, pa2, pa3, pa4, pa5, rfl⟩ := hw
  have hP : va_P D mcl ((h0, .inr (5, [.ref s0, .ref s1, .ref c0, .ref k0, .ref c4, .ref r0, .ref o0, .null, .null, .int 0, .int 0, .long 0, .long 0])) :: (((((((SW0 kI 6 240 40 s0 sa0 sa1 ++ SW0 kI 4 240 60 s1 sb0 sb1) ++ CW0 kI 1000 c0 ca0 ca1 ca2 ca3 ca4 ca5 ca6 ca7 ca8 ca9) ++ [(k0, .inl (kA, 3, .inr (.inr (.inr (.inr (fun _ => none))))))]) ++ CW0 kI 0 c4 ce0 ce1 ce2 ce3 ce4 ce5 ce6 ce7 ce8 ce9) ++ RW0 kI r0 c5 z0 cf0 cf1 cf2 cf3 cf4 cf5 cf6 cf7 cf8 cf9) ++ OW0 kI o0 oa) ++ PW0 kI p0 pa0 pa1 pa2 pa3 pa4 pa5)) H := hP
  have hD : va_D A ((h0, .inr (5, [.ref s0, .ref s1, .ref c0, .ref k0, .ref c4, .ref r0, .ref o0, .null, .null, .int 0, .int 0, .long 0, .long 0])) :: (((((((SW0 kI 6 240 40 s0 sa0 sa1 ++ SW0 kI 4 240 60 s1 sb0 sb1) ++ CW0 kI 1000 c0 ca0 ca1 ca2 ca3 ca4 ca5 ca6 ca7 ca8 ca9) ++ [(k0, .inl (kA, 3, .inr (.inr (.inr (.inr (fun _ => none))))))]) ++ CW0 kI 0 c4 ce0 ce1 ce2 ce3 ce4 ce5 ce6 ce7 ce8 ce9) ++ RW0 kI r0 c5 z0 cf0 cf1 cf2 cf3 cf4 cf5 cf6 cf7 cf8 cf9) ++ OW0 kI o0 oa) ++ PW0 kI p0 pa0 pa1 pa2 pa3 pa4 pa5)) := hD
  refine i_put C hname df_Tent_96 rfl rfl rfl (Nat.le_of_ble_eq_true rfl) hP hD hS di_Tent_96 (fun H locs hP hD hS => ?_)
  have hP : va_P D mcl ((h0, .inr (5, [.ref s0, .ref s1, .ref c0, .ref k0, .ref c4, .ref r0, .ref o0, .ref p0, .null, .int 0, .int 0, .long 0, .long 0])) :: (((((((SW0 kI 6 240 40 s0 sa0 sa1 ++ SW0 kI 4 240 60 s1 sb0 sb1) ++ CW0 kI 1000 c0 ca0 ca1 ca2 ca3 ca4 ca5 ca6 ca7 ca8 ca9) ++ [(k0, .inl (kA, 3, .inr (.inr (.inr (.inr (fun _ => none))))))]) ++ CW0 kI 0 c4 ce0 ce1 ce2 ce3 ce4 ce5 ce6 ce7 ce8 ce9) ++ RW0 kI r0 c5 z0 cf0 cf1 cf2 cf3 cf4 cf5 cf6 cf7 cf8 cf9) ++ OW0 kI o0 oa) ++ PW0 kI p0 pa0 pa1 pa2 pa3 pa4 pa5)) H := hP
  have hD : va_D A ((h0, .inr (5, [.ref s0, .ref s1, .ref c0, .ref k0, .ref c4, .ref r0, .ref o0, .ref p0, .null, .int 0, .int 0, .long 0, .long 0])) :: (((((((SW0 kI 6 240 40 s0 sa0 sa1 ++ SW0 kI 4 240 60 s1 sb0 sb1) ++ CW0 kI 1000 c0 ca0 ca1 ca2 ca3 ca4 ca5 ca6 ca7 ca8 ca9) ++ [(k0, .inl (kA, 3, .inr (.inr (.inr (.inr (fun _ => none))))))]) ++ CW0 kI 0 c4 ce0 ce1 ce2 ce3 ce4 ce5 ce6 ce7 ce8 ce9) ++ RW0 kI r0 c5 z0 cf0 cf1 cf2 cf3 cf4 cf5 cf6 cf7 cf8 cf9) ++ OW0 kI o0 oa) ++ PW0 kI p0 pa0 pa1 pa2 pa3 pa4 pa5)) := hD
  refine lv_aload_n hx hb di_Tent_99 rfl (lv_at hl 0 rfl) ?_
  refine lv_bipush (v := 6) hx hb di_Tent_100 (by decide) ?_
  refine i_newI (N := 6) C hI_int (by decide) (by decide) (by decide) (by show _ ≤ 85; omega) (by show _ ≤ 5726; omega) hP hD hS di_Tent_102 (fun f0 H hP hD hS => ?_)
  have hP : va_P D mcl ((h0, .inr (5, [.ref s0, .ref s1, .ref c0, .ref k0, .ref c4, .ref r0, .ref o0, .ref p0, .null, .int 0, .int 0, .long 0, .long 0])) :: ((((((((SW0 kI 6 240 40 s0 sa0 sa1 ++ SW0 kI 4 240 60 s1 sb0 sb1) ++ CW0 kI 1000 c0 ca0 ca1 ca2 ca3 ca4 ca5 ca6 ca7 ca8 ca9) ++ [(k0, .inl (kA, 3, .inr (.inr (.inr (.inr (fun _ => none))))))]) ++ CW0 kI 0 c4 ce0 ce1 ce2 ce3 ce4 ce5 ce6 ce7 ce8 ce9) ++ RW0 kI r0 c5 z0 cf0 cf1 cf2 cf3 cf4 cf5 cf6 cf7 cf8 cf9) ++ OW0 kI o0 oa) ++ PW0 kI p0 pa0 pa1 pa2 pa3 pa4 pa5) ++ [(f0, .inl (kI, 6, .inl (fun _ => 0)))])) H := hP
  have hD : va_D A ((h0, .inr (5, [.ref s0, .ref s1, .ref c0, .ref k0, .ref c4, .ref r0, .ref o0, .ref p0, .null, .int 0, .int 0, .long 0, .long 0])) :: ((((((((SW0 kI 6 240 40 s0 sa0 sa1 ++ SW0 kI 4 240 60 s1 sb0 sb1) ++ CW0 kI 1000 c0 ca0 ca1 ca2 ca3 ca4 ca5 ca6 ca7 ca8 ca9) ++ [(k0, .inl (kA, 3, .inr (.inr (.inr (.inr (fun _ => none))))))]) ++ CW0 kI 0 c4 ce0 ce1 ce2 ce3 ce4 ce5 ce6 ce7 ce8 ce9) ++ RW0 kI r0 c5 z0 cf0 cf1 cf2 cf3 cf4 cf5 cf6 cf7 cf8 cf9) ++ OW0 kI o0 oa) ++ PW0 kI p0 pa0 pa1 pa2 pa3 pa4 pa5) ++ [(f0, .inl (kI, 6, .inl (fun _ => 0)))])) := hD
  refine i_put C hname df_Tent_104 rfl rfl rfl (Nat.le_of_ble_eq_true rfl) hP hD hS di_Tent_104 (fun H locs hP hD hS => ?_)
  have hP : va_P D mcl ((h0, .inr (5, [.ref s0, .ref s1, .ref c0, .ref k0, .ref c4, .ref r0, .ref o0, .ref p0, .ref f0, .int 0, .int 0, .long 0, .long 0])) :: ((((((((SW0 kI 6 240 40 s0 sa0 sa1 ++ SW0 kI 4 240 60 s1 sb0 sb1) ++ CW0 kI 1000 c0 ca0 ca1 ca2 ca3 ca4 ca5 ca6 ca7 ca8 ca9) ++ [(k0, .inl (kA, 3, .inr (.inr (.inr (.inr (fun _ => none))))))]) ++ CW0 kI 0 c4 ce0 ce1 ce2 ce3 ce4 ce5 ce6 ce7 ce8 ce9) ++ RW0 kI r0 c5 z0 cf0 cf1 cf2 cf3 cf4 cf5 cf6 cf7 cf8 cf9) ++ OW0 kI o0 oa) ++ PW0 kI p0 pa0 pa1 pa2 pa3 pa4 pa5) ++ [(f0, .inl (kI, 6, .inl (fun _ => 0)))])) H := hP
  have hD : va_D A ((h0, .inr (5, [.ref s0, .ref s1, .ref c0, .ref k0, .ref c4, .ref r0, .ref o0, .ref p0, .ref f0, .int 0, .int 0, .long 0, .long 0])) :: ((((((((SW0 kI 6 240 40 s0 sa0 sa1 ++ SW0 kI 4 240 60 s1 sb0 sb1) ++ CW0 kI 1000 c0 ca0 ca1 ca2 ca3 ca4 ca5 ca6 ca7 ca8 ca9) ++ [(k0, .inl (kA, 3, .inr (.inr (.inr (.inr (fun _ => none))))))]) ++ CW0 kI 0 c4 ce0 ce1 ce2 ce3 ce4 ce5 ce6 ce7 ce8 ce9) ++ RW0 kI r0 c5 z0 cf0 cf1 cf2 cf3 cf4 cf5 cf6 cf7 cf8 cf9) ++ OW0 kI o0 oa) ++ PW0 kI p0 pa0 pa1 pa2 pa3 pa4 pa5) ++ [(f0, .inl (kI, 6, .inl (fun _ => 0)))])) := hD
  refine lv_aload_n hx hb di_Tent_107 rfl (lv_at hl 0 rfl) ?_
  refine lv_lconst (v := 1) hx hb di_Tent_108 (by decide) ?_
  refine i_put C hname df_Tent_109 rfl rfl rfl (Nat.le_of_ble_eq_true rfl) hP hD hS di_Tent_109 (fun H locs hP hD hS => ?_)
  have hP : va_P D mcl ((h0, .inr (5, [.ref s0, .ref s1, .ref c0, .ref k0, .ref c4, .ref r0, .ref o0, .ref p0, .ref f0, .int 0, .int 0, .long 0, .long 1])) :: ((((((((SW0 kI 6 240 40 s0 sa0 sa1 ++ SW0 kI 4 240 60 s1 sb0 sb1) ++ CW0 kI 1000 c0 ca0 ca1 ca2 ca3 ca4 ca5 ca6 ca7 ca8 ca9) ++ [(k0, .inl (kA, 3, .inr (.inr (.inr (.inr (fun _ => none))))))]) ++ CW0 kI 0 c4 ce0 ce1 ce2 ce3 ce4 ce5 ce6 ce7 ce8 ce9) ++ RW0 kI r0 c5 z0 cf0 cf1 cf2 cf3 cf4 cf5 cf6 cf7 cf8 cf9) ++ OW0 kI o0 oa) ++ PW0 kI p0 pa0 pa1 pa2 pa3 pa4 pa5) ++ [(f0, .inl (kI, 6, .inl (fun _ => 0)))])) H := hP
  have hD : va_D A ((h0, .inr (5, [.ref s0, .ref s1, .ref c0, .ref k0, .ref c4, .ref r0, .ref o0, .ref p0, .ref f0, .int 0, .int 0, .long 0, .long 1])) :: ((((((((SW0 kI 6 240 40 s0 sa0 sa1 ++ SW0 kI 4 240 60 s1 sb0 sb1) ++ CW0 kI 1000 c0 ca0 ca1 ca2 ca3 ca4 ca5 ca6 ca7 ca8 ca9) ++ [(k0, .inl (kA, 3, .inr (.inr (.inr (.inr (fun _ => none))))))]) ++ CW0 kI 0 c4 ce0 ce1 ce2 ce3 ce4 ce5 ce6 ce7 ce8 ce9) ++ RW0 kI r0 c5 z0 cf0 cf1 cf2 cf3 cf4 cf5 cf6 cf7 cf8 cf9) ++ OW0 kI o0 oa) ++ PW0 kI p0 pa0 pa1 pa2 pa3 pa4 pa5) ++ [(f0, .inl (kI, 6, .inl (fun _ => 0)))])) := hD
  refine lv_iconst (v := 0) hx hb di_Tent_112 (by decide) ?_
  refine lv_istore_n (nL := 2) hx hb di_Tent_113 rfl hl (by decide) rfl (fun ls hl => ?_)
  have hl : lv_has ls 2 [(1, .int 0), (0, .ref h0)] := hl
  refine lv_iload_n hx hb di_Tent_114 rfl (lv_at hl 0 rfl) ?_
  refine lv_iconst (v := 3) hx hb di_Tent_115 (by decide) ?_
  refine lv_icmp_ge (tgt := 140) hx hb di_Tent_116 (by decide) (fun h => absurd h (by decide)) (fun _ => ?_)
  refine lv_aload_n hx hb di_Tent_119 rfl (lv_at hl 1 rfl) ?_
  refine i_get C df_Tent_120 (by decide +kernel) (v := .ref k0) hP rfl di_Tent_120 ?_
  refine lv_iload_n hx hb di_Tent_123 rfl (lv_at hl 0 rfl) ?_
  refine i_new (ci := 0) (fs := fs0_Camp) (T := TX0) (ty := tyX0) C rfl iX0 tyX0_ok cl_Tent_21 in_Camp iz_Camp dfv_Camp (by show _ ≤ 85; omega) (by show _ ≤ 5726; omega) hP hD hS di_Tent_124 (fun c1 H hP hD hS => ?_)
  refine lv_dup hx hb di_Tent_127 rfl ?_
  refine lv_bipush (v := 40) hx hb di_Tent_128 (by decide) ?_
  refine i_call (md' := md_Camp_init) (d' := 1) (mc := 10) (ms := 1048) (As := [.int 40]) (rest := [.ref c1, .int 0, .ref k0]) C oki_Camp (c_Camp_init c1 40 1000 (by decide) (by decide) (by decide)) (Or.inl li_Tent_23) rfl hl.1 (Nat.le_of_ble_eq_true rfl) di_Tent_130 ⟨by show 1 + 1 ≤ 3; decide, by show 8 + (2 + 11) + 64 * 1 ≤ 64 * 3; decide⟩ ⟨by show _ ≤ 85; omega, by show _ ≤ 5726; omega⟩ hP hD hS (fun w1 H locs hw hP hD hS => ?_)
  obtain ⟨cb0, cb1, cb2, cb3, cb4, cb5, cb6, cb7, cb8, cb9, rfl⟩ := hw
  have hP : va_P D mcl ((h0, .inr (5, [.ref s0, .ref s1, .ref c0, .ref k0, .ref c4, .ref r0, .ref o0, .ref p0, .ref f0, .int 0, .int 0, .long 0, .long 1])) :: (((((((((SW0 kI 6 240 40 s0 sa0 sa1 ++ SW0 kI 4 240 60 s1 sb0 sb1) ++ CW0 kI 1000 c0 ca0 ca1 ca2 ca3 ca4 ca5 ca6 ca7 ca8 ca9) ++ [(k0, .inl (kA, 3, .inr (.inr (.inr (.inr (fun _ => none))))))]) ++ CW0 kI 0 c4 ce0 ce1 ce2 ce3 ce4 ce5 ce6 ce7 ce8 ce9) ++ RW0 kI r0 c5 z0 cf0 cf1 cf2 cf3 cf4 cf5 cf6 cf7 cf8 cf9) ++ OW0 kI o0 oa) ++ PW0 kI p0 pa0 pa1 pa2 pa3 pa4 pa5) ++ [(f0, .inl (kI, 6, .inl (fun _ => 0)))]) ++ CW0 kI 1000 c1 cb0 cb1 cb2 cb3 cb4 cb5 cb6 cb7 cb8 cb9)) H := hP
  have hD : va_D A ((h0, .inr (5, [.ref s0, .ref s1, .ref c0, .ref k0, .ref c4, .ref r0, .ref o0, .ref p0, .ref f0, .int 0, .int 0, .long 0, .long 1])) :: (((((((((SW0 kI 6 240 40 s0 sa0 sa1 ++ SW0 kI 4 240 60 s1 sb0 sb1) ++ CW0 kI 1000 c0 ca0 ca1 ca2 ca3 ca4 ca5 ca6 ca7 ca8 ca9) ++ [(k0, .inl (kA, 3, .inr (.inr (.inr (.inr (fun _ => none))))))]) ++ CW0 kI 0 c4 ce0 ce1 ce2 ce3 ce4 ce5 ce6 ce7 ce8 ce9) ++ RW0 kI r0 c5 z0 cf0 cf1 cf2 cf3 cf4 cf5 cf6 cf7 cf8 cf9) ++ OW0 kI o0 oa) ++ PW0 kI p0 pa0 pa1 pa2 pa3 pa4 pa5) ++ [(f0, .inl (kI, 6, .inl (fun _ => 0)))]) ++ CW0 kI 1000 c1 cb0 cb1 cb2 cb3 cb4 cb5 cb6 cb7 cb8 cb9)) := hD
  refine va_astq hx hb hK hP hD hS 18 1 53 0 rfl rfl rfl rfl (inb_in (by decide)) di_Tent_133 (fun H locs hP hD hS => ?_)
  have hP : va_P D mcl ((h0, .inr (5, [.ref s0, .ref s1, .ref c0, .ref k0, .ref c4, .ref r0, .ref o0, .ref p0, .ref f0, .int 0, .int 0, .long 0, .long 1])) :: (((((((((SW0 kI 6 240 40 s0 sa0 sa1 ++ SW0 kI 4 240 60 s1 sb0 sb1) ++ CW0 kI 1000 c0 ca0 ca1 ca2 ca3 ca4 ca5 ca6 ca7 ca8 ca9) ++ [(k0, .inl (kA, 3, .inr (.inr (.inr (.inr (va_up (fun _ => none) 0 (some c1)))))))]) ++ CW0 kI 0 c4 ce0 ce1 ce2 ce3 ce4 ce5 ce6 ce7 ce8 ce9) ++ RW0 kI r0 c5 z0 cf0 cf1 cf2 cf3 cf4 cf5 cf6 cf7 cf8 cf9) ++ OW0 kI o0 oa) ++ PW0 kI p0 pa0 pa1 pa2 pa3 pa4 pa5) ++ [(f0, .inl (kI, 6, .inl (fun _ => 0)))]) ++ CW0 kI 1000 c1 cb0 cb1 cb2 cb3 cb4 cb5 cb6 cb7 cb8 cb9)) H := hP
  have hD : va_D A ((h0, .inr (5, [.ref s0, .ref s1, .ref c0, .ref k0, .ref c4, .ref r0, .ref o0, .ref p0, .ref f0, .int 0, .int 0, .long 0, .long 1])) :: (((((((((SW0 kI 6 240 40 s0 sa0 sa1 ++ SW0 kI 4 240 60 s1 sb0 sb1) ++ CW0 kI 1000 c0 ca0 ca1 ca2 ca3 ca4 ca5 ca6 ca7 ca8 ca9) ++ [(k0, .inl (kA, 3, .inr (.inr (.inr (.inr (va_up (fun _ => none) 0 (some c1)))))))]) ++ CW0 kI 0 c4 ce0 ce1 ce2 ce3 ce4 ce5 ce6 ce7 ce8 ce9) ++ RW0 kI r0 c5 z0 cf0 cf1 cf2 cf3 cf4 cf5 cf6 cf7 cf8 cf9) ++ OW0 kI o0 oa) ++ PW0 kI p0 pa0 pa1 pa2 pa3 pa4 pa5) ++ [(f0, .inl (kI, 6, .inl (fun _ => 0)))]) ++ CW0 kI 1000 c1 cb0 cb1 cb2 cb3 cb4 cb5 cb6 cb7 cb8 cb9)) := hD
  refine lv_iinc (nL := 2) (k := 0) (v := 1) hx hb di_Tent_134 hl rfl (by decide) (by decide) rfl (fun ls hl => ?_)
  have hl : lv_has ls 2 [(1, .int 1), (0, .ref h0)] := hl
  refine lv_goto (tgt := 114) hx hb di_Tent_137 (by decide) ?_
  refine lv_iload_n hx hb di_Tent_114 rfl (lv_at hl 0 rfl) ?_
  refine lv_iconst (v := 3) hx hb di_Tent_115 (by decide) ?_
  refine lv_icmp_ge (tgt := 140) hx hb di_Tent_116 (by decide) (fun h => absurd h (by decide)) (fun _ => ?_)
  refine lv_aload_n hx hb di_Tent_119 rfl (lv_at hl 1 rfl) ?_
  refine i_get C df_Tent_120 (by decide +kernel) (v := .ref k0) hP rfl di_Tent_120 ?_
  refine lv_iload_n hx hb di_Tent_123 rfl (lv_at hl 0 rfl) ?_
  refine i_new (ci := 0) (fs := fs0_Camp) (T := TX0) (ty := tyX0) C rfl iX0 tyX0_ok cl_Tent_21 in_Camp iz_Camp dfv_Camp (by show _ ≤ 85; omega) (by show _ ≤ 5726; omega) hP hD hS di_Tent_124 (fun c2 H hP hD hS => ?_)
  refine lv_dup hx hb di_Tent_127 rfl ?_
  refine lv_bipush (v := 40) hx hb di_Tent_128 (by decide) ?_
  refine i_call (md' := md_Camp_init) (d' := 1) (mc := 10) (ms := 1048) (As := [.int 40]) (rest := [.ref c2, .int 1, .ref k0]) C oki_Camp (c_Camp_init c2 40 1000 (by decide) (by decide) (by decide)) (Or.inl li_Tent_23) rfl hl.1 (Nat.le_of_ble_eq_true rfl) di_Tent_130 ⟨by show 1 + 1 ≤ 3; decide, by show 8 + (2 + 11) + 64 * 1 ≤ 64 * 3; decide⟩ ⟨by show _ ≤ 85; omega, by show _ ≤ 5726; omega⟩ hP hD hS (fun w1 H locs hw hP hD hS => ?_)
  obtain ⟨cc0, cc1, cc2, cc3, cc4, cc5, cc6, cc7, cc8, cc9, rfl⟩ := hw
  have hP : va_P D mcl ((h0, .inr (5, [.ref s0, .ref s1, .ref c0, .ref k0, .ref c4, .ref r0, .ref o0, .ref p0, .ref f0, .int 0, .int 0, .long 0, .long 1])) :: ((((((((((SW0 kI 6 240 40 s0 sa0 sa1 ++ SW0 kI 4 240 60 s1 sb0 sb1) ++ CW0 kI 1000 c0 ca0 ca1 ca2 ca3 ca4 ca5 ca6 ca7 ca8 ca9) ++ [(k0, .inl (kA, 3, .inr (.inr (.inr (.inr (va_up (fun _ => none) 0 (some c1)))))))]) ++ CW0 kI 0 c4 ce0 ce1 ce2 ce3 ce4 ce5 ce6 ce7 ce8 ce9) ++ RW0 kI r0 c5 z0 cf0 cf1 cf2 cf3 cf4 cf5 cf6 cf7 cf8 cf9) ++ OW0 kI o0 oa) ++ PW0 kI p0 pa0 pa1 pa2 pa3 pa4 pa5) ++ [(f0, .inl (kI, 6, .inl (fun _ => 0)))]) ++ CW0 kI 1000 c1 cb0 cb1 cb2 cb3 cb4 cb5 cb6 cb7 cb8 cb9) ++ CW0 kI 1000 c2 cc0 cc1 cc2 cc3 cc4 cc5 cc6 cc7 cc8 cc9)) H := hP
  have hD : va_D A ((h0, .inr (5, [.ref s0, .ref s1, .ref c0, .ref k0, .ref c4, .ref r0, .ref o0, .ref p0, .ref f0, .int 0, .int 0, .long 0, .long 1])) :: ((((((((((SW0 kI 6 240 40 s0 sa0 sa1 ++ SW0 kI 4 240 60 s1 sb0 sb1) ++ CW0 kI 1000 c0 ca0 ca1 ca2 ca3 ca4 ca5 ca6 ca7 ca8 ca9) ++ [(k0, .inl (kA, 3, .inr (.inr (.inr (.inr (va_up (fun _ => none) 0 (some c1)))))))]) ++ CW0 kI 0 c4 ce0 ce1 ce2 ce3 ce4 ce5 ce6 ce7 ce8 ce9) ++ RW0 kI r0 c5 z0 cf0 cf1 cf2 cf3 cf4 cf5 cf6 cf7 cf8 cf9) ++ OW0 kI o0 oa) ++ PW0 kI p0 pa0 pa1 pa2 pa3 pa4 pa5) ++ [(f0, .inl (kI, 6, .inl (fun _ => 0)))]) ++ CW0 kI 1000 c1 cb0 cb1 cb2 cb3 cb4 cb5 cb6 cb7 cb8 cb9) ++ CW0 kI 1000 c2 cc0 cc1 cc2 cc3 cc4 cc5 cc6 cc7 cc8 cc9)) := hD
  refine va_astq hx hb hK hP hD hS 18 1 64 0 rfl rfl rfl rfl (inb_in (by decide)) di_Tent_133 (fun H locs hP hD hS => ?_)
  have hP : va_P D mcl ((h0, .inr (5, [.ref s0, .ref s1, .ref c0, .ref k0, .ref c4, .ref r0, .ref o0, .ref p0, .ref f0, .int 0, .int 0, .long 0, .long 1])) :: ((((((((((SW0 kI 6 240 40 s0 sa0 sa1 ++ SW0 kI 4 240 60 s1 sb0 sb1) ++ CW0 kI 1000 c0 ca0 ca1 ca2 ca3 ca4 ca5 ca6 ca7 ca8 ca9) ++ [(k0, .inl (kA, 3, .inr (.inr (.inr (.inr (va_up (va_up (fun _ => none) 0 (some c1)) 1 (some c2)))))))]) ++ CW0 kI 0 c4 ce0 ce1 ce2 ce3 ce4 ce5 ce6 ce7 ce8 ce9) ++ RW0 kI r0 c5 z0 cf0 cf1 cf2 cf3 cf4 cf5 cf6 cf7 cf8 cf9) ++ OW0 kI o0 oa) ++ PW0 kI p0 pa0 pa1 pa2 pa3 pa4 pa5) ++ [(f0, .inl (kI, 6, .inl (fun _ => 0)))]) ++ CW0 kI 1000 c1 cb0 cb1 cb2 cb3 cb4 cb5 cb6 cb7 cb8 cb9) ++ CW0 kI 1000 c2 cc0 cc1 cc2 cc3 cc4 cc5 cc6 cc7 cc8 cc9)) H := hP
  have hD : va_D A ((h0, .inr (5, [.ref s0, .ref s1, .ref c0, .ref k0, .ref c4, .ref r0, .ref o0, .ref p0, .ref f0, .int 0, .int 0, .long 0, .long 1])) :: ((((((((((SW0 kI 6 240 40 s0 sa0 sa1 ++ SW0 kI 4 240 60 s1 sb0 sb1) ++ CW0 kI 1000 c0 ca0 ca1 ca2 ca3 ca4 ca5 ca6 ca7 ca8 ca9) ++ [(k0, .inl (kA, 3, .inr (.inr (.inr (.inr (va_up (va_up (fun _ => none) 0 (some c1)) 1 (some c2)))))))]) ++ CW0 kI 0 c4 ce0 ce1 ce2 ce3 ce4 ce5 ce6 ce7 ce8 ce9) ++ RW0 kI r0 c5 z0 cf0 cf1 cf2 cf3 cf4 cf5 cf6 cf7 cf8 cf9) ++ OW0 kI o0 oa) ++ PW0 kI p0 pa0 pa1 pa2 pa3 pa4 pa5) ++ [(f0, .inl (kI, 6, .inl (fun _ => 0)))]) ++ CW0 kI 1000 c1 cb0 cb1 cb2 cb3 cb4 cb5 cb6 cb7 cb8 cb9) ++ CW0 kI 1000 c2 cc0 cc1 cc2 cc3 cc4 cc5 cc6 cc7 cc8 cc9)) := hD
  refine lv_iinc (nL := 2) (k := 0) (v := 2) hx hb di_Tent_134 hl rfl (by decide) (by decide) rfl (fun ls hl => ?_)
  have hl : lv_has ls 2 [(1, .int 2), (0, .ref h0)] := hl
  refine lv_goto (tgt := 114) hx hb di_Tent_137 (by decide) ?_
  refine lv_iload_n hx hb di_Tent_114 rfl (lv_at hl 0 rfl) ?_
  refine lv_iconst (v := 3) hx hb di_Tent_115 (by decide) ?_
  refine lv_icmp_ge (tgt := 140) hx hb di_Tent_116 (by decide) (fun h => absurd h (by decide)) (fun _ => ?_)
  refine lv_aload_n hx hb di_Tent_119 rfl (lv_at hl 1 rfl) ?_
  refine i_get C df_Tent_120 (by decide +kernel) (v := .ref k0) hP rfl di_Tent_120 ?_
  refine lv_iload_n hx hb di_Tent_123 rfl (lv_at hl 0 rfl) ?_
  refine i_new (ci := 0) (fs := fs0_Camp) (T := TX0) (ty := tyX0) C rfl iX0 tyX0_ok cl_Tent_21 in_Camp iz_Camp dfv_Camp (by show _ ≤ 85; omega) (by show _ ≤ 5726; omega) hP hD hS di_Tent_124 (fun c3 H hP hD hS => ?_)
  refine lv_dup hx hb di_Tent_127 rfl ?_
  refine lv_bipush (v := 40) hx hb di_Tent_128 (by decide) ?_
  refine i_call (md' := md_Camp_init) (d' := 1) (mc := 10) (ms := 1048) (As := [.int 40]) (rest := [.ref c3, .int 2, .ref k0]) C oki_Camp (c_Camp_init c3 40 1000 (by decide) (by decide) (by decide)) (Or.inl li_Tent_23) rfl hl.1 (Nat.le_of_ble_eq_true rfl) di_Tent_130 ⟨by show 1 + 1 ≤ 3; decide, by show 8 + (2 + 11) + 64 * 1 ≤ 64 * 3; decide⟩ ⟨by show _ ≤ 85; omega, by show _ ≤ 5726; omega⟩ hP hD hS (fun w1 H locs hw hP hD hS => ?_)
  obtain ⟨cd0, cd1, cd2, cd3, cd4, cd5, cd6, cd7, cd8, cd9, rfl⟩ := hw
  have hP : va_P D mcl ((h0, .inr (5, [.ref s0, .ref s1, .ref c0, .ref k0, .ref c4, .ref r0, .ref o0, .ref p0, .ref f0, .int 0, .int 0, .long 0, .long 1])) :: (((((((((((SW0 kI 6 240 40 s0 sa0 sa1 ++ SW0 kI 4 240 60 s1 sb0 sb1) ++ CW0 kI 1000 c0 ca0 ca1 ca2 ca3 ca4 ca5 ca6 ca7 ca8 ca9) ++ [(k0, .inl (kA, 3, .inr (.inr (.inr (.inr (va_up (va_up (fun _ => none) 0 (some c1)) 1 (some c2)))))))]) ++ CW0 kI 0 c4 ce0 ce1 ce2 ce3 ce4 ce5 ce6 ce7 ce8 ce9) ++ RW0 kI r0 c5 z0 cf0 cf1 cf2 cf3 cf4 cf5 cf6 cf7 cf8 cf9) ++ OW0 kI o0 oa) ++ PW0 kI p0 pa0 pa1 pa2 pa3 pa4 pa5) ++ [(f0, .inl (kI, 6, .inl (fun _ => 0)))]) ++ CW0 kI 1000 c1 cb0 cb1 cb2 cb3 cb4 cb5 cb6 cb7 cb8 cb9) ++ CW0 kI 1000 c2 cc0 cc1 cc2 cc3 cc4 cc5 cc6 cc7 cc8 cc9) ++ CW0 kI 1000 c3 cd0 cd1 cd2 cd3 cd4 cd5 cd6 cd7 cd8 cd9)) H := hP
  have hD : va_D A ((h0, .inr (5, [.ref s0, .ref s1, .ref c0, .ref k0, .ref c4, .ref r0, .ref o0, .ref p0, .ref f0, .int 0, .int 0, .long 0, .long 1])) :: (((((((((((SW0 kI 6 240 40 s0 sa0 sa1 ++ SW0 kI 4 240 60 s1 sb0 sb1) ++ CW0 kI 1000 c0 ca0 ca1 ca2 ca3 ca4 ca5 ca6 ca7 ca8 ca9) ++ [(k0, .inl (kA, 3, .inr (.inr (.inr (.inr (va_up (va_up (fun _ => none) 0 (some c1)) 1 (some c2)))))))]) ++ CW0 kI 0 c4 ce0 ce1 ce2 ce3 ce4 ce5 ce6 ce7 ce8 ce9) ++ RW0 kI r0 c5 z0 cf0 cf1 cf2 cf3 cf4 cf5 cf6 cf7 cf8 cf9) ++ OW0 kI o0 oa) ++ PW0 kI p0 pa0 pa1 pa2 pa3 pa4 pa5) ++ [(f0, .inl (kI, 6, .inl (fun _ => 0)))]) ++ CW0 kI 1000 c1 cb0 cb1 cb2 cb3 cb4 cb5 cb6 cb7 cb8 cb9) ++ CW0 kI 1000 c2 cc0 cc1 cc2 cc3 cc4 cc5 cc6 cc7 cc8 cc9) ++ CW0 kI 1000 c3 cd0 cd1 cd2 cd3 cd4 cd5 cd6 cd7 cd8 cd9)) := hD
  refine va_astq hx hb hK hP hD hS 18 1 75 0 rfl rfl rfl rfl (inb_in (by decide)) di_Tent_133 (fun H locs hP hD hS => ?_)
  have hP : va_P D mcl ((h0, .inr (5, [.ref s0, .ref s1, .ref c0, .ref k0, .ref c4, .ref r0, .ref o0, .ref p0, .ref f0, .int 0, .int 0, .long 0, .long 1])) :: (((((((((((SW0 kI 6 240 40 s0 sa0 sa1 ++ SW0 kI 4 240 60 s1 sb0 sb1) ++ CW0 kI 1000 c0 ca0 ca1 ca2 ca3 ca4 ca5 ca6 ca7 ca8 ca9) ++ [(k0, .inl (kA, 3, .inr (.inr (.inr (.inr (va_up (va_up (va_up (fun _ => none) 0 (some c1)) 1 (some c2)) 2 (some c3)))))))]) ++ CW0 kI 0 c4 ce0 ce1 ce2 ce3 ce4 ce5 ce6 ce7 ce8 ce9) ++ RW0 kI r0 c5 z0 cf0 cf1 cf2 cf3 cf4 cf5 cf6 cf7 cf8 cf9) ++ OW0 kI o0 oa) ++ PW0 kI p0 pa0 pa1 pa2 pa3 pa4 pa5) ++ [(f0, .inl (kI, 6, .inl (fun _ => 0)))]) ++ CW0 kI 1000 c1 cb0 cb1 cb2 cb3 cb4 cb5 cb6 cb7 cb8 cb9) ++ CW0 kI 1000 c2 cc0 cc1 cc2 cc3 cc4 cc5 cc6 cc7 cc8 cc9) ++ CW0 kI 1000 c3 cd0 cd1 cd2 cd3 cd4 cd5 cd6 cd7 cd8 cd9)) H := hP
  have hD : va_D A ((h0, .inr (5, [.ref s0, .ref s1, .ref c0, .ref k0, .ref c4, .ref r0, .ref o0, .ref p0, .ref f0, .int 0, .int 0, .long 0, .long 1])) :: (((((((((((SW0 kI 6 240 40 s0 sa0 sa1 ++ SW0 kI 4 240 60 s1 sb0 sb1) ++ CW0 kI 1000 c0 ca0 ca1 ca2 ca3 ca4 ca5 ca6 ca7 ca8 ca9) ++ [(k0, .inl (kA, 3, .inr (.inr (.inr (.inr (va_up (va_up (va_up (fun _ => none) 0 (some c1)) 1 (some c2)) 2 (some c3)))))))]) ++ CW0 kI 0 c4 ce0 ce1 ce2 ce3 ce4 ce5 ce6 ce7 ce8 ce9) ++ RW0 kI r0 c5 z0 cf0 cf1 cf2 cf3 cf4 cf5 cf6 cf7 cf8 cf9) ++ OW0 kI o0 oa) ++ PW0 kI p0 pa0 pa1 pa2 pa3 pa4 pa5) ++ [(f0, .inl (kI, 6, .inl (fun _ => 0)))]) ++ CW0 kI 1000 c1 cb0 cb1 cb2 cb3 cb4 cb5 cb6 cb7 cb8 cb9) ++ CW0 kI 1000 c2 cc0 cc1 cc2 cc3 cc4 cc5 cc6 cc7 cc8 cc9) ++ CW0 kI 1000 c3 cd0 cd1 cd2 cd3 cd4 cd5 cd6 cd7 cd8 cd9)) := hD
  refine lv_iinc (nL := 2) (k := 0) (v := 3) hx hb di_Tent_134 hl rfl (by decide) (by decide) rfl (fun ls hl => ?_)
  have hl : lv_has ls 2 [(1, .int 3), (0, .ref h0)] := hl
  refine lv_goto (tgt := 114) hx hb di_Tent_137 (by decide) ?_
  refine lv_iload_n hx hb di_Tent_114 rfl (lv_at hl 0 rfl) ?_
  refine lv_iconst (v := 3) hx hb di_Tent_115 (by decide) ?_
  refine lv_icmp_ge (tgt := 140) hx hb di_Tent_116 (by decide) (fun _ => ?_) (fun h => absurd (by decide) h)
  have hk3 : ∀ j, j < 3 → (va_up (va_up (va_up (fun _ => none) 0 (some c1)) 1 (some c2)) 2 (some c3)) j = (fun j => some ((adT h0 s0 sa0 sa1 s1 sb0 sb1 [c0, c1, c2, c3, c4, c5] [[ca0, ca1, ca2, ca3, ca4, ca5, ca6, ca7, ca8, ca9], [cb0, cb1, cb2, cb3, cb4, cb5, cb6, cb7, cb8, cb9], [cc0, cc1, cc2, cc3, cc4, cc5, cc6, cc7, cc8, cc9], [cd0, cd1, cd2, cd3, cd4, cd5, cd6, cd7, cd8, cd9], [ce0, ce1, ce2, ce3, ce4, ce5, ce6, ce7, ce8, ce9], [cf0, cf1, cf2, cf3, cf4, cf5, cf6, cf7, cf8, cf9]] k0 r0 z0 o0 oa p0 [pa0, pa1, pa2, pa3, pa4, pa5] f0) (rfv 15 0 j))) j := fun j hj => match j, hj with
    | 0, _ => rfl
    | 1, _ => rfl
    | 2, _ => rfl
    | n + 3, h => absurd h (by omega)
  have hP1 := hP.refq (k := 18) rfl hk3
  have hD1 := hD.set (p := 18) (a := k0) (e := .inl (kA, 3, .inr (.inr (.inr (.inr (fun j => some ((adT h0 s0 sa0 sa1 s1 sb0 sb1 [c0, c1, c2, c3, c4, c5] [[ca0, ca1, ca2, ca3, ca4, ca5, ca6, ca7, ca8, ca9], [cb0, cb1, cb2, cb3, cb4, cb5, cb6, cb7, cb8, cb9], [cc0, cc1, cc2, cc3, cc4, cc5, cc6, cc7, cc8, cc9], [cd0, cd1, cd2, cd3, cd4, cd5, cd6, cd7, cd8, cd9], [ce0, ce1, ce2, ce3, ce4, ce5, ce6, ce7, ce8, ce9], [cf0, cf1, cf2, cf3, cf4, cf5, cf6, cf7, cf8, cf9]] k0 r0 z0 o0 oa p0 [pa0, pa1, pa2, pa3, pa4, pa5] f0) (rfv 15 0 j)))))))) rfl
  have hP2 : va_P D mcl ((h0, .inr (5, [.ref s0, .ref s1, .ref c0, .ref k0, .ref c4, .ref r0, .ref o0, .ref p0, .ref f0, .int 0, .int 0, .long 0, .long 1])) :: (((((((((((SW0 kI 6 240 40 s0 sa0 sa1 ++ SW0 kI 4 240 60 s1 sb0 sb1) ++ CW0 kI 1000 c0 ca0 ca1 ca2 ca3 ca4 ca5 ca6 ca7 ca8 ca9) ++ [(k0, .inl (kA, 3, .inr (.inr (.inr (.inr (fun j => some ((adT h0 s0 sa0 sa1 s1 sb0 sb1 [c0, c1, c2, c3, c4, c5] [[ca0, ca1, ca2, ca3, ca4, ca5, ca6, ca7, ca8, ca9], [cb0, cb1, cb2, cb3, cb4, cb5, cb6, cb7, cb8, cb9], [cc0, cc1, cc2, cc3, cc4, cc5, cc6, cc7, cc8, cc9], [cd0, cd1, cd2, cd3, cd4, cd5, cd6, cd7, cd8, cd9], [ce0, ce1, ce2, ce3, ce4, ce5, ce6, ce7, ce8, ce9], [cf0, cf1, cf2, cf3, cf4, cf5, cf6, cf7, cf8, cf9]] k0 r0 z0 o0 oa p0 [pa0, pa1, pa2, pa3, pa4, pa5] f0) (rfv 15 0 j))))))))]) ++ CW0 kI 0 c4 ce0 ce1 ce2 ce3 ce4 ce5 ce6 ce7 ce8 ce9) ++ RW0 kI r0 c5 z0 cf0 cf1 cf2 cf3 cf4 cf5 cf6 cf7 cf8 cf9) ++ OW0 kI o0 oa) ++ PW0 kI p0 pa0 pa1 pa2 pa3 pa4 pa5) ++ [(f0, .inl (kI, 6, .inl (fun _ => 0)))]) ++ CW0 kI 1000 c1 cb0 cb1 cb2 cb3 cb4 cb5 cb6 cb7 cb8 cb9) ++ CW0 kI 1000 c2 cc0 cc1 cc2 cc3 cc4 cc5 cc6 cc7 cc8 cc9) ++ CW0 kI 1000 c3 cd0 cd1 cd2 cd3 cd4 cd5 cd6 cd7 cd8 cd9)) H := hP1
  have hD2 : va_D A ((h0, .inr (5, [.ref s0, .ref s1, .ref c0, .ref k0, .ref c4, .ref r0, .ref o0, .ref p0, .ref f0, .int 0, .int 0, .long 0, .long 1])) :: (((((((((((SW0 kI 6 240 40 s0 sa0 sa1 ++ SW0 kI 4 240 60 s1 sb0 sb1) ++ CW0 kI 1000 c0 ca0 ca1 ca2 ca3 ca4 ca5 ca6 ca7 ca8 ca9) ++ [(k0, .inl (kA, 3, .inr (.inr (.inr (.inr (fun j => some ((adT h0 s0 sa0 sa1 s1 sb0 sb1 [c0, c1, c2, c3, c4, c5] [[ca0, ca1, ca2, ca3, ca4, ca5, ca6, ca7, ca8, ca9], [cb0, cb1, cb2, cb3, cb4, cb5, cb6, cb7, cb8, cb9], [cc0, cc1, cc2, cc3, cc4, cc5, cc6, cc7, cc8, cc9], [cd0, cd1, cd2, cd3, cd4, cd5, cd6, cd7, cd8, cd9], [ce0, ce1, ce2, ce3, ce4, ce5, ce6, ce7, ce8, ce9], [cf0, cf1, cf2, cf3, cf4, cf5, cf6, cf7, cf8, cf9]] k0 r0 z0 o0 oa p0 [pa0, pa1, pa2, pa3, pa4, pa5] f0) (rfv 15 0 j))))))))]) ++ CW0 kI 0 c4 ce0 ce1 ce2 ce3 ce4 ce5 ce6 ce7 ce8 ce9) ++ RW0 kI r0 c5 z0 cf0 cf1 cf2 cf3 cf4 cf5 cf6 cf7 cf8 cf9) ++ OW0 kI o0 oa) ++ PW0 kI p0 pa0 pa1 pa2 pa3 pa4 pa5) ++ [(f0, .inl (kI, 6, .inl (fun _ => 0)))]) ++ CW0 kI 1000 c1 cb0 cb1 cb2 cb3 cb4 cb5 cb6 cb7 cb8 cb9) ++ CW0 kI 1000 c2 cc0 cc1 cc2 cc3 cc4 cc5 cc6 cc7 cc8 cc9) ++ CW0 kI 1000 c3 cd0 cd1 cd2 cd3 cd4 cd5 cd6 cd7 cd8 cd9)) := hD1
  have pm := shuf (α := Nat × va_E) (h0, .inr (5, [.ref s0, .ref s1, .ref c0, .ref k0, .ref c4, .ref r0, .ref o0, .ref p0, .ref f0, .int 0, .int 0, .long 0, .long 1])) (k0, .inl (kA, 3, .inr (.inr (.inr (.inr (fun j => some ((adT h0 s0 sa0 sa1 s1 sb0 sb1 [c0, c1, c2, c3, c4, c5] [[ca0, ca1, ca2, ca3, ca4, ca5, ca6, ca7, ca8, ca9], [cb0, cb1, cb2, cb3, cb4, cb5, cb6, cb7, cb8, cb9], [cc0, cc1, cc2, cc3, cc4, cc5, cc6, cc7, cc8, cc9], [cd0, cd1, cd2, cd3, cd4, cd5, cd6, cd7, cd8, cd9], [ce0, ce1, ce2, ce3, ce4, ce5, ce6, ce7, ce8, ce9], [cf0, cf1, cf2, cf3, cf4, cf5, cf6, cf7, cf8, cf9]] k0 r0 z0 o0 oa p0 [pa0, pa1, pa2, pa3, pa4, pa5] f0) (rfv 15 0 j)))))))) (r0, .inr (3, [.ref c5, .ref z0, .int 0, .int 0])) (z0, .inl (kI, 60, .inl (fun _ => 0))) (f0, .inl (kI, 6, .inl (fun _ => 0))) (SW0 kI 6 240 40 s0 sa0 sa1) (SW0 kI 4 240 60 s1 sb0 sb1) (CW0 kI 1000 c0 ca0 ca1 ca2 ca3 ca4 ca5 ca6 ca7 ca8 ca9) (CW0 kI 1000 c1 cb0 cb1 cb2 cb3 cb4 cb5 cb6 cb7 cb8 cb9) (CW0 kI 1000 c2 cc0 cc1 cc2 cc3 cc4 cc5 cc6 cc7 cc8 cc9) (CW0 kI 1000 c3 cd0 cd1 cd2 cd3 cd4 cd5 cd6 cd7 cd8 cd9) (CW0 kI 0 c4 ce0 ce1 ce2 ce3 ce4 ce5 ce6 ce7 ce8 ce9) (CW0 kI 0 c5 cf0 cf1 cf2 cf3 cf4 cf5 cf6 cf7 cf8 cf9) (OW0 kI o0 oa) (PW0 kI p0 pa0 pa1 pa2 pa3 pa4 pa5)
  have hP3 : va_P D mcl (TW0 kI kA (adT h0 s0 sa0 sa1 s1 sb0 sb1 [c0, c1, c2, c3, c4, c5] [[ca0, ca1, ca2, ca3, ca4, ca5, ca6, ca7, ca8, ca9], [cb0, cb1, cb2, cb3, cb4, cb5, cb6, cb7, cb8, cb9], [cc0, cc1, cc2, cc3, cc4, cc5, cc6, cc7, cc8, cc9], [cd0, cd1, cd2, cd3, cd4, cd5, cd6, cd7, cd8, cd9], [ce0, ce1, ce2, ce3, ce4, ce5, ce6, ce7, ce8, ce9], [cf0, cf1, cf2, cf3, cf4, cf5, cf6, cf7, cf8, cf9]] k0 r0 z0 o0 oa p0 [pa0, pa1, pa2, pa3, pa4, pa5] f0)) H := hP2.perm pm
  have hD3 : va_D A (TW0 kI kA (adT h0 s0 sa0 sa1 s1 sb0 sb1 [c0, c1, c2, c3, c4, c5] [[ca0, ca1, ca2, ca3, ca4, ca5, ca6, ca7, ca8, ca9], [cb0, cb1, cb2, cb3, cb4, cb5, cb6, cb7, cb8, cb9], [cc0, cc1, cc2, cc3, cc4, cc5, cc6, cc7, cc8, cc9], [cd0, cd1, cd2, cd3, cd4, cd5, cd6, cd7, cd8, cd9], [ce0, ce1, ce2, ce3, ce4, ce5, ce6, ce7, ce8, ce9], [cf0, cf1, cf2, cf3, cf4, cf5, cf6, cf7, cf8, cf9]] k0 r0 z0 o0 oa p0 [pa0, pa1, pa2, pa3, pa4, pa5] f0)) := hD2.perm pm
  refine W.widen (k := 85) (n := 5726) (by omega) (by omega) ?_
  exact i_ret C hr hlk ⟨_, rfl, rfl⟩ hP3 hD3 hS di_Tent_140
