-- pure instructions are sound over the machine
def mty (kI kA : ClassId) : List (ClassId × FieldType) := [(kI, .int), (kA, .object "TentMiddle$Camp")]
def nwF : Cond := .fieldLinkNest "TentMiddle" nwFi "TentMiddle$Shelf" "limit" "I" "TentMiddle"
def nwM : Cond := .methodLinkNest "TentMiddle$Orders" nwMi ⟨"TentMiddle", "swap", "([III)V"⟩ "TentMiddle"
def mNw (U : State) : Prop := va_Nw nwF U ∧ va_Nw nwM U
theorem mNw.same {u U : State} (h : u.vm = U.vm) (hN : mNw u) : mNw U := ⟨hN.1.same rfl h, hN.2.same rfl h⟩
theorem mNw.warm {u U : State} (h : u.WarmedH U.vm) (hN : mNw u) : mNw U := ⟨va_Nw.warmF h hN.1, va_Nw.warmM h hN.2⟩
def Cx (p : Program) (s : State) (m : MethodId) (args : Array Value) (c : Code) (D : va_G) (kI kA : ClassId) (A : Nat → Prop) (own : String) (cc : ByteArray) (nL : Nat) : Prop :=
  p.tables.exec = Jvm.exec ∧ c.code = cc ∧ c.maxLocals = nL ∧ s.vm.findClass own = some m.cls ∧ (∀ w ∈ T1, w.before args s = true) ∧ va_K D mcl (mty kI kA) s ∧ mNw s ∧ ∀ q, s.heap.size ≤ q → A q
def Wm (p : Program) (l : Launch) (e : Env) (R : Room) (s : State) (m : MethodId) (args : Array Value) (below : List Frame) (meth : Method) (c : Code) (nc ns : Nat) (Q : State → Prop) (D : va_G) (kI kA : ClassId) (ad : CI → Nat) (A : Nat → Prop) (nL pc : Nat) (L : List (Option MV)) (S : List MV) (σ : St) : Prop :=
  ∀ (H : Heap) (locs : List Loc) (ls : Array Slot), va_P D mcl (wsO ad kI kA σ) H → va_D A (wsO ad kI kA σ) → va_S A s.heap H locs → lv_has ls nL (cL ad L) → okV nL L S → W p l e R s m args below meth c H locs nc ns Q (F0 m pc ls (S.map (cv ad)))
def lnI : Instr → Nat
  | .bipush _ => 2
  | .sipush _ => 3
  | .ldc _ => 2
  | .ldc_w _ => 3
  | .ldc2_w _ => 3
  | .iload _ => 2
  | .lload _ => 2
  | .aload _ => 2
  | .istore _ => 2
  | .lstore _ => 2
  | .astore _ => 2
  | .iinc _ _ => 3
  | .getfield _ => 3
  | .putfield _ => 3
  | .goto _ => 3
  | .ifCond _ _ => 3
  | .if_icmp _ _ => 3
  | .invokevirtual _ => 3
  | .invokespecial _ => 3
  | .invokestatic _ => 3
  | .new _ => 3
  | .anewarray _ => 3
  | .newarray _ => 2
  | _ => 1
/-- a field's link: an ordinary one, or the one over the nest -/
def fldW (own : String) (i a b : Nat) : Prop := ∃ (C : String) (T : u_T) (N : Nat), mcl[a]? = some (C, T, N) ∧ b < N ∧ (T b).1 = C ∧ (∀ w ∈ u_ws C T N, w ∈ T1) ∧ (Cond.fieldLink own i C (T b).2.1 (T b).2.2.1 ∈ T1 ∨ Cond.fieldLinkNest own i C (T b).2.1 (T b).2.2.1 "TentMiddle" = nwF)
def auxOk (own : String) (ins : Instr) (pc a b : Nat) (v : Int32) (w : Int64) : Prop := match ins with
  | .iconst n => Int32.ofInt n = v
  | .bipush n => (Int8.ofInt n).toInt32 = v
  | .sipush n => (Int16.ofInt n).toInt32 = v
  | .ldc i => Cond.constant own i v ∈ T1
  | .ldc_w i => Cond.constant own i v ∈ T1
  | .lconst n => Int64.ofNat (n : Nat) = w
  | .ldc2_w i => Cond.constantLong own i w ∈ T1
  | .iinc _ n => Int32.ofInt n = v
  | .getfield i => fldW own i a b
  | .putfield i => fldW own i a b
  | .goto off => (pc : Int) + off = (a : Int)
  | .ifCond _ off => (pc : Int) + off = (a : Int)
  | .if_icmp _ off => (pc : Int) + off = (a : Int)
  | _ => True
theorem blt_lt {a b : Nat} (h : Nat.blt a b = true) : a < b := Nat.le_of_ble_eq_true h
theorem ldI_v {L L' : List (Option MV)} {S S' : List MV} {i : Nat} (h : ldI L S i = some (L', S')) : ∃ z, lgt L i = some (mI z) ∧ L' = L ∧ S' = mI z :: S := by
  unfold ldI at h
  match hg : lgt L i, h with
  | some (.inl z), h => cases h; exact ⟨z, rfl, rfl, rfl⟩
  | some (.inr _), h => cases h
  | none, h => cases h
theorem ldL_v {L L' : List (Option MV)} {S S' : List MV} {i : Nat} (h : ldL L S i = some (L', S')) : ∃ z, lgt L i = some (mL z) ∧ L' = L ∧ S' = mL z :: S := by
  unfold ldL at h
  match hg : lgt L i, h with
  | some (.inl z), h => cases h
  | some (.inr (.inl z)), h => cases h; exact ⟨z, rfl, rfl, rfl⟩
  | some (.inr (.inr _)), h => cases h
  | none, h => cases h
theorem ldA_v {L L' : List (Option MV)} {S S' : List MV} {i : Nat} (h : ldA L S i = some (L', S')) : ∃ z, lgt L i = some (.inr (.inr z)) ∧ L' = L ∧ S' = .inr (.inr z) :: S := by
  unfold ldA at h
  match hg : lgt L i, h with
  | some (.inl z), h => cases h
  | some (.inr (.inl z)), h => cases h
  | some (.inr (.inr z)), h => cases h; exact ⟨z, rfl, rfl, rfl⟩
  | none, h => cases h
theorem cnd_v {α : Type} {b : Bool} {u v : α} (h : (bif b then some u else none) = some v) : b = true ∧ u = v := by
  cases b
  · cases h
  · cases h; exact ⟨rfl, rfl⟩
theorem stI_v {L L' : List (Option MV)} {S S' : List MV} {i : Nat} (h : stI L S i = some (L', S')) : ∃ z, S = mI z :: S' ∧ nlg L i = true ∧ i < L.length ∧ L' = lst L i (some (mI z)) := by
  match S, h with
  | [], h => cases h
  | .inr _ :: _, h => cases h
  | .inl z :: S, h =>
    obtain ⟨h1, h2⟩ := cnd_v h
    have h3 := Bool.and_eq_true_iff.mp h1
    cases h2
    exact ⟨z, rfl, h3.1, blt_lt h3.2, rfl⟩
theorem stA_v {L L' : List (Option MV)} {S S' : List MV} {i : Nat} (h : stA L S i = some (L', S')) : ∃ z, S = .inr (.inr z) :: S' ∧ nlg L i = true ∧ i < L.length ∧ L' = lst L i (some (.inr (.inr z))) := by
  match S, h with
  | [], h => cases h
  | .inl _ :: _, h => cases h
  | .inr (.inl _) :: _, h => cases h
  | .inr (.inr z) :: S, h =>
    obtain ⟨h1, h2⟩ := cnd_v h
    have h3 := Bool.and_eq_true_iff.mp h1
    cases h2
    exact ⟨z, rfl, h3.1, blt_lt h3.2, rfl⟩
theorem stL_v {L L' : List (Option MV)} {S S' : List MV} {i : Nat} (h : stL L S i = some (L', S')) : ∃ z, S = mL z :: S' ∧ nlg L i = true ∧ i + 1 < L.length ∧ L' = lst (lst L i (some (mL z))) (i + 1) none := by
  match S, h with
  | [], h => cases h
  | .inl _ :: _, h => cases h
  | .inr (.inr _) :: _, h => cases h
  | .inr (.inl z) :: S, h =>
    obtain ⟨h1, h2⟩ := cnd_v h
    have h3 := Bool.and_eq_true_iff.mp h1
    cases h2
    exact ⟨z, rfl, h3.1, blt_lt h3.2, rfl⟩
theorem op2_v {f : Int32 → Int32 → Int32} {L L' : List (Option MV)} {S S' : List MV} (h : op2 f L S = some (L', S')) : ∃ z y S0, S = mI y :: mI z :: S0 ∧ L' = L ∧ S' = mI (f z y) :: S0 := by
  match S, h with
  | [], h => cases h
  | [.inl _], h => cases h
  | .inl y :: .inl z :: S0, h => cases h; exact ⟨z, y, S0, rfl, rfl, rfl⟩
  | .inl _ :: .inr _ :: _, h => cases h
  | .inr _ :: _, h => cases h
theorem op1_v {f : Int32 → Int32} {L L' : List (Option MV)} {S S' : List MV} (h : op1 f L S = some (L', S')) : ∃ z S0, S = mI z :: S0 ∧ L' = L ∧ S' = mI (f z) :: S0 := by
  match S, h with
  | [], h => cases h
  | .inl z :: S0, h => cases h; exact ⟨z, S0, rfl, rfl, rfl⟩
  | .inr _ :: _, h => cases h
theorem ol2_v {f : Int64 → Int64 → Int64} {L L' : List (Option MV)} {S S' : List MV} (h : ol2 f L S = some (L', S')) : ∃ z y S0, S = mL y :: mL z :: S0 ∧ L' = L ∧ S' = mL (f z y) :: S0 := by
  match S, h with
  | [], h => cases h
  | [.inr (.inl _)], h => cases h
  | .inr (.inl y) :: .inr (.inl z) :: S0, h => cases h; exact ⟨z, y, S0, rfl, rfl, rfl⟩
  | .inr (.inl _) :: .inl _ :: _, h => cases h
  | .inr (.inl _) :: .inr (.inr _) :: _, h => cases h
  | .inl _ :: _, h => cases h
  | .inr (.inr _) :: _, h => cases h
section SOUND
variable {p : Program} {l : Launch} {e : Env} {R : Room} {s : State} {m : MethodId} {args : Array Value} {below : List Frame} {meth : Method} {c : Code} {nc ns : Nat} {Q : State → Prop} {D : va_G} {kI kA : ClassId} {ad : CI → Nat} {A : Nat → Prop} {own : String} {cc : ByteArray} {nL : Nat}
theorem s_get {pc i a b g t ci : Nat} {fk : List Nat} {H : Heap} {locs : List Loc} {ls : Array Slot} {rest : List Value} {σ : St} (C : Cx p s m args c D kI kA A own cc nL) (hd : decode cc pc = .ok (.getfield i, 3)) (ha : fldW own i a b) (hP : va_P D mcl (wsO ad kI kA σ) H) (hr : (.inl (g, t) : CI) ∈ mcells) (ho : objOf g = some (ci, fk)) (hc : ci = a) (hj : b < fk.length)
    (k : W p l e R s m args below meth c H locs nc ns Q (F0 m (pc + 3) ls (fvl ad σ g t fk b :: rest))) : W p l e R s m args below meth c H locs nc ns Q (F0 m pc ls (.ref (ad (.inl (g, t))) :: rest)) := by
  obtain ⟨hx, hb, hml, hown, hts, hK, hN, hA⟩ := C
  subst hc
  obtain ⟨C, T, N, h1, h2, h3, h4, h5⟩ := ha
  obtain ⟨q0, hq⟩ := List.getElem?_of_mem hr
  have hw := ws_get (ad := ad) (kI := kI) (kA := kA) (σ := σ) hq
  simp only [ent, ho] at hw
  rcases h5 with h5 | h5
  · exact va_get hx hb hts h4 hown hK hP q0 hw h1 b h2 (hts _ h5) (fun x hx => by rw [h3] at hx; exact hx) (fvl_range hj) hd k
  · exact va_getN hx hb hts h4 hown hK hP q0 hw h1 b h2 (by rw [h5]; exact va_Nw.use rfl hN.1) (fun x hx => by rw [h3] at hx; exact hx) (fvl_range hj) hd k
theorem st_sound {ins : Instr} {pc n a b : Nat} {v : Int32} {w : Int64} {L L' : List (Option MV)} {S S' : List MV} {σ : St} (C : Cx p s m args c D kI kA A own cc nL) (hd : decode cc pc = .ok (ins, n)) (hn : n = lnI ins) (ha : auxOk own ins pc a b v w) (h : stp ins a b v w L S σ = some (L', S'))
    (k : Wm p l e R s m args below meth c nc ns Q D kI kA ad A nL (pc + n) L' S' σ) : Wm p l e R s m args below meth c nc ns Q D kI kA ad A nL pc L S σ := by
  intro H locs ls hP hD hS hl hV
  have C0 := C
  obtain ⟨hx, hb, hml, hown, hts, hK, hN, hA⟩ := C
  subst hn
  cases ins with
  | iconst n => cases h; exact lv_iconst hx hb hd ha (k H locs ls hP hD hS hl hV.pI)
  | bipush n => cases h; exact lv_bipush hx hb hd ha (k H locs ls hP hD hS hl hV.pI)
  | sipush n => cases h; exact lv_sipush hx hb hd ha (k H locs ls hP hD hS hl hV.pI)
  | ldc i => cases h; exact lv_ldc hx hb hown (hts _ ha) hd (k H locs ls hP hD hS hl hV.pI)
  | ldc_w i => cases h; exact lv_ldcw hx hb hown (hts _ ha) hd (k H locs ls hP hD hS hl hV.pI)
  | lconst n => cases h; exact lv_lconst hx hb hd ha (k H locs ls hP hD hS hl hV.pL)
  | ldc2_w i => cases h; exact lv_ldc2 hx hb hown (hts _ ha) hd (k H locs ls hP hD hS hl hV.pL)
  | iload_n i => obtain ⟨x, h1, rfl, rfl⟩ := ldI_v h; exact lv_iload_n hx hb hd rfl (cL_at hl h1) (k H locs ls hP hD hS hl hV.pI)
  | iload i => obtain ⟨x, h1, rfl, rfl⟩ := ldI_v h; exact lv_iload hx hb hd (cL_at hl h1) (k H locs ls hP hD hS hl hV.pI)
  | lload_n i => obtain ⟨x, h1, rfl, rfl⟩ := ldL_v h; exact lv_lload_n hx hb hd rfl (cL_at hl h1) (k H locs ls hP hD hS hl hV.pL)
  | lload i => obtain ⟨x, h1, rfl, rfl⟩ := ldL_v h; exact lv_lload hx hb hd (cL_at hl h1) (k H locs ls hP hD hS hl hV.pL)
  | aload_n i => obtain ⟨x, h1, rfl, rfl⟩ := ldA_v h; exact lv_aload_n hx hb hd rfl (cL_at hl h1) (k H locs ls hP hD hS hl (hV.pC (hV.2.1 _ _ h1)))
  | aload i => obtain ⟨x, h1, rfl, rfl⟩ := ldA_v h; exact lv_aload hx hb hd (cL_at hl h1) (k H locs ls hP hD hS hl (hV.pC (hV.2.1 _ _ h1)))
  | istore_n i =>
    obtain ⟨x, rfl, h1, h2, rfl⟩ := stI_v h
    exact lv_istore_n hx hb hd rfl hl (Nat.lt_of_lt_of_le h2 hV.1) rfl (fun ls' hl' => k H locs ls' hP hD hS (cL_st1 (u := mI x) h1 hl') (hV.drop.st (fun r q => by cases q)))
  | istore i =>
    obtain ⟨x, rfl, h1, h2, rfl⟩ := stI_v h
    exact lv_istore hx hb hd hl (Nat.lt_of_lt_of_le h2 hV.1) rfl (fun ls' hl' => k H locs ls' hP hD hS (cL_st1 (u := mI x) h1 hl') (hV.drop.st (fun r q => by cases q)))
  | astore_n i =>
    obtain ⟨x, rfl, h1, h2, rfl⟩ := stA_v h
    exact lv_astore_n hx hb hd rfl hl (Nat.lt_of_lt_of_le h2 hV.1) rfl (fun ls' hl' => k H locs ls' hP hD hS (cL_st1 (u := .inr (.inr x)) h1 hl') (hV.drop.st (fun r q => by cases q; exact hV.top)))
  | astore i =>
    obtain ⟨x, rfl, h1, h2, rfl⟩ := stA_v h
    exact lv_astore hx hb hd hl (Nat.lt_of_lt_of_le h2 hV.1) rfl (fun ls' hl' => k H locs ls' hP hD hS (cL_st1 (u := .inr (.inr x)) h1 hl') (hV.drop.st (fun r q => by cases q; exact hV.top)))
  | lstore_n i =>
    obtain ⟨x, rfl, h1, h2, rfl⟩ := stL_v h
    exact lv_lstore_n hx hb hd rfl hl (Nat.lt_of_lt_of_le h2 hV.1) rfl (fun ls' hl' => k H locs ls' hP hD hS (cL_st2 (u := mL x) h1 hl') ((hV.drop.st (fun r q => by cases q)).st (fun r q => by cases q)))
  | lstore i =>
    obtain ⟨x, rfl, h1, h2, rfl⟩ := stL_v h
    exact lv_lstore hx hb hd hl (Nat.lt_of_lt_of_le h2 hV.1) rfl (fun ls' hl' => k H locs ls' hP hD hS (cL_st2 (u := mL x) h1 hl') ((hV.drop.st (fun r q => by cases q)).st (fun r q => by cases q)))
  | iinc i n =>
    simp only [stp] at h
    match hg : lgt L i, h with
    | none, h => cases h
    | some (.inr _), h => cases h
    | some (.inl z), h =>
      obtain ⟨h1, h3⟩ := cnd_v h
      have h2 := Bool.and_eq_true_iff.mp h1
      cases h3
      have hm := cLf_mem (ad := ad) (i := 0) hg
      rw [Nat.zero_add] at hm
      obtain ⟨k0, hk0⟩ := List.getElem?_of_mem hm
      have hv : Int32.ofInt n = v := ha
      exact lv_iinc (v := z + v) hx hb hd hl hk0 (by rw [hv]) (Nat.lt_of_lt_of_le (blt_lt h2.2) hV.1) rfl (fun ls' hl' => k H locs ls' hP hD hS (cL_st1 (u := mI (z + v)) h2.1 hl') (hV.st (fun r q => by cases q)))
  | iadd => obtain ⟨x, y, S0, rfl, rfl, rfl⟩ := op2_v h; exact lv_iadd hx hb hd (k H locs ls hP hD hS hl hV.drop.drop.pI)
  | isub => obtain ⟨x, y, S0, rfl, rfl, rfl⟩ := op2_v h; exact lv_isub hx hb hd (k H locs ls hP hD hS hl hV.drop.drop.pI)
  | imul => obtain ⟨x, y, S0, rfl, rfl, rfl⟩ := op2_v h; exact lv_imul hx hb hd (k H locs ls hP hD hS hl hV.drop.drop.pI)
  | iand => obtain ⟨x, y, S0, rfl, rfl, rfl⟩ := op2_v h; exact lv_iand hx hb hd (k H locs ls hP hD hS hl hV.drop.drop.pI)
  | ior => obtain ⟨x, y, S0, rfl, rfl, rfl⟩ := op2_v h; exact lv_ior hx hb hd (k H locs ls hP hD hS hl hV.drop.drop.pI)
  | ixor => obtain ⟨x, y, S0, rfl, rfl, rfl⟩ := op2_v h; exact lv_ixor hx hb hd (k H locs ls hP hD hS hl hV.drop.drop.pI)
  | ishl => obtain ⟨x, y, S0, rfl, rfl, rfl⟩ := op2_v h; exact lv_ishl hx hb hd (k H locs ls hP hD hS hl hV.drop.drop.pI)
  | ishr => obtain ⟨x, y, S0, rfl, rfl, rfl⟩ := op2_v h; exact lv_ishr hx hb hd (k H locs ls hP hD hS hl hV.drop.drop.pI)
  | iushr => obtain ⟨x, y, S0, rfl, rfl, rfl⟩ := op2_v h; exact lv_iushr hx hb hd rfl (k H locs ls hP hD hS hl hV.drop.drop.pI)
  | ineg => obtain ⟨x, S0, rfl, rfl, rfl⟩ := op1_v h; exact lv_ineg hx hb hd (k H locs ls hP hD hS hl hV.drop.pI)
  | i2b => obtain ⟨x, S0, rfl, rfl, rfl⟩ := op1_v h; exact lv_i2b hx hb hd rfl (k H locs ls hP hD hS hl hV.drop.pI)
  | ladd => obtain ⟨x, y, S0, rfl, rfl, rfl⟩ := ol2_v h; exact lv_ladd hx hb hd (k H locs ls hP hD hS hl hV.drop.drop.pL)
  | lmul => obtain ⟨x, y, S0, rfl, rfl, rfl⟩ := ol2_v h; exact lv_lmul hx hb hd (k H locs ls hP hD hS hl hV.drop.drop.pL)
  | lcmp =>
    match S, h, hV with
    | .inr (.inl y) :: .inr (.inl z) :: S0, h, hV => cases h; exact W.lcmp hx hb hd (k H locs ls hP hD hS hl hV.drop.drop.pI)
    | [], h, hV => cases h
    | .inl _ :: _, h, hV => cases h
    | .inr (.inr _) :: _, h, hV => cases h
    | [.inr (.inl _)], h, hV => cases h
    | .inr (.inl _) :: .inl _ :: _, h, hV => cases h
    | .inr (.inl _) :: .inr (.inr _) :: _, h, hV => cases h
  | i2l =>
    match S, h, hV with
    | .inl z :: S0, h, hV => cases h; exact lv_i2l hx hb hd rfl (k H locs ls hP hD hS hl hV.drop.pL)
    | [], h, hV => cases h
    | .inr _ :: _, h, hV => cases h
  | l2i =>
    match S, h, hV with
    | .inr (.inl z) :: S0, h, hV => cases h; exact lv_l2i hx hb hd rfl (k H locs ls hP hD hS hl hV.drop.pI)
    | [], h, hV => cases h
    | .inl _ :: _, h, hV => cases h
    | .inr (.inr _) :: _, h, hV => cases h
  | dup =>
    match S, h, hV with
    | .inl z :: S0, h, hV => cases h; exact lv_dup hx hb hd rfl (k H locs ls hP hD hS hl hV.pI)
    | .inr (.inr r) :: S0, h, hV => cases h; exact lv_dup hx hb hd rfl (k H locs ls hP hD hS hl (hV.pC hV.top))
    | [], h, hV => cases h
    | .inr (.inl _) :: _, h, hV => cases h
  | dup2 =>
    match S, h, hV with
    | .inl z :: .inr (.inr r) :: S0, h, hV => cases h; exact lv_dup2_11 hx hb hd rfl rfl (k H locs ls hP hD hS hl (hV.pC hV.drop.top).pI)
    | [], h, hV => cases h
    | .inr _ :: _, h, hV => cases h
    | [.inl _], h, hV => cases h
    | .inl _ :: .inl _ :: _, h, hV => cases h
    | .inl _ :: .inr (.inl _) :: _, h, hV => cases h
  | arraylength =>
    match S, h, hV with
    | .inr (.inr (.inr (g, t))) :: S0, h, hV =>
      cases h
      obtain ⟨q0, hq⟩ := List.getElem?_of_mem hV.top
      exact va_alen hx hb hK hP q0 0 (ws_get hq) rfl rfl hd (k H locs ls hP hD hS hl hV.drop.pI)
    | [], h, hV => cases h
    | .inl _ :: _, h, hV => cases h
    | .inr (.inl _) :: _, h, hV => cases h
    | .inr (.inr (.inl _)) :: _, h, hV => cases h
  | getfield i =>
    simp only [stp] at h
    match S, h, hV with
    | [], h, hV => cases h
    | .inl _ :: _, h, hV => cases h
    | .inr (.inl _) :: _, h, hV => cases h
    | .inr (.inr (.inr _)) :: _, h, hV => cases h
    | .inr (.inr (.inl (g, t))) :: S0, h, hV =>
      simp only [gfd] at h
      match ho : objOf g, h with
      | none, h => cases h
      | some (ci, fk), h =>
        dsimp only at h
        have hc : Nat.beq ci a = true := by
          cases hc : Nat.beq ci a with
          | true => rfl
          | false => rw [hc] at h; cases h
        have hca := Nat.eq_of_beq_eq_true hc
        rw [hc, cond_true] at h
        cases hj : fk[b]? with
        | none => rw [hj] at h; cases h
        | some y =>
          have hlt : b < fk.length := (List.getElem?_eq_some_iff.mp hj).1
          refine s_get C0 hd ha hP hV.top ho hca hlt ?_
          rw [hj] at h
          match y, hj, h with
          | 0, hj, h =>
            cases h
            have hf : fvl ad σ g t fk b = .int (σ.1 g t b) := by simp only [fvl, hj]
            rw [hf]
            exact k H locs ls hP hD hS hl hV.drop.pI
          | 1, hj, h =>
            cases h
            have hf : fvl ad σ g t fk b = .long (σ.2 g t b) := by simp only [fvl, hj]
            rw [hf]
            exact k H locs ls hP hD hS hl hV.drop.pL
          | y + 2, hj, h =>
            cases h
            have hf : fvl ad σ g t fk b = .ref (ad (rfv g t b)) := by simp only [fvl, hj]
            rw [hf]
            exact k H locs ls hP hD hS hl (hV.drop.pC (rfv_ok hV.top ho hj (by omega) (by omega)))
  | _ => exact absurd h (fun z => by cases (show (none : Option (List (Option MV) × List MV)) = some (L', S') from z))
end SOUND
