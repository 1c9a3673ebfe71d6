-- locals and pure instructions
def lgt : List (Option MV) → Nat → Option MV
  | [], _ => none
  | x :: _, 0 => x
  | _ :: L, i + 1 => lgt L i
def lst : List (Option MV) → Nat → Option MV → List (Option MV)
  | [], _, _ => []
  | _ :: L, 0, v => v :: L
  | x :: L, i + 1, v => x :: lst L i v
def isLg (v : Option MV) : Bool := match v with
  | some (.inr (.inl _)) => true
  | _ => false
def nlg (L : List (Option MV)) (i : Nat) : Bool := match i with
  | 0 => true
  | k + 1 => !isLg (lgt L k)
theorem lst_len : ∀ (L : List (Option MV)) (i : Nat) (v : Option MV), (lst L i v).length = L.length
  | [], _, _ => rfl
  | _ :: _, 0, _ => rfl
  | _ :: L, i + 1, v => by simp [lst, lst_len L i v]
theorem lgt_lst_ne : ∀ (L : List (Option MV)) (i j : Nat) (v : Option MV), i ≠ j → lgt (lst L i v) j = lgt L j
  | [], _, _, _, _ => rfl
  | _ :: _, 0, 0, _, h => absurd rfl h
  | _ :: _, 0, _ + 1, _, _ => rfl
  | _ :: _, _ + 1, 0, _, _ => rfl
  | _ :: L, i + 1, j + 1, v, h => lgt_lst_ne L i j v (fun e => h (by rw [e]))
theorem lgt_lst_eq : ∀ (L : List (Option MV)) (i : Nat) (v w : Option MV), lgt (lst L i v) i = some w → lgt (lst L i v) i = v
  | [], _, _, _, h => by cases h
  | _ :: _, 0, _, _, _ => rfl
  | _ :: L, i + 1, v, w, h => lgt_lst_eq L i v w h
theorem lgt_lst_some : ∀ (L : List (Option MV)) (i : Nat) (v : Option MV) (u : MV), lgt (lst L i v) i = some u → v = some u
  | [], _, _, _, h => by cases h
  | _ :: _, 0, _, _, h => h
  | _ :: L, i + 1, v, u, h => lgt_lst_some L i v u h
/-- the known locals, by their places -/
def cLf (ad : CI → Nat) : Nat → List (Option MV) → List (Nat × Value)
  | _, [] => []
  | i, none :: L => cLf ad (i + 1) L
  | i, some v :: L => (i, cv ad v) :: cLf ad (i + 1) L
theorem mem_cLf {ad : CI → Nat} : ∀ {L : List (Option MV)} {i : Nat} {q : Nat × Value}, q ∈ cLf ad i L → ∃ j u, lgt L j = some u ∧ q = (i + j, cv ad u)
  | [], _, _, h => by cases h
  | none :: L, i, q, h => by
    obtain ⟨j, u, h1, h2⟩ := mem_cLf (L := L) h
    exact ⟨j + 1, u, h1, by rw [h2]; congr 1; omega⟩
  | some v :: L, i, q, h => by
    rcases List.mem_cons.mp h with h | h
    · exact ⟨0, v, rfl, h⟩
    · obtain ⟨j, u, h1, h2⟩ := mem_cLf (L := L) h
      exact ⟨j + 1, u, h1, by rw [h2]; congr 1; omega⟩
theorem cLf_mem {ad : CI → Nat} : ∀ {L : List (Option MV)} {i j : Nat} {u : MV}, lgt L j = some u → (i + j, cv ad u) ∈ cLf ad i L
  | [], _, _, _, h => by cases h
  | none :: L, i, 0, _, h => by cases h
  | none :: L, i, j + 1, u, h => by
    have := cLf_mem (ad := ad) (L := L) (i := i + 1) (j := j) (u := u) h
    rw [show i + 1 + j = i + (j + 1) by omega] at this
    exact this
  | some v :: L, i, 0, u, h => by
    cases h
    exact List.mem_cons_self
  | some v :: L, i, j + 1, u, h => by
    have := cLf_mem (ad := ad) (L := L) (i := i + 1) (j := j) (u := u) h
    rw [show i + 1 + j = i + (j + 1) by omega] at this
    exact List.mem_cons_of_mem _ this
def cL (ad : CI → Nat) (L : List (Option MV)) : List (Nat × Value) := cLf ad 0 L
theorem cL_at {ad : CI → Nat} {L : List (Option MV)} {ls : Array Slot} {nL j : Nat} {u : MV} (h : lv_has ls nL (cL ad L)) (hj : lgt L j = some u) : ls[j]? = some (.val (cv ad u)) := by
  have := h.2.2 _ (cLf_mem (ad := ad) (i := 0) hj)
  rw [Nat.zero_add] at this
  exact this
theorem cv_cat {ad : CI → Nat} {u : MV} (h : (cv ad u).category = 2) : isLg (some u) = true := by
  obtain x | x | r := u
  · cases h
  · rfl
  · cases h
theorem nlg_at {L : List (Option MV)} {i j : Nat} {u : MV} (h : nlg L i = true) (hj : lgt L j = some u) (e : j + 1 = i) : isLg (some u) = false := by
  subst e
  have h1 : (!isLg (lgt L j)) = true := h
  rw [hj] at h1
  exact by simpa using h1
theorem cL_st1 {ad : CI → Nat} {L : List (Option MV)} {ls' : Array Slot} {nL i : Nat} {u : MV} (hg : nlg L i = true)
    (h : lv_has ls' nL ((i, cv ad u) :: (cL ad L).filter (fun q => !(q.1 == i) && !(q.1 + 1 == i && q.2.category == 2)))) : lv_has ls' nL (cL ad (lst L i (some u))) := by
  refine ⟨h.1, h.2.1, fun q hq => ?_⟩
  obtain ⟨j, w, h1, rfl⟩ := mem_cLf hq
  rw [Nat.zero_add]
  by_cases hj : i = j
  · subst hj
    have := lgt_lst_some _ _ _ _ h1
    cases this
    exact h.2.2 _ List.mem_cons_self
  · rw [lgt_lst_ne _ _ _ _ hj] at h1
    refine h.2.2 _ (List.mem_cons_of_mem _ (List.mem_filter.mpr ⟨?_, ?_⟩))
    · have := cLf_mem (ad := ad) (i := 0) h1
      rw [Nat.zero_add] at this
      exact this
    · by_cases e : j + 1 = i
      · have h3 := nlg_at hg h1 e
        have h4 : ¬ (cv ad w).category = 2 := fun z => by rw [cv_cat z] at h3; cases h3
        simp [Ne.symm hj, h4]
      · simp [Ne.symm hj, e]
theorem cL_st2 {ad : CI → Nat} {L : List (Option MV)} {ls' : Array Slot} {nL i : Nat} {u : MV} (hg : nlg L i = true)
    (h : lv_has ls' nL ((i, cv ad u) :: (cL ad L).filter (fun q => !(q.1 == i) && (!(q.1 == i + 1) && !(q.1 + 1 == i && q.2.category == 2))))) : lv_has ls' nL (cL ad (lst (lst L i (some u)) (i + 1) none)) := by
  refine ⟨h.1, h.2.1, fun q hq => ?_⟩
  obtain ⟨j, w, h1, rfl⟩ := mem_cLf hq
  rw [Nat.zero_add]
  by_cases hj1 : i + 1 = j
  · subst hj1
    have := lgt_lst_some _ _ _ _ h1
    cases this
  · rw [lgt_lst_ne _ _ _ _ hj1] at h1
    by_cases hj : i = j
    · subst hj
      have := lgt_lst_some _ _ _ _ h1
      cases this
      exact h.2.2 _ List.mem_cons_self
    · rw [lgt_lst_ne _ _ _ _ hj] at h1
      refine h.2.2 _ (List.mem_cons_of_mem _ (List.mem_filter.mpr ⟨?_, ?_⟩))
      · have := cLf_mem (ad := ad) (i := 0) h1
        rw [Nat.zero_add] at this
        exact this
      · by_cases e : j + 1 = i
        · have h3 := nlg_at hg h1 e
          have h4 : ¬ (cv ad w).category = 2 := fun z => by rw [cv_cat z] at h3; cases h3
          simp [Ne.symm hj, Ne.symm hj1, h4]
        · simp [Ne.symm hj, Ne.symm hj1, e]
/-- all references are cells of the world -/
def okV (nL : Nat) (L : List (Option MV)) (S : List MV) : Prop := L.length ≤ nL ∧ (∀ (i : Nat) (r : CI), lgt L i = some (.inr (.inr r)) → r ∈ mcells) ∧ ∀ r : CI, (.inr (.inr r) : MV) ∈ S → r ∈ mcells
theorem okV.drop {nL : Nat} {L : List (Option MV)} {v : MV} {S : List MV} (h : okV nL L (v :: S)) : okV nL L S := ⟨h.1, h.2.1, fun r hr => h.2.2 r (List.mem_cons_of_mem _ hr)⟩
theorem okV.pI {nL : Nat} {L : List (Option MV)} {x : Int32} {S : List MV} (h : okV nL L S) : okV nL L (mI x :: S) := ⟨h.1, h.2.1, fun r hr => by
  rcases List.mem_cons.mp hr with e | e
  · cases e
  · exact h.2.2 r e⟩
theorem okV.pL {nL : Nat} {L : List (Option MV)} {x : Int64} {S : List MV} (h : okV nL L S) : okV nL L (mL x :: S) := ⟨h.1, h.2.1, fun r hr => by
  rcases List.mem_cons.mp hr with e | e
  · cases e
  · exact h.2.2 r e⟩
theorem okV.pC {nL : Nat} {L : List (Option MV)} {q : CI} {S : List MV} (h : okV nL L S) (hq : q ∈ mcells) : okV nL L (.inr (.inr q) :: S) := ⟨h.1, h.2.1, fun r hr => by
  rcases List.mem_cons.mp hr with e | e
  · cases e; exact hq
  · exact h.2.2 r e⟩
theorem okV.top {nL : Nat} {L : List (Option MV)} {q : CI} {S : List MV} (h : okV nL L (.inr (.inr q) :: S)) : q ∈ mcells := h.2.2 q List.mem_cons_self
theorem okV.st {nL : Nat} {L : List (Option MV)} {S : List MV} {i : Nat} {v : Option MV} (h : okV nL L S) (hv : ∀ r : CI, v = some (.inr (.inr r)) → r ∈ mcells) : okV nL (lst L i v) S := ⟨by rw [lst_len]; exact h.1, fun j r hj => by
  by_cases e : i = j
  · subst e
    exact hv r (lgt_lst_some _ _ _ _ hj)
  · rw [lgt_lst_ne _ _ _ _ e] at hj
    exact h.2.1 j r hj, h.2.2⟩
def ldI (L : List (Option MV)) (S : List MV) (i : Nat) : Option (List (Option MV) × List MV) := match lgt L i with
  | some (.inl x) => some (L, mI x :: S)
  | _ => none
def ldL (L : List (Option MV)) (S : List MV) (i : Nat) : Option (List (Option MV) × List MV) := match lgt L i with
  | some (.inr (.inl x)) => some (L, mL x :: S)
  | _ => none
def ldA (L : List (Option MV)) (S : List MV) (i : Nat) : Option (List (Option MV) × List MV) := match lgt L i with
  | some (.inr (.inr r)) => some (L, .inr (.inr r) :: S)
  | _ => none
def stI (L : List (Option MV)) (S : List MV) (i : Nat) : Option (List (Option MV) × List MV) := match S with
  | .inl x :: S => bif nlg L i && Nat.blt i L.length then some (lst L i (some (mI x)), S) else none
  | _ => none
def stA (L : List (Option MV)) (S : List MV) (i : Nat) : Option (List (Option MV) × List MV) := match S with
  | .inr (.inr r) :: S => bif nlg L i && Nat.blt i L.length then some (lst L i (some (.inr (.inr r))), S) else none
  | _ => none
def stL (L : List (Option MV)) (S : List MV) (i : Nat) : Option (List (Option MV) × List MV) := match S with
  | .inr (.inl x) :: S => bif nlg L i && Nat.blt (i + 1) L.length then some (lst (lst L i (some (mL x))) (i + 1) none, S) else none
  | _ => none
def op1 (f : Int32 → Int32) (L : List (Option MV)) (S : List MV) : Option (List (Option MV) × List MV) := match S with
  | .inl x :: S => some (L, mI (f x) :: S)
  | _ => none
def op2 (f : Int32 → Int32 → Int32) (L : List (Option MV)) (S : List MV) : Option (List (Option MV) × List MV) := match S with
  | .inl y :: .inl x :: S => some (L, mI (f x y) :: S)
  | _ => none
def ol2 (f : Int64 → Int64 → Int64) (L : List (Option MV)) (S : List MV) : Option (List (Option MV) × List MV) := match S with
  | .inr (.inl y) :: .inr (.inl x) :: S => some (L, mL (f x y) :: S)
  | _ => none
def gfd (a b : Nat) (L : List (Option MV)) (S : List MV) (σ : St) : Option (List (Option MV) × List MV) := match S with
  | .inr (.inr (.inl (g, t))) :: S => match objOf g with
    | some (ci, fk) => bif Nat.beq ci a then (match fk[b]? with
      | some 0 => some (L, mI (σ.1 g t b) :: S)
      | some 1 => some (L, mL (σ.2 g t b) :: S)
      | some _ => some (L, .inr (.inr (rfv g t b)) :: S)
      | none => none) else none
    | none => none
  | _ => none
def stp (ins : Instr) (a b : Nat) (v : Int32) (w : Int64) (L : List (Option MV)) (S : List MV) (σ : St) : Option (List (Option MV) × List MV) :=
  match ins with
  | .iconst _ => some (L, mI v :: S)
  | .bipush _ => some (L, mI v :: S)
  | .sipush _ => some (L, mI v :: S)
  | .ldc _ => some (L, mI v :: S)
  | .ldc_w _ => some (L, mI v :: S)
  | .lconst _ => some (L, mL w :: S)
  | .ldc2_w _ => some (L, mL w :: S)
  | .iload_n n => ldI L S n
  | .iload i => ldI L S i
  | .lload_n n => ldL L S n
  | .lload i => ldL L S i
  | .aload_n n => ldA L S n
  | .aload i => ldA L S i
  | .istore_n n => stI L S n
  | .istore i => stI L S i
  | .lstore_n n => stL L S n
  | .lstore i => stL L S i
  | .astore_n n => stA L S n
  | .astore i => stA L S i
  | .iinc i _ => match lgt L i with
    | some (.inl x) => bif nlg L i && Nat.blt i L.length then some (lst L i (some (mI (x + v))), S) else none
    | _ => none
  | .iadd => op2 (fun x y => x + y) L S
  | .isub => op2 (fun x y => x - y) L S
  | .imul => op2 (fun x y => x * y) L S
  | .iand => op2 (fun x y => x &&& y) L S
  | .ior => op2 (fun x y => x ||| y) L S
  | .ixor => op2 (fun x y => x ^^^ y) L S
  | .ishl => op2 (fun x y => x <<< (y &&& 31)) L S
  | .ishr => op2 (fun x y => x >>> (y &&& 31)) L S
  | .iushr => op2 (fun x y => (x.toUInt32 >>> (y.toUInt32 &&& Int32.toUInt32 31)).toInt32) L S
  | .ineg => op1 (fun x => -x) L S
  | .i2b => op1 (fun x => x.toInt8.toInt32) L S
  | .ladd => ol2 (fun x y => x + y) L S
  | .lmul => ol2 (fun x y => x * y) L S
  | .lcmp => match S with
    | .inr (.inl y) :: .inr (.inl x) :: S => some (L, mI (lg_cmp x y) :: S)
    | _ => none
  | .i2l => match S with
    | .inl x :: S => some (L, mL x.toInt64 :: S)
    | _ => none
  | .l2i => match S with
    | .inr (.inl x) :: S => some (L, mI x.toInt32 :: S)
    | _ => none
  | .dup => match S with
    | .inl x :: S => some (L, mI x :: mI x :: S)
    | .inr (.inr r) :: S => some (L, .inr (.inr r) :: .inr (.inr r) :: S)
    | _ => none
  | .dup2 => match S with
    | .inl x :: .inr (.inr r) :: S => some (L, mI x :: .inr (.inr r) :: mI x :: .inr (.inr r) :: S)
    | _ => none
  | .arraylength => match S with
    | .inr (.inr (.inr (g, t))) :: S => some (L, mI (nI (lenOf g t)) :: S)
    | _ => none
  | .getfield _ => gfd a b L S σ
  | _ => none
