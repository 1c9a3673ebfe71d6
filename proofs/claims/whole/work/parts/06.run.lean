-- programs as tables; runs of pure instructions
abbrev PE : Type := Nat × Nat × Instr × Nat × Nat × Int32 × Int64
def suf : List PE → Nat → List PE
  | [], _ => []
  | q :: r, pc => bif Nat.beq q.1 pc then q :: r else suf r pc
def isGo : Instr → Bool
  | .goto _ => true
  | _ => false
def isTs : Instr → Bool
  | .tableswitch _ _ _ _ => true
  | _ => false
def isEnd : Instr → Bool
  | .tableswitch _ _ _ _ => true
  | .goto _ => true
  | .ifCond _ _ => true
  | .if_icmp _ _ => true
  | .ireturn => true
  | .lreturn => true
  | .return_ => true
  | _ => false
def runP (pm : List PE) (σ : St) : Nat → List PE → List (Option MV) → List MV → Option (Nat × List (Option MV) × List MV)
  | _, [], _, _ => none
  | 0, q :: _, L, S => some (q.1, L, S)
  | k + 1, q :: r, L, S => bif isGo q.2.2.1 then runP pm σ k (suf pm q.2.2.2.1) L S else
    match stp q.2.2.1 q.2.2.2.1 q.2.2.2.2.1 q.2.2.2.2.2.1 q.2.2.2.2.2.2 L S σ with
    | some u => runP pm σ k r u.1 u.2
    | none => none
def insAt (pm : List PE) (pc : Nat) : Option (Nat × Instr × Nat × Nat × Int32 × Int64) := match suf pm pc with
  | q :: _ => some q.2
  | [] => none
/-- what a table must be: decoded, its numbers right, its rows one behind another -/
def Tk (own : String) (cc : ByteArray) (pm : List PE) : Prop :=
  ∀ (q : PE) (r : List PE), (q :: r) <:+ pm → decode cc q.1 = .ok (q.2.2.1, q.2.1) ∧ (isTs q.2.2.1 = false → q.2.1 = lnI q.2.2.1) ∧ auxOk own q.2.2.1 q.1 q.2.2.2.1 q.2.2.2.2.1 q.2.2.2.2.2.1 q.2.2.2.2.2.2 ∧ ∀ (u : PE) (r' : List PE), r = u :: r' → isEnd q.2.2.1 = false → u.1 = q.1 + q.2.1
theorem suf_suf : ∀ (pm : List PE) (pc : Nat), suf pm pc <:+ pm
  | [], _ => List.suffix_refl _
  | q :: r, pc => by
    simp only [suf]
    cases Nat.beq q.1 pc
    · exact (suf_suf r pc).trans (List.suffix_cons q r)
    · exact List.suffix_refl _
theorem suf_head : ∀ (pm : List PE) (pc : Nat) (q : PE) (r : List PE), suf pm pc = q :: r → q.1 = pc
  | [], _, _, _, h => by cases h
  | u :: r, pc, q, r', h => by
    simp only [suf] at h
    cases hb : Nat.beq u.1 pc with
    | true => rw [hb] at h; cases h; exact Nat.eq_of_beq_eq_true hb
    | false => rw [hb] at h; exact suf_head r pc q r' h
theorem suf_tail {q : PE} {r pm : List PE} (h : (q :: r) <:+ pm) : r <:+ pm := (List.suffix_cons q r).trans h
theorem insAt_suf {pm : List PE} {pc : Nat} {z : Nat × Instr × Nat × Nat × Int32 × Int64} (h : insAt pm pc = some z) : ∃ r, ((pc, z) :: r) <:+ pm := by
  unfold insAt at h
  cases hs : suf pm pc with
  | nil => rw [hs] at h; cases h
  | cons q r =>
    rw [hs] at h
    cases h
    have h1 := suf_head pm pc q r hs
    have h2 := suf_suf pm pc
    rw [hs] at h2
    refine ⟨r, ?_⟩
    rw [← h1]
    exact h2
section RUN
variable {p : Program} {l : Launch} {e : Env} {R : Room} {s : State} {m : MethodId} {args : Array Value} {below : List Frame} {meth : Method} {c : Code} {nc ns : Nat} {Q : State → Prop} {D : va_G} {kI kA : ClassId} {ad : CI → Nat} {A : Nat → Prop} {own : String} {cc : ByteArray} {nL : Nat}
theorem run_sound {pm : List PE} {σ : St} {pc' : Nat} {L' : List (Option MV)} {S' : List MV} (C : Cx p s m args c D kI kA A own cc nL) (T : Tk own cc pm) (kk : Wm p l e R s m args below meth c nc ns Q D kI kA ad A nL pc' L' S' σ) :
    ∀ (k : Nat) (rest : List PE) (L : List (Option MV)) (S : List MV), rest <:+ pm → runP pm σ k rest L S = some (pc', L', S') → ∃ q r, rest = q :: r ∧ Wm p l e R s m args below meth c nc ns Q D kI kA ad A nL q.1 L S σ := by
  intro k
  induction k with
  | zero =>
    intro rest L S hs h
    match rest, hs, h with
    | [], hs, h => cases h
    | q :: r, hs, h =>
      simp only [runP] at h
      cases h
      exact ⟨q, r, rfl, kk⟩
  | succ k ih =>
    intro rest L S hs h
    match rest, hs, h with
    | [], hs, h => cases h
    | q :: r, hs, h =>
      refine ⟨q, r, rfl, ?_⟩
      obtain ⟨t1, t2, t3, t4⟩ := T q r hs
      simp only [runP] at h
      cases hg : isGo q.2.2.1 with
      | true =>
        rw [hg, cond_true] at h
        obtain ⟨u, r', h1, h2⟩ := ih (suf pm q.2.2.2.1) L S (suf_suf pm _) h
        have h3 := suf_head _ _ _ _ h1
        obtain ⟨pc, n, ins, a, b, v, w⟩ := q
        cases ins with
        | goto off =>
          intro H locs ls hP hD hS hl hV
          have h4 := t2 rfl
          dsimp only at h4 t1
          rw [h4] at t1
          refine lv_goto C.1 C.2.1 t1 t3 ?_
          have h5 := h2 H locs ls hP hD hS hl hV
          rw [h3] at h5
          exact h5
        | _ => cases hg
      | false =>
        rw [hg, cond_false] at h
        cases hst : stp q.2.2.1 q.2.2.2.1 q.2.2.2.2.1 q.2.2.2.2.2.1 q.2.2.2.2.2.2 L S σ with
        | none => rw [hst] at h; cases h
        | some z =>
          rw [hst] at h
          obtain ⟨u, r', h1, h2⟩ := ih r z.1 z.2 (suf_tail hs) h
          have hen : isEnd q.2.2.1 = false := by
            cases hz : isEnd q.2.2.1 with
            | false => rfl
            | true =>
              obtain ⟨pc, n, ins, a, b, v, w⟩ := q
              cases ins with
              | tableswitch _ _ _ _ => cases hst
              | goto _ => cases hst
              | ifCond _ _ => cases hst
              | if_icmp _ _ => cases hst
              | ireturn => cases hst
              | lreturn => cases hst
              | return_ => cases hst
              | _ => cases hz
          have h3 := t4 u r' h1 hen
          have hts : isTs q.2.2.1 = false := by
            cases hz : isTs q.2.2.1 with
            | false => rfl
            | true =>
              obtain ⟨pc, n, ins, a, b, v, w⟩ := q
              cases ins with
              | tableswitch _ _ _ _ => cases hst
              | _ => cases hz
          refine st_sound C t1 (t2 hts) t3 hst ?_
          rw [← h3]
          exact h2
theorem run_at {pm : List PE} {σ : St} {k pc pc' : Nat} {L L' : List (Option MV)} {S S' : List MV} (C : Cx p s m args c D kI kA A own cc nL) (T : Tk own cc pm) (hr : runP pm σ k (suf pm pc) L S = some (pc', L', S')) (kk : Wm p l e R s m args below meth c nc ns Q D kI kA ad A nL pc' L' S' σ) : Wm p l e R s m args below meth c nc ns Q D kI kA ad A nL pc L S σ := by
  obtain ⟨q, r, h1, h2⟩ := run_sound C T kk k (suf pm pc) L S (suf_suf pm pc) hr
  rw [suf_head _ _ _ _ h1] at h2
  exact h2
end RUN
-- the state's own words in the functions
def inb (i : Int32) (n : Nat) : Bool := decide (0 ≤ i.toInt) && decide (i.toInt < n)
theorem inb_in {i : Int32} {n : Nat} (h : inb i n = true) : vp_in i n := by
  have h1 := Bool.and_eq_true_iff.mp h
  exact vp_in_iff.mpr ⟨of_decide_eq_true h1.1, of_decide_eq_true h1.2⟩
def ald (σ : St) (g t : Nat) (i : Int32) : Option Int32 := if inb i (lenOf g t) = true then some (σ.1 g t i.toNatClampNeg) else none
def ast (σ : St) (g t : Nat) (i v : Int32) : Option St := if inb i (lenOf g t) = true then some (si σ g t i.toNatClampNeg v) else none
def kld (i : Int32) : Option Nat := if inb i 3 = true then some (1 + i.toNatClampNeg) else none
def dvI (a b : Int32) : Option Int32 := if b = 0 then none else some (a / b)
def rmI (a b : Int32) : Option Int32 := if b = 0 then none else some (a - a / b * b)
def dvL (a b : Int64) : Option Int64 := if b = 0 then none else some (a / b)
def rmL (a b : Int64) : Option Int64 := if b = 0 then none else some (a - a / b * b)
def mmin (a b : Int32) : Int32 := if b < a then b else a
def mmax (a b : Int32) : Int32 := if a < b then b else a
def acpOk (n0 n1 : Nat) (sp dp n : Int32) : Bool := !decide (sp < 0) && (!decide (dp < 0) && (!decide (n < 0) && (decide (sp.toNatClampNeg + n.toNatClampNeg ≤ n0) && decide (dp.toNatClampNeg + n.toNatClampNeg ≤ n1))))
def acp (σ : St) (g t : Nat) (sp : Int32) (g' t' : Nat) (dp n : Int32) : Option St := if acpOk (lenOf g t) (lenOf g' t') sp dp n = true then some (sa σ g' t' (va_cpy (σ.1 g t) (σ.1 g' t') sp.toNatClampNeg dp.toNatClampNeg n.toNatClampNeg)) else none
def bs {α : Type} (s : St) (k : St → α) : α := k s
def b2 {α β : Type} (o : Option (α × St)) (k : α → St → Option β) : Option β := match o with
  | some q => k q.1 q.2
  | none => none
theorem bind_v {α β : Type} {o : Option α} {k : α → Option β} {w : β} (h : o.bind k = some w) : ∃ v, o = some v ∧ k v = some w := by
  cases o with
  | none => cases h
  | some v => exact ⟨v, rfl, h⟩
theorem b2_v {α β : Type} {o : Option (α × St)} {k : α → St → Option β} {w : β} (h : b2 o k = some w) : ∃ v s, o = some (v, s) ∧ k v s = some w := by
  cases o with
  | none => cases h
  | some v => exact ⟨v.1, v.2, rfl, h⟩
theorem if_v {α : Type} {b : Bool} {u w : α} (h : (if b = true then some u else none) = some w) : b = true ∧ u = w := by
  cases b
  · cases h
  · cases h; exact ⟨rfl, rfl⟩
theorem ifz_v {α β : Type} {b z : β} {d : Decidable (b = z)} {u w : α} (h : (@ite _ (b = z) d none (some u)) = some w) : ¬ b = z ∧ u = w := by
  by_cases hb : b = z
  · rw [if_pos hb] at h; cases h
  · rw [if_neg hb] at h; cases h; exact ⟨hb, rfl⟩
-- methods and their contracts
abbrev Md : Type := MethodName × ByteArray × Nat × Option FieldType × List PE
def rmD (d : Nat) : Room := { frames := d, cells := 0, slots := 0, locals := 64 * d }
def Qm (D : va_G) (kI kA : ClassId) (ad : CI → Nat) (A : Nat → Prop) (r : Option MV) (σ' : St) : Array Value → State → Outcome → State → Prop := fun _ st oc t =>
  (oc = .returned (r.map (cv ad)) ∧ va_P D mcl (wsO ad kI kA σ') t.heap) ∧ va_F A st t
def J (md : Md) (d pc : Nat) (L : List (Option MV)) (S : List MV) (σ : St) (r : Option MV) (σ' : St) : Prop :=
  ∀ (l : Launch) (p : Program) (e : Env) (s : State) (m : MethodId) (args : Array Value) (below : List Frame) (meth : Method) (c : Code) (D : va_G) (kI kA : ClassId) (ad : CI → Nat) (A : Nat → Prop),
    Cx p s m args c D kI kA A md.1.cls md.2.1 md.2.2.1 → meth.sig.returnType = md.2.2.2.1 → meth.locks = false → Wm p l e (rmD d) s m args below meth c 0 0 (MQ below (Qm D kI kA ad A r σ') args s 0 0 A) D kI kA ad A md.2.2.1 pc L S σ
def Tm (md : Md) : Prop := Tk md.1.cls md.2.1 md.2.2.2.2
section EV
variable {md : Md} {d pc pc1 k : Nat} {L L1 : List (Option MV)} {S S0 : List MV} {σ σ' : St} {r : Option MV} {ρ : Type} {w : ρ}
theorem J.run (T : Tm md) {S1 : List MV} (k : Nat) (hr : runP md.2.2.2.2 σ k (suf md.2.2.2.2 pc) L S = some (pc1, L1, S1)) (kk : J md d pc1 L1 S1 σ r σ') : J md d pc L S σ r σ' :=
  fun l p e s m args below meth c D kI kA ad A C hret hlk => run_at C T hr (kk l p e s m args below meth c D kI kA ad A C hret hlk)
end EV
