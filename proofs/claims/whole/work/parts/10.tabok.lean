def auxB (o : Nat) (ins : Instr) (pc a b : Nat) (v : Int32) (w : Int64) : Bool := match ins with
  | .iconst n => decide (Int32.ofInt n = v)
  | .bipush n => decide ((Int8.ofInt n).toInt32 = v)
  | .sipush n => decide ((Int16.ofInt n).toInt32 = v)
  | .ldc i => cstTab.any (fun q => Nat.beq q.1 o && (Nat.beq q.2.1 i && decide (q.2.2 = v)))
  | .ldc_w i => cstTab.any (fun q => Nat.beq q.1 o && (Nat.beq q.2.1 i && decide (q.2.2 = v)))
  | .lconst n => decide (Int64.ofNat (n : Nat) = w)
  | .ldc2_w i => cslTab.any (fun q => Nat.beq q.1 o && (Nat.beq q.2.1 i && decide (q.2.2 = w)))
  | .iinc _ n => decide (Int32.ofInt n = v)
  | .getfield i => fldTab.any (fun q => Nat.beq q.1 o && (Nat.beq q.2.1 i && (Nat.beq q.2.2.1 a && Nat.beq q.2.2.2 b)))
  | .putfield i => fldTab.any (fun q => Nat.beq q.1 o && (Nat.beq q.2.1 i && (Nat.beq q.2.2.1 a && Nat.beq q.2.2.2 b)))
  | .goto off => decide ((pc : Int) + off = (a : Int))
  | .ifCond _ off => decide ((pc : Int) + off = (a : Int))
  | .if_icmp _ off => decide ((pc : Int) + off = (a : Int))
  | _ => true
theorem cst_of {o i : Nat} {v : Int32} (h : cstTab.any (fun q => Nat.beq q.1 o && (Nat.beq q.2.1 i && decide (q.2.2 = v))) = true) : Cond.constant (ownS o) i v ∈ T1 := by
  obtain ⟨q, h1, h2⟩ := List.any_eq_true.mp h
  have h3 := Bool.and_eq_true_iff.mp h2
  have h4 := Bool.and_eq_true_iff.mp h3.2
  have e1 := Nat.eq_of_beq_eq_true h3.1
  have e2 := Nat.eq_of_beq_eq_true h4.1
  have e3 := of_decide_eq_true h4.2
  rw [← e1, ← e2, ← e3]
  exact cst_ok q h1
theorem csl_of {o i : Nat} {v : Int64} (h : cslTab.any (fun q => Nat.beq q.1 o && (Nat.beq q.2.1 i && decide (q.2.2 = v))) = true) : Cond.constantLong (ownS o) i v ∈ T1 := by
  obtain ⟨q, h1, h2⟩ := List.any_eq_true.mp h
  have h3 := Bool.and_eq_true_iff.mp h2
  have h4 := Bool.and_eq_true_iff.mp h3.2
  have e1 := Nat.eq_of_beq_eq_true h3.1
  have e2 := Nat.eq_of_beq_eq_true h4.1
  have e3 := of_decide_eq_true h4.2
  rw [← e1, ← e2, ← e3]
  exact csl_ok q h1
theorem fld_of {o i a b : Nat} (h : fldTab.any (fun q => Nat.beq q.1 o && (Nat.beq q.2.1 i && (Nat.beq q.2.2.1 a && Nat.beq q.2.2.2 b))) = true) : fldW (ownS o) i a b := by
  obtain ⟨q, h1, h2⟩ := List.any_eq_true.mp h
  have h3 := Bool.and_eq_true_iff.mp h2
  have h4 := Bool.and_eq_true_iff.mp h3.2
  have h5 := Bool.and_eq_true_iff.mp h4.2
  rw [← Nat.eq_of_beq_eq_true h3.1, ← Nat.eq_of_beq_eq_true h4.1, ← Nat.eq_of_beq_eq_true h5.1, ← Nat.eq_of_beq_eq_true h5.2]
  exact fld_ok q h1
theorem aux_of {o : Nat} {ins : Instr} {pc a b : Nat} {v : Int32} {w : Int64} (h : auxB o ins pc a b v w = true) : auxOk (ownS o) ins pc a b v w := by
  cases ins with
  | iconst n => exact of_decide_eq_true (p := Int32.ofInt n = v) h
  | bipush n => exact of_decide_eq_true (p := (Int8.ofInt n).toInt32 = v) h
  | sipush n => exact of_decide_eq_true (p := (Int16.ofInt n).toInt32 = v) h
  | ldc i => exact cst_of h
  | ldc_w i => exact cst_of h
  | lconst n => exact of_decide_eq_true (p := Int64.ofNat (n : Nat) = w) h
  | ldc2_w i => exact csl_of h
  | iinc i n => exact of_decide_eq_true (p := Int32.ofInt n = v) h
  | getfield i => exact fld_of h
  | putfield i => exact fld_of h
  | goto off => exact of_decide_eq_true (p := (pc : Int) + off = (a : Int)) h
  | ifCond c off => exact of_decide_eq_true (p := (pc : Int) + off = (a : Int)) h
  | if_icmp c off => exact of_decide_eq_true (p := (pc : Int) + off = (a : Int)) h
  | _ => exact trivial
def tabOk (o : Nat) (cc : ByteArray) : List PE → Bool
  | [] => true
  | q :: r => decide (decode cc q.1 = .ok (q.2.2.1, q.2.1)) && ((isTs q.2.2.1 || Nat.beq q.2.1 (lnI q.2.2.1)) && (auxB o q.2.2.1 q.1 q.2.2.2.1 q.2.2.2.2.1 q.2.2.2.2.2.1 q.2.2.2.2.2.2 && ((match r with
    | u :: _ => isEnd q.2.2.1 || Nat.beq u.1 (q.1 + q.2.1)
    | [] => true) && tabOk o cc r)))
theorem tab_of {o : Nat} {cc : ByteArray} : ∀ {pm : List PE}, tabOk o cc pm = true → Tk (ownS o) cc pm
  | [], _, q, r, hs => by
    have := List.suffix_nil.mp hs
    cases this
  | z :: pm, h, q, r, hs => by
    obtain ⟨h1, h⟩ := Bool.and_eq_true_iff.mp h
    obtain ⟨h2, h⟩ := Bool.and_eq_true_iff.mp h
    obtain ⟨h3, h⟩ := Bool.and_eq_true_iff.mp h
    obtain ⟨h4, h5⟩ := Bool.and_eq_true_iff.mp h
    rcases List.suffix_cons_iff.mp hs with e | hs
    · cases e
      refine ⟨of_decide_eq_true h1, fun ht => ?_, aux_of h3, fun u r' e he => ?_⟩
      · rw [ht, Bool.false_or] at h2
        exact Nat.eq_of_beq_eq_true h2
      · subst e
        dsimp only at h4
        rw [he, Bool.false_or] at h4
        exact Nat.eq_of_beq_eq_true h4
    · exact tab_of h5 q r hs
