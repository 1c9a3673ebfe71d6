-- THE MINI MACHINE: values, the fixed world of both sides, pure instructions
abbrev CI : Type := (Nat × Nat) ⊕ (Nat × Nat)
abbrev MV : Type := Int32 ⊕ (Int64 ⊕ CI)
abbrev mI (x : Int32) : MV := Sum.inl x
abbrev mL (x : Int64) : MV := Sum.inr (Sum.inl x)
abbrev mR (g t : Nat) : MV := Sum.inr (Sum.inr (Sum.inl (g, t)))
abbrev mA (g t : Nat) : MV := Sum.inr (Sum.inr (Sum.inr (g, t)))
abbrev St : Type := (Nat → Nat → Nat → Int32) × (Nat → Nat → Nat → Int64)
def cv (ad : CI → Nat) (v : MV) : Value := match v with
  | .inl x => .int x
  | .inr (.inl x) => .long x
  | .inr (.inr r) => .ref (ad r)
/-- an object's number in mcl, and its fields' kinds: 0 int, 1 long, 2 an object, 3 an array -/
def objOf (g : Nat) : Option (Nat × List Nat) :=
  bif Nat.beq g 0 then some (5, [2, 2, 2, 2, 2, 2, 2, 2, 3, 0, 0, 1, 1]) else
  bif Nat.beq g 1 then some (4, [0, 3, 3]) else
  bif Nat.beq g 4 then some (0, [3, 3, 3, 3, 3, 3, 3, 3, 3, 3, 0, 0, 0, 0, 0, 0, 0]) else
  bif Nat.beq g 16 then some (3, [2, 3, 0, 0]) else
  bif Nat.beq g 18 then some (1, [3, 0]) else
  bif Nat.beq g 20 then some (2, [3, 3, 3, 3, 3, 3, 0, 0, 0]) else
  bif Nat.beq g 30 then some (6, [3, 0, 3, 3, 3, 3, 3, 3, 3, 0, 1, 1, 0, 3, 0, 0, 0, 3, 3, 0, 3, 3, 0, 0, 0, 0, 0, 3, 3]) else none
/-- what a field that is a reference holds; 15: the row of kept tents -/
def rfv (g t j : Nat) : CI :=
  bif Nat.beq g 4 then .inr (5 + j, t) else
  bif Nat.beq g 1 then .inr (1 + j, t) else
  bif Nat.beq g 15 then .inl (4, 1 + j) else
  bif Nat.beq g 0 then ([.inl (1, 0), .inl (1, 1), .inl (4, 0), .inl (15, 0), .inl (4, 4), .inl (16, 0), .inl (18, 0), .inl (20, 0)] : List CI).getD j (.inr (27, 0)) else
  bif Nat.beq g 16 then (bif Nat.beq j 0 then .inl (4, 5) else .inr (17, 0)) else
  bif Nat.beq g 18 then .inr (19, 0) else
  bif Nat.beq g 20 then .inr (21 + j, 0) else
  .inr (([31, 0, 32, 33, 34, 35, 36, 37, 38, 0, 0, 0, 0, 39, 0, 0, 0, 40, 41, 0, 42, 43, 0, 0, 0, 0, 0, 44, 45] : List Nat).getD j 0, 0)
def lenTab : List Nat := [0, 0, 0, 240, 0, 8, 5, 5, 5, 5, 5, 5, 5, 5, 0, 0, 0, 60, 0, 5, 0, 120, 600, 5, 20, 3, 3, 6, 0, 0, 0, 4104, 5, 5, 8, 6, 240, 4, 240, 6, 8, 15, 5, 5, 5, 600]
def lenOf (g t : Nat) : Nat :=
  bif Nat.beq g 2 then (bif Nat.beq t 0 then 6 else 4) else
  bif Nat.beq g 14 then (bif Nat.ble t 3 then 1000 else 0) else lenTab.getD g 0
def mcells : List CI :=
  [.inl (0, 0), .inl (1, 0), .inr (2, 0), .inr (3, 0), .inl (1, 1), .inr (2, 1), .inr (3, 1)]
  ++ ([0, 1, 2, 3, 4, 5] : List Nat).flatMap (fun t => [.inl (4, t), .inr (5, t), .inr (6, t), .inr (7, t), .inr (8, t), .inr (9, t), .inr (10, t), .inr (11, t), .inr (12, t), .inr (13, t), .inr (14, t)])
  ++ [.inl (15, 0), .inl (16, 0), .inr (17, 0), .inl (18, 0), .inr (19, 0), .inl (20, 0), .inr (21, 0), .inr (22, 0), .inr (23, 0), .inr (24, 0), .inr (25, 0), .inr (26, 0), .inr (27, 0),
    .inl (30, 0), .inr (31, 0), .inr (32, 0), .inr (33, 0), .inr (34, 0), .inr (35, 0), .inr (36, 0), .inr (37, 0), .inr (38, 0), .inr (39, 0), .inr (40, 0), .inr (41, 0), .inr (42, 0), .inr (43, 0), .inr (44, 0), .inr (45, 0)]
def fvl (ad : CI → Nat) (σ : St) (g t : Nat) (fk : List Nat) (j : Nat) : Value :=
  match fk[j]? with
  | some 0 => .int (σ.1 g t j)
  | some 1 => .long (σ.2 g t j)
  | some _ => .ref (ad (rfv g t j))
  | none => .null
def ent (ad : CI → Nat) (kI kA : ClassId) (σ : St) (r : CI) : va_E := match r with
  | .inr (g, t) => .inl (kI, lenOf g t, .inl (σ.1 g t))
  | .inl (g, t) => match objOf g with
    | some (ci, fk) => .inr (ci, (List.range fk.length).map (fvl ad σ g t fk))
    | none => .inl (kA, 3, .inr (.inr (.inr (.inr (fun j => some (ad (rfv 15 0 j)))))))
def wsO (ad : CI → Nat) (kI kA : ClassId) (σ : St) : va_W := mcells.map (fun r => (ad r, ent ad kI kA σ r))
def unw (r : CI) : Nat × Nat := match r with
  | .inl q => q
  | .inr q => q
def si (σ : St) (g t j : Nat) (v : Int32) : St := (fun a b => if a = g ∧ b = t then upd (σ.1 a b) j v else σ.1 a b, σ.2)
def sl (σ : St) (g t j : Nat) (v : Int64) : St := (σ.1, fun a b => if a = g ∧ b = t then vp_updL (σ.2 a b) j v else σ.2 a b)
def sa (σ : St) (g t : Nat) (f : Nat → Int32) : St := (fun a b => if a = g ∧ b = t then f else σ.1 a b, σ.2)
theorem mcells_nd : (mcells.map unw).Nodup := by decide +kernel
theorem mcells_one {i j : Nat} {r q : CI} (hi : mcells[i]? = some r) (hj : mcells[j]? = some q) (h : unw r = unw q) : i = j := by
  have h1 : (mcells.map unw)[i]? = some (unw r) := by rw [List.getElem?_map, hi]; rfl
  have h2 : (mcells.map unw)[j]? = some (unw q) := by rw [List.getElem?_map, hj]; rfl
  have hl : i < (mcells.map unw).length := (List.getElem?_eq_some_iff.mp h1).1
  exact (List.getElem?_inj hl mcells_nd).mp (by rw [h1, h2, h])
theorem ws_get {ad : CI → Nat} {kI kA : ClassId} {σ : St} {k : Nat} {r : CI} (h : mcells[k]? = some r) : (wsO ad kI kA σ)[k]? = some (ad r, ent ad kI kA σ r) := by
  unfold wsO
  rw [List.getElem?_map, h]; rfl
theorem ws_set {ad : CI → Nat} {kI kA : ClassId} {σ σ' : St} {k : Nat} {r : CI} (h : mcells[k]? = some r) (hne : ∀ q : CI, unw q ≠ unw r → ent ad kI kA σ' q = ent ad kI kA σ q) {x : Nat × va_E} (hx : x = (ad r, ent ad kI kA σ' r)) : (wsO ad kI kA σ).set k x = wsO ad kI kA σ' := by
  subst hx
  apply List.ext_getElem?
  intro i
  unfold wsO
  rw [List.getElem?_set, List.getElem?_map, List.length_map]
  by_cases hi : k = i
  · subst hi
    have hl : k < mcells.length := (List.getElem?_eq_some_iff.mp h).1
    rw [if_pos rfl, if_pos hl, List.getElem?_map, h]; rfl
  · rw [if_neg hi, List.getElem?_map]
    cases hq : mcells[i]? with
    | none => rfl
    | some q =>
      simp only [Option.map_some]
      rw [hne q (fun e => hi (mcells_one h hq e.symm))]
theorem ent_si_ne {ad : CI → Nat} {kI kA : ClassId} {σ : St} {g t j : Nat} {v : Int32} (q : CI) (h : unw q ≠ (g, t)) : ent ad kI kA (si σ g t j v) q = ent ad kI kA σ q := by
  obtain ⟨a, b⟩ | ⟨a, b⟩ := q
  · have hn : ¬ (a = g ∧ b = t) := fun e => h (by rw [e.1, e.2]; rfl)
    have e : ∀ fk, fvl ad (si σ g t j v) a b fk = fvl ad σ a b fk := fun fk => by
      funext i
      simp only [si, fvl, if_neg hn]
    simp only [ent, e]
  · have hn : ¬ (a = g ∧ b = t) := fun e => h (by rw [e.1, e.2]; rfl)
    simp only [ent, si, if_neg hn]
theorem ent_sa_ne {ad : CI → Nat} {kI kA : ClassId} {σ : St} {g t : Nat} {f : Nat → Int32} (q : CI) (h : unw q ≠ (g, t)) : ent ad kI kA (sa σ g t f) q = ent ad kI kA σ q := by
  obtain ⟨a, b⟩ | ⟨a, b⟩ := q
  · have hn : ¬ (a = g ∧ b = t) := fun e => h (by rw [e.1, e.2]; rfl)
    have e : ∀ fk, fvl ad (sa σ g t f) a b fk = fvl ad σ a b fk := fun fk => by
      funext i
      simp only [sa, fvl, if_neg hn]
    simp only [ent, e]
  · have hn : ¬ (a = g ∧ b = t) := fun e => h (by rw [e.1, e.2]; rfl)
    simp only [ent, sa, if_neg hn]
theorem ent_sl_ne {ad : CI → Nat} {kI kA : ClassId} {σ : St} {g t j : Nat} {v : Int64} (q : CI) (h : unw q ≠ (g, t)) : ent ad kI kA (sl σ g t j v) q = ent ad kI kA σ q := by
  obtain ⟨a, b⟩ | ⟨a, b⟩ := q
  · have hn : ¬ (a = g ∧ b = t) := fun e => h (by rw [e.1, e.2]; rfl)
    have e : ∀ fk, fvl ad (sl σ g t j v) a b fk = fvl ad σ a b fk := fun fk => by
      funext i
      simp only [sl, fvl, if_neg hn]
    simp only [ent, e]
  · simp only [ent, sl]
theorem ent_si_arr {ad : CI → Nat} {kI kA : ClassId} {σ : St} {g t j : Nat} {v : Int32} : ent ad kI kA (si σ g t j v) (.inr (g, t)) = .inl (kI, lenOf g t, .inl (upd (σ.1 g t) j v)) := by
  simp only [ent, si, and_self, if_true]
theorem ent_sa_arr {ad : CI → Nat} {kI kA : ClassId} {σ : St} {g t : Nat} {f : Nat → Int32} : ent ad kI kA (sa σ g t f) (.inr (g, t)) = .inl (kI, lenOf g t, .inl f) := by
  simp only [ent, sa, and_self, if_true]
theorem fvl_range {ad : CI → Nat} {σ : St} {g t : Nat} {fk : List Nat} {j : Nat} (hj : j < fk.length) : ((List.range fk.length).map (fvl ad σ g t fk))[j]? = some (fvl ad σ g t fk j) := by
  rw [List.getElem?_map, List.getElem?_range hj]; rfl
theorem ent_si_obj {ad : CI → Nat} {kI kA : ClassId} {σ : St} {g t j ci : Nat} {fk : List Nat} {v : Int32} (ho : objOf g = some (ci, fk)) (hk : fk[j]? = some 0) : ent ad kI kA (si σ g t j v) (.inl (g, t)) = .inr (ci, ((List.range fk.length).map (fvl ad σ g t fk)).set j (.int v)) := by
  simp only [ent, ho]
  congr 2
  apply List.ext_getElem?
  intro i
  rw [List.getElem?_set, List.getElem?_map, List.getElem?_map, List.length_map, List.length_range]
  have hl : j < fk.length := (List.getElem?_eq_some_iff.mp hk).1
  by_cases hi : j = i
  · subst hi
    rw [if_pos rfl, if_pos hl, List.getElem?_range hl]
    simp [fvl, hk, si, upd]
  · rw [if_neg hi]
    by_cases hil : i < fk.length
    · rw [List.getElem?_range hil]
      have hij : ¬ i = j := fun e => hi e.symm
      simp only [Option.map_some, fvl, si, and_self, if_true, upd, if_neg hij]
    · rw [List.getElem?_eq_none (by simp; omega)]; rfl
theorem ent_sl_obj {ad : CI → Nat} {kI kA : ClassId} {σ : St} {g t j ci : Nat} {fk : List Nat} {v : Int64} (ho : objOf g = some (ci, fk)) (hk : fk[j]? = some 1) : ent ad kI kA (sl σ g t j v) (.inl (g, t)) = .inr (ci, ((List.range fk.length).map (fvl ad σ g t fk)).set j (.long v)) := by
  simp only [ent, ho]
  congr 2
  apply List.ext_getElem?
  intro i
  rw [List.getElem?_set, List.getElem?_map, List.getElem?_map, List.length_map, List.length_range]
  have hl : j < fk.length := (List.getElem?_eq_some_iff.mp hk).1
  by_cases hi : j = i
  · subst hi
    rw [if_pos rfl, if_pos hl, List.getElem?_range hl]
    simp [fvl, hk, sl, vp_updL]
  · rw [if_neg hi]
    by_cases hil : i < fk.length
    · rw [List.getElem?_range hil]
      have hij : ¬ i = j := fun e => hi e.symm
      simp only [Option.map_some, fvl, sl, and_self, if_true, vp_updL, if_neg hij]
    · rw [List.getElem?_eq_none (by simp; omega)]; rfl
def eqC (q r : CI) : Bool := match q, r with
  | .inl a, .inl b => Nat.beq a.1 b.1 && Nat.beq a.2 b.2
  | .inr a, .inr b => Nat.beq a.1 b.1 && Nat.beq a.2 b.2
  | _, _ => false
theorem eqC_eq {q r : CI} (h : eqC q r = true) : q = r := by
  obtain ⟨a, b⟩ | ⟨a, b⟩ := q <;> obtain ⟨c, d⟩ | ⟨c, d⟩ := r
  · have := Bool.and_eq_true_iff.mp h
    rw [show a = c from Nat.eq_of_beq_eq_true this.1, show b = d from Nat.eq_of_beq_eq_true this.2]
  · cases h
  · cases h
  · have := Bool.and_eq_true_iff.mp h
    rw [show a = c from Nat.eq_of_beq_eq_true this.1, show b = d from Nat.eq_of_beq_eq_true this.2]
def inM (r : CI) : Bool := mcells.any (fun q => eqC q r)
theorem inM_mem {r : CI} (h : inM r = true) : r ∈ mcells := by
  obtain ⟨q, h1, h2⟩ := List.any_eq_true.mp h
  rw [← eqC_eq h2]; exact h1
/-- references lead to cells of the world -/
def rfOkB (r : CI) : Bool := match r with
  | .inr _ => true
  | .inl (g, t) => match objOf g with
    | some (_, fk) => (List.range fk.length).all (fun j => match fk[j]? with
      | some 0 => true
      | some 1 => true
      | some 2 => (match rfv g t j with
        | .inl _ => true
        | .inr _ => false) && inM (rfv g t j)
      | some _ => (match rfv g t j with
        | .inl _ => false
        | .inr _ => true) && inM (rfv g t j)
      | none => true)
    | none => Nat.beq g 15 && Nat.beq t 0
theorem rfOk : mcells.all rfOkB = true := by decide +kernel
theorem rfv_ok {g t j ci : Nat} {fk : List Nat} (h : (.inl (g, t) : CI) ∈ mcells) (ho : objOf g = some (ci, fk)) {x : Nat} (hk : fk[j]? = some x) (h0 : x ≠ 0) (h1 : x ≠ 1) : rfv g t j ∈ mcells := by
  have a := List.all_eq_true.mp rfOk _ h
  simp only [rfOkB, ho] at a
  have hl : j < fk.length := (List.getElem?_eq_some_iff.mp hk).1
  have b := List.all_eq_true.mp a j (List.mem_range.mpr hl)
  rw [hk] at b
  match x, h0, h1, b with
  | 2, _, _, b => exact inM_mem (Bool.and_eq_true_iff.mp b).2
  | (n + 3), _, _, b => exact inM_mem (Bool.and_eq_true_iff.mp b).2
theorem kept_ok : ∀ j, j < 3 → (rfv 15 0 j) ∈ mcells := fun j hj => inM_mem ((show ∀ j, j < 3 → inM (rfv 15 0 j) = true by decide +kernel) j hj)
theorem obj_none {g t : Nat} (h : (.inl (g, t) : CI) ∈ mcells) (ho : objOf g = none) : g = 15 ∧ t = 0 := by
  have a := List.all_eq_true.mp rfOk _ h
  simp only [rfOkB, ho] at a
  have b := Bool.and_eq_true_iff.mp a
  exact ⟨Nat.eq_of_beq_eq_true b.1, Nat.eq_of_beq_eq_true b.2⟩
