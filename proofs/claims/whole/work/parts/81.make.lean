-- MAKING: the constructors' tools
def nwR : Cond := .methodLinkNest "TentMiddle" 39 y_Reader_init "TentMiddle"
def nwO : Cond := .methodLinkNest "TentMiddle" 46 y_Orders_init "TentMiddle"
def nwP : Cond := .methodLinkNest "TentMiddle" 53 y_Plan_init "TentMiddle"
def iNw (U : State) : Prop := va_Nw nwR U ∧ va_Nw nwO U ∧ va_Nw nwP U ∧ va_AO "TentMiddle$Camp" U
theorem iNw.same {u U : State} (h : u.vm = U.vm) (hN : iNw u) : iNw U := ⟨hN.1.same rfl h, hN.2.1.same rfl h, hN.2.2.1.same rfl h, hN.2.2.2.moved (by rw [h]; exact Vm.Alike.refl U.vm)⟩
theorem iNw.warm {u U : State} (h : u.WarmedH U.vm) (hN : iNw u) : iNw U := ⟨va_Nw.warmM h hN.1, va_Nw.warmM h hN.2.1, va_Nw.warmM h hN.2.2.1, hN.2.2.2.moved h.alike⟩
def rmC (d mc ms : Nat) : Room := { frames := d, cells := mc, slots := ms, locals := 64 * d }
def iPc (D : va_G) (kI kA : ClassId) (as : List Value) (sz : Nat) (w : va_W) : Array Value → State → Prop := va_Pc as (fun U => U.heap.size = sz ∧ va_P D mcl w U.heap ∧ va_K D mcl (mty kI kA) U ∧ va_D (fun _ => True) w ∧ iNw U)
def iQ (D : va_G) (good : va_W → Prop) (A : Nat → Prop) : Array Value → State → Outcome → State → Prop := fun _ st oc t => (oc = .returned none ∧ ∃ w1, good w1 ∧ va_P D mcl w1 t.heap ∧ va_D A w1) ∧ va_F A st t
def Ini (md : Md) (d mc ms : Nat) (kI kA : ClassId) (as : List Value) (w : va_W) (good : va_W → Prop) : Prop :=
  ∀ (l : Launch) (D : va_G) (sz : Nat), Met l md.1 (Cond.code md.1 md.2.1 md.2.2.1 none :: T1) (rmC d mc ms) (iPc D kI kA as sz w) (iQ D good (va_A w sz)) mc ms (va_A w sz)
def Ix (p : Program) (s : State) (m : MethodId) (args : Array Value) (c : Code) (D : va_G) (kI kA : ClassId) (A : Nat → Prop) (own : String) (cc : ByteArray) (nL : Nat) : Prop :=
  p.tables.exec = Jvm.exec ∧ c.code = cc ∧ c.maxLocals = nL ∧ s.vm.findClass own = some m.cls ∧ (∀ w ∈ T1, w.before args s = true) ∧ va_K D mcl (mty kI kA) s ∧ iNw s ∧ ∀ q, s.heap.size ≤ q → A q
theorem Ini.of {md : Md} {d mc ms : Nat} {kI kA : ClassId} {as : List Value} {w : va_W} {good : va_W → Prop} (hy : plainName md.1.cls = true) (hl0 : (lg_sl as).length ≤ md.2.2.1)
    (body : ∀ (l : Launch) (p : Program) (e : Env) (s : State) (m : MethodId) (args : Array Value) (below : List Frame) (meth : Method) (c : Code) (D : va_G) (A : Nat → Prop) (ls : Array Slot), Ix p s m args c D kI kA A md.1.cls md.2.1 md.2.2.1 → meth.sig.returnType = none → meth.locks = false → meth.name = md.1.name → va_P D mcl w s.heap → va_D A w → lv_has ls md.2.2.1 (lv_args 0 as) → W p l e (rmC d mc ms) s m args below meth c s.heap [] 0 0 (MQ below (iQ D good A) args s mc ms A) (F0 m 0 ls [])) : Ini md d mc ms kI kA as w good := by
  intro l D sz
  refine Met.ofW (cc := md.2.1) (maxL := md.2.2.1) (ret := none) hy rfl ?_
  intro p e s m args below meth c s₁ B hml hpc
  obtain ⟨rfl, hsz, hP, hK, hD0, hN⟩ := hpc
  subst hsz
  have hts : ∀ w ∈ T1, w.before as.toArray s = true := fun w hw => atoms_spec (ws := Cond.code md.1 md.2.1 md.2.2.1 none :: T1) B.pre w (List.mem_cons_of_mem _ hw)
  have hown : s.vm.findClass md.1.cls = some m.cls := findClass_of_methodNamed B.named
  have hl := lv_entry as (n := md.2.2.1) hl0
  rw [lg_entry_eq]
  exact body l p e s m _ below meth c D (va_A w s.heap.size) _ ⟨B.exec, B.bytes, hml, hown, hts, hK, hN, fun q hq => Or.inr hq⟩ B.returns B.notSynchronized (name_of_methodNamed B.named B.method).1 hP hD0.self hl
section MK
variable {p : Program} {l : Launch} {e : Env} {R : Room} {s : State} {m : MethodId} {args : Array Value} {below : List Frame} {meth : Method} {c : Code} {H : Heap} {locs : List Loc} {cells slots : Nat} {Q : State → Prop} {D : va_G} {kI kA : ClassId} {A : Nat → Prop} {own : String} {cc : ByteArray} {nL : Nat} {ws : va_W} {ls : Array Slot} {rest : List Value} {pc : Nat}
theorem i_ret {good : va_W → Prop} {w1 : va_W} (C : Ix p s m args c D kI kA A own cc nL) (hr : meth.sig.returnType = none) (hlk : meth.locks = false) (hg : good w1) (hP : va_P D mcl w1 H) (hD : va_D A w1) (hS : va_S A s.heap H locs) (hdg : decode cc pc = .ok (.return_, 1)) : W p l e R s m args below meth c H locs cells slots (MQ below (iQ D good A) args s cells slots A) (F0 m pc ls []) :=
  W.vret C.1 C.2.1 hr (fun t ht hW => ⟨⟨rfl, w1, hg, by rw [ht]; exact hP, hD⟩, hS.F ht⟩) hS.2.2 hdg
theorem i_newI (C : Ix p s m args c D kI kA A own cc nL) (hI : Cond.arrayClass .int ∈ T1) {n : Int32} {N : Nat} (hn : ¬ n < 0) (hN : n.toNatClampNeg = N) (hN2 : N ≤ 10000) (hcells : cells + 1 ≤ R.cells) (hslots : slots + N ≤ R.slots) (hP : va_P D mcl ws H) (hD : va_D A ws) (hS : va_S A s.heap H locs) (hdg : decode cc pc = .ok (.newarray .int, 2))
    (kk : ∀ (q : Nat) (H1 : Heap), va_P D mcl (ws ++ [(q, .inl (kI, N, .inl (fun _ => 0)))]) H1 → va_D A (ws ++ [(q, .inl (kI, N, .inl (fun _ => 0)))]) → va_S A s.heap H1 locs → W p l e R s m args below meth c H1 locs (cells + 1) (slots + N) Q (F0 m (pc + 2) ls (.ref q :: rest))) : W p l e R s m args below meth c H locs cells slots Q (F0 m pc ls (.int n :: rest)) := by
  obtain ⟨hx, hb, hml, hown, hts, hK, hNw, hA⟩ := C
  refine va_newa (a0 := (N, .inl (fun _ => 0))) hx hb (atype := .int) (hts _ hI) rfl hK hP hD hS hA (fun cA => vp_cell_i _ _ _) hn hN (by show N * 4 ≤ 536870912; omega) hcells hslots hdg (fun q cA H1 hK1 hP1 hD1 hS1 => ?_)
  have e1 : s.vm.findClass ("[" ++ (FieldType.int).toString) = some cA := (hK1.2 2 (cA, .int) rfl).2
  have e2 : s.vm.findClass ("[" ++ (FieldType.int).toString) = some kI := (hK.2 0 (kI, .int) rfl).2
  have e3 : cA = kI := Option.some.inj (e1.symm.trans e2)
  subst e3
  exact kk q H1 hP1 hD1 hS1
theorem i_newq (C : Ix p s m args c D kI kA A own cc nL) {index : Nat} (hcl : Cond.classLink own index "TentMiddle$Camp" ∈ T1) {n : Int32} {N : Nat} (hn : ¬ n < 0) (hN : n.toNatClampNeg = N) (hN2 : N ≤ 10000) (hcells : cells + 1 ≤ R.cells) (hslots : slots + N ≤ R.slots) (hP : va_P D mcl ws H) (hD : va_D A ws) (hS : va_S A s.heap H locs) (hdg : decode cc pc = .ok (.anewarray index, 3))
    (kk : ∀ (q : Nat) (H1 : Heap), va_P D mcl (ws ++ [(q, .inl (kA, N, .inr (.inr (.inr (.inr (fun _ => none))))))]) H1 → va_D A (ws ++ [(q, .inl (kA, N, .inr (.inr (.inr (.inr (fun _ => none))))))]) → va_S A s.heap H1 locs → W p l e R s m args below meth c H1 locs (cells + 1) (slots + N) Q (F0 m (pc + 3) ls (.ref q :: rest))) : W p l e R s m args below meth c H locs cells slots Q (F0 m pc ls (.int n :: rest)) := by
  obtain ⟨hx, hb, hml, hown, hts, hK, hNw, hA⟩ := C
  refine va_newq hx hb hown (hts _ hcl) hNw.2.2.2 hK hP hD hS hA hn hN (by omega) hcells hslots hdg (fun q cA H1 hK1 hP1 hD1 hS1 => ?_)
  obtain ⟨_, _, _, _, _, e1⟩ := (hK1.2 2 (cA, .object "TentMiddle$Camp") rfl).2
  obtain ⟨_, _, _, _, _, e2⟩ := (hK.2 1 (kA, .object "TentMiddle$Camp") rfl).2
  have e3 : cA = kA := Option.some.inj (e1.symm.trans e2)
  subst e3
  exact kk q H1 hP1 hD1 hS1
theorem tyF_all {a b : Nat} {C : String} {T : u_T} {N : Nat} (h1 : mcl[a]? = some (C, T, N)) (h2 : b < N) : ∃ ty0 : Nat → FieldType, (∀ k, k < N → parseFieldDescriptor (T k).2.2.1 = some (ty0 k)) ∧ (∀ a, a < N → ∀ b, b < N → a ≠ b → (T a).2.1 ≠ (T b).2.1) ∧ parseFieldDescriptor (T b).2.2.1 = some (tyF a b).1 ∧ (T b).2.2.2 = (tyF a b).2 := by
  match a, h1 with
  | 0, h1 => cases h1; exact ⟨tyX0, tyX0_ok, nmX0, tyX0_ok b h2, rfl⟩
  | 1, h1 => cases h1; exact ⟨tyX1, tyX1_ok, nmX1, tyX1_ok b h2, rfl⟩
  | 2, h1 => cases h1; exact ⟨tyX2, tyX2_ok, nmX2, tyX2_ok b h2, rfl⟩
  | 3, h1 => cases h1; exact ⟨tyX3, tyX3_ok, nmX3, tyX3_ok b h2, rfl⟩
  | 4, h1 => cases h1; exact ⟨tyX4, tyX4_ok, nmX4, tyX4_ok b h2, rfl⟩
  | 5, h1 => cases h1; exact ⟨tyX5, tyX5_ok, nmX5, tyX5_ok b h2, rfl⟩
  | 6, h1 => cases h1; exact ⟨tyX6, tyX6_ok, nmX6, tyX6_ok b h2, rfl⟩
  | k + 7, h1 => cases h1
theorem i_put {ci idx k h0 : Nat} {fs : List Value} {v : Value} (C : Ix p s m args c D kI kA A own cc nL) (hname : meth.name = "<init>") (hfw : fldW own idx ci k) (hcl : (mcl[ci]?).map (fun q => q.1) = some own) (hn : narrow (tyF ci k).1 v = v) (hft : fits (tyF ci k).1 v = true) (hl : k < fs.length) (hP : va_P D mcl ((h0, .inr (ci, fs)) :: ws) H) (hD : va_D A ((h0, .inr (ci, fs)) :: ws)) (hS : va_S A s.heap H locs) (hdg : decode cc pc = .ok (.putfield idx, 3))
    (kk : ∀ (H1 : Heap) (locs1 : List Loc), va_P D mcl ((h0, .inr (ci, fs.set k v)) :: ws) H1 → va_D A ((h0, .inr (ci, fs.set k v)) :: ws) → va_S A s.heap H1 locs1 → W p l e R s m args below meth c H1 locs1 cells slots Q (F0 m (pc + 3) ls rest)) : W p l e R s m args below meth c H locs cells slots Q (F0 m pc ls (v :: .ref h0 :: rest)) := by
  obtain ⟨hx, hb, hml, hown, hts, hK, hNw, hA⟩ := C
  obtain ⟨C0, T, N, h1, h2, h3, h4, h5⟩ := hfw
  have hC : C0 = own := by
    rw [h1] at hcl
    exact Option.some.inj hcl
  subst hC
  obtain ⟨ty0, g1, g2, g3, g4⟩ := tyF_all h1 h2
  have hlk : Cond.fieldLink C0 idx C0 (T k).2.1 (T k).2.2.1 ∈ T1 := by
    rcases h5 with h5 | h5
    · exact h5
    · unfold nwF at h5
      injection h5 with a1 a2 a3
      rw [a1] at a3
      exact absurd a3 (by decide)
  have hs : ∀ x, s.fieldFound? (T k).1 (T k).2.1 (T k).2.2.1 = some x → s.fieldFound? C0 (T k).2.1 (T k).2.2.1 = some x := by
    rw [h3]
    exact fun _ h => h
  cases hfin : (tyF ci k).2 with
  | true => exact va_putF (ref := C0) hx hb hts h4 ty0 g1 g2 hown hK hP hD hS 0 rfl h1 k h2 (hts _ hlk) hs (by rw [g4]; exact hfin) hname h3 g3 hn hft hl hdg kk
  | false => exact va_put (ref := C0) hx hb hts h4 ty0 g1 g2 hown hK hP hD hS 0 rfl h1 k h2 (hts _ hlk) hs (by rw [g4]; exact hfin) g3 hn hft hl hdg kk
theorem i_new {ci index : Nat} {C1 : String} {T : u_T} {N : Nat} {fs : List Value} {ty : Nat → FieldType} (C : Ix p s m args c D kI kA A own cc nL) (hc : mcl[ci]? = some (C1, T, N)) (hin : ∀ w ∈ u_ws C1 T N, w ∈ T1) (hty : ∀ k, k < N → parseFieldDescriptor (T k).2.2.1 = some (ty k)) (hcl : Cond.classLink own index C1 ∈ T1) (hinst : Cond.instantiable C1 N ∈ T1) (hini : Cond.initialized C1 ∈ T1) (hfs : ∀ j, j < N → defaultValue (ty j) = vp_V fs j) (hcells : cells + 1 ≤ R.cells) (hslots : slots + N ≤ R.slots) (hP : va_P D mcl ws H) (hD : va_D A ws) (hS : va_S A s.heap H locs) (hdg : decode cc pc = .ok (.new index, 3))
    (kk : ∀ (q : Nat) (H1 : Heap), va_P D mcl (ws ++ [(q, .inr (ci, fs))]) H1 → va_D A (ws ++ [(q, .inr (ci, fs))]) → va_S A s.heap H1 locs → W p l e R s m args below meth c H1 locs (cells + 1) (slots + N) Q (F0 m (pc + 3) ls (.ref q :: rest))) : W p l e R s m args below meth c H locs cells slots Q (F0 m pc ls rest) := by
  obtain ⟨hx, hb, hml, hown, hts, hK, hNw, hA⟩ := C
  exact va_new hx hb hts hin ty hty hown (hts _ hcl) (hts _ hinst) (hts _ hini) hK hP hD hS hA hc hfs hcells hslots hdg kk
theorem i_obj {idx : Nat} (C : Ix p s m args c D kI kA A own cc nL) (hl : Cond.methodLink own idx Lib.objectInit ∈ T1) (hw : Cond.instanceMethod Lib.objectInit ∈ T1 ∧ Cond.code Lib.objectInit ⟨#[0xb1]⟩ 1 none ∈ T1) {a : Nat} (hsz : ls.size = nL) (hdg : decode cc pc = .ok (.invokespecial idx, 3)) (hf : 1 ≤ R.frames) (hlo : 64 ≤ R.locals) (kk : W p l e R s m args below meth c H locs cells slots Q (F0 m (pc + 3) ls [])) : W p l e R s m args below meth c H locs cells slots Q (F0 m pc ls [.ref a]) := by
  obtain ⟨hx, hb, hml, hown, hts, hK, hNw, hA⟩ := C
  exact W.objInit hx hb hown (hts _ hl) (hts _ hw.1) (hts _ hw.2) rfl (by rw [hml]; exact hsz) rfl hdg hf (by show 2 * 0 + 0 + 12 ≤ R.locals; omega) kk
theorem jn {q : Nat} {e0 : va_E} {w1 : va_W} {H1 : Heap} (hP : va_P D mcl (ws ++ [(q, e0)]) H) (hD : va_D A (ws ++ [(q, e0)])) (hk : ∀ z : Nat, z < H.size → ¬ va_A [(q, e0)] H.size z → H1[z]? = H[z]?) (hF : ∀ z, va_A [(q, e0)] H.size z → A z) (hP1 : va_P D mcl w1 H1) (hD1 : va_D (va_A [(q, e0)] H.size) w1) : va_P D mcl (ws ++ w1) H1 ∧ va_D A (ws ++ w1) := by
  have lft : ∀ (k : Nat) (z : Nat × va_E), ws[k]? = some z → (ws ++ [(q, e0)])[k]? = some z := fun k z h => by
    rw [List.getElem?_append_left (List.getElem?_eq_some_iff.mp h).1]; exact h
  have lst : (ws ++ [(q, e0)])[ws.length]? = some (q, e0) := by
    rw [List.getElem?_append_right (Nat.le_refl _), Nat.sub_self]; rfl
  have apart : ∀ (k : Nat) (z : Nat × va_E), ws[k]? = some z → z.1 < H.size ∧ ¬ va_A [(q, e0)] H.size z.1 := by
    intro k z hz
    have hl := (hP k z (lft k z hz)).lt
    refine ⟨hl, fun h => ?_⟩
    rcases h with ⟨k2, e2, h⟩ | h
    · have : k2 = 0 := by
        have := (List.getElem?_eq_some_iff.mp h).1
        simp at this
        exact this
      subst this
      have hq : q = z.1 := by
        have := Option.some.inj h
        exact congrArg Prod.fst this
      have := hD.1 k ws.length z (q, e0) (lft k z hz) lst hq.symm
      have := (List.getElem?_eq_some_iff.mp hz).1
      omega
    · omega
  have hDw : va_D A ws := ⟨fun i j x y hx hy => hD.1 i j x y (lft i x hx) (lft j y hy), fun k z hz => hD.2 k z (lft k z hz)⟩
  refine ⟨va_P.app (fun k z hz => ?_) hP1, va_D.app hDw (hD1.weaken (fun k z _ h => hF z.1 h)) (fun i j x y hx hy hxy => ?_)⟩
  · exact (hP k z (lft k z hz)).kept (hk z.1 (apart k z hz).1 (apart k z hz).2)
  · exact (apart i x hx).2 (by rw [hxy]; exact hD1.2 j y hy)
theorem iPc_blind {D : va_G} {kI kA : ClassId} {as : List Value} {sz : Nat} {w : va_W} : FrameBlind (iPc D kI kA as sz w) := by
  intro a U g mk q
  obtain ⟨q0, q1, qP, qK, qD, qN⟩ := q
  exact ⟨q0, q1, qP, va_K.moved (u := U) (U := U.calling g mk a) (Vm.Alike.refl U.vm) qK, qD, iNw.same (u := U) (U := U.calling g mk a) rfl qN⟩
/-- behind a constructor's call -/
theorem i_go {md' : Md} {d' mc ms q : Nat} {e0 : va_E} {good : va_W → Prop} {As rest : List Value} {st0 : List Value} {a : Array Value} (hr : va_Run p l e R s m args below meth c H locs cells slots mc ms (F0 m pc ls st0) rest (iQ D good (va_A [(q, e0)] H.size) a) (va_A [(q, e0)] H.size)) (hP : va_P D mcl (ws ++ [(q, e0)]) H) (hD : va_D A (ws ++ [(q, e0)])) (hS : va_S A s.heap H locs) (hA : ∀ z, s.heap.size ≤ z → A z)
    (kk : ∀ (w1 : va_W) (H1 : Heap) (locs1 : List Loc), good w1 → va_P D mcl (ws ++ w1) H1 → va_D A (ws ++ w1) → va_S A s.heap H1 locs1 → W p l e R s m args below meth c H1 locs1 (cells + mc) (slots + ms) Q (F0 m (pc + 3) ls rest)) : W p l e R s m args below meth c H locs cells slots Q (F0 m pc ls st0) := by
  have hF : ∀ z, va_A [(q, e0)] H.size z → A z := by
    intro z h
    rcases h with ⟨k2, e2, h⟩ | h
    · have k0 : k2 = 0 := by
        have := (List.getElem?_eq_some_iff.mp h).1
        simp at this
        exact this
      subst k0
      have hq : q = z := congrArg Prod.fst (Option.some.inj h)
      rw [← hq]
      exact hD.2 ws.length (q, e0) (by rw [List.getElem?_append_right (Nat.le_refl _), Nat.sub_self]; rfl)
    · exact hA z (Nat.le_trans hS.1 h)
  intro T hT X
  obtain ⟨v, st₀, t, T', L, h0, X', hL, e1, e2, ⟨⟨hv, w1, hg, hp, hd⟩, hz, hk⟩, st⟩ := hr T hT X
  cases hv
  rw [h0] at hz hk
  obtain ⟨hP1, hD1⟩ := jn (H1 := T'.heap) hP hD (fun z h1 h2 => by rw [e1]; exact hk z h1 h2) hF (by rw [e1]; exact hp) hd
  obtain ⟨t2, a1, b1⟩ := kk w1 T'.heap (locs ++ L) hg hP1 hD1
    ⟨Nat.le_trans hS.1 (by rw [e1]; exact hz), fun z h1 h2 => by rw [e1, hk z (Nat.lt_of_lt_of_le h1 hS.1) (fun y => h2 (hF z y))]; exact hS.2.1 z h1 h2, fun z hz => by
      rcases List.mem_append.mp hz with h | h
      · exact hS.2.2 z h
      · exact hF _ (hL z h)⟩ T' rfl X'
  exact ⟨t2, st t2 a1, b1⟩
/-- what a constructor's method must be -/
def MdI (md : Md) (n : Nat) : Prop := Cond.code md.1 md.2.1 md.2.2.1 none ∈ T1 ∧ Cond.initialized md.1.cls ∈ T1 ∧ md.1.name = "<init>" ∧ Cond.instanceMethod md.1 ∈ T1 ∧ (md.1.cls ≠ "java/lang/invoke/MethodHandle" ∧ md.1.cls ≠ "java/lang/invoke/VarHandle") ∧ (parseMethodDescriptor md.1.desc).map (fun d => d.parameters.length) = some n ∧ md.2.2.1 ≤ 45
theorem i_call {md' : Md} {d' mc ms q n idx : Nat} {e0 : va_E} {good : va_W → Prop} {As rest : List Value} (C : Ix p s m args c D kI kA A own cc nL) (ok : MdI md' n) (hM : Ini md' d' mc ms kI kA (.ref q :: As) [(q, e0)] good) (hlk : Cond.methodLink own idx md'.1 ∈ T1 ∨ va_Nw (.methodLinkNest own idx md'.1 "TentMiddle") s) (hn : As.length = n) (hsz : ls.size = nL) (hcat : (rest.map fun v => v.category).sum ≤ 8) (hdg : decode cc pc = .ok (.invokespecial idx, 3)) (hR : d' + 1 ≤ R.frames ∧ 8 + (md'.2.2.1 + 11) + 64 * d' ≤ R.locals) (hf : cells + mc ≤ R.cells ∧ slots + ms ≤ R.slots) (hP : va_P D mcl (ws ++ [(q, e0)]) H) (hD : va_D A (ws ++ [(q, e0)])) (hS : va_S A s.heap H locs)
    (kk : ∀ (w1 : va_W) (H1 : Heap) (locs1 : List Loc), good w1 → va_P D mcl (ws ++ w1) H1 → va_D A (ws ++ w1) → va_S A s.heap H1 locs1 → W p l e R s m args below meth c H1 locs1 (cells + mc) (slots + ms) Q (F0 m (pc + 3) ls rest)) : W p l e R s m args below meth c H locs cells slots Q (F0 m pc ls (As.reverse ++ .ref q :: rest)) := by
  obtain ⟨hx, hb, hml, hown, hts, hK, hNw, hA⟩ := C
  obtain ⟨o1, o2, o3, o4, o5, o6, o7⟩ := ok
  have hPc1 : va_P D mcl [(q, e0)] H := fun k z hz => by
    have k0 : k = 0 := by
      have := (List.getElem?_eq_some_iff.mp hz).1
      simp at this
      exact this
    subst k0
    exact hP ws.length z (by rw [List.getElem?_append_right (Nat.le_refl _), Nat.sub_self]; exact hz)
  have hDc1 : va_D (fun _ => True) [(q, e0)] := ⟨fun i j x y hi hj _ => by
    have h1 := (List.getElem?_eq_some_iff.mp hi).1
    have h2 := (List.getElem?_eq_some_iff.mp hj).1
    simp at h1 h2
    omega, fun _ _ _ => trivial⟩
  have hPS : PreS s H (iPc D kI kA (.ref q :: As) H.size [(q, e0)]) (.ref q :: As) := ⟨iPc_blind, fun U hU hW => ⟨rfl, by rw [hU], by rw [hU]; exact hPc1, va_K.moved hW.alike hK, hDc1, iNw.warm hW hNw⟩⟩
  have hcat' := lv_room (m := m) (pc := pc) (ls := ls) (rest := As.reverse ++ .ref q :: rest) hcat
  rcases hlk with hlk | hlk
  · exact i_go (md' := md') (d' := d') (As := As) (va_runI (As := As) (rest := rest) ⟨hx, hb, hml, hown, hts⟩ (hM l D H.size) ⟨callB_of (R := R) (rm := rmC d' mc ms) n hts (good_T1 o1) rfl rfl rfl (hts _ o2) (hts _ hlk) ⟨o5.1, o5.2, o6⟩ hR, o3, hts _ o4⟩ hPS rfl hn hsz rfl hcat' hdg hf) hP hD hS hA kk
  · exact i_go (md' := md') (d' := d') (As := As) (va_runIN (As := As) (rest := rest) ⟨hx, hb, hml, hown, hts⟩ (hM l D H.size) ⟨va_cnB (R := R) (rm := rmC d' mc ms) n hts (good_T1 o1) rfl rfl rfl hlk (hts _ o2) ⟨o5.1, o5.2, o6⟩ hR, o3, hts _ o4⟩ hPS rfl hn hsz rfl hcat' hdg hf) hP hD hS hA kk
end MK
