-- calls and contracts
def Call (md : Md) (d : Nat) (as : List MV) (σ : St) (r : Option MV) (σ' : St) : Prop :=
  (∀ q : CI, (.inr (.inr q) : MV) ∈ as → q ∈ mcells) → ∀ (l : Launch) (D : va_G) (kI kA : ClassId) (ad : CI → Nat) (sz : Nat),
    Met l md.1 (Cond.code md.1 md.2.1 md.2.2.1 md.2.2.2.1 :: T1) (rmD d) (va_Pc (as.map (cv ad)) (fun U => U.heap.size = sz ∧ va_P D mcl (wsO ad kI kA σ) U.heap ∧ va_K D mcl (mty kI kA) U ∧ va_D (fun _ => True) (wsO ad kI kA σ) ∧ mNw U)) (Qm D kI kA ad (va_A (wsO ad kI kA σ) sz) r σ') 0 0 (va_A (wsO ad kI kA σ) sz)
def MdOk (md : Md) (n : Nat) : Prop := Cond.code md.1 md.2.1 md.2.2.1 md.2.2.2.1 ∈ T1 ∧ Cond.initialized md.1.cls ∈ T1 ∧ plainName md.1.cls = true ∧ (md.1.cls ≠ "java/lang/invoke/MethodHandle" ∧ md.1.cls ≠ "java/lang/invoke/VarHandle") ∧ (parseMethodDescriptor md.1.desc).map (fun d => d.parameters.length) = some n ∧ md.2.2.1 ≤ 45
def argL : List MV → List (Option MV)
  | [] => []
  | .inl z :: r => some (.inl z) :: argL r
  | .inr (.inl z) :: r => some (.inr (.inl z)) :: none :: argL r
  | .inr (.inr z) :: r => some (.inr (.inr z)) :: argL r
def entL (nL : Nat) (as : List MV) : List (Option MV) := argL as ++ List.replicate (nL - (argL as).length) none
theorem lgt_rep : ∀ (n i : Nat) (u : MV), lgt (List.replicate n none) i = some u → False
  | 0, _, _, h => by cases h
  | n + 1, 0, u, h => by cases h
  | n + 1, i + 1, u, h => lgt_rep n i u h
theorem ent_args {ad : CI → Nat} : ∀ (as : List MV) (n i j : Nat) (u : MV), lgt (argL as ++ List.replicate n none) j = some u → (i + j, cv ad u) ∈ lv_args i (as.map (cv ad))
  | [], n, i, j, u, h => (lgt_rep n j u h).elim
  | .inl z :: r, n, i, 0, u, h => by cases h; exact List.mem_cons_self
  | .inl z :: r, n, i, j + 1, u, h => by
    have := ent_args (ad := ad) r n (i + 1) j u h
    rw [show i + 1 + j = i + (j + 1) by omega] at this
    exact List.mem_cons_of_mem _ this
  | .inr (.inr z) :: r, n, i, 0, u, h => by cases h; exact List.mem_cons_self
  | .inr (.inr z) :: r, n, i, j + 1, u, h => by
    have := ent_args (ad := ad) r n (i + 1) j u h
    rw [show i + 1 + j = i + (j + 1) by omega] at this
    exact List.mem_cons_of_mem _ this
  | .inr (.inl z) :: r, n, i, 0, u, h => by cases h; exact List.mem_cons_self
  | .inr (.inl z) :: r, n, i, 1, u, h => by cases h
  | .inr (.inl z) :: r, n, i, j + 2, u, h => by
    have := ent_args (ad := ad) r n (i + 2) j u h
    rw [show i + 2 + j = i + (j + 2) by omega] at this
    exact List.mem_cons_of_mem _ this
theorem lg_cons (v : Value) (vs : List Value) : lg_sl (v :: vs) = (if v.category = 2 then [Slot.val v, Slot.second] else [Slot.val v]) ++ lg_sl vs := by
  simp only [lg_sl, List.flatMap_cons]
theorem argL_sl {ad : CI → Nat} : ∀ (as : List MV), (lg_sl (as.map (cv ad))).length = (argL as).length
  | [] => rfl
  | .inl z :: r => by
    rw [List.map_cons, lg_cons, List.length_append, argL_sl r]
    show 1 + (argL r).length = (argL r).length + 1
    omega
  | .inr (.inr z) :: r => by
    rw [List.map_cons, lg_cons, List.length_append, argL_sl r]
    show 1 + (argL r).length = (argL r).length + 1
    omega
  | .inr (.inl z) :: r => by
    rw [List.map_cons, lg_cons, List.length_append, argL_sl r]
    show 2 + (argL r).length = (argL r).length + 2
    omega
theorem lgt_argL : ∀ (as : List MV) (n j : Nat) (q : CI), lgt (argL as ++ List.replicate n none) j = some (.inr (.inr q)) → (.inr (.inr q) : MV) ∈ as
  | [], n, j, q, h => (lgt_rep n j _ h).elim
  | .inl z :: r, n, 0, q, h => by cases h
  | .inl z :: r, n, j + 1, q, h => List.mem_cons_of_mem _ (lgt_argL r n j q h)
  | .inr (.inr z) :: r, n, 0, q, h => by cases h; exact List.mem_cons_self
  | .inr (.inr z) :: r, n, j + 1, q, h => List.mem_cons_of_mem _ (lgt_argL r n j q h)
  | .inr (.inl z) :: r, n, 0, q, h => by cases h
  | .inr (.inl z) :: r, n, 1, q, h => by cases h
  | .inr (.inl z) :: r, n, j + 2, q, h => List.mem_cons_of_mem _ (lgt_argL r n j q h)
theorem Call.of {md : Md} {d n : Nat} {as : List MV} {σ σ' : St} {r : Option MV} {L : List (Option MV)} (ok : MdOk md n) (hl0 : (argL as).length ≤ md.2.2.1) (hL : L = entL md.2.2.1 as) (h : J md d 0 L [] σ r σ') : Call md d as σ r σ' := by
  subst hL
  intro hv l D kI kA ad sz
  refine Met.ofW (cc := md.2.1) (maxL := md.2.2.1) (ret := md.2.2.2.1) ok.2.2.1 rfl ?_
  intro p e s m args below meth c s₁ B hml hpc
  obtain ⟨rfl, hsz, hP, hK, hD0, hN⟩ := hpc
  subst hsz
  have hts : ∀ w ∈ T1, w.before ((as.map (cv ad)).toArray) s = true := fun w hw => atoms_spec (ws := Cond.code md.1 md.2.1 md.2.2.1 md.2.2.2.1 :: T1) B.pre w (List.mem_cons_of_mem _ hw)
  have hown : s.vm.findClass md.1.cls = some m.cls := findClass_of_methodNamed B.named
  have hlsl : (lg_sl (as.map (cv ad))).length ≤ md.2.2.1 := by rw [argL_sl]; exact hl0
  have hl := lv_entry (as.map (cv ad)) (n := md.2.2.1) hlsl
  rw [lg_entry_eq]
  refine h l p e s m _ below meth c D kI kA ad (va_A (wsO ad kI kA σ) s.heap.size) ⟨B.exec, B.bytes, hml, hown, hts, hK, hN, fun q hq => Or.inr hq⟩ B.returns B.notSynchronized s.heap [] _ hP hD0.self va_S.rf ⟨hl.1, hl.2.1, fun q hq => ?_⟩ ⟨?_, fun i q hq => hv q (lgt_argL _ _ _ _ hq), fun q hq => by cases hq⟩
  · obtain ⟨j, u, h1, rfl⟩ := mem_cLf hq
    exact hl.2.2 _ (ent_args as _ 0 j u h1)
  · unfold entL
    rw [List.length_append, List.length_replicate]
    omega
theorem good_T1 {cw : Cond} (h : cw ∈ T1) : GoodIn T1 (cw :: T1) := by
  have g : ∀ w ∈ T1, w ∈ T1 ∧ ((w.onTables && w.keeps) = true ∨ ∃ ty, w = .arrayClass ty) := fun w hw => ⟨hw, good_of_word (List.mem_filter.mp hw).2⟩
  intro w hw
  rcases List.mem_cons.mp hw with rfl | hw
  · exact g _ h
  · exact g _ hw
def catM (v : MV) : Nat := match v with
  | .inr (.inl _) => 2
  | _ => 1
theorem cat_le {ad : CI → Nat} : ∀ (rest : List MV), ((rest.map (cv ad)).map fun v => v.category).sum = (rest.map catM).sum
  | [] => rfl
  | .inl z :: r => by simp only [List.map_cons, List.sum_cons, cat_le r]; rfl
  | .inr (.inl z) :: r => by simp only [List.map_cons, List.sum_cons, cat_le r]; rfl
  | .inr (.inr z) :: r => by simp only [List.map_cons, List.sum_cons, cat_le r]; rfl
def Ck (own : String) (ins : Instr) (md' : Md) (as : List MV) : Prop := ∃ n, MdOk md' n ∧
  ((∃ idx, ins = .invokevirtual idx ∧ Cond.methodLink own idx md'.1 ∈ T1 ∧ Cond.instanceMethod md'.1 ∈ T1 ∧ Cond.selects md'.1.cls md'.1 md'.1 ∈ T1 ∧ ∃ (g t : Nat) (as' : List MV) (ci : Nat) (fk : List Nat) (T : u_T) (N : Nat), as = mR g t :: as' ∧ as'.length = n ∧ objOf g = some (ci, fk) ∧ mcl[ci]? = some (md'.1.cls, T, N)) ∨
  (∃ idx, ins = .invokestatic idx ∧ as.length = n ∧ Cond.static md'.1 ∈ T1 ∧ (Cond.methodLink own idx md'.1 ∈ T1 ∨ Cond.methodLinkNest own idx md'.1 "TentMiddle" = nwM)))
section CALL
variable {p : Program} {l : Launch} {e : Env} {R : Room} {s : State} {m : MethodId} {args : Array Value} {below : List Frame} {meth : Method} {c : Code} {nc ns : Nat} {Q : State → Prop} {D : va_G} {kI kA : ClassId} {ad : CI → Nat} {A : Nat → Prop} {own : String} {cc : ByteArray} {nL : Nat}
theorem m_call {H : Heap} {locs : List Loc} {ls : Array Slot} {pc : Nat} {st0 : List Value} {rest : List MV} {r : Option MV} {σ1 : St} {A1 : Nat → Prop} {a : Array Value} (hr : va_Run p l e R s m args below meth c H locs nc ns 0 0 (F0 m pc ls st0) (rest.map (cv ad)) (Qm D kI kA ad A1 r σ1 a) A1) (hS : va_S A s.heap H locs) (hA : ∀ q, A1 q → A q)
    (kk : ∀ (H1 : Heap) (locs1 : List Loc), va_P D mcl (wsO ad kI kA σ1) H1 → va_S A s.heap H1 locs1 → W p l e R s m args below meth c H1 locs1 nc ns Q (F0 m (pc + 3) ls ((r.toList ++ rest).map (cv ad)))) : W p l e R s m args below meth c H locs nc ns Q (F0 m pc ls st0) := by
  intro T hT X
  obtain ⟨v, st₀, t, T', L, h0, X', hL, e1, e2, ⟨⟨hv, hp⟩, hz, hk⟩, st⟩ := hr T hT X
  cases hv
  rw [h0] at hz hk
  have hst : (r.map (cv ad)).toList ++ rest.map (cv ad) = (r.toList ++ rest).map (cv ad) := by
    cases r <;> simp
  rw [hst] at st
  obtain ⟨t2, a1, b1⟩ := kk T'.heap (locs ++ L) (by rw [e1]; exact hp)
    ⟨Nat.le_trans hS.1 (by rw [e1]; exact hz), fun q h1 h2 => by rw [e1, hk q (Nat.lt_of_lt_of_le h1 hS.1) (fun z => h2 (hA q z))]; exact hS.2.1 q h1 h2, fun q hq => by
      rcases List.mem_append.mp hq with h | h
      · exact hS.2.2 q h
      · exact hA _ (hL q h)⟩ T' rfl X'
  exact ⟨t2, st t2 a1, b1⟩
theorem W_call {ins : Instr} {md' : Md} {as rest : List MV} {σ σ1 : St} {r : Option MV} {d' pc : Nat} {L : List (Option MV)} (C : Cx p s m args c D kI kA A own cc nL) (hd : decode cc pc = .ok (ins, 3)) (ck : Ck own ins md' as) (hc : Call md' d' as σ r σ1) (hrest : (rest.map catM).sum ≤ 8)
    (hR : d' + 1 ≤ R.frames ∧ 8 + (md'.2.2.1 + 11) + 64 * d' ≤ R.locals) (hf : nc ≤ R.cells ∧ ns ≤ R.slots) (hnr : ∀ q : CI, r ≠ some (.inr (.inr q)))
    (kk : Wm p l e R s m args below meth c nc ns Q D kI kA ad A nL (pc + 3) L (r.toList ++ rest) σ1) : Wm p l e R s m args below meth c nc ns Q D kI kA ad A nL pc L (as.reverse ++ rest) σ := by
  intro H locs ls hP hD hS hl hV
  obtain ⟨hx, hb, hml, hown, hts, hK, hN, hA⟩ := id C
  have hva : ∀ q : CI, (.inr (.inr q) : MV) ∈ as → q ∈ mcells := fun q hq => hV.2.2 q (List.mem_append_left _ (List.mem_reverse.mpr hq))
  have hV' : okV nL L (r.toList ++ rest) := ⟨hV.1, hV.2.1, fun q hq => by
    rcases List.mem_append.mp hq with h | h
    · cases r with
      | none => cases h
      | some z =>
        rcases List.mem_cons.mp h with rfl | h
        · exact absurd rfl (hnr q)
        · cases h
    · exact hV.2.2 q (List.mem_append_right _ h)⟩
  have hM := hc hva l D kI kA ad H.size
  obtain ⟨n, ⟨o1, o2, o3, o4, o5, o6⟩, ck⟩ := ck
  have hAw : ∀ q, va_A (wsO ad kI kA σ) H.size q → A q := by
    intro q h
    rcases h with ⟨k, e, h⟩ | h
    · exact hD.2 k _ h
    · exact hA q (Nat.le_trans hS.1 h)
  have hbl : FrameBlind (va_Pc (as.map (cv ad)) (fun U => U.heap.size = H.size ∧ va_P D mcl (wsO ad kI kA σ) U.heap ∧ va_K D mcl (mty kI kA) U ∧ va_D (fun _ => True) (wsO ad kI kA σ) ∧ mNw U)) := by
    intro a U g mk q
    obtain ⟨q0, q1, qP, qK, qD, qN⟩ := q
    exact ⟨q0, q1, qP, va_K.moved (u := U) (U := U.calling g mk a) (Vm.Alike.refl U.vm) qK, qD, mNw.same (u := U) (U := U.calling g mk a) rfl qN⟩
  have hPc : ∀ U : State, U.heap = H → s.WarmedH U.vm → (U.heap.size = H.size ∧ va_P D mcl (wsO ad kI kA σ) U.heap ∧ va_K D mcl (mty kI kA) U ∧ va_D (fun _ => True) (wsO ad kI kA σ) ∧ mNw U) := fun U hU hW => ⟨by rw [hU], by rw [hU]; exact hP, va_K.moved hW.alike hK, hD.weaken (fun _ _ _ _ => trivial), mNw.warm hW hN⟩
  have go : ∀ (H1 : Heap) (locs1 : List Loc), va_P D mcl (wsO ad kI kA σ1) H1 → va_S A s.heap H1 locs1 → W p l e R s m args below meth c H1 locs1 nc ns Q (F0 m (pc + 3) ls ((r.toList ++ rest).map (cv ad))) := fun H1 locs1 hP1 hS1 => kk H1 locs1 ls hP1 (ws_D hD) hS1 hl hV'
  have hcat : 2 * (F0 m pc ls ((as.reverse ++ rest).map (cv ad))).monitorRoom + ((rest.map (cv ad)).map fun v => v.category).sum ≤ 8 := lv_room (by rw [cat_le]; exact hrest)
  rcases ck with ⟨idx, rfl, k1, k2, k3, g, t, as', ci, fk, T, N, rfl, k4, k5, k6⟩ | ⟨idx, rfl, k1, k2, k3⟩
  · have hr : (.inl (g, t) : CI) ∈ mcells := hva _ List.mem_cons_self
    obtain ⟨q0, hq⟩ := List.getElem?_of_mem hr
    have hw := ws_get (ad := ad) (kI := kI) (kA := kA) (σ := σ) hq
    simp only [ent, k5] at hw
    have hcb := callB_of (R := R) (rm := rmD d') (mc := 0) (ms := 0) n hts (good_T1 o1) rfl rfl rfl (hts _ o2) (hts _ k1) ⟨o4.1, o4.2, o5⟩ hR
    exact m_call (va_runV (As := as'.map (cv ad)) (rest := rest.map (cv ad)) ⟨hx, hb, hml, hown, hts⟩ hM ⟨hcb, hts _ k2, hts _ k3⟩ ⟨hbl, va_recv hK hP k6 hw, fun U hU hW => ⟨rfl, hPc U hU hW⟩⟩ rfl (by rw [List.length_map]; exact k4) hl.1 (by simp [cv]) hcat hd hf) hS hAw go
  · rcases k3 with k3 | k3
    · have hcb := callB_of (R := R) (rm := rmD d') (mc := 0) (ms := 0) n hts (good_T1 o1) rfl rfl rfl (hts _ o2) (hts _ k3) ⟨o4.1, o4.2, o5⟩ hR
      exact m_call (va_runS (As := as.map (cv ad)) (rest := rest.map (cv ad)) ⟨hx, hb, hml, hown, hts⟩ hM ⟨hcb, hts _ k2⟩ ⟨hbl, fun U hU hW => ⟨rfl, hPc U hU hW⟩⟩ rfl (by rw [List.length_map]; exact k1) hl.1 (by simp) hcat hd hf) hS hAw go
    · have hcn := va_cnB (R := R) (rm := rmD d') (mc := 0) (ms := 0) (host := "TentMiddle") n hts (good_T1 o1) rfl rfl rfl (by rw [k3]; exact hN.2) (hts _ o2) ⟨o4.1, o4.2, o5⟩ hR
      exact m_call (va_runSN (As := as.map (cv ad)) (rest := rest.map (cv ad)) ⟨hx, hb, hml, hown, hts⟩ hM ⟨hcn, hts _ k2, trivial⟩ ⟨hbl, fun U hU hW => ⟨rfl, hPc U hU hW⟩⟩ rfl (by rw [List.length_map]; exact k1) hl.1 (by simp) hcat hd hf) hS hAw go
end CALL
section EVC
variable {md : Md} {d pc pc1 : Nat} {L L1 : List (Option MV)} {S S0 : List MV} {σ σ' : St} {r : Option MV} {ρ : Type} {w : ρ} {n a b : Nat} {v0 : Int32} {w0 : Int64}
theorem J.call (T : Tm md) {ins : Instr} {md' : Md} {as rest S1 : List MV} {σ1 : St} {r1 : Option MV} {d' : Nat} (k : Nat) (hr : runP md.2.2.2.2 σ k (suf md.2.2.2.2 pc) L S = some (pc1, L1, S1)) (hi : insAt md.2.2.2.2 pc1 = some (n, ins, a, b, v0, w0)) (hS : S1 = as.reverse ++ rest) (ck : Ck md.1.cls ins md' as) (hrest : Nat.ble (rest.map catM).sum 8 = true) (hd : d' + 1 ≤ d) (hc : Call md' d' as σ r1 σ1) (hnr : ∀ q : CI, r1 ≠ some (.inr (.inr q))) (kk : J md d (pc1 + 3) L1 (r1.toList ++ rest) σ1 r σ') : J md d pc L S σ r σ' := by
  refine J.run T k hr ?_
  subst hS
  have hln : isTs ins = false ∧ lnI ins = 3 := by
    obtain ⟨n, -, ⟨idx, rfl, -⟩ | ⟨idx, rfl, -⟩⟩ := ck <;> exact ⟨rfl, rfl⟩
  obtain ⟨hdc, -⟩ := dec_at T hi hln.1
  rw [hln.2] at hdc
  have hd1 := hd
  have hml : md'.2.2.1 ≤ 45 := by
    obtain ⟨n, ok, -⟩ := ck
    exact ok.2.2.2.2.2
  intro l p e s m args below meth c D kI kA ad A C hret hlk
  refine W_call C hdc ck hc (Nat.le_of_ble_eq_true hrest) ⟨hd1, ?_⟩ ⟨Nat.le_refl _, Nat.le_refl _⟩ hnr (kk l p e s m args below meth c D kI kA ad A C hret hlk)
  show 8 + (md'.2.2.1 + 11) + 64 * d' ≤ 64 * d
  omega
/-- pure, an int -/
theorem J.cpI (T : Tm md) {ins : Instr} {md' : Md} {as rest S1 : List MV} {d' : Nat} {Fc : Option Int32} {kf : Int32 → Option ρ} (k : Nat) (hr : runP md.2.2.2.2 σ k (suf md.2.2.2.2 pc) L S = some (pc1, L1, S1)) (hi : insAt md.2.2.2.2 pc1 = some (n, ins, a, b, v0, w0)) (hS : S1 = as.reverse ++ rest) (ck : Ck md.1.cls ins md' as) (hrest : Nat.ble (rest.map catM).sum 8 = true) (hd : d' + 1 ≤ d) (hc : ∀ v, Fc = some v → Call md' d' as σ (some (mI v)) σ) (hF : Fc.bind kf = some w) (kk : ∀ v, kf v = some w → J md d (pc1 + 3) L1 (mI v :: rest) σ r σ') : J md d pc L S σ r σ' := by
  obtain ⟨v, h1, h2⟩ := bind_v hF
  exact J.call T k hr hi hS ck hrest hd (hc v h1) (fun q => by intro h; cases h) (kk v h2)
theorem J.cpL (T : Tm md) {ins : Instr} {md' : Md} {as rest S1 : List MV} {d' : Nat} {Fc : Option Int64} {kf : Int64 → Option ρ} (k : Nat) (hr : runP md.2.2.2.2 σ k (suf md.2.2.2.2 pc) L S = some (pc1, L1, S1)) (hi : insAt md.2.2.2.2 pc1 = some (n, ins, a, b, v0, w0)) (hS : S1 = as.reverse ++ rest) (ck : Ck md.1.cls ins md' as) (hrest : Nat.ble (rest.map catM).sum 8 = true) (hd : d' + 1 ≤ d) (hc : ∀ v, Fc = some v → Call md' d' as σ (some (mL v)) σ) (hF : Fc.bind kf = some w) (kk : ∀ v, kf v = some w → J md d (pc1 + 3) L1 (mL v :: rest) σ r σ') : J md d pc L S σ r σ' := by
  obtain ⟨v, h1, h2⟩ := bind_v hF
  exact J.call T k hr hi hS ck hrest hd (hc v h1) (fun q => by intro h; cases h) (kk v h2)
/-- an int, and a new state -/
theorem J.csI (T : Tm md) {ins : Instr} {md' : Md} {as rest S1 : List MV} {d' : Nat} {Fc : Option (Int32 × St)} {kf : Int32 → St → Option ρ} (k : Nat) (hr : runP md.2.2.2.2 σ k (suf md.2.2.2.2 pc) L S = some (pc1, L1, S1)) (hi : insAt md.2.2.2.2 pc1 = some (n, ins, a, b, v0, w0)) (hS : S1 = as.reverse ++ rest) (ck : Ck md.1.cls ins md' as) (hrest : Nat.ble (rest.map catM).sum 8 = true) (hd : d' + 1 ≤ d) (hc : ∀ v s1, Fc = some (v, s1) → Call md' d' as σ (some (mI v)) s1) (hF : b2 Fc kf = some w) (kk : ∀ v σ1, kf v σ1 = some w → J md d (pc1 + 3) L1 (mI v :: rest) σ1 r σ') : J md d pc L S σ r σ' := by
  obtain ⟨v, s1, h1, h2⟩ := b2_v hF
  exact J.call T k hr hi hS ck hrest hd (hc v s1 h1) (fun q => by intro h; cases h) (kk v s1 h2)
theorem J.csL (T : Tm md) {ins : Instr} {md' : Md} {as rest S1 : List MV} {d' : Nat} {Fc : Option (Int64 × St)} {kf : Int64 → St → Option ρ} (k : Nat) (hr : runP md.2.2.2.2 σ k (suf md.2.2.2.2 pc) L S = some (pc1, L1, S1)) (hi : insAt md.2.2.2.2 pc1 = some (n, ins, a, b, v0, w0)) (hS : S1 = as.reverse ++ rest) (ck : Ck md.1.cls ins md' as) (hrest : Nat.ble (rest.map catM).sum 8 = true) (hd : d' + 1 ≤ d) (hc : ∀ v s1, Fc = some (v, s1) → Call md' d' as σ (some (mL v)) s1) (hF : b2 Fc kf = some w) (kk : ∀ v σ1, kf v σ1 = some w → J md d (pc1 + 3) L1 (mL v :: rest) σ1 r σ') : J md d pc L S σ r σ' := by
  obtain ⟨v, s1, h1, h2⟩ := b2_v hF
  exact J.call T k hr hi hS ck hrest hd (hc v s1 h1) (fun q => by intro h; cases h) (kk v s1 h2)
/-- nothing, and a new state -/
theorem J.csV (T : Tm md) {ins : Instr} {md' : Md} {as rest S1 : List MV} {d' : Nat} {Fc : Option St} {kf : St → Option ρ} (k : Nat) (hr : runP md.2.2.2.2 σ k (suf md.2.2.2.2 pc) L S = some (pc1, L1, S1)) (hi : insAt md.2.2.2.2 pc1 = some (n, ins, a, b, v0, w0)) (hS : S1 = as.reverse ++ rest) (ck : Ck md.1.cls ins md' as) (hrest : Nat.ble (rest.map catM).sum 8 = true) (hd : d' + 1 ≤ d) (hc : ∀ s1, Fc = some s1 → Call md' d' as σ none s1) (hF : Fc.bind kf = some w) (kk : ∀ σ1, kf σ1 = some w → J md d (pc1 + 3) L1 rest σ1 r σ') : J md d pc L S σ r σ' := by
  obtain ⟨s1, h1, h2⟩ := bind_v hF
  exact J.call T k hr hi hS ck hrest hd (hc s1 h1) (fun q => by intro h; cases h) (kk s1 h2)
/-- pure, nothing -/
theorem J.cpV (T : Tm md) {ins : Instr} {md' : Md} {as rest S1 : List MV} {d' : Nat} {Fc : Option Unit} {kf : Unit → Option ρ} (k : Nat) (hr : runP md.2.2.2.2 σ k (suf md.2.2.2.2 pc) L S = some (pc1, L1, S1)) (hi : insAt md.2.2.2.2 pc1 = some (n, ins, a, b, v0, w0)) (hS : S1 = as.reverse ++ rest) (ck : Ck md.1.cls ins md' as) (hrest : Nat.ble (rest.map catM).sum 8 = true) (hd : d' + 1 ≤ d) (hc : ∀ v, Fc = some v → Call md' d' as σ none σ) (hF : Fc.bind kf = some w) (kk : ∀ v, kf v = some w → J md d (pc1 + 3) L1 rest σ r σ') : J md d pc L S σ r σ' := by
  obtain ⟨s1, h1, h2⟩ := bind_v hF
  exact J.call T k hr hi hS ck hrest hd (hc s1 h1) (fun q => by intro h; cases h) (kk s1 h2)
theorem ckV {own : String} {idx nn : Nat} {md' : Md} {g t ci N : Nat} {as' : List MV} {fk : List Nat} {T : u_T} (hl : Cond.methodLink own idx md'.1 ∈ T1) (hm : MdOk md' nn ∧ Cond.instanceMethod md'.1 ∈ T1 ∧ Cond.selects md'.1.cls md'.1 md'.1 ∈ T1) (hn : as'.length = nn) (ho : objOf g = some (ci, fk)) (hc : mcl[ci]? = some (md'.1.cls, T, N)) : Ck own (.invokevirtual idx) md' (mR g t :: as') :=
  ⟨nn, hm.1, Or.inl ⟨idx, rfl, hl, hm.2.1, hm.2.2, g, t, as', ci, fk, T, N, rfl, hn, ho, hc⟩⟩
theorem ckS {own : String} {idx nn : Nat} {md' : Md} {as : List MV} (hl : Cond.methodLink own idx md'.1 ∈ T1) (hm : MdOk md' nn ∧ Cond.static md'.1 ∈ T1) (hn : as.length = nn) : Ck own (.invokestatic idx) md' as :=
  ⟨nn, hm.1, Or.inr ⟨idx, rfl, hn, hm.2, Or.inl hl⟩⟩
theorem ckN {own : String} {idx nn : Nat} {md' : Md} {as : List MV} (hl : Cond.methodLinkNest own idx md'.1 "TentMiddle" = nwM) (hm : MdOk md' nn ∧ Cond.static md'.1 ∈ T1) (hn : as.length = nn) : Ck own (.invokestatic idx) md' as :=
  ⟨nn, hm.1, Or.inr ⟨idx, rfl, hn, hm.2, Or.inr hl⟩⟩
theorem J.mmin (T : Tm md) {y z : Int32} {idx : Nat} {rest : List MV} (k : Nat) (hr : runP md.2.2.2.2 σ k (suf md.2.2.2.2 pc) L S = some (pc1, L1, mI y :: mI z :: rest)) (hi : insAt md.2.2.2.2 pc1 = some (n, .invokestatic idx, a, b, v0, w0)) (hl : Cond.methodLink md.1.cls idx Lib.Math.min.name ∈ T1) (hrest : Nat.ble (rest.map catM).sum 8 = true) (hd : Nat.ble 1 d = true) (kk : J md d (pc1 + 3) L1 (mI (mmin z y) :: rest) σ r σ') : J md d pc L S σ r σ' := by
  refine J.run T k hr ?_
  obtain ⟨hdc, -⟩ := dec_at T hi rfl
  have hd1 := Nat.le_of_ble_eq_true hd
  have h8 := Nat.le_of_ble_eq_true hrest
  intro l p e s m args below meth c D kI kA ad A C hret hlk H locs ls hP hD hS hl0 hV
  have hts := C.2.2.2.2.1
  refine va_mmin C.1 C.2.1 (by rw [C.2.2.1, hl0.1]) C.2.2.2.1 (hts _ hl) (hts _ minW.1) (hts _ minW.2.1) (hts _ minW.2.2) hd1 ?_ (Nat.le_refl _) (Nat.le_refl _) hdc (kk l p e s m args below meth c D kI kA ad A C hret hlk H locs ls hP hD hS hl0 hV.drop.drop.pI)
  show ((rest.map (cv ad)).map fun v => v.category).sum + 13 ≤ 64 * d
  rw [cat_le]
  omega
theorem J.mmax (T : Tm md) {y z : Int32} {idx : Nat} {rest : List MV} (k : Nat) (hr : runP md.2.2.2.2 σ k (suf md.2.2.2.2 pc) L S = some (pc1, L1, mI y :: mI z :: rest)) (hi : insAt md.2.2.2.2 pc1 = some (n, .invokestatic idx, a, b, v0, w0)) (hl : Cond.methodLink md.1.cls idx Lib.Math.max.name ∈ T1) (hrest : Nat.ble (rest.map catM).sum 8 = true) (hd : Nat.ble 1 d = true) (kk : J md d (pc1 + 3) L1 (mI (mmax z y) :: rest) σ r σ') : J md d pc L S σ r σ' := by
  refine J.run T k hr ?_
  obtain ⟨hdc, -⟩ := dec_at T hi rfl
  have hd1 := Nat.le_of_ble_eq_true hd
  have h8 := Nat.le_of_ble_eq_true hrest
  intro l p e s m args below meth c D kI kA ad A C hret hlk H locs ls hP hD hS hl0 hV
  have hts := C.2.2.2.2.1
  refine va_mmax C.1 C.2.1 (by rw [C.2.2.1, hl0.1]) C.2.2.2.1 (hts _ hl) (hts _ maxW.1) (hts _ maxW.2.1) (hts _ maxW.2.2) hd1 ?_ (Nat.le_refl _) (Nat.le_refl _) hdc (kk l p e s m args below meth c D kI kA ad A C hret hlk H locs ls hP hD hS hl0 hV.drop.drop.pI)
  show ((rest.map (cv ad)).map fun v => v.category).sum + 13 ≤ 64 * d
  rw [cat_le]
  omega
theorem J.acp (T : Tm md) {g t g' t' idx : Nat} {sp dp nn : Int32} {rest : List MV} {kf : St → Option ρ} (k : Nat) (hr : runP md.2.2.2.2 σ k (suf md.2.2.2.2 pc) L S = some (pc1, L1, mI nn :: mI dp :: mA g' t' :: mI sp :: mA g t :: rest)) (hi : insAt md.2.2.2.2 pc1 = some (n, .invokestatic idx, a, b, v0, w0)) (hl : Cond.methodLink md.1.cls idx arraycopyName ∈ T1) (hrest : Nat.ble (rest.map catM).sum 8 = true) (hd : Nat.ble 1 d = true) (hF : (acp σ g t sp g' t' dp nn).bind kf = some w) (kk : ∀ σ1, kf σ1 = some w → J md d (pc1 + 3) L1 rest σ1 r σ') : J md d pc L S σ r σ' := by
  refine J.run T k hr ?_
  obtain ⟨hdc, -⟩ := dec_at T hi rfl
  have hd1 := Nat.le_of_ble_eq_true hd
  have h8 := Nat.le_of_ble_eq_true hrest
  obtain ⟨σ1, h1, h2⟩ := bind_v hF
  obtain ⟨h3, rfl⟩ := if_v h1
  obtain ⟨c1, h3⟩ := Bool.and_eq_true_iff.mp h3
  obtain ⟨c2, h3⟩ := Bool.and_eq_true_iff.mp h3
  obtain ⟨c3, h3⟩ := Bool.and_eq_true_iff.mp h3
  obtain ⟨c4, c5⟩ := Bool.and_eq_true_iff.mp h3
  have c1 : ¬ sp < 0 := by simpa using c1
  have c2 : ¬ dp < 0 := by simpa using c2
  have c3 : ¬ nn < 0 := by simpa using c3
  intro l p e s m args below meth c D kI kA ad A C hret hlk H locs ls hP hD hS hl0 hV
  have hts := C.2.2.2.2.1
  obtain ⟨q0, hq0⟩ := List.getElem?_of_mem hV.drop.drop.drop.drop.top
  obtain ⟨q1, hq1⟩ := List.getElem?_of_mem hV.drop.drop.top
  have hset : (wsO ad kI kA σ).set q1 (ad (.inr (g', t')), .inl (kI, lenOf g' t', .inl (va_cpy (σ.1 g t) (σ.1 g' t') sp.toNatClampNeg dp.toNatClampNeg nn.toNatClampNeg))) = wsO ad kI kA (sa σ g' t' (va_cpy (σ.1 g t) (σ.1 g' t') sp.toNatClampNeg dp.toNatClampNeg nn.toNatClampNeg)) := ws_set hq1 (fun q h => ent_sa_ne q h) (by rw [ent_sa_arr])
  refine va_copyi C.1 C.2.1 (by rw [C.2.2.1, hl0.1]) C.2.2.2.1 (hts _ hl) (hts _ cpyW.1) (hts _ cpyW.2.1) (hts _ cpyW.2.2) C.2.2.2.2.2.1 hP hD hS q0 q1 0 0 (ws_get hq0) (ws_get hq1) rfl rfl rfl c1 c2 c3 (of_decide_eq_true c4) (of_decide_eq_true c5) (fun i _ => rfl) hd1 ?_ hdc (fun H1 locs1 hP hD hS => ?_)
  · show ((rest.map (cv ad)).map fun v => v.category).sum + _ ≤ 64 * d
    rw [cat_le]
    have : nativeFrameWords "java/lang/System" "arraycopy" 5 + 11 ≤ 40 := by decide
    omega
  · rw [hset] at hP hD
    exact kk _ h2 l p e s m args below meth c D kI kA ad A C hret hlk H1 locs1 ls hP hD hS hl0 hV.drop.drop.drop.drop.drop
end EVC
def lmask : List Bool → List (Option MV) → List (Option MV)
  | b :: m, x :: L => (bif b then x else none) :: lmask m L
  | _, _ => []
theorem lgt_mask : ∀ (mk : List Bool) (L : List (Option MV)) (j : Nat) (u : MV), lgt (lmask mk L) j = some u → lgt L j = some u
  | [], _, _, _, h => by simp only [lmask] at h; cases h
  | _ :: _, [], _, _, h => by simp only [lmask] at h; cases h
  | true :: _, _ :: _, 0, _, h => h
  | false :: _, _ :: _, 0, _, h => by cases h
  | _ :: m, _ :: L, j + 1, u, h => lgt_mask m L j u h
theorem mask_len : ∀ (mk : List Bool) (L : List (Option MV)), (lmask mk L).length ≤ L.length
  | [], _ => by simp only [lmask, List.length_nil]; exact Nat.zero_le _
  | _ :: _, [] => Nat.le_refl _
  | _ :: m, _ :: L => Nat.succ_le_succ (mask_len m L)
theorem Wm.fgt {p : Program} {l : Launch} {e : Env} {R : Room} {s : State} {m : MethodId} {args : Array Value} {below : List Frame} {meth : Method} {c : Code} {nc ns : Nat} {Q : State → Prop} {D : va_G} {kI kA : ClassId} {ad : CI → Nat} {A : Nat → Prop} {nL pc : Nat} {L : List (Option MV)} {S : List MV} {σ : St} (mk : List Bool) (h : Wm p l e R s m args below meth c nc ns Q D kI kA ad A nL pc (lmask mk L) S σ) : Wm p l e R s m args below meth c nc ns Q D kI kA ad A nL pc L S σ := by
  intro H locs ls hP hD hS hl hV
  refine h H locs ls hP hD hS ⟨hl.1, hl.2.1, fun q hq => ?_⟩ ⟨Nat.le_trans (mask_len mk L) hV.1, fun i r hi => hV.2.1 i r (lgt_mask mk L i _ hi), hV.2.2⟩
  obtain ⟨j, u, h1, rfl⟩ := mem_cLf hq
  rw [Nat.zero_add]
  exact cL_at hl (lgt_mask mk L j u h1)
theorem J.fgt {md : Md} {d pc : Nat} {L : List (Option MV)} {S : List MV} {σ σ' : St} {r : Option MV} (mk : List Bool) (h : J md d pc (lmask mk L) S σ r σ') : J md d pc L S σ r σ' :=
  fun l p e s m args below meth c D kI kA ad A C hret hlk => Wm.fgt mk (h l p e s m args below meth c D kI kA ad A C hret hlk)
theorem no_s {α : Type} {w : α} {P : Prop} (h : (none : Option α) = some w) : P := by cases h
-- tables, checked by program
def ownS (o : Nat) : String := ["TentMiddle$Camp", "TentMiddle$Orders", "TentMiddle$Plan", "TentMiddle$Reader", "TentMiddle$Shelf", "TentMiddle", "TentMiddleModel", "TentMiddleLaw", "java/lang/Integer", "java/lang/Math", "java/util/Arrays"].getD o ""
