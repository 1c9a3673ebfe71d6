/-! THE CLAIM OUT OF ONE WALK OF THE LAW'S BODY. Your part is whole_start (and what it stands on); all else here is the same for every law, but numbers. -/
def R_law : String := "TentMiddleLaw"
def lw_P (b : Addr) (xs : List Int32) (args : Array Value) (s : State) : Prop := args = #[.ref b] ∧ s.IntsAt b xs ∧ xs.length ≤ 384 ∧ (Jvm.Cond.and given_1 narrow_1).before args s = true
def lw_Q (_ : Array Value) (s : State) (o : Outcome) (t : State) : Prop := o = .returned (some (.int 1)) ∧ Framed s o t [] 600000 7302250
def lw_Z (below : List Frame) (a : Array Value) (s : State) : State → Prop := fun t => ∃ o, t.status = .running ∧ Ended t below o ∧ lw_Q a s o t
/-- the law's own end, with 1 on the stack, nothing written that was there before, its room as the claim has it -/
theorem lw_ret {p : Program} {l : Launch} {e : Env} {s : State} {m : MethodId} {below : List Frame} {meth : Method} {c : Code} {b : Nat} (hx : p.tables.exec = Jvm.exec) (hb : c.code = code) (hr : meth.sig.returnType = ret) (hlocks : meth.locks = false) {pc : Nat} {H : Heap} {ls : Array Slot} (hdg : decode code pc = .ok (.ireturn, 1)) : W p l e room_1 s m #[Value.ref b] below meth c H [] 600000 7302250 (lw_Z below #[Value.ref b] s) (F0 m pc ls [.int 1]) := by
  intro T hT X
  obtain ⟨fs, hret, hrun, hended, hW, hframe⟩ := X.leave (v := some (.int 1)) (hlocks := hlocks) (fun h => by rw [hr] at h; cases h)
  have hmeth' : T.vm.method? m = some meth := X.method'
  refine ⟨T.setFrames fs, ?_, .returned (some (.int 1)), hrun, hended, rfl, ⟨_, rfl⟩, hW, hframe⟩
  jvm_step X.here [X.here.top, hx, hb, hdg, hmeth', hr, ret, narrow_b1]
  (try refine ⟨rfl, ?_⟩); (try refine ⟨rfl, ?_⟩)
  first | (intro acts; rw [hret _ acts rfl rfl rfl]) | rw [hret _ _ rfl rfl rfl]
  exact Steps.refl _
/-- what holds at the law's entry: the machine, the code, the tables' words (any of lw_tbl by 'hts w (by decide +kernel)'), the script of L ints xs at the cell b, what the Statement gives of the start (any of its parts by flat_of_before) -/
def lw_At (p : Program) (s : State) (m : MethodId) (meth : Method) (c : Code) (b L : Nat) (xs : Nat → Int32) : Prop :=
  p.tables.exec = Jvm.exec ∧ c.code = code ∧ meth.sig.returnType = ret ∧ c.maxLocals = 4 ∧ s.vm.findClass R_law = some m.cls ∧ (∀ w ∈ lw_tbl, w.before #[Value.ref b] s = true) ∧ va_X b L xs s s.heap ∧ b < s.heap.size ∧ meth.locks = false ∧ (Jvm.Cond.and given_1 narrow_1).before #[Value.ref b] s = true
theorem L_call {p : Program} {l : Launch} {e : Env} {R : Room} {s : State} {m : MethodId} {args : Array Value} {below : List Frame} {meth : Method} {c : Code} {nc ns : Nat} {Q : State → Prop} {D : va_G} {kI kA : ClassId} {ad : CI → Nat} {A : Nat → Prop} {own : String} {cc : ByteArray} {nL : Nat} {H : Heap} {locs : List Loc} {ls : Array Slot} {ins : Instr} {md' : Md} {as rest : List MV} {σ σ1 : St} {r : Option MV} {d' pc : Nat} (C : Cx p s m args c D kI kA A own cc nL) (hd : decode cc pc = .ok (ins, 3)) (ck : Ck own ins md' as) (hc : Call md' d' as σ r σ1) (hrest : (rest.map catM).sum ≤ 8)
    (hR : d' + 1 ≤ R.frames ∧ 8 + (md'.2.2.1 + 11) + 64 * d' ≤ R.locals) (hf : nc ≤ R.cells ∧ ns ≤ R.slots) (hsz : ls.size = nL) (hva : ∀ q : CI, (.inr (.inr q) : MV) ∈ as → q ∈ mcells) (hP : va_P D mcl (wsO ad kI kA σ) H) (hD : va_D A (wsO ad kI kA σ)) (hS : va_S A s.heap H locs)
    (kk : ∀ (H1 : Heap) (locs1 : List Loc), va_P D mcl (wsO ad kI kA σ1) H1 → va_D A (wsO ad kI kA σ1) → va_S A s.heap H1 locs1 → W p l e R s m args below meth c H1 locs1 nc ns Q (F0 m (pc + 3) ls ((r.toList ++ rest).map (cv ad)))) : W p l e R s m args below meth c H locs nc ns Q (F0 m pc ls ((as.reverse ++ rest).map (cv ad))) := by
  obtain ⟨hx, hb, hml, hown, hts, hK, hN, hA⟩ := id C
  have hM := hc hva l D kI kA ad H.size
  obtain ⟨n, ⟨o1, o2, o3, o4, o5, o6⟩, ck⟩ := ck
  have hAw : ∀ q, va_A (wsO ad kI kA σ) H.size q → A q := by
    intro q h
    rcases h with ⟨k, e, h⟩ | h
    · exact hD.2 k _ h
    · exact hA q (Nat.le_trans hS.1 h)
  have hbl : FrameBlind (va_Pc (as.map (cv ad)) (fun U => U.heap.size = H.size ∧ va_P D mcl (wsO ad kI kA σ) U.heap ∧ va_K D mcl (mty kI kA) U ∧ va_D (fun _ => True) (wsO ad kI kA σ) ∧ mNw U)) := by
    intro a U g mk q
    obtain ⟨q0, q1, qP, qK, qD, qN⟩ := q
    exact ⟨q0, q1, qP, va_K.moved (u := U) (U := U.calling g mk a) (Vm.Alike.refl U.vm) qK, qD, mNw.same (u := U) (U := U.calling g mk a) rfl qN⟩
  have hPc : ∀ U : State, U.heap = H → s.WarmedH U.vm → (U.heap.size = H.size ∧ va_P D mcl (wsO ad kI kA σ) U.heap ∧ va_K D mcl (mty kI kA) U ∧ va_D (fun _ => True) (wsO ad kI kA σ) ∧ mNw U) := fun U hU hW => ⟨by rw [hU], by rw [hU]; exact hP, va_K.moved hW.alike hK, hD.weaken (fun _ _ _ _ => trivial), mNw.warm hW hN⟩
  have go : ∀ (H1 : Heap) (locs1 : List Loc), va_P D mcl (wsO ad kI kA σ1) H1 → va_S A s.heap H1 locs1 → W p l e R s m args below meth c H1 locs1 nc ns Q (F0 m (pc + 3) ls ((r.toList ++ rest).map (cv ad))) := fun H1 locs1 hP1 hS1 => kk H1 locs1 hP1 (ws_D hD) hS1
  have hcat : 2 * (F0 m pc ls ((as.reverse ++ rest).map (cv ad))).monitorRoom + ((rest.map (cv ad)).map fun v => v.category).sum ≤ 8 := lv_room (by rw [cat_le]; exact hrest)
  rcases ck with ⟨idx, rfl, k1, k2, k3, g, t, as', ci, fk, T, N, rfl, k4, k5, k6⟩ | ⟨idx, rfl, k1, k2, k3⟩
  · have hr : (.inl (g, t) : CI) ∈ mcells := hva _ List.mem_cons_self
    obtain ⟨q0, hq⟩ := List.getElem?_of_mem hr
    have hw := ws_get (ad := ad) (kI := kI) (kA := kA) (σ := σ) hq
    simp only [ent, k5] at hw
    have hcb := callB_of (R := R) (rm := rmD d') (mc := 0) (ms := 0) n hts (good_T1 o1) rfl rfl rfl (hts _ o2) (hts _ k1) ⟨o4.1, o4.2, o5⟩ hR
    exact m_call (va_runV (As := as'.map (cv ad)) (rest := rest.map (cv ad)) ⟨hx, hb, hml, hown, hts⟩ hM ⟨hcb, hts _ k2, hts _ k3⟩ ⟨hbl, va_recv hK hP k6 hw, fun U hU hW => ⟨rfl, hPc U hU hW⟩⟩ rfl (by rw [List.length_map]; exact k4) hsz (by simp [cv]) hcat hd hf) hS hAw go
  · rcases k3 with k3 | k3
    · have hcb := callB_of (R := R) (rm := rmD d') (mc := 0) (ms := 0) n hts (good_T1 o1) rfl rfl rfl (hts _ o2) (hts _ k3) ⟨o4.1, o4.2, o5⟩ hR
      exact m_call (va_runS (As := as.map (cv ad)) (rest := rest.map (cv ad)) ⟨hx, hb, hml, hown, hts⟩ hM ⟨hcb, hts _ k2⟩ ⟨hbl, fun U hU hW => ⟨rfl, hPc U hU hW⟩⟩ rfl (by rw [List.length_map]; exact k1) hsz (by simp) hcat hd hf) hS hAw go
    · have hcn := va_cnB (R := R) (rm := rmD d') (mc := 0) (ms := 0) (host := "TentMiddle") n hts (good_T1 o1) rfl rfl rfl (by rw [k3]; exact hN.2) (hts _ o2) ⟨o4.1, o4.2, o5⟩ hR
      exact m_call (va_runSN (As := as.map (cv ad)) (rest := rest.map (cv ad)) ⟨hx, hb, hml, hown, hts⟩ hM ⟨hcn, hts _ k2, trivial⟩ ⟨hbl, fun U hU hW => ⟨rfl, hPc U hU hW⟩⟩ rfl (by rw [List.length_map]; exact k1) hsz (by simp) hcat hd hf) hS hAw go
/-- the law's state at a call -/
def LwS (p : Program) (l : Launch) (e : Env) (s : State) (m : MethodId) (b L : Nat) (xs : Nat → Int32) (below : List Frame) (meth : Method) (c : Code) (D : va_G) (kI kA : ClassId) (ad : CI → Nat) (σ : St) (i : Nat) (H : Heap) (locs : List Loc) (ls : Array Slot) : Prop :=
  Cx p s m #[Value.ref b] c D kI kA (fun q => s.heap.size ≤ q) "TentMiddleLaw" code 4 ∧ va_X b L xs s s.heap ∧ b < s.heap.size ∧ meth.sig.returnType = ret ∧ meth.locks = false ∧ L ≤ 384 ∧ i + 6 ≤ L ∧ RR σ ∧ va_P D mcl (wsO ad kI kA σ) H ∧ va_D (fun q => s.heap.size ≤ q) (wsO ad kI kA σ) ∧ va_S (fun q => s.heap.size ≤ q) s.heap H locs ∧ lv_has ls 4 [(3, .int (nI i)), (2, .ref (ad (.inl (30, 0)))), (1, .ref (ad (.inl (0, 0)))), (0, .ref b)]
def LwK (p : Program) (l : Launch) (e : Env) (s : State) (m : MethodId) (b L : Nat) (xs : Nat → Int32) (below : List Frame) (meth : Method) (c : Code) (D : va_G) (kI kA : ClassId) (ad : CI → Nat) (i : Nat) (ls : Array Slot) : Prop :=
  ∀ (σ : St) (H : Heap) (locs : List Loc), RR σ → va_P D mcl (wsO ad kI kA σ) H → va_D (fun q => s.heap.size ≤ q) (wsO ad kI kA σ) → va_S (fun q => s.heap.size ≤ q) s.heap H locs → W p l e room_1 s m #[Value.ref b] below meth c H locs 200 20000 (lw_Z below #[Value.ref b] s) (F0 m 1501 ls [])
theorem nI_clampN {k : Nat} (h : k < 2 ^ 31) : (nI k).toNatClampNeg = k := nI_clamp h
theorem lw_ld {p : Program} {l : Launch} {e : Env} {R : Room} {s : State} {m : MethodId} {b L : Nat} {xs : Nat → Int32} {below : List Frame} {meth : Method} {c : Code} {D : va_G} {kI kA : ClassId} {A : Nat → Prop} {i k pc nc ns : Nat} {kz : Int} {H : Heap} {locs : List Loc} {ls : Array Slot} {rest : List Value} {va vb : Value} {Q : State → Prop} (C : Cx p s m #[Value.ref b] c D kI kA A "TentMiddleLaw" code 4) (hX : va_X b L xs s s.heap) (hbl : b < s.heap.size) (hbA : ¬ A b) (hL : L ≤ 384) (hi : i + 6 ≤ L) (hl : lv_has ls 4 [(3, .int (nI i)), (2, va), (1, vb), (0, .ref b)]) (hS : va_S A s.heap H locs) (d0 : decode code pc = .ok (.aload_n 0, 1)) (d1 : decode code (pc + 1) = .ok (.iload_n 3, 1)) (d2 : decode code (pc + 2) = .ok (.iconst kz, 1)) (d3 : decode code (pc + 3) = .ok (.iadd, 1)) (d4 : decode code (pc + 4) = .ok (.iaload, 1)) (hz : Int32.ofInt kz = nI k) (hk : k < 6) (kk : W p l e R s m #[Value.ref b] below meth c H locs nc ns Q (F0 m (pc + 5) ls (.int (xs (i + k)) :: rest))) : W p l e R s m #[Value.ref b] below meth c H locs nc ns Q (F0 m pc ls rest) := by
  obtain ⟨hx, hb, -⟩ := C
  refine lv_aload_n hx hb d0 rfl (lv_at hl 3 rfl) ?_
  refine lv_iload_n hx hb d1 rfl (lv_at hl 0 rfl) ?_
  refine lv_iconst hx hb d2 hz ?_
  refine lv_iadd hx hb d3 ?_
  rw [nI_add]
  refine va_sld hx hb hX hbl hbA hS (vp_in_iff.mpr (by rw [nI_toInt (by omega)]; omega)) d4 ?_
  rw [nI_clampN (by omega)]
  exact kk
theorem vaN {g t : Nat} (hin : (.inl (g, t) : CI) ∈ mcells) (vs : List Int32) (q : CI) (h : (.inr (.inr q) : MV) ∈ (mR g t :: vs.map mI)) : q ∈ mcells := by
  rcases List.mem_cons.mp h with h | h
  · cases h
    exact hin
  · obtain ⟨v, -, h⟩ := List.mem_map.mp h
    cases h
theorem inM0 : (.inl (0, 0) : CI) ∈ mcells := inM_mem (by decide +kernel)
theorem inM30 : (.inl (30, 0) : CI) ∈ mcells := inM_mem (by decide +kernel)
theorem cmp_same (r : Int64) : lg_cmp r r = 0 := by
  unfold lg_cmp
  rw [if_neg (by rw [gt_iff_lt, Int64.lt_iff_toInt_lt]; omega), if_pos rfl]
