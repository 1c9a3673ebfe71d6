-- events: partial instructions, branches, calls, returns
section EV
variable {md : Md} {d pc pc1 : Nat} {L L1 : List (Option MV)} {S S0 : List MV} {σ σ' : St} {r : Option MV} {ρ : Type} {w : ρ} {n a b : Nat} {v0 : Int32} {w0 : Int64}
theorem dec_at (T : Tm md) {ins : Instr} (hi : insAt md.2.2.2.2 pc1 = some (n, ins, a, b, v0, w0)) (hts : isTs ins = false) : decode md.2.1 pc1 = .ok (ins, lnI ins) ∧ auxOk md.1.cls ins pc1 a b v0 w0 := by
  obtain ⟨q, hq⟩ := insAt_suf hi
  obtain ⟨t1, t2, t3, -⟩ := T _ _ hq
  have h := t2 hts
  dsimp only at h t1 t3
  rw [h] at t1
  exact ⟨t1, t3⟩
theorem J.iald (T : Tm md) {g t : Nat} {i : Int32} {kf : Int32 → Option ρ} (k : Nat) (hr : runP md.2.2.2.2 σ k (suf md.2.2.2.2 pc) L S = some (pc1, L1, mI i :: mA g t :: S0)) (hi : insAt md.2.2.2.2 pc1 = some (n, .iaload, a, b, v0, w0)) (hF : (ald σ g t i).bind kf = some w) (kk : ∀ v, kf v = some w → J md d (pc1 + 1) L1 (mI v :: S0) σ r σ') : J md d pc L S σ r σ' := by
  refine J.run T k hr ?_
  obtain ⟨v, h1, h2⟩ := bind_v hF
  obtain ⟨h3, rfl⟩ := if_v h1
  obtain ⟨hd, -⟩ := dec_at T hi rfl
  intro l p e s m args below meth c D kI kA ad A C hret hlk H locs ls hP hD hS hl hV
  obtain ⟨q0, hq⟩ := List.getElem?_of_mem hV.drop.top
  exact va_iald C.1 C.2.1 C.2.2.2.2.2.1 hP q0 0 (ws_get hq) rfl (inb_in h3) hd (kk _ h2 l p e s m args below meth c D kI kA ad A C hret hlk H locs ls hP hD hS hl hV.drop.drop.pI)
theorem J.iast (T : Tm md) {g t : Nat} {i v : Int32} {kf : St → Option ρ} (k : Nat) (hr : runP md.2.2.2.2 σ k (suf md.2.2.2.2 pc) L S = some (pc1, L1, mI v :: mI i :: mA g t :: S0)) (hi : insAt md.2.2.2.2 pc1 = some (n, .iastore, a, b, v0, w0)) (hF : (ast σ g t i v).bind kf = some w) (kk : ∀ σ1, kf σ1 = some w → J md d (pc1 + 1) L1 S0 σ1 r σ') : J md d pc L S σ r σ' := by
  refine J.run T k hr ?_
  obtain ⟨σ1, h1, h2⟩ := bind_v hF
  obtain ⟨h3, rfl⟩ := if_v h1
  obtain ⟨hd, -⟩ := dec_at T hi rfl
  intro l p e s m args below meth c D kI kA ad A C hret hlk H locs ls hP hD hS hl hV
  obtain ⟨q0, hq⟩ := List.getElem?_of_mem hV.drop.drop.top
  have hset : (wsO ad kI kA σ).set q0 (ad (.inr (g, t)), .inl (kI, lenOf g t, .inl (upd (σ.1 g t) i.toNatClampNeg v))) = wsO ad kI kA (si σ g t i.toNatClampNeg v) := ws_set hq (fun q h => ent_si_ne q h) (by rw [ent_si_arr])
  refine va_iast C.1 C.2.1 C.2.2.2.2.2.1 hP hD hS q0 0 (ws_get hq) rfl (inb_in h3) hd (fun H1 locs1 hP hD hS => ?_)
  rw [hset] at hP hD
  exact kk _ h2 l p e s m args below meth c D kI kA ad A C hret hlk H1 locs1 ls hP hD hS hl hV.drop.drop.drop
theorem J.aald (T : Tm md) {i : Int32} {kf : Nat → Option ρ} (k : Nat) (hr : runP md.2.2.2.2 σ k (suf md.2.2.2.2 pc) L S = some (pc1, L1, mI i :: mR 15 0 :: S0)) (hi : insAt md.2.2.2.2 pc1 = some (n, .aaload, a, b, v0, w0)) (hF : (kld i).bind kf = some w) (kk : ∀ t, kf t = some w → J md d (pc1 + 1) L1 (mR 4 t :: S0) σ r σ') : J md d pc L S σ r σ' := by
  refine J.run T k hr ?_
  obtain ⟨v, h1, h2⟩ := bind_v hF
  obtain ⟨h3, rfl⟩ := if_v h1
  obtain ⟨hd, -⟩ := dec_at T hi rfl
  intro l p e s m args below meth c D kI kA ad A C hret hlk H locs ls hP hD hS hl hV
  obtain ⟨q0, hq⟩ := List.getElem?_of_mem hV.drop.top
  have hin := inb_in h3
  have hlt : i.toNatClampNeg < 3 := Nat.not_le.mp fun q => hin (Or.inr q)
  exact va_aldq C.1 C.2.1 C.2.2.2.2.2.1 hP q0 1 (ws_get hq) rfl hin hd (kk _ h2 l p e s m args below meth c D kI kA ad A C hret hlk H locs ls hP hD hS hl (hV.drop.drop.pC (kept_ok _ hlt)))
theorem J.putI (T : Tm md) {g t i ci : Nat} {fk : List Nat} {v : Int32} {kf : St → ρ} (k : Nat) (hr : runP md.2.2.2.2 σ k (suf md.2.2.2.2 pc) L S = some (pc1, L1, mI v :: mR g t :: S0)) (hi : insAt md.2.2.2.2 pc1 = some (n, .putfield i, a, b, v0, w0)) (ho : objOf g = some (ci, fk)) (hc : ci = a) (hb : fk[b]? = some 0) (hf : (tyF a b).1 = FieldType.int ∧ (tyF a b).2 = false) (hF : bs (si σ g t b v) kf = w) (kk : ∀ σ1, kf σ1 = w → J md d (pc1 + 3) L1 S0 σ1 r σ') : J md d pc L S σ r σ' := by
  refine J.run T k hr ?_
  obtain ⟨hd, ha⟩ := dec_at T hi rfl
  subst hc
  intro l p e s m args below meth c D kI kA ad A C hret hlk H locs ls hP hD hS hl hV
  obtain ⟨hx, hbb, hml, hown, hts, hK, hN, hA⟩ := id C
  obtain ⟨q0, hq⟩ := List.getElem?_of_mem hV.drop.top
  have hw := ws_get (ad := ad) (kI := kI) (kA := kA) (σ := σ) hq
  simp only [ent, ho] at hw
  have hset : (wsO ad kI kA σ).set q0 (ad (.inl (g, t)), .inr (ci, ((List.range fk.length).map (fvl ad σ g t fk)).set b (.int v))) = wsO ad kI kA (si σ g t b v) := ws_set hq (fun q h => ent_si_ne q h) (by rw [ent_si_obj ho hb])
  obtain ⟨C1, T0, N, h1, h2, h3, h4, h5⟩ := ha
  obtain ⟨ty0, hty, hnm, hd1, hfin⟩ := tyF_ok h1 h2 hf
  have hlen : b < ((List.range fk.length).map (fvl ad σ g t fk)).length := by
    rw [List.length_map, List.length_range]; exact (List.getElem?_eq_some_iff.mp hb).1
  have go : ∀ (H1 : Heap) (locs1 : List Loc), va_P D mcl ((wsO ad kI kA σ).set q0 (ad (.inl (g, t)), .inr (ci, ((List.range fk.length).map (fvl ad σ g t fk)).set b (.int v)))) H1 → va_D A ((wsO ad kI kA σ).set q0 (ad (.inl (g, t)), .inr (ci, ((List.range fk.length).map (fvl ad σ g t fk)).set b (.int v)))) → va_S A s.heap H1 locs1 → W p l e (rmD d) s m args below meth c H1 locs1 0 0 (MQ below (Qm D kI kA ad A r σ') args s 0 0 A) (F0 m (pc1 + 3) ls (S0.map (cv ad))) := by
    intro H1 locs1 hP hD hS
    rw [hset] at hP hD
    exact kk _ hF l p e s m args below meth c D kI kA ad A C hret hlk H1 locs1 ls hP hD hS hl hV.drop.drop
  rcases h5 with h5 | h5
  · exact va_put hx hbb hts h4 ty0 hty hnm hown hK hP hD hS q0 hw h1 b h2 (hts _ h5) (fun z hz => by rw [h3] at hz; exact hz) hfin hd1 rfl rfl hlen hd go
  · exact va_putN hx hbb hts h4 ty0 hty hnm hown hK hP hD hS q0 hw h1 b h2 (by rw [h5]; exact va_Nw.use rfl hN.1) (fun z hz => by rw [h3] at hz; exact hz) hfin hd1 rfl rfl hlen hd go
theorem J.putL (T : Tm md) {g t i ci : Nat} {fk : List Nat} {v : Int64} {kf : St → ρ} (k : Nat) (hr : runP md.2.2.2.2 σ k (suf md.2.2.2.2 pc) L S = some (pc1, L1, mL v :: mR g t :: S0)) (hi : insAt md.2.2.2.2 pc1 = some (n, .putfield i, a, b, v0, w0)) (ho : objOf g = some (ci, fk)) (hc : ci = a) (hb : fk[b]? = some 1) (hf : (tyF a b).1 = FieldType.long ∧ (tyF a b).2 = false) (hF : bs (sl σ g t b v) kf = w) (kk : ∀ σ1, kf σ1 = w → J md d (pc1 + 3) L1 S0 σ1 r σ') : J md d pc L S σ r σ' := by
  refine J.run T k hr ?_
  obtain ⟨hd, ha⟩ := dec_at T hi rfl
  subst hc
  intro l p e s m args below meth c D kI kA ad A C hret hlk H locs ls hP hD hS hl hV
  obtain ⟨hx, hbb, hml, hown, hts, hK, hN, hA⟩ := id C
  obtain ⟨q0, hq⟩ := List.getElem?_of_mem hV.drop.top
  have hw := ws_get (ad := ad) (kI := kI) (kA := kA) (σ := σ) hq
  simp only [ent, ho] at hw
  have hset : (wsO ad kI kA σ).set q0 (ad (.inl (g, t)), .inr (ci, ((List.range fk.length).map (fvl ad σ g t fk)).set b (.long v))) = wsO ad kI kA (sl σ g t b v) := ws_set hq (fun q h => ent_sl_ne q h) (by rw [ent_sl_obj ho hb])
  obtain ⟨C1, T0, N, h1, h2, h3, h4, h5⟩ := ha
  obtain ⟨ty0, hty, hnm, hd1, hfin⟩ := tyF_ok h1 h2 hf
  have hlen : b < ((List.range fk.length).map (fvl ad σ g t fk)).length := by
    rw [List.length_map, List.length_range]; exact (List.getElem?_eq_some_iff.mp hb).1
  have go : ∀ (H1 : Heap) (locs1 : List Loc), va_P D mcl ((wsO ad kI kA σ).set q0 (ad (.inl (g, t)), .inr (ci, ((List.range fk.length).map (fvl ad σ g t fk)).set b (.long v)))) H1 → va_D A ((wsO ad kI kA σ).set q0 (ad (.inl (g, t)), .inr (ci, ((List.range fk.length).map (fvl ad σ g t fk)).set b (.long v)))) → va_S A s.heap H1 locs1 → W p l e (rmD d) s m args below meth c H1 locs1 0 0 (MQ below (Qm D kI kA ad A r σ') args s 0 0 A) (F0 m (pc1 + 3) ls (S0.map (cv ad))) := by
    intro H1 locs1 hP hD hS
    rw [hset] at hP hD
    exact kk _ hF l p e s m args below meth c D kI kA ad A C hret hlk H1 locs1 ls hP hD hS hl hV.drop.drop
  rcases h5 with h5 | h5
  · exact va_put hx hbb hts h4 ty0 hty hnm hown hK hP hD hS q0 hw h1 b h2 (hts _ h5) (fun z hz => by rw [h3] at hz; exact hz) hfin hd1 rfl rfl hlen hd go
  · exact va_putN hx hbb hts h4 ty0 hty hnm hown hK hP hD hS q0 hw h1 b h2 (by rw [h5]; exact va_Nw.use rfl hN.1) (fun z hz => by rw [h3] at hz; exact hz) hfin hd1 rfl rfl hlen hd go
theorem J.idiv (T : Tm md) {y z : Int32} {kf : Int32 → Option ρ} (k : Nat) (hr : runP md.2.2.2.2 σ k (suf md.2.2.2.2 pc) L S = some (pc1, L1, mI y :: mI z :: S0)) (hi : insAt md.2.2.2.2 pc1 = some (n, .idiv, a, b, v0, w0)) (hF : (dvI z y).bind kf = some w) (kk : ∀ v, kf v = some w → J md d (pc1 + 1) L1 (mI v :: S0) σ r σ') : J md d pc L S σ r σ' := by
  refine J.run T k hr ?_
  obtain ⟨v, h1, h2⟩ := bind_v hF
  obtain ⟨h3, rfl⟩ := ifz_v h1
  obtain ⟨hd, -⟩ := dec_at T hi rfl
  intro l p e s m args below meth c D kI kA ad A C hret hlk H locs ls hP hD hS hl hV
  exact lv_idiv C.1 C.2.1 hd h3 (kk _ h2 l p e s m args below meth c D kI kA ad A C hret hlk H locs ls hP hD hS hl hV.drop.drop.pI)
theorem J.irem (T : Tm md) {y z : Int32} {kf : Int32 → Option ρ} (k : Nat) (hr : runP md.2.2.2.2 σ k (suf md.2.2.2.2 pc) L S = some (pc1, L1, mI y :: mI z :: S0)) (hi : insAt md.2.2.2.2 pc1 = some (n, .irem, a, b, v0, w0)) (hF : (rmI z y).bind kf = some w) (kk : ∀ v, kf v = some w → J md d (pc1 + 1) L1 (mI v :: S0) σ r σ') : J md d pc L S σ r σ' := by
  refine J.run T k hr ?_
  obtain ⟨v, h1, h2⟩ := bind_v hF
  obtain ⟨h3, rfl⟩ := ifz_v h1
  obtain ⟨hd, -⟩ := dec_at T hi rfl
  intro l p e s m args below meth c D kI kA ad A C hret hlk H locs ls hP hD hS hl hV
  exact lv_irem C.1 C.2.1 hd h3 (kk _ h2 l p e s m args below meth c D kI kA ad A C hret hlk H locs ls hP hD hS hl hV.drop.drop.pI)
theorem J.ldiv (T : Tm md) {y z : Int64} {kf : Int64 → Option ρ} (k : Nat) (hr : runP md.2.2.2.2 σ k (suf md.2.2.2.2 pc) L S = some (pc1, L1, mL y :: mL z :: S0)) (hi : insAt md.2.2.2.2 pc1 = some (n, .ldiv, a, b, v0, w0)) (hF : (dvL z y).bind kf = some w) (kk : ∀ v, kf v = some w → J md d (pc1 + 1) L1 (mL v :: S0) σ r σ') : J md d pc L S σ r σ' := by
  refine J.run T k hr ?_
  obtain ⟨v, h1, h2⟩ := bind_v hF
  obtain ⟨h3, rfl⟩ := ifz_v h1
  obtain ⟨hd, -⟩ := dec_at T hi rfl
  intro l p e s m args below meth c D kI kA ad A C hret hlk H locs ls hP hD hS hl hV
  exact lv_ldiv C.1 C.2.1 hd h3 (kk _ h2 l p e s m args below meth c D kI kA ad A C hret hlk H locs ls hP hD hS hl hV.drop.drop.pL)
theorem J.lrem (T : Tm md) {y z : Int64} {kf : Int64 → Option ρ} (k : Nat) (hr : runP md.2.2.2.2 σ k (suf md.2.2.2.2 pc) L S = some (pc1, L1, mL y :: mL z :: S0)) (hi : insAt md.2.2.2.2 pc1 = some (n, .lrem, a, b, v0, w0)) (hF : (rmL z y).bind kf = some w) (kk : ∀ v, kf v = some w → J md d (pc1 + 1) L1 (mL v :: S0) σ r σ') : J md d pc L S σ r σ' := by
  refine J.run T k hr ?_
  obtain ⟨v, h1, h2⟩ := bind_v hF
  obtain ⟨h3, rfl⟩ := ifz_v h1
  obtain ⟨hd, -⟩ := dec_at T hi rfl
  intro l p e s m args below meth c D kI kA ad A C hret hlk H locs ls hP hD hS hl hV
  exact lv_lrem C.1 C.2.1 hd h3 (kk _ h2 l p e s m args below meth c D kI kA ad A C hret hlk H locs ls hP hD hS hl hV.drop.drop.pL)
theorem J.if_eq (T : Tm md) {z : Int32} {off : Int} {u u2 : ρ} {dc : Decidable (z = 0)} (k : Nat) (hr : runP md.2.2.2.2 σ k (suf md.2.2.2.2 pc) L S = some (pc1, L1, mI z :: S0)) (hi : insAt md.2.2.2.2 pc1 = some (n, .ifCond .eq off, a, b, v0, w0)) (hF : (@ite ρ (z = 0) dc u u2) = w) (kt : u = w → J md d a L1 S0 σ r σ') (kf : u2 = w → J md d (pc1 + 3) L1 S0 σ r σ') : J md d pc L S σ r σ' := by
  refine J.run T k hr ?_
  obtain ⟨hd, ha⟩ := dec_at T hi rfl
  intro l p e s m args below meth c D kI kA ad A C hret hlk H locs ls hP hD hS hl hV
  exact lv_if_eq C.1 C.2.1 hd ha (fun h => kt (by rw [if_pos h] at hF; exact hF) l p e s m args below meth c D kI kA ad A C hret hlk H locs ls hP hD hS hl hV.drop) (fun h => kf (by rw [if_neg h] at hF; exact hF) l p e s m args below meth c D kI kA ad A C hret hlk H locs ls hP hD hS hl hV.drop)
theorem J.if_eqT' (T : Tm md) {z : Int32} {off : Int} (k : Nat) (hr : runP md.2.2.2.2 σ k (suf md.2.2.2.2 pc) L S = some (pc1, L1, mI z :: S0)) (hi : insAt md.2.2.2.2 pc1 = some (n, .ifCond .eq off, a, b, v0, w0)) (hc : z = 0) (kk : J md d a L1 S0 σ r σ') : J md d pc L S σ r σ' := by
  refine J.run T k hr ?_
  obtain ⟨hd, ha⟩ := dec_at T hi rfl
  intro l p e s m args below meth c D kI kA ad A C hret hlk H locs ls hP hD hS hl hV
  exact lv_if_eq C.1 C.2.1 hd ha (fun _ => kk l p e s m args below meth c D kI kA ad A C hret hlk H locs ls hP hD hS hl hV.drop) (fun h => absurd hc h)
theorem J.if_eqF' (T : Tm md) {z : Int32} {off : Int} (k : Nat) (hr : runP md.2.2.2.2 σ k (suf md.2.2.2.2 pc) L S = some (pc1, L1, mI z :: S0)) (hi : insAt md.2.2.2.2 pc1 = some (n, .ifCond .eq off, a, b, v0, w0)) (hc : ¬ z = 0) (kk : J md d (pc1 + 3) L1 S0 σ r σ') : J md d pc L S σ r σ' := by
  refine J.run T k hr ?_
  obtain ⟨hd, ha⟩ := dec_at T hi rfl
  intro l p e s m args below meth c D kI kA ad A C hret hlk H locs ls hP hD hS hl hV
  exact lv_if_eq C.1 C.2.1 hd ha (fun h => absurd h hc) (fun _ => kk l p e s m args below meth c D kI kA ad A C hret hlk H locs ls hP hD hS hl hV.drop)
theorem J.icmp_eq (T : Tm md) {y z : Int32} {off : Int} {u u2 : ρ} {dc : Decidable (z = y)} (k : Nat) (hr : runP md.2.2.2.2 σ k (suf md.2.2.2.2 pc) L S = some (pc1, L1, mI y :: mI z :: S0)) (hi : insAt md.2.2.2.2 pc1 = some (n, .if_icmp .eq off, a, b, v0, w0)) (hF : (@ite ρ (z = y) dc u u2) = w) (kt : u = w → J md d a L1 S0 σ r σ') (kf : u2 = w → J md d (pc1 + 3) L1 S0 σ r σ') : J md d pc L S σ r σ' := by
  refine J.run T k hr ?_
  obtain ⟨hd, ha⟩ := dec_at T hi rfl
  intro l p e s m args below meth c D kI kA ad A C hret hlk H locs ls hP hD hS hl hV
  exact lv_icmp_eq C.1 C.2.1 hd ha (fun h => kt (by rw [if_pos h] at hF; exact hF) l p e s m args below meth c D kI kA ad A C hret hlk H locs ls hP hD hS hl hV.drop.drop) (fun h => kf (by rw [if_neg h] at hF; exact hF) l p e s m args below meth c D kI kA ad A C hret hlk H locs ls hP hD hS hl hV.drop.drop)
theorem J.icmp_eqT' (T : Tm md) {y z : Int32} {off : Int} (k : Nat) (hr : runP md.2.2.2.2 σ k (suf md.2.2.2.2 pc) L S = some (pc1, L1, mI y :: mI z :: S0)) (hi : insAt md.2.2.2.2 pc1 = some (n, .if_icmp .eq off, a, b, v0, w0)) (hc : z = y) (kk : J md d a L1 S0 σ r σ') : J md d pc L S σ r σ' := by
  refine J.run T k hr ?_
  obtain ⟨hd, ha⟩ := dec_at T hi rfl
  intro l p e s m args below meth c D kI kA ad A C hret hlk H locs ls hP hD hS hl hV
  exact lv_icmp_eq C.1 C.2.1 hd ha (fun _ => kk l p e s m args below meth c D kI kA ad A C hret hlk H locs ls hP hD hS hl hV.drop.drop) (fun h => absurd hc h)
theorem J.icmp_eqF' (T : Tm md) {y z : Int32} {off : Int} (k : Nat) (hr : runP md.2.2.2.2 σ k (suf md.2.2.2.2 pc) L S = some (pc1, L1, mI y :: mI z :: S0)) (hi : insAt md.2.2.2.2 pc1 = some (n, .if_icmp .eq off, a, b, v0, w0)) (hc : ¬ z = y) (kk : J md d (pc1 + 3) L1 S0 σ r σ') : J md d pc L S σ r σ' := by
  refine J.run T k hr ?_
  obtain ⟨hd, ha⟩ := dec_at T hi rfl
  intro l p e s m args below meth c D kI kA ad A C hret hlk H locs ls hP hD hS hl hV
  exact lv_icmp_eq C.1 C.2.1 hd ha (fun h => absurd h hc) (fun _ => kk l p e s m args below meth c D kI kA ad A C hret hlk H locs ls hP hD hS hl hV.drop.drop)
theorem J.if_ne (T : Tm md) {z : Int32} {off : Int} {u u2 : ρ} {dc : Decidable (z = 0)} (k : Nat) (hr : runP md.2.2.2.2 σ k (suf md.2.2.2.2 pc) L S = some (pc1, L1, mI z :: S0)) (hi : insAt md.2.2.2.2 pc1 = some (n, .ifCond .ne off, a, b, v0, w0)) (hF : (@ite ρ (z = 0) dc u u2) = w) (kt : u2 = w → J md d a L1 S0 σ r σ') (kf : u = w → J md d (pc1 + 3) L1 S0 σ r σ') : J md d pc L S σ r σ' := by
  refine J.run T k hr ?_
  obtain ⟨hd, ha⟩ := dec_at T hi rfl
  intro l p e s m args below meth c D kI kA ad A C hret hlk H locs ls hP hD hS hl hV
  exact lv_if_ne C.1 C.2.1 hd ha (fun h => kt (by rw [if_neg h] at hF; exact hF) l p e s m args below meth c D kI kA ad A C hret hlk H locs ls hP hD hS hl hV.drop) (fun h => kf (by rw [if_pos h] at hF; exact hF) l p e s m args below meth c D kI kA ad A C hret hlk H locs ls hP hD hS hl hV.drop)
theorem J.if_neT' (T : Tm md) {z : Int32} {off : Int} (k : Nat) (hr : runP md.2.2.2.2 σ k (suf md.2.2.2.2 pc) L S = some (pc1, L1, mI z :: S0)) (hi : insAt md.2.2.2.2 pc1 = some (n, .ifCond .ne off, a, b, v0, w0)) (hc : ¬ z = 0) (kk : J md d a L1 S0 σ r σ') : J md d pc L S σ r σ' := by
  refine J.run T k hr ?_
  obtain ⟨hd, ha⟩ := dec_at T hi rfl
  intro l p e s m args below meth c D kI kA ad A C hret hlk H locs ls hP hD hS hl hV
  exact lv_if_ne C.1 C.2.1 hd ha (fun _ => kk l p e s m args below meth c D kI kA ad A C hret hlk H locs ls hP hD hS hl hV.drop) (fun h => absurd h hc)
theorem J.if_neF' (T : Tm md) {z : Int32} {off : Int} (k : Nat) (hr : runP md.2.2.2.2 σ k (suf md.2.2.2.2 pc) L S = some (pc1, L1, mI z :: S0)) (hi : insAt md.2.2.2.2 pc1 = some (n, .ifCond .ne off, a, b, v0, w0)) (hc : z = 0) (kk : J md d (pc1 + 3) L1 S0 σ r σ') : J md d pc L S σ r σ' := by
  refine J.run T k hr ?_
  obtain ⟨hd, ha⟩ := dec_at T hi rfl
  intro l p e s m args below meth c D kI kA ad A C hret hlk H locs ls hP hD hS hl hV
  exact lv_if_ne C.1 C.2.1 hd ha (fun h => absurd hc h) (fun _ => kk l p e s m args below meth c D kI kA ad A C hret hlk H locs ls hP hD hS hl hV.drop)
theorem J.icmp_ne (T : Tm md) {y z : Int32} {off : Int} {u u2 : ρ} {dc : Decidable (z = y)} (k : Nat) (hr : runP md.2.2.2.2 σ k (suf md.2.2.2.2 pc) L S = some (pc1, L1, mI y :: mI z :: S0)) (hi : insAt md.2.2.2.2 pc1 = some (n, .if_icmp .ne off, a, b, v0, w0)) (hF : (@ite ρ (z = y) dc u u2) = w) (kt : u2 = w → J md d a L1 S0 σ r σ') (kf : u = w → J md d (pc1 + 3) L1 S0 σ r σ') : J md d pc L S σ r σ' := by
  refine J.run T k hr ?_
  obtain ⟨hd, ha⟩ := dec_at T hi rfl
  intro l p e s m args below meth c D kI kA ad A C hret hlk H locs ls hP hD hS hl hV
  exact lv_icmp_ne C.1 C.2.1 hd ha (fun h => kt (by rw [if_neg h] at hF; exact hF) l p e s m args below meth c D kI kA ad A C hret hlk H locs ls hP hD hS hl hV.drop.drop) (fun h => kf (by rw [if_pos h] at hF; exact hF) l p e s m args below meth c D kI kA ad A C hret hlk H locs ls hP hD hS hl hV.drop.drop)
theorem J.icmp_neT' (T : Tm md) {y z : Int32} {off : Int} (k : Nat) (hr : runP md.2.2.2.2 σ k (suf md.2.2.2.2 pc) L S = some (pc1, L1, mI y :: mI z :: S0)) (hi : insAt md.2.2.2.2 pc1 = some (n, .if_icmp .ne off, a, b, v0, w0)) (hc : ¬ z = y) (kk : J md d a L1 S0 σ r σ') : J md d pc L S σ r σ' := by
  refine J.run T k hr ?_
  obtain ⟨hd, ha⟩ := dec_at T hi rfl
  intro l p e s m args below meth c D kI kA ad A C hret hlk H locs ls hP hD hS hl hV
  exact lv_icmp_ne C.1 C.2.1 hd ha (fun _ => kk l p e s m args below meth c D kI kA ad A C hret hlk H locs ls hP hD hS hl hV.drop.drop) (fun h => absurd h hc)
theorem J.icmp_neF' (T : Tm md) {y z : Int32} {off : Int} (k : Nat) (hr : runP md.2.2.2.2 σ k (suf md.2.2.2.2 pc) L S = some (pc1, L1, mI y :: mI z :: S0)) (hi : insAt md.2.2.2.2 pc1 = some (n, .if_icmp .ne off, a, b, v0, w0)) (hc : z = y) (kk : J md d (pc1 + 3) L1 S0 σ r σ') : J md d pc L S σ r σ' := by
  refine J.run T k hr ?_
  obtain ⟨hd, ha⟩ := dec_at T hi rfl
  intro l p e s m args below meth c D kI kA ad A C hret hlk H locs ls hP hD hS hl hV
  exact lv_icmp_ne C.1 C.2.1 hd ha (fun h => absurd hc h) (fun _ => kk l p e s m args below meth c D kI kA ad A C hret hlk H locs ls hP hD hS hl hV.drop.drop)
theorem J.if_lt (T : Tm md) {z : Int32} {off : Int} {u u2 : ρ} {dc : Decidable (z < 0)} (k : Nat) (hr : runP md.2.2.2.2 σ k (suf md.2.2.2.2 pc) L S = some (pc1, L1, mI z :: S0)) (hi : insAt md.2.2.2.2 pc1 = some (n, .ifCond .lt off, a, b, v0, w0)) (hF : (@ite ρ (z < 0) dc u u2) = w) (kt : u = w → J md d a L1 S0 σ r σ') (kf : u2 = w → J md d (pc1 + 3) L1 S0 σ r σ') : J md d pc L S σ r σ' := by
  refine J.run T k hr ?_
  obtain ⟨hd, ha⟩ := dec_at T hi rfl
  intro l p e s m args below meth c D kI kA ad A C hret hlk H locs ls hP hD hS hl hV
  exact lv_if_lt C.1 C.2.1 hd ha (fun h => kt (by rw [if_pos h] at hF; exact hF) l p e s m args below meth c D kI kA ad A C hret hlk H locs ls hP hD hS hl hV.drop) (fun h => kf (by rw [if_neg h] at hF; exact hF) l p e s m args below meth c D kI kA ad A C hret hlk H locs ls hP hD hS hl hV.drop)
theorem J.if_ltT' (T : Tm md) {z : Int32} {off : Int} (k : Nat) (hr : runP md.2.2.2.2 σ k (suf md.2.2.2.2 pc) L S = some (pc1, L1, mI z :: S0)) (hi : insAt md.2.2.2.2 pc1 = some (n, .ifCond .lt off, a, b, v0, w0)) (hc : z < 0) (kk : J md d a L1 S0 σ r σ') : J md d pc L S σ r σ' := by
  refine J.run T k hr ?_
  obtain ⟨hd, ha⟩ := dec_at T hi rfl
  intro l p e s m args below meth c D kI kA ad A C hret hlk H locs ls hP hD hS hl hV
  exact lv_if_lt C.1 C.2.1 hd ha (fun _ => kk l p e s m args below meth c D kI kA ad A C hret hlk H locs ls hP hD hS hl hV.drop) (fun h => absurd hc h)
theorem J.if_ltF' (T : Tm md) {z : Int32} {off : Int} (k : Nat) (hr : runP md.2.2.2.2 σ k (suf md.2.2.2.2 pc) L S = some (pc1, L1, mI z :: S0)) (hi : insAt md.2.2.2.2 pc1 = some (n, .ifCond .lt off, a, b, v0, w0)) (hc : ¬ z < 0) (kk : J md d (pc1 + 3) L1 S0 σ r σ') : J md d pc L S σ r σ' := by
  refine J.run T k hr ?_
  obtain ⟨hd, ha⟩ := dec_at T hi rfl
  intro l p e s m args below meth c D kI kA ad A C hret hlk H locs ls hP hD hS hl hV
  exact lv_if_lt C.1 C.2.1 hd ha (fun h => absurd h hc) (fun _ => kk l p e s m args below meth c D kI kA ad A C hret hlk H locs ls hP hD hS hl hV.drop)
theorem J.icmp_lt (T : Tm md) {y z : Int32} {off : Int} {u u2 : ρ} {dc : Decidable (z < y)} (k : Nat) (hr : runP md.2.2.2.2 σ k (suf md.2.2.2.2 pc) L S = some (pc1, L1, mI y :: mI z :: S0)) (hi : insAt md.2.2.2.2 pc1 = some (n, .if_icmp .lt off, a, b, v0, w0)) (hF : (@ite ρ (z < y) dc u u2) = w) (kt : u = w → J md d a L1 S0 σ r σ') (kf : u2 = w → J md d (pc1 + 3) L1 S0 σ r σ') : J md d pc L S σ r σ' := by
  refine J.run T k hr ?_
  obtain ⟨hd, ha⟩ := dec_at T hi rfl
  intro l p e s m args below meth c D kI kA ad A C hret hlk H locs ls hP hD hS hl hV
  exact lv_icmp_lt C.1 C.2.1 hd ha (fun h => kt (by rw [if_pos h] at hF; exact hF) l p e s m args below meth c D kI kA ad A C hret hlk H locs ls hP hD hS hl hV.drop.drop) (fun h => kf (by rw [if_neg h] at hF; exact hF) l p e s m args below meth c D kI kA ad A C hret hlk H locs ls hP hD hS hl hV.drop.drop)
theorem J.icmp_ltT' (T : Tm md) {y z : Int32} {off : Int} (k : Nat) (hr : runP md.2.2.2.2 σ k (suf md.2.2.2.2 pc) L S = some (pc1, L1, mI y :: mI z :: S0)) (hi : insAt md.2.2.2.2 pc1 = some (n, .if_icmp .lt off, a, b, v0, w0)) (hc : z < y) (kk : J md d a L1 S0 σ r σ') : J md d pc L S σ r σ' := by
  refine J.run T k hr ?_
  obtain ⟨hd, ha⟩ := dec_at T hi rfl
  intro l p e s m args below meth c D kI kA ad A C hret hlk H locs ls hP hD hS hl hV
  exact lv_icmp_lt C.1 C.2.1 hd ha (fun _ => kk l p e s m args below meth c D kI kA ad A C hret hlk H locs ls hP hD hS hl hV.drop.drop) (fun h => absurd hc h)
theorem J.icmp_ltF' (T : Tm md) {y z : Int32} {off : Int} (k : Nat) (hr : runP md.2.2.2.2 σ k (suf md.2.2.2.2 pc) L S = some (pc1, L1, mI y :: mI z :: S0)) (hi : insAt md.2.2.2.2 pc1 = some (n, .if_icmp .lt off, a, b, v0, w0)) (hc : ¬ z < y) (kk : J md d (pc1 + 3) L1 S0 σ r σ') : J md d pc L S σ r σ' := by
  refine J.run T k hr ?_
  obtain ⟨hd, ha⟩ := dec_at T hi rfl
  intro l p e s m args below meth c D kI kA ad A C hret hlk H locs ls hP hD hS hl hV
  exact lv_icmp_lt C.1 C.2.1 hd ha (fun h => absurd h hc) (fun _ => kk l p e s m args below meth c D kI kA ad A C hret hlk H locs ls hP hD hS hl hV.drop.drop)
theorem J.if_ge (T : Tm md) {z : Int32} {off : Int} {u u2 : ρ} {dc : Decidable (0 ≤ z)} (k : Nat) (hr : runP md.2.2.2.2 σ k (suf md.2.2.2.2 pc) L S = some (pc1, L1, mI z :: S0)) (hi : insAt md.2.2.2.2 pc1 = some (n, .ifCond .ge off, a, b, v0, w0)) (hF : (@ite ρ (0 ≤ z) dc u u2) = w) (kt : u = w → J md d a L1 S0 σ r σ') (kf : u2 = w → J md d (pc1 + 3) L1 S0 σ r σ') : J md d pc L S σ r σ' := by
  refine J.run T k hr ?_
  obtain ⟨hd, ha⟩ := dec_at T hi rfl
  intro l p e s m args below meth c D kI kA ad A C hret hlk H locs ls hP hD hS hl hV
  exact lv_if_ge C.1 C.2.1 hd ha (fun h => kt (by rw [if_pos h] at hF; exact hF) l p e s m args below meth c D kI kA ad A C hret hlk H locs ls hP hD hS hl hV.drop) (fun h => kf (by rw [if_neg h] at hF; exact hF) l p e s m args below meth c D kI kA ad A C hret hlk H locs ls hP hD hS hl hV.drop)
theorem J.if_geT' (T : Tm md) {z : Int32} {off : Int} (k : Nat) (hr : runP md.2.2.2.2 σ k (suf md.2.2.2.2 pc) L S = some (pc1, L1, mI z :: S0)) (hi : insAt md.2.2.2.2 pc1 = some (n, .ifCond .ge off, a, b, v0, w0)) (hc : 0 ≤ z) (kk : J md d a L1 S0 σ r σ') : J md d pc L S σ r σ' := by
  refine J.run T k hr ?_
  obtain ⟨hd, ha⟩ := dec_at T hi rfl
  intro l p e s m args below meth c D kI kA ad A C hret hlk H locs ls hP hD hS hl hV
  exact lv_if_ge C.1 C.2.1 hd ha (fun _ => kk l p e s m args below meth c D kI kA ad A C hret hlk H locs ls hP hD hS hl hV.drop) (fun h => absurd hc h)
theorem J.if_geF' (T : Tm md) {z : Int32} {off : Int} (k : Nat) (hr : runP md.2.2.2.2 σ k (suf md.2.2.2.2 pc) L S = some (pc1, L1, mI z :: S0)) (hi : insAt md.2.2.2.2 pc1 = some (n, .ifCond .ge off, a, b, v0, w0)) (hc : ¬ 0 ≤ z) (kk : J md d (pc1 + 3) L1 S0 σ r σ') : J md d pc L S σ r σ' := by
  refine J.run T k hr ?_
  obtain ⟨hd, ha⟩ := dec_at T hi rfl
  intro l p e s m args below meth c D kI kA ad A C hret hlk H locs ls hP hD hS hl hV
  exact lv_if_ge C.1 C.2.1 hd ha (fun h => absurd h hc) (fun _ => kk l p e s m args below meth c D kI kA ad A C hret hlk H locs ls hP hD hS hl hV.drop)
theorem J.icmp_ge (T : Tm md) {y z : Int32} {off : Int} {u u2 : ρ} {dc : Decidable (y ≤ z)} (k : Nat) (hr : runP md.2.2.2.2 σ k (suf md.2.2.2.2 pc) L S = some (pc1, L1, mI y :: mI z :: S0)) (hi : insAt md.2.2.2.2 pc1 = some (n, .if_icmp .ge off, a, b, v0, w0)) (hF : (@ite ρ (y ≤ z) dc u u2) = w) (kt : u = w → J md d a L1 S0 σ r σ') (kf : u2 = w → J md d (pc1 + 3) L1 S0 σ r σ') : J md d pc L S σ r σ' := by
  refine J.run T k hr ?_
  obtain ⟨hd, ha⟩ := dec_at T hi rfl
  intro l p e s m args below meth c D kI kA ad A C hret hlk H locs ls hP hD hS hl hV
  exact lv_icmp_ge C.1 C.2.1 hd ha (fun h => kt (by rw [if_pos h] at hF; exact hF) l p e s m args below meth c D kI kA ad A C hret hlk H locs ls hP hD hS hl hV.drop.drop) (fun h => kf (by rw [if_neg h] at hF; exact hF) l p e s m args below meth c D kI kA ad A C hret hlk H locs ls hP hD hS hl hV.drop.drop)
theorem J.icmp_geT' (T : Tm md) {y z : Int32} {off : Int} (k : Nat) (hr : runP md.2.2.2.2 σ k (suf md.2.2.2.2 pc) L S = some (pc1, L1, mI y :: mI z :: S0)) (hi : insAt md.2.2.2.2 pc1 = some (n, .if_icmp .ge off, a, b, v0, w0)) (hc : y ≤ z) (kk : J md d a L1 S0 σ r σ') : J md d pc L S σ r σ' := by
  refine J.run T k hr ?_
  obtain ⟨hd, ha⟩ := dec_at T hi rfl
  intro l p e s m args below meth c D kI kA ad A C hret hlk H locs ls hP hD hS hl hV
  exact lv_icmp_ge C.1 C.2.1 hd ha (fun _ => kk l p e s m args below meth c D kI kA ad A C hret hlk H locs ls hP hD hS hl hV.drop.drop) (fun h => absurd hc h)
theorem J.icmp_geF' (T : Tm md) {y z : Int32} {off : Int} (k : Nat) (hr : runP md.2.2.2.2 σ k (suf md.2.2.2.2 pc) L S = some (pc1, L1, mI y :: mI z :: S0)) (hi : insAt md.2.2.2.2 pc1 = some (n, .if_icmp .ge off, a, b, v0, w0)) (hc : ¬ y ≤ z) (kk : J md d (pc1 + 3) L1 S0 σ r σ') : J md d pc L S σ r σ' := by
  refine J.run T k hr ?_
  obtain ⟨hd, ha⟩ := dec_at T hi rfl
  intro l p e s m args below meth c D kI kA ad A C hret hlk H locs ls hP hD hS hl hV
  exact lv_icmp_ge C.1 C.2.1 hd ha (fun h => absurd h hc) (fun _ => kk l p e s m args below meth c D kI kA ad A C hret hlk H locs ls hP hD hS hl hV.drop.drop)
theorem J.if_gt (T : Tm md) {z : Int32} {off : Int} {u u2 : ρ} {dc : Decidable (0 < z)} (k : Nat) (hr : runP md.2.2.2.2 σ k (suf md.2.2.2.2 pc) L S = some (pc1, L1, mI z :: S0)) (hi : insAt md.2.2.2.2 pc1 = some (n, .ifCond .gt off, a, b, v0, w0)) (hF : (@ite ρ (0 < z) dc u u2) = w) (kt : u = w → J md d a L1 S0 σ r σ') (kf : u2 = w → J md d (pc1 + 3) L1 S0 σ r σ') : J md d pc L S σ r σ' := by
  refine J.run T k hr ?_
  obtain ⟨hd, ha⟩ := dec_at T hi rfl
  intro l p e s m args below meth c D kI kA ad A C hret hlk H locs ls hP hD hS hl hV
  exact lv_if_gt C.1 C.2.1 hd ha (fun h => kt (by rw [if_pos h] at hF; exact hF) l p e s m args below meth c D kI kA ad A C hret hlk H locs ls hP hD hS hl hV.drop) (fun h => kf (by rw [if_neg h] at hF; exact hF) l p e s m args below meth c D kI kA ad A C hret hlk H locs ls hP hD hS hl hV.drop)
theorem J.if_gtT' (T : Tm md) {z : Int32} {off : Int} (k : Nat) (hr : runP md.2.2.2.2 σ k (suf md.2.2.2.2 pc) L S = some (pc1, L1, mI z :: S0)) (hi : insAt md.2.2.2.2 pc1 = some (n, .ifCond .gt off, a, b, v0, w0)) (hc : 0 < z) (kk : J md d a L1 S0 σ r σ') : J md d pc L S σ r σ' := by
  refine J.run T k hr ?_
  obtain ⟨hd, ha⟩ := dec_at T hi rfl
  intro l p e s m args below meth c D kI kA ad A C hret hlk H locs ls hP hD hS hl hV
  exact lv_if_gt C.1 C.2.1 hd ha (fun _ => kk l p e s m args below meth c D kI kA ad A C hret hlk H locs ls hP hD hS hl hV.drop) (fun h => absurd hc h)
theorem J.if_gtF' (T : Tm md) {z : Int32} {off : Int} (k : Nat) (hr : runP md.2.2.2.2 σ k (suf md.2.2.2.2 pc) L S = some (pc1, L1, mI z :: S0)) (hi : insAt md.2.2.2.2 pc1 = some (n, .ifCond .gt off, a, b, v0, w0)) (hc : ¬ 0 < z) (kk : J md d (pc1 + 3) L1 S0 σ r σ') : J md d pc L S σ r σ' := by
  refine J.run T k hr ?_
  obtain ⟨hd, ha⟩ := dec_at T hi rfl
  intro l p e s m args below meth c D kI kA ad A C hret hlk H locs ls hP hD hS hl hV
  exact lv_if_gt C.1 C.2.1 hd ha (fun h => absurd h hc) (fun _ => kk l p e s m args below meth c D kI kA ad A C hret hlk H locs ls hP hD hS hl hV.drop)
theorem J.icmp_gt (T : Tm md) {y z : Int32} {off : Int} {u u2 : ρ} {dc : Decidable (y < z)} (k : Nat) (hr : runP md.2.2.2.2 σ k (suf md.2.2.2.2 pc) L S = some (pc1, L1, mI y :: mI z :: S0)) (hi : insAt md.2.2.2.2 pc1 = some (n, .if_icmp .gt off, a, b, v0, w0)) (hF : (@ite ρ (y < z) dc u u2) = w) (kt : u = w → J md d a L1 S0 σ r σ') (kf : u2 = w → J md d (pc1 + 3) L1 S0 σ r σ') : J md d pc L S σ r σ' := by
  refine J.run T k hr ?_
  obtain ⟨hd, ha⟩ := dec_at T hi rfl
  intro l p e s m args below meth c D kI kA ad A C hret hlk H locs ls hP hD hS hl hV
  exact lv_icmp_gt C.1 C.2.1 hd ha (fun h => kt (by rw [if_pos h] at hF; exact hF) l p e s m args below meth c D kI kA ad A C hret hlk H locs ls hP hD hS hl hV.drop.drop) (fun h => kf (by rw [if_neg h] at hF; exact hF) l p e s m args below meth c D kI kA ad A C hret hlk H locs ls hP hD hS hl hV.drop.drop)
theorem J.icmp_gtT' (T : Tm md) {y z : Int32} {off : Int} (k : Nat) (hr : runP md.2.2.2.2 σ k (suf md.2.2.2.2 pc) L S = some (pc1, L1, mI y :: mI z :: S0)) (hi : insAt md.2.2.2.2 pc1 = some (n, .if_icmp .gt off, a, b, v0, w0)) (hc : y < z) (kk : J md d a L1 S0 σ r σ') : J md d pc L S σ r σ' := by
  refine J.run T k hr ?_
  obtain ⟨hd, ha⟩ := dec_at T hi rfl
  intro l p e s m args below meth c D kI kA ad A C hret hlk H locs ls hP hD hS hl hV
  exact lv_icmp_gt C.1 C.2.1 hd ha (fun _ => kk l p e s m args below meth c D kI kA ad A C hret hlk H locs ls hP hD hS hl hV.drop.drop) (fun h => absurd hc h)
theorem J.icmp_gtF' (T : Tm md) {y z : Int32} {off : Int} (k : Nat) (hr : runP md.2.2.2.2 σ k (suf md.2.2.2.2 pc) L S = some (pc1, L1, mI y :: mI z :: S0)) (hi : insAt md.2.2.2.2 pc1 = some (n, .if_icmp .gt off, a, b, v0, w0)) (hc : ¬ y < z) (kk : J md d (pc1 + 3) L1 S0 σ r σ') : J md d pc L S σ r σ' := by
  refine J.run T k hr ?_
  obtain ⟨hd, ha⟩ := dec_at T hi rfl
  intro l p e s m args below meth c D kI kA ad A C hret hlk H locs ls hP hD hS hl hV
  exact lv_icmp_gt C.1 C.2.1 hd ha (fun h => absurd h hc) (fun _ => kk l p e s m args below meth c D kI kA ad A C hret hlk H locs ls hP hD hS hl hV.drop.drop)
theorem J.if_le (T : Tm md) {z : Int32} {off : Int} {u u2 : ρ} {dc : Decidable (z ≤ 0)} (k : Nat) (hr : runP md.2.2.2.2 σ k (suf md.2.2.2.2 pc) L S = some (pc1, L1, mI z :: S0)) (hi : insAt md.2.2.2.2 pc1 = some (n, .ifCond .le off, a, b, v0, w0)) (hF : (@ite ρ (z ≤ 0) dc u u2) = w) (kt : u = w → J md d a L1 S0 σ r σ') (kf : u2 = w → J md d (pc1 + 3) L1 S0 σ r σ') : J md d pc L S σ r σ' := by
  refine J.run T k hr ?_
  obtain ⟨hd, ha⟩ := dec_at T hi rfl
  intro l p e s m args below meth c D kI kA ad A C hret hlk H locs ls hP hD hS hl hV
  exact lv_if_le C.1 C.2.1 hd ha (fun h => kt (by rw [if_pos h] at hF; exact hF) l p e s m args below meth c D kI kA ad A C hret hlk H locs ls hP hD hS hl hV.drop) (fun h => kf (by rw [if_neg h] at hF; exact hF) l p e s m args below meth c D kI kA ad A C hret hlk H locs ls hP hD hS hl hV.drop)
theorem J.if_leT' (T : Tm md) {z : Int32} {off : Int} (k : Nat) (hr : runP md.2.2.2.2 σ k (suf md.2.2.2.2 pc) L S = some (pc1, L1, mI z :: S0)) (hi : insAt md.2.2.2.2 pc1 = some (n, .ifCond .le off, a, b, v0, w0)) (hc : z ≤ 0) (kk : J md d a L1 S0 σ r σ') : J md d pc L S σ r σ' := by
  refine J.run T k hr ?_
  obtain ⟨hd, ha⟩ := dec_at T hi rfl
  intro l p e s m args below meth c D kI kA ad A C hret hlk H locs ls hP hD hS hl hV
  exact lv_if_le C.1 C.2.1 hd ha (fun _ => kk l p e s m args below meth c D kI kA ad A C hret hlk H locs ls hP hD hS hl hV.drop) (fun h => absurd hc h)
theorem J.if_leF' (T : Tm md) {z : Int32} {off : Int} (k : Nat) (hr : runP md.2.2.2.2 σ k (suf md.2.2.2.2 pc) L S = some (pc1, L1, mI z :: S0)) (hi : insAt md.2.2.2.2 pc1 = some (n, .ifCond .le off, a, b, v0, w0)) (hc : ¬ z ≤ 0) (kk : J md d (pc1 + 3) L1 S0 σ r σ') : J md d pc L S σ r σ' := by
  refine J.run T k hr ?_
  obtain ⟨hd, ha⟩ := dec_at T hi rfl
  intro l p e s m args below meth c D kI kA ad A C hret hlk H locs ls hP hD hS hl hV
  exact lv_if_le C.1 C.2.1 hd ha (fun h => absurd h hc) (fun _ => kk l p e s m args below meth c D kI kA ad A C hret hlk H locs ls hP hD hS hl hV.drop)
theorem J.icmp_le (T : Tm md) {y z : Int32} {off : Int} {u u2 : ρ} {dc : Decidable (z ≤ y)} (k : Nat) (hr : runP md.2.2.2.2 σ k (suf md.2.2.2.2 pc) L S = some (pc1, L1, mI y :: mI z :: S0)) (hi : insAt md.2.2.2.2 pc1 = some (n, .if_icmp .le off, a, b, v0, w0)) (hF : (@ite ρ (z ≤ y) dc u u2) = w) (kt : u = w → J md d a L1 S0 σ r σ') (kf : u2 = w → J md d (pc1 + 3) L1 S0 σ r σ') : J md d pc L S σ r σ' := by
  refine J.run T k hr ?_
  obtain ⟨hd, ha⟩ := dec_at T hi rfl
  intro l p e s m args below meth c D kI kA ad A C hret hlk H locs ls hP hD hS hl hV
  exact lv_icmp_le C.1 C.2.1 hd ha (fun h => kt (by rw [if_pos h] at hF; exact hF) l p e s m args below meth c D kI kA ad A C hret hlk H locs ls hP hD hS hl hV.drop.drop) (fun h => kf (by rw [if_neg h] at hF; exact hF) l p e s m args below meth c D kI kA ad A C hret hlk H locs ls hP hD hS hl hV.drop.drop)
theorem J.icmp_leT' (T : Tm md) {y z : Int32} {off : Int} (k : Nat) (hr : runP md.2.2.2.2 σ k (suf md.2.2.2.2 pc) L S = some (pc1, L1, mI y :: mI z :: S0)) (hi : insAt md.2.2.2.2 pc1 = some (n, .if_icmp .le off, a, b, v0, w0)) (hc : z ≤ y) (kk : J md d a L1 S0 σ r σ') : J md d pc L S σ r σ' := by
  refine J.run T k hr ?_
  obtain ⟨hd, ha⟩ := dec_at T hi rfl
  intro l p e s m args below meth c D kI kA ad A C hret hlk H locs ls hP hD hS hl hV
  exact lv_icmp_le C.1 C.2.1 hd ha (fun _ => kk l p e s m args below meth c D kI kA ad A C hret hlk H locs ls hP hD hS hl hV.drop.drop) (fun h => absurd hc h)
theorem J.icmp_leF' (T : Tm md) {y z : Int32} {off : Int} (k : Nat) (hr : runP md.2.2.2.2 σ k (suf md.2.2.2.2 pc) L S = some (pc1, L1, mI y :: mI z :: S0)) (hi : insAt md.2.2.2.2 pc1 = some (n, .if_icmp .le off, a, b, v0, w0)) (hc : ¬ z ≤ y) (kk : J md d (pc1 + 3) L1 S0 σ r σ') : J md d pc L S σ r σ' := by
  refine J.run T k hr ?_
  obtain ⟨hd, ha⟩ := dec_at T hi rfl
  intro l p e s m args below meth c D kI kA ad A C hret hlk H locs ls hP hD hS hl hV
  exact lv_icmp_le C.1 C.2.1 hd ha (fun h => absurd h hc) (fun _ => kk l p e s m args below meth c D kI kA ad A C hret hlk H locs ls hP hD hS hl hV.drop.drop)
theorem ts_at (T : Tm md) {dflt lo hgh : Int} {offs : Array Int} (hi : insAt md.2.2.2.2 pc1 = some (n, .tableswitch dflt lo hgh offs, a, b, v0, w0)) : decode md.2.1 pc1 = .ok (.tableswitch dflt lo hgh offs, n) := by
  obtain ⟨q, hq⟩ := insAt_suf hi
  exact (T _ _ hq).1
theorem J.tswIn (T : Tm md) {z : Int32} {dflt lo hgh off : Int} {offs : Array Int} (tgt : Nat) (k : Nat) (hr : runP md.2.2.2.2 σ k (suf md.2.2.2.2 pc) L S = some (pc1, L1, mI z :: S0)) (hi : insAt md.2.2.2.2 pc1 = some (n, .tableswitch dflt lo hgh offs, a, b, v0, w0)) (y : Int32) (hz : z = y) (h1 : ¬ y.toInt < lo) (h2 : ¬ hgh < y.toInt) (ho : offs[(y.toInt - lo).toNat]? = some off) (ht : (pc1 : Int) + off = (tgt : Int)) (kk : J md d tgt L1 S0 σ r σ') : J md d pc L S σ r σ' := by
  refine J.run T k hr ?_
  have hd := ts_at T hi
  intro l p e s m args below meth c D kI kA ad A C hret hlk H locs ls hP hD hS hl hV
  rw [← hz] at h1 h2 ho
  exact lv_tableIn C.1 C.2.1 hd h1 h2 ho ht (kk l p e s m args below meth c D kI kA ad A C hret hlk H locs ls hP hD hS hl hV.drop)
theorem J.tswOut (T : Tm md) {z : Int32} {dflt lo hgh : Int} {offs : Array Int} (tgt : Nat) (k : Nat) (hr : runP md.2.2.2.2 σ k (suf md.2.2.2.2 pc) L S = some (pc1, L1, mI z :: S0)) (hi : insAt md.2.2.2.2 pc1 = some (n, .tableswitch dflt lo hgh offs, a, b, v0, w0)) (h : z.toInt < lo ∨ hgh < z.toInt) (ht : (pc1 : Int) + dflt = (tgt : Int)) (kk : J md d tgt L1 S0 σ r σ') : J md d pc L S σ r σ' := by
  refine J.run T k hr ?_
  have hd := ts_at T hi
  intro l p e s m args below meth c D kI kA ad A C hret hlk H locs ls hP hD hS hl hV
  exact lv_tableOut C.1 C.2.1 hd h ht (kk l p e s m args below meth c D kI kA ad A C hret hlk H locs ls hP hD hS hl hV.drop)
theorem ws_D {ad : CI → Nat} {kI kA : ClassId} {A : Nat → Prop} {σ σ1 : St} (h : va_D A (wsO ad kI kA σ)) : va_D A (wsO ad kI kA σ1) := by
  have key : ∀ (τ : St) (i : Nat) (q : Nat × va_E), (wsO ad kI kA τ)[i]? = some q → ∃ q', (wsO ad kI kA σ)[i]? = some q' ∧ q'.1 = q.1 := by
    intro τ i q hq
    unfold wsO at hq ⊢
    rw [List.getElem?_map] at hq ⊢
    cases hm : mcells[i]? with
    | none => rw [hm] at hq; cases hq
    | some z => rw [hm] at hq; cases hq; exact ⟨_, rfl, rfl⟩
  refine ⟨fun i j p q h1 h2 h3 => ?_, fun k q h1 => ?_⟩
  · obtain ⟨p', a1, a2⟩ := key _ _ _ h1
    obtain ⟨q', b1, b2⟩ := key _ _ _ h2
    exact h.1 i j p' q' a1 b1 (by rw [a2, b2, h3])
  · obtain ⟨q', a1, a2⟩ := key _ _ _ h1
    have := h.2 k q' a1
    rw [a2] at this
    exact this
theorem J.reti (T : Tm md) {z : Int32} (k : Nat) (hr : runP md.2.2.2.2 σ k (suf md.2.2.2.2 pc) L S = some (pc1, L1, [mI z])) (hi : insAt md.2.2.2.2 pc1 = some (n, .ireturn, a, b, v0, w0)) (ht : md.2.2.2.1 = some .int) : J md d pc L S σ (some (mI z)) σ := by
  refine J.run T k hr ?_
  obtain ⟨hd, -⟩ := dec_at T hi rfl
  intro l p e s m args below meth c D kI kA ad A C hret hlk H locs ls hP hD hS hl hV
  exact W.iret C.1 C.2.1 (hret.trans ht) (fun t ht hW => ⟨⟨rfl, by rw [ht]; exact hP⟩, hS.F ht⟩) hS.2.2 hd hlk
theorem J.retl (T : Tm md) {z : Int64} (k : Nat) (hr : runP md.2.2.2.2 σ k (suf md.2.2.2.2 pc) L S = some (pc1, L1, [mL z])) (hi : insAt md.2.2.2.2 pc1 = some (n, .lreturn, a, b, v0, w0)) (ht : md.2.2.2.1 = some .long) : J md d pc L S σ (some (mL z)) σ := by
  refine J.run T k hr ?_
  obtain ⟨hd, -⟩ := dec_at T hi rfl
  intro l p e s m args below meth c D kI kA ad A C hret hlk H locs ls hP hD hS hl hV
  exact W.lret C.1 C.2.1 (hret.trans ht) (fun t ht hW => ⟨⟨rfl, by rw [ht]; exact hP⟩, hS.F ht⟩) hS.2.2 hd hlk
theorem J.retv (T : Tm md) (k : Nat) (hr : runP md.2.2.2.2 σ k (suf md.2.2.2.2 pc) L S = some (pc1, L1, [])) (hi : insAt md.2.2.2.2 pc1 = some (n, .return_, a, b, v0, w0)) (ht : md.2.2.2.1 = none) : J md d pc L S σ none σ := by
  refine J.run T k hr ?_
  obtain ⟨hd, -⟩ := dec_at T hi rfl
  intro l p e s m args below meth c D kI kA ad A C hret hlk H locs ls hP hD hS hl hV
  exact W.vret C.1 C.2.1 (hret.trans ht) (fun t ht hW => ⟨⟨rfl, by rw [ht]; exact hP⟩, hS.F ht⟩) hS.2.2 hd hlk
theorem W_zret {p : Program} {l : Launch} {e : Env} {R : Room} {s : State} {m : MethodId} {args : Array Value} {below : List Frame} {meth : Method} {c : Code} {H : Heap} {locs : List Loc} {cells slots : Nat} {cc : ByteArray} {Qc : Array Value → State → Outcome → State → Prop} {free : Addr → Prop} {v : Int32} (hexec : p.tables.exec = Jvm.exec) (hb : c.code = cc) (hr : meth.sig.returnType = some .boolean)
    (hq : ∀ t : State, t.heap = H → s.WarmedH t.vm → Qc args s (.returned (some (.int (v &&& 1)))) t) (hf : ∀ q ∈ locs, free q.base)
    {pc : Nat} {ls : Array Slot} (hdg : decode cc pc = .ok (.ireturn, 1)) (hlocks : meth.locks = false) : W p l e R s m args below meth c H locs cells slots (MQ below Qc args s cells slots free) (F0 m pc ls [.int v]) := by
  intro T hT X
  obtain ⟨fs, hret, hrun, hended, hW, hframe⟩ := X.leave (v := some (.int (v &&& 1))) (hlocks := hlocks) (fun h => by rw [hr] at h; cases h)
  have hmeth' : T.vm.method? m = some meth := X.method'
  refine ⟨T.setFrames fs, ?_, .returned (some (.int (v &&& 1))), hrun, hended, hq _ hT hW, locs, ⟨⟨_, rfl⟩, hW, hframe⟩, hf⟩
  jvm_step X.here [X.here.top, hexec, hb, hdg, hmeth', hr, narrow]
  (try refine ⟨rfl, ?_⟩); (try refine ⟨rfl, ?_⟩)
  first | (intro acts; rw [hret _ acts rfl rfl rfl]) | rw [hret _ _ rfl rfl rfl]
  exact Steps.refl _
theorem J.retz (T : Tm md) {z u : Int32} (k : Nat) (hr : runP md.2.2.2.2 σ k (suf md.2.2.2.2 pc) L S = some (pc1, L1, [mI z])) (hi : insAt md.2.2.2.2 pc1 = some (n, .ireturn, a, b, v0, w0)) (ht : md.2.2.2.1 = some .boolean) (hz : z &&& 1 = u) : J md d pc L S σ (some (mI u)) σ := by
  refine J.run T k hr ?_
  obtain ⟨hd, -⟩ := dec_at T hi rfl
  subst hz
  intro l p e s m args below meth c D kI kA ad A C hret hlk H locs ls hP hD hS hl hV
  exact W_zret C.1 C.2.1 (hret.trans ht) (fun t ht hW => ⟨⟨rfl, by rw [ht]; exact hP⟩, hS.F ht⟩) hS.2.2 hd hlk
end EV
