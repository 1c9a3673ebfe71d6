section RFP
variable {N k z : Nat} {a : Int32} {σ : St}
theorem rtf_out (h : a < 0 ∨ nI 6 ≤ a) : F_Tent_refuseRowToFill a σ = some (-1) := by
  unfold F_Tent_refuseRowToFill
  rw [isNum_out (t := 0) h]
  rfl
theorem rtf_none (hk : k < 6) (h1 : σ.1 4 0 10 = nI 0) : F_Tent_refuseRowToFill (nI k) σ = some (-4) := by
  unfold F_Tent_refuseRowToFill
  rw [isNum_in (t := 0) hk]
  simp only [obind, b2_some, bs_eq, if_neg one_ne]
  rw [if_pos (show σ.1 4 0 10 = 0 from h1)]
theorem rtf_ok (hk : k < 6) (h1 : σ.1 4 0 10 = nI N) (hN : N ≤ 5) (h0 : N ≠ 0) : F_Tent_refuseRowToFill (nI k) σ = some 0 := by
  unfold F_Tent_refuseRowToFill
  rw [isNum_in (t := 0) hk]
  simp only [obind, b2_some, bs_eq, if_neg one_ne]
  rw [h1, if_neg (by rw [nI_z (by omega)]; exact h0)]
theorem rfp_out (h : a < 0 ∨ nI 6 ≤ a) : F_Tent_refuseRowForPlaces a σ = some (-1, σ) := by
  unfold F_Tent_refuseRowForPlaces
  rw [rtf_out h]
  rfl
theorem rfp_none (hk : k < 6) (h1 : σ.1 4 0 10 = nI 0) : F_Tent_refuseRowForPlaces (nI k) σ = some (-4, σ) := by
  unfold F_Tent_refuseRowForPlaces
  rw [rtf_none hk h1]
  rfl
theorem rfp_miss (hk : k < 6) (h1 : σ.1 4 0 10 = nI N) (hN : N ≤ 5) (h0 : N ≠ 0) (hs : σ.1 2 0 k = -1) : F_Tent_refuseRowForPlaces (nI k) σ = some (-3, cF 1 σ) := by
  unfold F_Tent_refuseRowForPlaces
  rw [rtf_ok hk h1 hN h0]
  simp only [obind, b2_some, bs_eq, if_true]
  rw [isThere_in (t := 0) hk, hs, if_pos m1_neg]
  simp only [obind, b2_some, bs_eq, if_true]
  rw [show (1 : Int32) = nI 1 from rfl, found_eq (by omega)]
  rfl
theorem rfp_size (hk : k < 6) (h1 : σ.1 4 0 10 = nI N) (hN : N ≤ 5) (h0 : N ≠ 0) (hs : σ.1 2 0 k = nI z) (hz : z ≤ 40) (hne : z ≠ N) : F_Tent_refuseRowForPlaces (nI k) σ = some (-3, cF 5 σ) := by
  unfold F_Tent_refuseRowForPlaces
  rw [rtf_ok hk h1 hN h0]
  simp only [obind, b2_some, bs_eq, if_true]
  rw [isThere_in (t := 0) hk, hs, if_neg (nI_nneg (by omega))]
  simp only [obind, b2_some, bs_eq, if_neg one_ne]
  rw [sizeOf_in (t := 0) hk, hs, h1]
  simp only [obind, b2_some, bs_eq]
  rw [if_neg (fun e => hne (nI_inj (by omega) (by omega) e)), show (5 : Int32) = nI 5 from rfl, found_eq (by omega)]
  rfl
theorem rfp_ok (hk : k < 6) (h1 : σ.1 4 0 10 = nI N) (hN : N ≤ 5) (h0 : N ≠ 0) (hs : σ.1 2 0 k = nI N) : F_Tent_refuseRowForPlaces (nI k) σ = some (0, σ) := by
  unfold F_Tent_refuseRowForPlaces
  rw [rtf_ok hk h1 hN h0]
  simp only [obind, b2_some, bs_eq, if_true]
  rw [isThere_in (t := 0) hk, hs, if_neg (nI_nneg (by omega))]
  simp only [obind, b2_some, bs_eq, if_neg one_ne]
  rw [sizeOf_in (t := 0) hk, hs, h1]
  simp only [obind, b2_some, bs_eq, if_true]
end RFP
theorem rdFrom_eq {n N r : Nat} {σ : St} {W : Nat → Nat} (hN : N ≤ 5) (hr : r < 6) (hl : σ.1 1 0 0 = nI 40) (hs : σ.1 2 0 r = nI N) (he : ∀ p, p < N → σ.1 3 0 (40 * r + p) = nI (W p)) (hn : 10 < n) : ∃ w, F_Orders_readFrom n 0 (nI r) (nI N) σ = some w ∧ (∀ g u, ¬ ((g = 18 ∨ g = 19) ∧ u = 0) → w.1 g u = σ.1 g u) ∧ w.2 = σ.2 ∧ ∀ p, p < N → w.1 19 0 p = nI (W p) := by
  unfold F_Orders_readFrom
  have em : mmin (nI N) 5 = nI N := by
    unfold mmin
    rw [if_neg]
    rw [show (5 : Int32) = nI 5 from rfl]
    simp (disch := omega) only [nI_ltI]
    omega
  rw [em]
  simp only [obind, b2_some, bs_eq]
  refine loop_inv (fun k i (_ : Unit) s => F_Orders_readFrom_12 n 0 k (nI r) (nI i) s) N (fun _ => ()) (fun i s => (∀ g u, ¬ ((g = 18 ∨ g = 19) ∧ u = 0) → s.1 g u = σ.1 g u) ∧ s.2 = σ.2 ∧ s.1 18 0 1 = nI N ∧ ∀ p, p < i → s.1 19 0 p = nI (W p)) (fun w => (∀ g u, ¬ ((g = 18 ∨ g = 19) ∧ u = 0) → w.1 g u = σ.1 g u) ∧ w.2 = σ.2 ∧ ∀ p, p < N → w.1 19 0 p = nI (W p)) (fun k s hs' => ?_) (fun k i s hi hs' => ?_) n 0 _ (by omega) (by omega) ⟨fun g u a => si_ne (by omega), rfl, by rw [si_g, if_pos (by omega)], fun p hp => by omega⟩
  · refine ⟨s, ?_, hs'.1, hs'.2.1, hs'.2.2.2⟩
    rw [F_Orders_readFrom_12, hs'.2.2.1, if_pos (by simp (disch := omega) only [nI_leI]; omega)]
  · refine ⟨si s 19 0 i (nI (W i)), ?_, fun g u a => by rw [si_ne (by omega)]; exact hs'.1 g u a, hs'.2.1, by rw [si_ne (by omega)]; exact hs'.2.2.1, fun p hp => ?_⟩
    · rw [F_Orders_readFrom_12, hs'.2.2.1, if_neg (by simp (disch := omega) only [nI_leI]; omega), get_in (t := 0) (lim := 40) hr (by rw [hs'.1 1 0 (by omega)]; exact hl) (by rw [hs'.1 2 0 (by omega)]; exact hs) (by omega) (by decide) hi, hs'.1 3 0 (by omega), he i hi]
      simp only [obind, b2_some, bs_eq]
      rw [ast_19 (by omega)]
      simp only [obind, b2_some, bs_eq, nI_1]
    · rw [si_g]
      by_cases g : p = i
      · rw [if_pos (by omega), g]
      · rw [if_neg (by omega)]
        exact hs'.2.2.2 p (by omega)
/-- the tent lies by W, both ways -/
theorem RR.lieW {N : Nat} {σ σ1 σ2 : St} {P W : Nat → Nat} (h : RR σ) (ca : CampR 0 0 N σ) (hN : N ≤ 5) (m1 : σ.1 30 0 1 = nI N) (hp : PW N P W) (c1 : ∀ g u, keepG g u ∨ g = 0 ∨ 30 ≤ g → ¬ ((g = 9 ∨ g = 10) ∧ u = 0) → σ1.1 g u = σ.1 g u) (c2 : σ1.2 = σ.2) (c9 : ∀ i, i < N → σ1.1 9 0 i = nI (P i)) (c10 : ∀ p, p < N → σ1.1 10 0 p = nI (W p)) (d1 : ∀ g u, keepG g u ∨ g = 0 → ¬ (g = 31 ∧ u = 0) → σ2.1 g u = σ1.1 g u) (d2 : σ2.2 = σ1.2) (d30 : ∀ j, j = 1 ∨ j = 9 ∨ j = 12 ∨ j = 24 ∨ j = 25 → σ2.1 30 0 j = σ1.1 30 0 j) (d31 : ∀ p, p < N → σ2.1 31 0 (1 + p) = nI (W p)) (d31' : ∀ q, ¬ (1 ≤ q ∧ q < 6) → σ2.1 31 0 q = σ1.1 31 0 q) : RR σ2 := by
  have o : ∀ g u, keepG g u ∨ g = 0 → ¬ ((g = 9 ∨ g = 10) ∧ u = 0) → ¬ (g = 31 ∧ u = 0) → σ2.1 g u = σ.1 g u := fun g u a b c => (d1 g u a c).trans (c1 g u (by rcases a with a | a; exact Or.inl a; exact Or.inr (Or.inl a)) b)
  have o30 : ∀ j, j = 1 ∨ j = 9 ∨ j = 12 ∨ j = 24 ∨ j = 25 → σ2.1 30 0 j = σ.1 30 0 j := fun j a => (d30 j a).trans (by rw [c1 30 0 (by omega) (by omega)])
  have o31 : ∀ q, ¬ (1 ≤ q ∧ q < 6) → σ2.1 31 0 q = σ.1 31 0 q := fun q a => (d31' q a).trans (by rw [c1 31 0 (by omega) (by omega)])
  refine h.camp hN m1 ⟨fun g u a b c => o g u (Or.inl a) (by omega) c, fun q hq => o31 q (by omega), d2.trans c2, ⟨by rw [o30 9 (by omega), o 0 0 (by omega) (by omega) (by omega)]; exact h.2.2.1.1, by rw [o 0 0 (by omega) (by omega) (by omega)], o30 12 (by omega)⟩, o30 1 (by omega), o30 24 (by omega), o30 25 (by omega)⟩ ?_
  have ok : ∀ g, 4 ≤ g → g ≤ 14 → g ≠ 9 → g ≠ 10 → σ2.1 g 0 = σ.1 g 0 := fun g a b c d => o g 0 (by unfold keepG; omega) (by omega) (by omega)
  refine ca.pres (by rw [ok 4 (by omega) (by omega) (by omega) (by omega)]) (by rw [ok 4 (by omega) (by omega) (by omega) (by omega)]) (ok 14 (by omega) (by omega) (by omega) (by omega)) (o31 0 (by omega)) (fun q hq => o31 q (by omega)) ?_ (fun p hp' => ?_)
  · rw [ok 4 (by omega) (by omega) (by omega) (by omega), ok 8 (by omega) (by omega) (by omega) (by omega), ok 11 (by omega) (by omega) (by omega) (by omega), ok 12 (by omega) (by omega) (by omega) (by omega)]
    refine ca.2.2.1.rp hp (fun i hi => ?_) (fun p hp' => ?_) (fun q a b => o31 _ (by omega)) hN
    · rw [d1 9 0 (by unfold keepG; omega) (by omega)]; exact c9 i hi
    · rw [show 0 + 1 + p = 1 + p by omega]; exact d31 p hp'
  · rw [d1 10 0 (by unfold keepG; omega) (by omega), c10 p hp', show 0 + 1 + p = 1 + p by omega, d31 p hp']
theorem op_lie {n : Nat} {σ : St} (a1 : Int32) (hn : 2000 ≤ n) (h : RR σ) : ∃ r σ1 σ2, F_Tent_lie n a1 σ = some (r, σ1) ∧ F_Mod_lie n a1 σ1 = some (r, σ2) ∧ RR σ2 := by
  obtain ⟨V, hc, hm⟩ := h.2.2.2.view
  have hN := hc.1.1
  have h1 := hc.2.1
  have m1 := hm.2.1
  have hn' : 10 < n := by omega
  unfold F_Tent_lie F_Mod_lie
  rcases ix_of 6 (by decide) a1 with g | ⟨r, hr, rfl⟩
  · exact ⟨-1, σ, σ, by rw [rfp_out g]; rfl, by rw [isRow_out g]; rfl, h⟩
  · rw [isRow_in hr]
    simp only [obind, b2_some, bs_eq, if_neg one_ne]
    by_cases gN : vN V = 0
    · exact ⟨-4, σ, σ, by rw [rfp_none hr (by rw [h1, gN])]; rfl, by rw [m1, if_pos (by rw [gN]; rfl)], h⟩
    · have g0 : ¬ nI (vN V) = 0 := by rw [nI_z (by omega)]; exact gN
      obtain ⟨e1, e2⟩ := h.1.2 r hr
      have f30 : ∀ k, k < 6 → (cF k σ).1 30 0 = σ.1 30 0 := fun k hk => by unfold cF; rw [si_ne (by omega), si_ne (by omega)]
      have f35 : ∀ k, k < 6 → (cF k σ).1 35 0 = σ.1 35 0 := fun k hk => by unfold cF; rw [si_ne (by omega), si_ne (by omega)]
      have f36 : ∀ k, k < 6 → (cF k σ).1 36 0 = σ.1 36 0 := fun k hk => by unfold cF; rw [si_ne (by omega), si_ne (by omega)]
      rcases e2 with e2 | ⟨z, hz, e2, e3⟩
      · refine ⟨-3, cF 1 σ, mF 1 (cF 1 σ), by rw [rfp_miss hr h1 hN gN e2]; rfl, ?_, h.found (by omega)⟩
        rw [f30 1 (by omega), m1, if_neg g0, ald_35 hr, f35 1 (by omega), e1, e2]
        simp only [obind, b2_some, bs_eq]
        rw [if_neg (by decide), show (1 : Int32) = nI 1 from rfl, find_eq (by omega)]
        rfl
      · by_cases gz : z = vN V
        · subst gz
          have he : ∀ p, p < vN V → σ.1 36 0 (40 * r + p) = σ.1 3 0 (40 * r + p) := fun p hp => (e3 p hp).1
          rw [rfp_ok hr h1 hN gN e2]
          simp only [obind, b2_some, bs_eq, if_true]
          rw [holds_eq hN hr h1 h.1.1 e2 hn']
          simp only [obind, b2_some, bs_eq]
          by_cases gf : cntS (fun p => σ.1 3 0 (40 * r + p)) (vN V) (vN V) = vN V
          · obtain ⟨P, W, pw, eW⟩ := perm_of hN gf
            obtain ⟨w, w1, w2, w3, w4⟩ := rdFrom_eq (n := n) hN hr h.1.1 e2 eW hn'
            obtain ⟨y, y1, y2, y3, y4, y5⟩ := lay_by (n := n) (t := 0) (N := vN V) (g1 := 19) (u1 := 0) (σ := w) hN (by rw [w2 4 0 (by omega)]; exact h1) (by omega) rfl w4 pw hn'
            have yo : ∀ g u, ¬ ((g = 18 ∨ g = 19 ∨ g = 9 ∨ g = 10) ∧ u = 0) → y.1 g u = σ.1 g u := fun g u a => by rw [y2 g u (by omega), w2 g u (by omega)]
            have key := fill_gen (fun k i s => F_Mod_lie_69 n k (nI r) (nI i) s) (fun s => some ((1 : Int32), s)) (fun s => s.1 36 0 = σ.1 36 0 ∧ s.1 30 0 = σ.1 30 0) 31 0 1 (vN V) (fun i => nI (W i)) (fun k s hs => by
              rw [F_Mod_lie_69, hs.2, m1, if_pos (by simp (disch := omega) only [nI_leI]; omega)]) (fun i s hi hs => by
              rw [si_ne (by omega), si_ne (by omega)]; exact hs) (fun k i s hi hs => by
              rw [F_Mod_lie_69, hs.2, m1, if_neg (by simp (disch := omega) only [nI_leI]; omega), show (40 : Int32) = nI 40 from rfl, pk_mul, nI_add, ald_36 (by omega), hs.1, he i hi, eW i hi]
              simp only [obind, b2_some, bs_eq]
              rw [show (1 : Int32) = nI 1 from rfl, nI_add, ast_31 (by omega)]
              simp only [obind, b2_some, bs_eq]
              rw [nI_add]) n 0 y (by omega) (by omega) ⟨yo 36 0 (by omega), yo 30 0 (by omega)⟩
            simp only [Nat.add_zero] at key
            refine ⟨1, y, sa y 31 0 (fun j => if 1 ≤ j ∧ j < 1 + vN V then nI (W (j - 1)) else y.1 31 0 j), ?_, ?_, ?_⟩
            · rw [if_pos gf, if_neg one_ne, h1, w1]
              simp only [obind, b2_some, bs_eq]
              rw [y1]
              rfl
            · rw [yo 30 0 (by omega), m1, if_neg g0, ald_35 hr, yo 35 0 (by omega), e1, e2]
              simp only [obind, b2_some, bs_eq]
              rw [if_pos (nI_ge0 (by omega)), if_pos trivial, isOrd_eq (e := fun p => σ.1 3 0 (40 * r + p)) hN hr (by rw [yo 30 0 (by omega)]; exact m1) (fun p hp => by rw [yo 36 0 (by omega)]; exact he p hp) hn', if_pos gf]
              simp only [obind, b2_some, bs_eq, if_neg one_ne]
              exact key
            · refine h.lieW (h.N hc) hN m1 pw (fun g u a b => yo g u (by unfold keepG at a; omega)) (y3.trans w3) y5 y4 (fun g u a b => sa_ne b) rfl (fun j a => by rw [sa_ne (by omega)]) (fun p hp => ?_) (fun q a => ?_)
              · rw [sa_at, if_pos (by omega), show 1 + p - 1 = p by omega]
              · rw [sa_at]
                by_cases z : 1 ≤ q ∧ q < 1 + vN V
                · omega
                · rw [if_neg z]
          · refine ⟨-3, cF 3 σ, mF 3 (cF 3 σ), ?_, ?_, h.found (by omega)⟩
            · rw [if_neg gf, if_pos rfl, show (3 : Int32) = nI 3 from rfl, found_eq (by omega)]
              rfl
            · rw [f30 3 (by omega), m1, if_neg g0, ald_35 hr, f35 3 (by omega), e1, e2]
              simp only [obind, b2_some, bs_eq]
              rw [if_pos (nI_ge0 (by omega)), if_pos trivial, isOrd_eq (e := fun p => σ.1 3 0 (40 * r + p)) hN hr (by rw [f30 3 (by omega)]; exact m1) (fun p hp => by rw [f36 3 (by omega)]; exact he p hp) hn', if_neg gf]
              simp only [obind, b2_some, bs_eq, if_true]
              rw [show (3 : Int32) = nI 3 from rfl, find_eq (by omega)]
              rfl
        · refine ⟨-3, cF 5 σ, mF 5 (cF 5 σ), by rw [rfp_size hr h1 hN gN e2 hz gz]; rfl, ?_, h.found (by omega)⟩
          rw [f30 5 (by omega), m1, if_neg g0, ald_35 hr, f35 5 (by omega), e1, e2]
          simp only [obind, b2_some, bs_eq]
          rw [if_pos (nI_ge0 (by omega)), if_neg (fun e => gz (nI_inj (by omega) (by omega) e)), show (5 : Int32) = nI 5 from rfl, find_eq (by omega)]
          rfl
theorem fit_in {d : Int32} {r : Nat} {D : Int} (hr : r ≤ 2) (hd : d.toInt = D) : (F_Mod_in d.toInt64 ((-(nI r)).toInt64) (nI r).toInt64) = some (if -(r : Int) ≤ D ∧ D ≤ r then 1 else 0) := by rw [in_nI d r hr, hd]
def hwB (V : Vw) (r i p : Nat) : Bool := !vD V (vW V p) && (decide (p ≠ vP V i) && (decide (p ≤ vP V i + r) && decide (vP V i ≤ p + r)))
def okE (v : Int32) (b : Bool) : Bool := decide (v = -9) || decide (v = if b = true then 1 else 0)
def allB (c : Nat → Bool) : Nat → Bool
  | 0 => true
  | k + 1 => allB c k && c k
theorem allB_stop {c : Nat → Bool} {k : Nat} (h : allB c k = false) : ∀ m, allB c (k + m) = false
  | 0 => h
  | m + 1 => by rw [← Nat.add_assoc, allB, allB_stop h m]; rfl
theorem b1and (b : Bool) : ((if b = true then (1 : Int32) else 0) &&& 1) = if b = true then 1 else 0 := by cases b <;> rfl
theorem b0x (b : Bool) (y : Int32) : (if (if b = true then (1 : Int32) else 0) = 0 then 0 else y) = if b = true then y else 0 := by cases b <;> simp
section WH
variable {n r i : Nat} {V : Vw} {σ : St} {e : Nat → Int32}
theorem fitC (hc : CV 0 V σ) {a : Nat} (ha : a < 6) (hl : σ.1 1 0 0 = nI 40) (hs : σ.1 2 0 a = nI (vN V)) (he : ∀ p, p < vN V → σ.1 3 0 (40 * a + p) = e p) (hr : r ≤ 2) (hi : i < vN V) (hn : 10 < n) : F_Tent_fitsWhatWasHeard n (nI a) (nI i) (nI r) σ = some (if allB (fun p => okE (e p) (hwB V r i p)) (vN V) = true then 1 else 0) := by
  have hN := hc.1.1
  have h1 := hc.2.1
  unfold F_Tent_fitsWhatWasHeard
  have key : ∀ k p, p ≤ vN V → vN V < k + p → allB (fun p => okE (e p) (hwB V r i p)) p = true → F_Tent_fitsWhatWasHeard_3 n k (nI a) (nI i) (nI r) (nI p) σ = some (if allB (fun p => okE (e p) (hwB V r i p)) (vN V) = true then 1 else 0) := by
    intro k
    induction k with
    | zero => intro p x1 x2; omega
    | succ k ih =>
      intro p x1 x2 hp
      rw [F_Tent_fitsWhatWasHeard_3, h1]
      by_cases g : p = vN V
      · subst g
        rw [if_pos (by simp (disch := omega) only [nI_leI]; omega), if_pos hp]
      · have hw := hc.1.2.2.1 p (by omega)
        have c6 := (hc.2.2.1 p (by omega)).2.2.2.2.2.1
        have c3 := (hc.2.2.1 _ hw.1).2.2.1
        have c7 := (hc.2.2.1 _ hw.1).2.2.2.2.2.2
        have d7 := (hc.2.2.1 i hi).2.2.2.2.2.2
        have hPi := (hc.1.2.1 i hi).1
        rw [if_neg (by simp (disch := omega) only [nI_leI]; omega), get_in (t := 0) (lim := 40) ha hl hs (by omega) (by decide) (show p < vN V by omega), he p (by omega), ald_10 (by omega), c6]
        simp only [obind, b2_some, bs_eq]
        have hh : F_Camp_hearsWithin 0 (nI (vW V p)) (nI i) (nI r) σ = some (if hwB V r i p = true then 1 else 0) := by
          unfold F_Camp_hearsWithin
          rw [ald_6 (by omega)]
          simp only [obind, b2_some, bs_eq, isOf2, ← c3]
          rw [hw.2] at c7
          rw [isWithin_eq (a := p) (b := vP V i) (r := r) (by omega) (by omega) c7 d7 (by omega) (by omega) (by omega)]
          unfold hwB
          cases vD V (vW V p)
          · simp only [Bool.false_eq_true, if_false, if_true, obind, b2_some, bs_eq, Bool.not_false, Bool.true_and]
            by_cases gg : p ≠ vP V i ∧ p ≤ vP V i + r ∧ vP V i ≤ p + r
            · rw [if_pos gg, if_neg one_ne, if_pos (by simp only [Bool.and_eq_true, decide_eq_true_eq]; exact gg)]
            · rw [if_neg gg, if_pos rfl, if_neg (by simp only [Bool.and_eq_true, decide_eq_true_eq]; exact gg)]
          · simp [one_ne]
        rw [hh]
        simp only [obind, b2_some, bs_eq, b01, F_Tent_fitsWhatWasHeard_54, F_Tent_fitsWhatWasHeard_72, nI_1]
        by_cases ok : okE (e p) (hwB V r i p) = true
        · have h2 : allB (fun p => okE (e p) (hwB V r i p)) (p + 1) = true := by
            show (allB _ p && okE (e p) (hwB V r i p)) = true
            rw [hp, ok]; rfl
          have := ih (p + 1) (by omega) (by omega) h2
          unfold okE at ok
          simp only [Bool.or_eq_true, decide_eq_true_eq] at ok
          rcases ok with ok | ok
          · rw [if_pos ok]; exact this
          · by_cases g9 : e p = -9
            · rw [if_pos g9]; exact this
            · rw [if_neg g9, if_pos ok]; exact this
        · have h2 : allB (fun p => okE (e p) (hwB V r i p)) (p + 1) = false := by
            show (allB _ p && okE (e p) (hwB V r i p)) = false
            rw [hp]
            simpa using ok
          have h3 := allB_stop h2 (vN V - (p + 1))
          rw [show p + 1 + (vN V - (p + 1)) = vN V by omega] at h3
          rw [h3]
          unfold okE at ok
          simp only [Bool.or_eq_true, decide_eq_true_eq] at ok
          rw [if_neg (fun z => ok (Or.inl z)), if_neg (fun z => ok (Or.inr z))]
          rfl
  exact key n 0 (by omega) (by omega) rfl
theorem fitM (hm : MW V σ) (h25 : σ.1 30 0 25 = -9) {a : Nat} (ha : a < 6) (he : ∀ p, p < vN V → σ.1 36 0 (40 * a + p) = e p) (hv : ∀ p, p < vN V → e p = 0 ∨ e p = 1 ∨ e p = -9) (hr : r ≤ 2) (hi : i < vN V) (hn : 10 < n) : F_Mod_fits n (nI a) (nI i) (nI r) σ = some (if allB (fun p => okE (e p) (hwB V r i p)) (vN V) = true then 1 else 0) := by
  have hN := hm.1.1
  have m1 := hm.2.1
  unfold F_Mod_fits
  refine loop_gen (fun q p (s : Bool) => F_Mod_fits_6 n q (nI a) (nI i) (nI r) (if s = true then 1 else 0) (nI p) σ) (vN V) (fun p => allB (fun p => okE (e p) (hwB V r i p)) p) _ (fun q => ?_) (fun q p hp => ?_) n 0 (by omega) (by omega)
  · rw [F_Mod_fits_6, m1, if_pos (by simp (disch := omega) only [nI_leI]; omega), b1and]
  · have hw := hm.1.2.2.1 p hp
    have c6 := (hm.2.2.1 p hp).2.2.2.2.2
    have c3 := (hm.2.2.1 _ hw.1).2.2.1
    have hPi := (hm.1.2.1 i hi).1
    have k1 : kd σ (vW V p) = σ.1 32 0 (vW V p) := by
      unfold kd
      rw [h25, if_neg (nI_n9 (by omega))]
    rw [k1] at c3
    have ed : (nI p - nI (vP V i)).toInt = (p : Int) - vP V i := pk_sub_toInt (by omega) (by omega)
    have tail : ∀ b : Bool, b = hwB V r i p → F_Mod_fits_67 n (F_Mod_fits_6 n q) (nI a) (nI i) (nI r) (if allB (fun p => okE (e p) (hwB V r i p)) p = true then 1 else 0) (nI p) (if b = true then 1 else 0) σ = F_Mod_fits_6 n q (nI a) (nI i) (nI r) (if allB (fun p => okE (e p) (hwB V r i p)) (p + 1) = true then 1 else 0) (nI (p + 1)) σ := by
      intro b hb
      unfold F_Mod_fits_67 F_Mod_fits_115 F_Mod_fits_111 F_Mod_fits_108 F_Mod_fits_116
      rw [show (40 : Int32) = nI 40 from rfl, pk_mul, nI_add, ald_36 (by omega), he p hp, nI_1]
      simp only [obind, b2_some, bs_eq, allB]
      by_cases hA : allB (fun p => okE (e p) (hwB V r i p)) p = true
      case neg =>
        have hA : allB (fun p => okE (e p) (hwB V r i p)) p = false := by simpa using hA
        simp only [hA, Bool.false_eq_true, if_false, if_true, Bool.false_and]
      case pos =>
        simp only [hA, if_true, if_neg one_ne, Bool.true_and]
        rw [← hb]
        unfold okE
        rcases hv p hp with z | z | z <;> rw [z] <;> cases b <;> simp <;> rfl
    rw [F_Mod_fits_6, m1, if_neg (by simp (disch := omega) only [nI_leI]; omega), mw_place hm hi hn]
    simp only [obind, b2_some, bs_eq]
    have eq0 : (nI p - nI (vP V i) = 0) ↔ p = vP V i := by rw [i32_eq, ed, z0_t]; omega
    by_cases g : p = vP V i
    · rw [if_pos (eq0.mpr g)]
      unfold F_Mod_fits_66
      exact tail false (by unfold hwB; simp [g])
    · rw [if_neg (fun z => g (eq0.mp z)), fit_in hr ed]
      simp only [obind, b2_some, bs_eq]
      by_cases g2 : -(r : Int) ≤ (p : Int) - vP V i ∧ (p : Int) - vP V i ≤ r
      · rw [if_pos g2, if_neg one_ne, ald_42 (by omega), c6]
        simp only [obind, b2_some, bs_eq]
        rw [ald_32 (by omega)]
        simp only [obind, b2_some, bs_eq, hearsNone_eq, ← c3]
        have hb : (!vD V (vW V p)) = hwB V r i p := by
          unfold hwB
          have e1 : decide (p ≠ vP V i) = true := by simpa using g
          have e2 : decide (p ≤ vP V i + r) = true := by simp; omega
          have e3 : decide (vP V i ≤ p + r) = true := by simp; omega
          rw [e1, e2, e3]
          simp
        have := tail _ hb
        cases hD : vD V (vW V p)
        · rw [hD] at this
          simpa using this
        · rw [hD] at this
          simpa [one_ne] using this
      · rw [if_neg g2, if_pos rfl]
        unfold F_Mod_fits_66
        refine tail false ?_
        unfold hwB
        by_cases e2 : p ≤ vP V i + r
        · have e3 : ¬ vP V i ≤ p + r := by omega
          simp [e3]
        · simp [e2]
end WH
def heardB (v : Int32) : Bool := decide (v = 0) || (decide (v = 1) || decide (v = -9))
theorem op_whose {n : Nat} {σ : St} (a1 : Int32) (hn : 2000 ≤ n) (h : RR σ) : ∃ r σ1 σ2, F_Tent_whose n a1 σ = some (r, σ1) ∧ F_Mod_whose n a1 σ1 = some (r, σ2) ∧ RR σ2 := by
  obtain ⟨V, hc, hm⟩ := h.2.2.2.view
  have hN := hc.1.1
  have h1 := hc.2.1
  have m1 := hm.2.1
  have hn' : 10 < n := by omega
  unfold F_Tent_whose F_Mod_whose
  rcases ix_of 6 (by decide) a1 with g | ⟨r, hr, rfl⟩
  · exact ⟨-1, σ, σ, by rw [rfp_out g]; rfl, by rw [isRow_out g]; rfl, h⟩
  · rw [isRow_in hr]
    simp only [obind, b2_some, bs_eq, if_neg one_ne]
    by_cases gN : vN V = 0
    · exact ⟨-4, σ, σ, by rw [rfp_none hr (by rw [h1, gN])]; rfl, by rw [m1, if_pos (by rw [gN]; rfl)], h⟩
    · have g0 : ¬ nI (vN V) = 0 := by rw [nI_z (by omega)]; exact gN
      obtain ⟨e1, e2⟩ := h.1.2 r hr
      have f30 : ∀ k, k < 6 → (cF k σ).1 30 0 = σ.1 30 0 := fun k hk => by unfold cF; rw [si_ne (by omega), si_ne (by omega)]
      have f35 : ∀ k, k < 6 → (cF k σ).1 35 0 = σ.1 35 0 := fun k hk => by unfold cF; rw [si_ne (by omega), si_ne (by omega)]
      have f36 : ∀ k, k < 6 → (cF k σ).1 36 0 = σ.1 36 0 := fun k hk => by unfold cF; rw [si_ne (by omega), si_ne (by omega)]
      rcases e2 with e2 | ⟨z, hz, e2, e3⟩
      · refine ⟨-3, cF 1 σ, mF 1 (cF 1 σ), by rw [rfp_miss hr h1 hN gN e2]; rfl, ?_, h.found (by omega)⟩
        rw [f30 1 (by omega), m1, if_neg g0, ald_35 hr, f35 1 (by omega), e1, e2]
        simp only [obind, b2_some, bs_eq]
        rw [if_neg (by decide), show (1 : Int32) = nI 1 from rfl, find_eq (by omega)]
        rfl
      · by_cases gz : z = vN V
        · subst gz
          have he : ∀ p, p < vN V → σ.1 36 0 (40 * r + p) = σ.1 3 0 (40 * r + p) := fun p hp => (e3 p hp).1
          rw [rfp_ok hr h1 hN gN e2]
          simp only [obind, b2_some, bs_eq, if_true]
          generalize hE : (fun p => σ.1 3 0 (40 * r + p)) = e
          have hE' : ∀ p, σ.1 3 0 (40 * r + p) = e p := fun p => congrFun hE p
          have heard : ∀ s : St, s.1 30 0 = σ.1 30 0 → s.1 36 0 = σ.1 36 0 → F_Mod_areHeard n (nI r) s = some (if allB (fun p => heardB (e p)) (vN V) = true then 1 else 0) := by
            intro s hs1 hs2
            unfold F_Mod_areHeard
            refine loop_gen (fun q p (b : Bool) => F_Mod_areHeard_4 n q (nI r) (if b = true then 1 else 0) (nI p) s) (vN V) (fun p => allB (fun p => heardB (e p)) p) _ (fun q => ?_) (fun q p hp => ?_) n 0 (by omega) (by omega)
            · rw [F_Mod_areHeard_4, hs1, m1, if_pos (by simp (disch := omega) only [nI_leI]; omega), b1and]
            · rw [F_Mod_areHeard_4, hs1, m1, if_neg (by simp (disch := omega) only [nI_leI]; omega), show (40 : Int32) = nI 40 from rfl, pk_mul, nI_add, ald_36 (by omega), hs2, he p hp, hE']
              simp only [obind, b2_some, bs_eq, F_Mod_areHeard_51, F_Mod_areHeard_47, F_Mod_areHeard_52, nI_1, allB]
              by_cases hA : allB (fun p => heardB (e p)) p = true
              case neg =>
                have hA : allB (fun p => heardB (e p)) p = false := by simpa using hA
                simp only [hA, Bool.false_eq_true, if_false, if_true, Bool.false_and]
              case pos =>
                simp only [hA, if_true, if_neg one_ne, Bool.true_and]
                unfold heardB
                by_cases z0 : e p = 0
                · simp [z0]
                · by_cases z1 : e p = 1
                  · simp [z1]
                  · by_cases z9 : e p = -9
                    · simp [z9]
                    · simp [z0, z1, z9]
          by_cases gh : allB (fun p => heardB (e p)) (vN V) = true
          · have hv : ∀ p, p < vN V → e p = 0 ∨ e p = 1 ∨ e p = -9 := by
              have aux : ∀ k, allB (fun p => heardB (e p)) k = true → ∀ p, p < k → heardB (e p) = true := by
                intro k
                induction k with
                | zero => intro _ p hp; omega
                | succ k ih =>
                  intro hk p hp
                  have hk' : (allB (fun p => heardB (e p)) k && heardB (e k)) = true := hk
                  rw [Bool.and_eq_true] at hk'
                  by_cases z : p = k
                  · rw [z]; exact hk'.2
                  · exact ih hk'.1 p (by omega)
              intro p hp
              have := aux _ gh p hp
              unfold heardB at this
              simpa using this
            have susp : ∀ (s : St) (q : Nat), CV 0 V s → s.1 1 0 = σ.1 1 0 → s.1 2 0 = σ.1 2 0 → s.1 3 0 = σ.1 3 0 → q ≤ 2 → F_Tent_suspects n (nI r) (nI q) s = some (nI (msk (fun i => allB (fun p => okE (e p) (hwB V q i p)) (vN V)) (vN V))) := by
              intro s q hs x1 x2 x3 hq
              unfold F_Tent_suspects
              refine loop_gen (fun k i (b : Nat) => F_Tent_suspects_5 n k (nI r) (nI q) (nI b) (nI i) s) (vN V) (fun i => msk (fun i => allB (fun p => okE (e p) (hwB V q i p)) (vN V)) i) _ (fun k => ?_) (fun k i hi => ?_) n 0 (by omega) (by omega)
              · rw [F_Tent_suspects_5, hs.2.1, if_pos (by simp (disch := omega) only [nI_leI]; omega)]
              · rw [F_Tent_suspects_5, hs.2.1, if_neg (by simp (disch := omega) only [nI_leI]; omega), fitC (e := e) hs hr (by rw [x1]; exact h.1.1) (by rw [x2]; exact e2) (fun p hp => by rw [x3]; exact hE' p) hq hi hn']
                simp only [obind, b2_some, bs_eq, F_Tent_suspects_35, nI_1]
                rw [← msk_step (fun i => allB (fun p => okE (e p) (hwB V q i p)) (vN V)) (h := i) (by omega)]
                congr 1
                cases allB (fun p => okE (e p) (hwB V q i p)) (vN V)
                · simp
                · simp [one_ne]
            generalize hK1 : msk (fun i => allB (fun p => okE (e p) (hwB V 1 i p)) (vN V)) = K1 at *
            generalize hK2 : msk (fun i => allB (fun p => okE (e p) (hwB V 2 i p)) (vN V)) = K2 at *
            have hc' : CV 0 V (si σ 0 0 10 (nI (K2 (vN V)))) := hc.cg (fun g _ _ => si_ne (by omega))
            have hm' : MU V (si σ 0 0 10 (nI (K2 (vN V)))) := hm.cgC (fun g _ _ => si_ne (by omega))
            have hL := hm'.ly
            refine ⟨nI (K1 (vN V)), si σ 0 0 10 (nI (K2 (vN V))), si (lay (si σ 0 0 10 (nI (K2 (vN V))))) 30 0 9 (nI (K2 (vN V))), ?_, ?_, h.lyT _⟩
            · refine loop_gen (fun k p (_ : Unit) => F_Tent_whose_14 n k (nI r) (nI p) σ) (vN V) (fun _ => ()) _ (fun k => ?_) (fun k p hp => ?_) n 0 (by omega) (by omega)
              · rw [F_Tent_whose_14, h1, if_pos (by simp (disch := omega) only [nI_leI]; omega), show F_Camp_reach 4 = some (nI 2) from rfl, show F_Camp_reach 1 = some (nI 1) from rfl]
                simp only [obind, b2_some, bs_eq]
                rw [susp σ 2 hc rfl rfl rfl (by omega), hK2]
                simp only [obind, b2_some, bs_eq]
                rw [susp _ 1 hc' (si_ne (by omega)) (si_ne (by omega)) (si_ne (by omega)) (by omega), hK1]
                rfl
              · rw [F_Tent_whose_14, h1, if_neg (by simp (disch := omega) only [nI_leI]; omega), get_in (t := 0) (lim := 40) hr h.1.1 e2 (by omega) (by decide) hp, hE']
                simp only [obind, b2_some, bs_eq, F_Tent_whose_60, nI_1]
                rcases hv p hp with z | z | z
                · rw [if_pos z]
                · by_cases z0 : e p = 0
                  · rw [if_pos z0]
                  · rw [if_neg z0, if_pos z]
                · by_cases z0 : e p = 0
                  · rw [if_pos z0]
                  · rw [if_neg z0]
                    by_cases z1 : e p = 1
                    · rw [if_pos z1]
                    · rw [if_neg z1, if_pos z]
            · rw [hm'.2.1, if_neg g0, ald_35 hr, si_ne (by omega), e1, e2]
              simp only [obind, b2_some, bs_eq]
              rw [if_pos (nI_ge0 (by omega)), if_pos trivial, heard _ (si_ne (by omega)) (si_ne (by omega)), if_pos gh, layNow_eq hn']
              simp only [obind, b2_some, bs_eq, if_neg one_ne]
              have l25 : ∀ v, (si (lay (si σ 0 0 10 (nI (K2 (vN V))))) 30 0 9 v).1 30 0 25 = -9 := fun v => by rw [si_g, if_neg (by omega), lay_30 (by omega) (by omega)]; exact hm'.2.2.2.2.2.2.2.2
              have K10 : K1 0 = 0 := by rw [← hK1]; rfl
              have K20 : K2 0 = 0 := by rw [← hK2]; rfl
              have goal0 : F_Mod_whose_80 n n (nI r) (nI (K1 0)) (nI 0) (si (lay (si σ 0 0 10 (nI (K2 (vN V))))) 30 0 9 (nI (K2 0))) = some (nI (K1 (vN V)), si (lay (si σ 0 0 10 (nI (K2 (vN V))))) 30 0 9 (nI (K2 (vN V)))) → F_Mod_whose_80 n n (nI r) 0 0 (si (lay (si σ 0 0 10 (nI (K2 (vN V))))) 30 0 9 0) = some (nI (K1 (vN V)), si (lay (si σ 0 0 10 (nI (K2 (vN V))))) 30 0 9 (nI (K2 (vN V)))) := by
                rw [K10, K20]
                exact id
              refine goal0 (loop_gen (fun k i (b : Nat × Nat) => F_Mod_whose_80 n k (nI r) (nI b.1) (nI i) (si (lay (si σ 0 0 10 (nI (K2 (vN V))))) 30 0 9 (nI b.2))) (vN V) (fun i => (K1 i, K2 i)) _ (fun k => ?_) (fun k i hi => ?_) n 0 (by omega) (by omega))
              · rw [F_Mod_whose_80, (hL.tell _).2.1, if_pos (by simp (disch := omega) only [nI_leI]; omega)]
              · have e36 : ∀ v, ∀ p, p < vN V → (si (lay (si σ 0 0 10 (nI (K2 (vN V))))) 30 0 9 v).1 36 0 (40 * r + p) = e p := fun v p hp => by rw [si_ne (by omega), lay_ne (by omega) (by omega) (by omega), si_ne (by omega), he p hp, hE']
                rw [F_Mod_whose_80, (hL.tell _).2.1, if_neg (by simp (disch := omega) only [nI_leI]; omega), show (1 : Int32) = nI 1 from rfl, fitM (e := e) (hL.tell _) (l25 _) hr (e36 _) hv (by omega) hi hn']
                simp only [obind, b2_some, bs_eq, F_Mod_whose_106]
                rw [show (2 : Int32) = nI 2 from rfl, fitM (e := e) (hL.tell _) (l25 _) hr (e36 _) hv (by omega) hi hn']
                simp only [obind, b2_some, bs_eq, F_Mod_whose_130, si_si, si_g, and_self, if_true]
                have s1 := msk_step (fun i => allB (fun p => okE (e p) (hwB V 1 i p)) (vN V)) (h := i) (by omega)
                have s2 := msk_step (fun i => allB (fun p => okE (e p) (hwB V 2 i p)) (vN V)) (h := i) (by omega)
                rw [hK1] at s1
                rw [hK2] at s2
                rw [← s1, ← s2]
                simp only [show nI 1 = (1 : Int32) from rfl, b0x, nI_1]
          · have gh : allB (fun p => heardB (e p)) (vN V) = false := by simpa using gh
            refine ⟨-3, cF 3 σ, mF 3 (cF 3 σ), ?_, ?_, h.found (by omega)⟩
            · have key : ∀ k p, p ≤ vN V → vN V < k + p → allB (fun p => heardB (e p)) p = true → F_Tent_whose_14 n k (nI r) (nI p) σ = some (-3, cF 3 σ) := by
                intro k
                induction k with
                | zero => intro p x1 x2; omega
                | succ k ih =>
                  intro p x1 x2 hp
                  have hne : p ≠ vN V := fun z => by rw [z, gh] at hp; exact absurd hp (by decide)
                  rw [F_Tent_whose_14, h1, if_neg (by simp (disch := omega) only [nI_leI]; omega), get_in (t := 0) (lim := 40) hr h.1.1 e2 (by omega) (by decide) (show p < vN V by omega), hE']
                  simp only [obind, b2_some, bs_eq, F_Tent_whose_60, nI_1]
                  by_cases z0 : e p = 0
                  · rw [if_pos z0]
                    exact ih (p + 1) (by omega) (by omega) (by show (allB _ p && heardB (e p)) = true; rw [hp, z0]; rfl)
                  · rw [if_neg z0]
                    by_cases z1 : e p = 1
                    · rw [if_pos z1]
                      exact ih (p + 1) (by omega) (by omega) (by show (allB _ p && heardB (e p)) = true; rw [hp, z1]; rfl)
                    · rw [if_neg z1]
                      by_cases z9 : e p = -9
                      · rw [if_pos z9]
                        exact ih (p + 1) (by omega) (by omega) (by show (allB _ p && heardB (e p)) = true; rw [hp, z9]; rfl)
                      · rw [if_neg z9, show (3 : Int32) = nI 3 from rfl, found_eq (by omega)]
                        rfl
              exact key n 0 (by omega) (by omega) rfl
            · rw [f30 3 (by omega), m1, if_neg g0, ald_35 hr, f35 3 (by omega), e1, e2]
              simp only [obind, b2_some, bs_eq]
              rw [if_pos (nI_ge0 (by omega)), if_pos trivial, heard _ (f30 3 (by omega)) (f36 3 (by omega)), gh]
              simp only [obind, b2_some, bs_eq, Bool.false_eq_true, if_false, if_true]
              rw [show (3 : Int32) = nI 3 from rfl, find_eq (by omega)]
              rfl
        · refine ⟨-3, cF 5 σ, mF 5 (cF 5 σ), by rw [rfp_size hr h1 hN gN e2 hz gz]; rfl, ?_, h.found (by omega)⟩
          rw [f30 5 (by omega), m1, if_neg g0, ald_35 hr, f35 5 (by omega), e1, e2]
          simp only [obind, b2_some, bs_eq]
          rw [if_pos (nI_ge0 (by omega)), if_neg (fun e => gz (nI_inj (by omega) (by omega) e)), show (5 : Int32) = nI 5 from rfl, find_eq (by omega)]
          rfl
