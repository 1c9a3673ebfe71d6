def fd (l : Int64) (f : Nat → Int32) : Nat → Int64
  | 0 => l
  | k + 1 => 31 * fd l f k + (f k).toInt64
theorem fd_cong {l : Int64} {f g : Nat → Int32} : ∀ {k : Nat}, (∀ j, j < k → f j = g j) → fd l f k = fd l g k
  | 0, _ => rfl
  | k + 1, h => by
    show 31 * fd l f k + (f k).toInt64 = 31 * fd l g k + (g k).toInt64
    rw [fd_cong (fun j hj => h j (by omega)), h k (by omega)]
def dg (sz : Nat → Int32) (it : Nat → Nat → Int32) (l : Int64) : Nat → Int64
  | 0 => l
  | r + 1 => fd (31 * dg sz it l r + (sz r).toInt64) (it r) (sz r).toNatClampNeg
theorem m1_clamp : (-1 : Int32).toNatClampNeg = 0 := by decide
section DG
variable {n t cn lim gs gi : Nat} {ok : Int32 → Prop} {σ s : St}
theorem dgOn_eq (h : Shl t gs gi cn lim ok σ) (hl : lenOf 2 t = cn) (hb : lim * cn ≤ 240) (hlim : lim ≤ 60) (hn : 100 < n) (l : Int64) : F_Shelf_digestOn n t l σ = some (dg (σ.1 2 t) (fun r j => σ.1 3 t (lim * r + j)) l cn) := by
  have hc := len2 t
  unfold F_Shelf_digestOn
  refine loop_gen (fun q r (b : Int64) => F_Shelf_digestOn_5 n t q b (nI r) σ) cn (dg (σ.1 2 t) (fun r j => σ.1 3 t (lim * r + j)) l) _ (fun q => ?_) (fun q r hr => ?_) n 0 (by omega) (by omega)
  · rw [F_Shelf_digestOn_5, hl, if_pos (by simp (disch := omega) only [nI_leI]; omega)]
  · rw [F_Shelf_digestOn_5, hl, if_neg (by simp (disch := omega) only [nI_leI]; omega), sizeOf_in (by omega)]
    simp only [obind, b2_some, bs_eq]
    obtain ⟨z, hz, e1, e2⟩ : ∃ z, z ≤ lim ∧ (σ.1 2 t r).toNatClampNeg = z ∧ (σ.1 2 t r = nI z ∨ (z = 0 ∧ σ.1 2 t r = -1)) := by
      rcases (h.2 r hr).2 with e | ⟨z, hz, e, -⟩
      · exact ⟨0, by omega, by rw [e]; exact m1_clamp, Or.inr ⟨rfl, e⟩⟩
      · exact ⟨z, hz, by rw [e, nI_clamp (by omega)], Or.inl e⟩
    show _ = F_Shelf_digestOn_5 n t q (fd (31 * dg (σ.1 2 t) (fun r j => σ.1 3 t (lim * r + j)) l r + (σ.1 2 t r).toInt64) (fun j => σ.1 3 t (lim * r + j)) (σ.1 2 t r).toNatClampNeg) (nI (r + 1)) σ
    rw [e1]
    refine loop_gen (fun q' j (b : Int64) => F_Shelf_digestOn_32 n t (F_Shelf_digestOn_5 n t q) q' b (nI r) (nI j) σ) z (fd (31 * dg (σ.1 2 t) (fun r j => σ.1 3 t (lim * r + j)) l r + (σ.1 2 t r).toInt64) (fun j => σ.1 3 t (lim * r + j))) _ (fun q' => ?_) (fun q' j hj => ?_) n 0 (by omega) (by omega)
    · rw [F_Shelf_digestOn_32, sizeOf_in (by omega)]
      simp only [obind, b2_some, bs_eq]
      rw [if_pos, nI_1]
      rcases e2 with e2 | ⟨e2, e3⟩
      · rw [e2]; simp (disch := omega) only [nI_leI]; omega
      · rw [e3, e2]; decide
    · have e3 : σ.1 2 t r = nI z := by
        rcases e2 with e2 | ⟨e2, -⟩
        · exact e2
        · omega
      rw [F_Shelf_digestOn_32, sizeOf_in (by omega)]
      simp only [obind, b2_some, bs_eq]
      rw [e3, if_neg (by simp (disch := omega) only [nI_leI]; omega), get_in (by omega) h.1 e3 hz (by rw [hl]; exact hb) hj]
      simp only [obind, b2_some, bs_eq, nI_1]
      rfl
end DG
theorem dgM_rows {n : Nat} {σ s : St} (h : Rows σ) (h35 : s.1 35 0 = σ.1 35 0) (h36 : s.1 36 0 = σ.1 36 0) (hn : 100 < n) (l : Int64) : F_Mod_digest_120 n n l 0 s = F_Mod_digest_188 n n (dg (σ.1 2 0) (fun r j => σ.1 3 0 (40 * r + j)) l 6) 0 s := by
  refine loop_gen (fun q r (b : Int64) => F_Mod_digest_120 n q b (nI r) s) 6 (dg (σ.1 2 0) (fun r j => σ.1 3 0 (40 * r + j)) l) _ (fun q => ?_) (fun q r hr => ?_) n 0 (by omega) (by omega)
  · rw [F_Mod_digest_120, if_pos (by decide)]
  · rw [F_Mod_digest_120, if_neg (by rw [show (6 : Int32) = nI 6 from rfl]; simp (disch := omega) only [nI_leI]; omega), ald_35 hr, h35, (h.2 r hr).1]
    simp only [obind, b2_some, bs_eq]
    obtain ⟨z, hz, e1, e2⟩ : ∃ z, z ≤ 40 ∧ (σ.1 2 0 r).toNatClampNeg = z ∧ ((σ.1 2 0 r = nI z ∧ ∀ j, j < z → σ.1 36 0 (40 * r + j) = σ.1 3 0 (40 * r + j)) ∨ (z = 0 ∧ σ.1 2 0 r = -1)) := by
      rcases (h.2 r hr).2 with e | ⟨z, hz, e, ei⟩
      · exact ⟨0, by omega, by rw [e]; exact m1_clamp, Or.inr ⟨rfl, e⟩⟩
      · exact ⟨z, hz, by rw [e, nI_clamp (by omega)], Or.inl ⟨e, fun j hj => (ei j hj).1⟩⟩
    show _ = F_Mod_digest_120 n q (fd (31 * dg (σ.1 2 0) (fun r j => σ.1 3 0 (40 * r + j)) l r + (σ.1 2 0 r).toInt64) (fun j => σ.1 3 0 (40 * r + j)) (σ.1 2 0 r).toNatClampNeg) (nI (r + 1)) s
    rw [e1]
    refine loop_gen (fun q' j (b : Int64) => F_Mod_digest_143 n (F_Mod_digest_120 n q) q' b (nI r) (nI j) s) z (fd (31 * dg (σ.1 2 0) (fun r j => σ.1 3 0 (40 * r + j)) l r + (σ.1 2 0 r).toInt64) (fun j => σ.1 3 0 (40 * r + j))) _ (fun q' => ?_) (fun q' j hj => ?_) n 0 (by omega) (by omega)
    · rw [F_Mod_digest_143, ald_35 hr, h35, (h.2 r hr).1]
      simp only [obind, b2_some, bs_eq]
      rw [if_pos, nI_1]
      rcases e2 with ⟨e2, -⟩ | ⟨e2, e3⟩
      · rw [e2]; simp (disch := omega) only [nI_leI]; omega
      · rw [e3, e2]; decide
    · obtain ⟨e3, e4⟩ : σ.1 2 0 r = nI z ∧ ∀ j, j < z → σ.1 36 0 (40 * r + j) = σ.1 3 0 (40 * r + j) := by
        rcases e2 with e2 | ⟨e2, -⟩
        · exact e2
        · omega
      rw [F_Mod_digest_143, ald_35 hr, h35, (h.2 r hr).1]
      simp only [obind, b2_some, bs_eq]
      rw [e3, if_neg (by simp (disch := omega) only [nI_leI]; omega), show (40 : Int32) = nI 40 from rfl, pk_mul, nI_add, ald_36 (by omega), h36, e4 j hj]
      simp only [obind, b2_some, bs_eq, nI_1]
      rfl
theorem dgM_txts {n : Nat} {σ s : St} (h : Txts σ) (h37 : s.1 37 0 = σ.1 37 0) (h38 : s.1 38 0 = σ.1 38 0) (hn : 100 < n) (l : Int64) : F_Mod_digest_188 n n l 0 s = some (dg (σ.1 2 1) (fun r j => σ.1 3 1 (60 * r + j)) l 4, s) := by
  refine loop_gen (fun q r (b : Int64) => F_Mod_digest_188 n q b (nI r) s) 4 (dg (σ.1 2 1) (fun r j => σ.1 3 1 (60 * r + j)) l) _ (fun q => ?_) (fun q r hr => ?_) n 0 (by omega) (by omega)
  · rw [F_Mod_digest_188, if_pos (by decide)]
  · rw [F_Mod_digest_188, if_neg (by rw [show (4 : Int32) = nI 4 from rfl]; simp (disch := omega) only [nI_leI]; omega), ald_37 hr, h37, (h.2 r hr).1]
    simp only [obind, b2_some, bs_eq]
    obtain ⟨z, hz, e1, e2⟩ : ∃ z, z ≤ 60 ∧ (σ.1 2 1 r).toNatClampNeg = z ∧ ((σ.1 2 1 r = nI z ∧ ∀ j, j < z → σ.1 38 0 (60 * r + j) = σ.1 3 1 (60 * r + j)) ∨ (z = 0 ∧ σ.1 2 1 r = -1)) := by
      rcases (h.2 r hr).2 with e | ⟨z, hz, e, ei⟩
      · exact ⟨0, by omega, by rw [e]; exact m1_clamp, Or.inr ⟨rfl, e⟩⟩
      · exact ⟨z, hz, by rw [e, nI_clamp (by omega)], Or.inl ⟨e, fun j hj => (ei j hj).1⟩⟩
    show _ = F_Mod_digest_188 n q (fd (31 * dg (σ.1 2 1) (fun r j => σ.1 3 1 (60 * r + j)) l r + (σ.1 2 1 r).toInt64) (fun j => σ.1 3 1 (60 * r + j)) (σ.1 2 1 r).toNatClampNeg) (nI (r + 1)) s
    rw [e1]
    refine loop_gen (fun q' j (b : Int64) => F_Mod_digest_210 n (F_Mod_digest_188 n q) q' b (nI r) (nI j) s) z (fd (31 * dg (σ.1 2 1) (fun r j => σ.1 3 1 (60 * r + j)) l r + (σ.1 2 1 r).toInt64) (fun j => σ.1 3 1 (60 * r + j))) _ (fun q' => ?_) (fun q' j hj => ?_) n 0 (by omega) (by omega)
    · rw [F_Mod_digest_210, ald_37 hr, h37, (h.2 r hr).1]
      simp only [obind, b2_some, bs_eq]
      rw [if_pos, nI_1]
      rcases e2 with ⟨e2, -⟩ | ⟨e2, e3⟩
      · rw [e2]; simp (disch := omega) only [nI_leI]; omega
      · rw [e3, e2]; decide
    · obtain ⟨e3, e4⟩ : σ.1 2 1 r = nI z ∧ ∀ j, j < z → σ.1 38 0 (60 * r + j) = σ.1 3 1 (60 * r + j) := by
        rcases e2 with e2 | ⟨e2, -⟩
        · exact e2
        · omega
      rw [F_Mod_digest_210, ald_37 hr, h37, (h.2 r hr).1]
      simp only [obind, b2_some, bs_eq]
      rw [e3, if_neg (by simp (disch := omega) only [nI_leI]; omega), show (60 : Int32) = nI 60 from rfl, pk_mul, nI_add, ald_38 (by omega), h38, e4 j hj]
      simp only [obind, b2_some, bs_eq, nI_1]
      rfl
theorem op_digest {n : Nat} {σ : St} (hn : 2000 ≤ n) (h : RR σ) : ∃ r σ2, F_Tent_digest n σ = some r ∧ F_Mod_digest n σ = some (r, σ2) ∧ RR σ2 := by
  obtain ⟨V, hc, hm⟩ := h.2.2.2.view
  obtain ⟨st, ca, ke⟩ := h.2.2.2.all hc
  have hN := hc.1.1
  have h1 := hc.2.1
  have hn' : 10 < n := by omega
  generalize hcv : (fun k => (F_Tent_count n (nI k) σ).getD 0) = cv
  have hcv1 : ∀ k, k < 9 → F_Tent_count n (nI k) σ = some (cv k) ∧ F_Mod_countOf n (nI k) σ = some (cv k) := by
    intro k hk
    obtain ⟨v, e1, e2⟩ := count_eq h hk hn'
    rw [← hcv]
    simp only [e1, e2, Option.getD_some, and_self]
  generalize htr : (fun i k => (F_Camp_trait 0 (nI i) (nI k) σ).getD 0) = tr
  have htr1 : ∀ i k, i < vN V → k < 6 → F_Camp_trait 0 (nI i) (nI k) σ = some (tr i k) ∧ ∀ s, MU V s → (∀ g, 31 ≤ g → g ≤ 34 → s.1 g 0 = σ.1 g 0) → F_Mod_toldOf n (nI i) (nI k) s = some (tr i k, lay s) := by
    intro i k hi hk
    obtain ⟨v, e1, -⟩ := trait_eq h.2.2.2 hc hm hi hk hn' (fun g _ _ => rfl)
    have ev : tr i k = v := by rw [← htr]; simp only [e1, Option.getD_some]
    refine ⟨by rw [ev]; exact e1, fun s a b => ?_⟩
    obtain ⟨v', e1', e2⟩ := trait_eq h.2.2.2 hc a hi hk hn' b
    have : v' = v := Option.some.inj (e1'.symm.trans e1)
    rw [ev, ← this]
    exact e2
  have hka : ∀ k, k < 3 → ∃ b : Bool, F_Tent_isKept (nI k) σ = some (if b = true then 1 else 0) ∧ (b = true → σ.1 4 (1 + k) 16 = σ.1 31 0 (1026 * (1 + k))) ∧ (b = false → σ.1 31 0 (1026 * (1 + k)) = -1) := by
    intro k hk
    obtain ⟨b, v, f1, f2, f3, f4, f5⟩ := kept_eq hk hN (ke k hk)
    exact ⟨b, f1, by rw [f2]; exact f4, by rw [f2]; exact f5⟩
  have s4 : σ.1 31 0 12 = σ.1 4 0 12 := ca.2.2.1.2.2.2.1.1
  generalize hL1 : 31 * fd 17 cv 9 + (σ.1 4 0 12).toInt64 = L1
  generalize hfl : (fun q => tr (q / 6) (q % 6)) = fl
  have hfl1 : ∀ i k, k < 6 → fl (6 * i + k) = tr i k := by
    intro i k hk
    rw [← hfl]
    simp only []
    rw [show (6 * i + k) / 6 = i by omega, show (6 * i + k) % 6 = k by omega]
  generalize hL2 : fd L1 fl (6 * vN V) = L2
  generalize hL3 : fd L2 (fun k => σ.1 31 0 (1026 * (1 + k))) 3 = L3
  generalize hL4 : dg (σ.1 2 0) (fun r j => σ.1 3 0 (40 * r + j)) L3 6 = L4
  have eD : F_Tent_digest n σ = some (dg (σ.1 2 1) (fun r j => σ.1 3 1 (60 * r + j)) L4 4) := by
    unfold F_Tent_digest
    refine loop_gen (fun q k (b : Int64) => F_Tent_digest_6 n q b (nI k) σ) 9 (fd 17 cv) _ (fun q => ?_) (fun q k hk => ?_) n 0 (by omega) (by omega)
    · rw [F_Tent_digest_6, if_pos (by decide), hL1]
      refine loop_gen (fun q i (b : Int64) => F_Tent_digest_48 n q b (nI i) σ) (vN V) (fun i => fd L1 fl (6 * i)) _ (fun q => ?_) (fun q i hi => ?_) n 0 (by omega) (by omega)
      · rw [F_Tent_digest_48, h1, if_pos (by simp (disch := omega) only [nI_leI]; omega), hL2]
        refine loop_gen (fun q k (b : Int64) => F_Tent_digest_101 n q b (nI k) σ) 3 (fd L2 (fun k => σ.1 31 0 (1026 * (1 + k)))) _ (fun q => ?_) (fun q k hk => ?_) n 0 (by omega) (by omega)
        · rw [F_Tent_digest_101, if_pos (by decide), hL3, dgOn_eq h.1 rfl (by omega) (by omega) (by omega), hL4]
          simp only [obind, b2_some, bs_eq]
          rw [dgOn_eq h.2.1 rfl (by omega) (by omega) (by omega)]
          rfl
        · obtain ⟨b, f1, f2, f3⟩ := hka k hk
          rw [F_Tent_digest_101, if_neg (by rw [show (3 : Int32) = nI 3 from rfl]; simp (disch := omega) only [nI_leI]; omega), f1, kld_in hk]
          simp only [obind, b2_some, bs_eq, F_Tent_digest_132, nI_1, fd]
          cases b with
          | false => simp only [Bool.false_eq_true, if_false, if_true, f3 rfl]
          | true => simp only [if_true, if_neg one_ne, f2 rfl]
      · rw [F_Tent_digest_48, h1, if_neg (by simp (disch := omega) only [nI_leI]; omega)]
        refine loop_gen (fun q' k (b : Int64) => F_Tent_digest_62 n (F_Tent_digest_48 n q) q' b (nI i) (nI k) σ) 6 (fun k => fd L1 fl (6 * i + k)) _ (fun q' => ?_) (fun q' k hk => ?_) n 0 (by omega) (by omega)
        · rw [F_Tent_digest_62, if_pos (by decide), nI_1]
          rfl
        · rw [F_Tent_digest_62, if_neg (by rw [show (6 : Int32) = nI 6 from rfl]; simp (disch := omega) only [nI_leI]; omega), (htr1 i k hi hk).1]
          simp only [obind, b2_some, bs_eq, nI_1]
          rw [show 6 * i + (k + 1) = 6 * i + k + 1 by omega]
          simp only [fd, hfl1 i k hk]
    · rw [F_Tent_digest_6, if_neg (by rw [show (9 : Int32) = nI 9 from rfl]; simp (disch := omega) only [nI_leI]; omega), (hcv1 k hk).1]
      simp only [obind, b2_some, bs_eq, nI_1]
      rfl
  have eM : ∃ w, F_Mod_digest n σ = some w ∧ w.1 = dg (σ.1 2 1) (fun r j => σ.1 3 1 (60 * r + j)) L4 4 ∧ RR w.2 := by
    have m1 := hm.2.1
    unfold F_Mod_digest
    have step1 : F_Mod_digest_6 n n 17 0 σ = F_Mod_digest_48 n n L1 0 σ := by
      refine loop_gen (fun q k (b : Int64) => F_Mod_digest_6 n q b (nI k) σ) 9 (fd 17 cv) _ (fun q => ?_) (fun q k hk => ?_) n 0 (by omega) (by omega)
      · rw [F_Mod_digest_6, if_pos (by decide), show (12 : Int32) = nI 12 from rfl, ald_31 (by omega), s4]
        simp only [obind, b2_some, bs_eq, hL1]
      · rw [F_Mod_digest_6, if_neg (by rw [show (9 : Int32) = nI 9 from rfl]; simp (disch := omega) only [nI_leI]; omega), (hcv1 k hk).2]
        simp only [obind, b2_some, bs_eq, nI_1]
        rfl
    rw [step1]
    refine loop_inv (fun q i (b : Int64) s => F_Mod_digest_48 n q b (nI i) s) (6 * vN V) (fd L1 fl) (fun _ s => RR s ∧ MU V s ∧ ∀ g, 31 ≤ g → g ≤ 39 → s.1 g 0 = σ.1 g 0) (fun w => w.1 = dg (σ.1 2 1) (fun r j => σ.1 3 1 (60 * r + j)) L4 4 ∧ RR w.2) (fun q s hs => ?_) (fun q i s hi hs => ?_) n 0 σ (by omega) (by omega) ⟨h, hm, fun _ _ _ => rfl⟩
    · refine ⟨(dg (σ.1 2 1) (fun r j => σ.1 3 1 (60 * r + j)) L4 4, s), ?_, rfl, hs.1⟩
      rw [F_Mod_digest_48, hs.2.1.2.1, show (6 : Int32) = nI 6 from rfl, pk_mul, if_pos (by simp (disch := omega) only [nI_leI]; omega), hL2]
      refine loop_gen (fun q i (b : Int64) => F_Mod_digest_87 n q b (nI (1 + i)) s) 3 (fd L2 (fun k => σ.1 31 0 (1026 * (1 + k)))) _ (fun q => ?_) (fun q k hk => ?_) n 0 (by omega) (by omega)
      · rw [F_Mod_digest_87, if_pos (by decide), hL3, dgM_rows h.1 (hs.2.2 35 (by omega) (by omega)) (hs.2.2 36 (by omega) (by omega)) (by omega), hL4, dgM_txts h.2.1 (hs.2.2 37 (by omega) (by omega)) (hs.2.2 38 (by omega) (by omega)) (by omega)]
      · rw [F_Mod_digest_87, if_neg (by rw [show (4 : Int32) = nI 4 from rfl]; simp (disch := omega) only [nI_leI]; omega), show (1026 : Int32) = nI 1026 from rfl, pk_mul, show (0 : Int32) = nI 0 from rfl, nI_add, Nat.add_zero, ald_31 (by omega), hs.2.2 31 (by omega) (by omega)]
        simp only [obind, b2_some, bs_eq, nI_1, fd, Nat.add_assoc]
    · refine ⟨lay s, ?_, hs.1.ly, hs.2.1.cg (fun g a b => lay_ne (by omega) (by omega) (by omega)) (lay_30 (by omega) (by omega)) (lay_30 (by omega) (by omega)) (lay_30 (by omega) (by omega)), fun g a b => by rw [lay_ne (by omega) (by omega) (by omega)]; exact hs.2.2 g a b⟩
      rw [F_Mod_digest_48, hs.2.1.2.1, show (6 : Int32) = nI 6 from rfl, pk_mul, if_neg (by simp (disch := omega) only [nI_leI]; omega), div_N (by omega) (by omega) (by omega), rem_N (by omega) (by omega) (by omega)]
      simp only [obind, b2_some, bs_eq]
      rw [(htr1 (i / 6) (i % 6) (by omega) (by omega)).2 s hs.2.1 (fun g a b => hs.2.2 g a (by omega))]
      simp only [obind, b2_some, bs_eq, nI_1, fd]
      rw [← hfl]
  obtain ⟨⟨w1, w2⟩, f1, f2, f3⟩ := eM
  exact ⟨_, w2, eD, by rw [f1]; simp only at f2; rw [f2], f3⟩
