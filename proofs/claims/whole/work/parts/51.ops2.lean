theorem refs0 {r : Int32} {σ1 : St} (h : RR σ1) : ∃ r' σ1' σ2, some (r, σ1) = some (r', σ1') ∧ some (r, σ1) = some (r', σ2) ∧ RR σ2 := ⟨r, σ1, σ1, rfl, rfl, h⟩
theorem op_sleeps {n : Nat} {σ : St} (a1 : Int32) (hn : 2000 ≤ n) (h : RR σ) : ∃ r σ1 σ2, F_Tent_sleeps n a1 σ = some (r, σ1) ∧ F_Mod_sleeps n a1 σ1 = some (r, σ2) ∧ RR σ2 := by
  obtain ⟨V, hc, hm⟩ := h.2.2.2.view
  have hN := hc.1.1
  have h1 := hc.2.1
  have m1 := hm.2.1
  unfold F_Tent_sleeps F_Mod_sleeps
  rcases ix_of 8 (by decide) a1 with g | ⟨k, hk, rfl⟩
  · exact ⟨-1, σ, σ, by simp only [obind, b2_some, bs_eq, (isHr_out g).1, if_true], by simp only [obind, b2_some, bs_eq, (isHr_out g).2, if_true], h⟩
  · refine ⟨nI (msk (fun j => slp V j k) (vN V)), si σ 0 0 10 (nI (msk (fun j => decide (feel V j k < 0)) (vN V))), si (lay (si σ 0 0 10 (nI (msk (fun j => decide (feel V j k < 0)) (vN V))))) 30 0 9 (nI (msk (fun j => decide (feel V j k < 0)) (vN V))), ?_, ?_, h.lyT _⟩
    · have hc' : CV 0 V (si σ 0 0 10 (nI (msk (fun j => decide (feel V j k < 0)) (vN V)))) := hc.cg (fun g _ _ => si_ne (by omega))
      simp only [obind, b2_some, bs_eq, if_neg one_ne, (isHr_in hk).1, cv_cold hc hk (show 10 < n by omega), cv_sleeping hc' hk (show 10 < n by omega)]
    · have hm' : MU V (si σ 0 0 10 (nI (msk (fun j => decide (feel V j k < 0)) (vN V)))) := hm.cgC (fun g _ _ => si_ne (by omega))
      simp only [obind, b2_some, bs_eq, if_neg one_ne, (isHr_in hk).2, layNow_eq (show 10 < n by omega)]
      have hL := hm'.ly
      refine loop_gen (fun q i (s : Nat) => F_Mod_sleeps_20 n q (nI k) (nI i) (si (lay (si σ 0 0 10 (nI (msk (fun j => decide (feel V j k < 0)) (vN V))))) 30 0 9 (nI s))) (vN V) (fun i => msk (fun j => decide (feel V j k < 0)) i) _ (fun q => ?_) (fun q i hi => ?_) n 0 (by omega) (by omega)
      · rw [F_Mod_sleeps_20, (hL.tell _).2.1, if_pos (by simp (disch := omega) only [nI_leI]; omega), mw_sleeping (hL.tell _) hk (show 10 < n by omega)]
        rfl
      · rw [F_Mod_sleeps_20, (hL.tell _).2.1, if_neg (by simp (disch := omega) only [nI_leI]; omega), mw_feel (hL.tell _) hi hk (show 10 < n by omega)]
        simp only [obind, b2_some, bs_eq, F_Mod_sleeps_49, si_si, nI_1]
        congr 2
        rw [si_g, if_pos (by omega), ← msk_step (fun j => decide (feel V j k < 0)) (h := i) (by omega)]
        congr 1
        simp only [lt_le_n, decide_eq_true_eq]
        by_cases g : feel V i k < 0 <;> simp [g]
def cStep (V : Vw) (b : Nat × Nat) (i h : Nat) : Nat × Nat := if feel V b.1 b.2 ≤ feel V i h then b else (i, h)
def cIn (V : Vw) (i : Nat) (b : Nat × Nat) : Nat → Nat × Nat
  | 0 => b
  | h + 1 => cStep V (cIn V i b h) i h
def cOut (V : Vw) : Nat → Nat × Nat
  | 0 => (0, 0)
  | i + 1 => cIn V i (cOut V i) 8
theorem cIn_lt {V : Vw} {i N : Nat} {b : Nat × Nat} (hi : i < N) (hb : b.1 < N ∧ b.2 < 8) : ∀ h, h ≤ 8 → (cIn V i b h).1 < N ∧ (cIn V i b h).2 < 8
  | 0, _ => hb
  | h + 1, hh => by
    have := cIn_lt (V := V) hi hb h (by omega)
    unfold cIn cStep
    split
    · exact this
    · exact ⟨hi, by show h < 8; omega⟩
theorem cOut_lt {V : Vw} {N : Nat} (h0 : 0 < N) : ∀ i, i ≤ N → (cOut V i).1 < N ∧ (cOut V i).2 < 8
  | 0, _ => ⟨h0, show 0 < 8 by decide⟩
  | i + 1, hi => cIn_lt (by omega) (cOut_lt h0 i (by omega)) 8 (by omega)
theorem op_coldest {n : Nat} {σ : St} (hn : 2000 ≤ n) (h : RR σ) : ∃ r σ1 σ2, F_Tent_coldest n σ = some (r, σ1) ∧ F_Mod_coldest n σ1 = some (r, σ2) ∧ RR σ2 := by
  obtain ⟨V, hc, hm⟩ := h.2.2.2.view
  have hN := hc.1.1
  have h1 := hc.2.1
  have m1 := hm.2.1
  unfold F_Tent_coldest F_Mod_coldest
  by_cases g : vN V = 0
  · exact ⟨-4, σ, σ, by rw [h1, if_pos (by rw [g]; rfl)], by rw [m1, if_pos (by rw [g]; rfl)], h⟩
  · have g0 : ¬ nI (vN V) = 0 := by rw [nI_z (by omega)]; exact g
    have ho := cOut_lt (V := V) (N := vN V) (by omega)
    refine ⟨nI (cOut V (vN V)).1, si σ 0 0 10 (nI (cOut V (vN V)).2), si (lay (si σ 0 0 10 (nI (cOut V (vN V)).2))) 30 0 9 (nI (cOut V (vN V)).2), ?_, ?_, h.lyT _⟩
    · rw [h1, if_neg g0]
      refine loop_gen (fun q i (s : Nat × Nat) => F_Tent_coldest_19 n q (nI s.1) (nI s.2) (nI i) σ) (vN V) (cOut V) _ (fun q => ?_) (fun q i hi => ?_) n 0 (by omega) (by omega)
      · rw [F_Tent_coldest_19, h1, if_pos (by simp (disch := omega) only [nI_leI]; omega)]
        rfl
      · rw [F_Tent_coldest_19, h1, if_neg (by simp (disch := omega) only [nI_leI]; omega)]
        have hb := ho i (by omega)
        refine loop_gen (fun q' k (s : Nat × Nat) => F_Tent_coldest_33 n (F_Tent_coldest_19 n q) q' (nI s.1) (nI s.2) (nI i) (nI k) σ) 8 (cIn V i (cOut V i)) _ (fun q' => ?_) (fun q' k hk => ?_) n 0 (by omega) (by omega)
        · rw [F_Tent_coldest_33, if_pos (by decide), nI_1]
          rfl
        · have hb' := cIn_lt (V := V) hi hb k (by omega)
          rw [F_Tent_coldest_33, if_neg (by rw [show (8 : Int32) = nI 8 from rfl]; simp (disch := omega) only [nI_leI]; omega), cv_feel hc hi hk, cv_feel hc hb'.1 hb'.2]
          simp only [obind, b2_some, bs_eq, F_Tent_coldest_67, nI_1, cIn, cStep]
          by_cases e : feel V (cIn V i (cOut V i) k).1 (cIn V i (cOut V i) k).2 ≤ feel V i k
          · simp only [if_pos e]
          · simp only [if_neg e]
    · have hm' : MU V (si σ 0 0 10 (nI (cOut V (vN V)).2)) := hm.cgC (fun g _ _ => si_ne (by omega))
      rw [hm'.2.1, if_neg g0]
      simp only [obind, b2_some, bs_eq, layNow_eq (show 10 < n by omega)]
      have hL := hm'.ly
      have m1 := hL.2.1
      refine loop_gen (fun q i (s : Nat × Nat) => F_Mod_coldest_20 n q (nI s.1) (nI s.2) (nI i) (lay (si σ 0 0 10 (nI (cOut V (vN V)).2)))) (vN V) (cOut V) _ (fun q => ?_) (fun q i hi => ?_) n 0 (by omega) (by omega)
      · rw [F_Mod_coldest_20, m1, if_pos (by simp (disch := omega) only [nI_leI]; omega)]
        rfl
      · rw [F_Mod_coldest_20, m1, if_neg (by simp (disch := omega) only [nI_leI]; omega)]
        have hb := ho i (by omega)
        refine loop_gen (fun q' k (s : Nat × Nat) => F_Mod_coldest_31 n (F_Mod_coldest_20 n q) q' (nI s.1) (nI s.2) (nI i) (nI k) (lay (si σ 0 0 10 (nI (cOut V (vN V)).2)))) 8 (cIn V i (cOut V i)) _ (fun q' => ?_) (fun q' k hk => ?_) n 0 (by omega) (by omega)
        · rw [F_Mod_coldest_31, if_pos (by decide), nI_1]
          rfl
        · have hb' := cIn_lt (V := V) hi hb k (by omega)
          rw [F_Mod_coldest_31, if_neg (by rw [show (8 : Int32) = nI 8 from rfl]; simp (disch := omega) only [nI_leI]; omega), mw_feel hL hi hk (show 10 < n by omega), mw_feel hL hb'.1 hb'.2 (show 10 < n by omega)]
          simp only [obind, b2_some, bs_eq, F_Mod_coldest_59, F_Mod_coldest_71, F_Mod_coldest_83, nI_1, cIn, cStep]
          by_cases e : feel V (cIn V i (cOut V i) k).1 (cIn V i (cOut V i) k).2 ≤ feel V i k
          · simp only [if_pos e, if_true]
          · simp only [if_neg e, if_neg one_ne]
def setO (V : Vw) (o : Nat) : Vw := (V.1, V.2.1, V.2.2.1, V.2.2.2.1, V.2.2.2.2.1, V.2.2.2.2.2.1, V.2.2.2.2.2.2.1, V.2.2.2.2.2.2.2.1, V.2.2.2.2.2.2.2.2.1, V.2.2.2.2.2.2.2.2.2.1, o, vT V)
def setT (V : Vw) (T : Nat) : Vw := (V.1, V.2.1, V.2.2.1, V.2.2.2.1, V.2.2.2.2.1, V.2.2.2.2.2.1, V.2.2.2.2.2.2.1, V.2.2.2.2.2.2.2.1, V.2.2.2.2.2.2.2.2.1, V.2.2.2.2.2.2.2.2.2.1, vO V, T)
def up {α : Type} (f : Nat → α) (i : Nat) (v : α) : Nat → α := fun j => if j = i then v else f j
def setK (V : Vw) (i : Nat) (k gv : Int32) : Vw := (V.1, up (vG V) i (kG k gv), up (vR V) i (kR k), up (vD V) i (kD k), up (vS V) i (kS k), V.2.2.2.2.2)
def setF (V : Vw) (i : Nat) : Vw := (V.1, up (vG V) i 0, up (vR V) i 0, V.2.2.2)
theorem worth_le {V : Vw} (h : wfV V) : worthV V ≤ 40 := by
  have := sumf_le (f := sleptV V) (c := 8) (fun j => slept_le V j) (vN V)
  have := h.1
  unfold worthV
  omega
/-- the first best of many -/
def mxS (f : Nat → Nat) : Nat → Int32 × Int32
  | 0 => (-1, 0)
  | k + 1 => if nI (f k) ≤ (mxS f k).1 then mxS f k else (nI (f k), nI k)
theorem mx1 (f : Nat → Nat) (k : Nat) : (if nI (f k) ≤ (mxS f k).1 then (mxS f k).1 else nI (f k)) = (mxS f (k + 1)).1 := by
  simp only [mxS]
  split <;> rfl
theorem mx2 (f : Nat → Nat) (k : Nat) : (if nI (f k) ≤ (mxS f k).1 then (mxS f k).2 else nI k) = (mxS f (k + 1)).2 := by
  simp only [mxS]
  split <;> rfl
theorem CV.setO {t : Nat} {V : Vw} {σ s : St} (h : CV t V σ) {o : Nat} (ho : o < vN V) (h1 : ∀ g, 5 ≤ g → g ≤ 10 → s.1 g t = σ.1 g t) (h2 : ∀ j, s.1 4 t j = if j = 12 then nI o else σ.1 4 t j) : CV t (setO V o) s := by
  obtain ⟨hw, c1, c2, c3, c4, c5, c6⟩ := h
  obtain ⟨w1, w2, w3, w4, w5, w6, w7⟩ := hw
  refine ⟨⟨w1, w2, w3, w4, Or.inl ho, w6, w7⟩, by rw [h2]; exact c1, fun i hi => ?_, fun k hk => by rw [h1 5 (by omega) (by omega)]; exact c3 k hk, by rw [h2]; exact c4, by rw [h2]; rfl, by rw [h2]; exact c6⟩
  rw [h1 6 (by omega) (by omega), h1 7 (by omega) (by omega), h1 8 (by omega) (by omega), h1 9 (by omega) (by omega), h1 10 (by omega) (by omega)]
  exact c2 i hi
theorem CV.setT {t : Nat} {V : Vw} {σ s : St} (h : CV t V σ) {T : Nat} (hT : T < 256) (h1 : ∀ g, 5 ≤ g → g ≤ 10 → s.1 g t = σ.1 g t) (h2 : ∀ j, s.1 4 t j = if j = 13 then nI T else σ.1 4 t j) : CV t (setT V T) s := by
  obtain ⟨hw, c1, c2, c3, c4, c5, c6⟩ := h
  obtain ⟨w1, w2, w3, w4, w5, w6, w7⟩ := hw
  refine ⟨⟨w1, w2, w3, w4, w5, hT, w7⟩, by rw [h2]; exact c1, fun i hi => ?_, fun k hk => by rw [h1 5 (by omega) (by omega)]; exact c3 k hk, by rw [h2]; exact c4, by rw [h2]; exact c5, by rw [h2]; rfl⟩
  rw [h1 6 (by omega) (by omega), h1 7 (by omega) (by omega), h1 8 (by omega) (by omega), h1 9 (by omega) (by omega), h1 10 (by omega) (by omega)]
  exact c2 i hi
theorem MW.setO {V : Vw} {σ s : St} (h : MW V σ) {o : Nat} (ho : o < vN V) (h1 : ∀ g, (31 ≤ g ∧ g ≤ 34) ∨ g = 42 ∨ g = 43 → s.1 g 0 = σ.1 g 0) (h2 : ∀ j, j = 1 ∨ (22 ≤ j ∧ j ≤ 26) → s.1 30 0 j = if j = 23 then nI o else σ.1 30 0 j) : MW (setO V o) s := by
  obtain ⟨hw, c1, c2, c3, c4, c5, c6⟩ := h
  obtain ⟨w1, w2, w3, w4, w5, w6, w7⟩ := hw
  refine ⟨⟨w1, w2, w3, w4, Or.inl ho, w6, w7⟩, by rw [h2 1 (by omega)]; exact c1, fun i hi => ?_, fun k hk => by rw [h1 34 (by omega)]; exact c3 k hk, by rw [h1 31 (by omega)]; exact c4, by rw [h2 23 (by omega)]; rfl, by rw [h2 22 (by omega)]; exact c6⟩
  have k1 : kd s i = kd σ i := by
    unfold kd
    rw [h2 25 (by omega), h2 26 (by omega), h1 32 (by omega), if_neg (show ¬ 25 = 23 by omega), if_neg (show ¬ 26 = 23 by omega)]
  rw [k1, h2 24 (by omega), if_neg (show ¬ 24 = 23 by omega), h1 33 (by omega), h1 43 (by omega), h1 42 (by omega)]
  exact c2 i hi
theorem MW.setT {V : Vw} {σ s : St} (h : MW V σ) {T : Nat} (hT : T < 256) (h1 : ∀ g, (31 ≤ g ∧ g ≤ 34) ∨ g = 42 ∨ g = 43 → s.1 g 0 = σ.1 g 0) (h2 : ∀ j, j = 1 ∨ (22 ≤ j ∧ j ≤ 26) → s.1 30 0 j = if j = 22 then nI T else σ.1 30 0 j) : MW (setT V T) s := by
  obtain ⟨hw, c1, c2, c3, c4, c5, c6⟩ := h
  obtain ⟨w1, w2, w3, w4, w5, w6, w7⟩ := hw
  refine ⟨⟨w1, w2, w3, w4, w5, hT, w7⟩, by rw [h2 1 (by omega)]; exact c1, fun i hi => ?_, fun k hk => by rw [h1 34 (by omega)]; exact c3 k hk, by rw [h1 31 (by omega)]; exact c4, by rw [h2 23 (by omega)]; exact c5, by rw [h2 22 (by omega)]; rfl⟩
  have k1 : kd s i = kd σ i := by
    unfold kd
    rw [h2 25 (by omega), h2 26 (by omega), h1 32 (by omega), if_neg (show ¬ 25 = 22 by omega), if_neg (show ¬ 26 = 22 by omega)]
  rw [k1, h2 24 (by omega), if_neg (show ¬ 24 = 22 by omega), h1 33 (by omega), h1 43 (by omega), h1 42 (by omega)]
  exact c2 i hi
theorem op_warm {n : Nat} {σ : St} (hn : 2000 ≤ n) (h : RR σ) : ∃ r σ1 σ2, F_Tent_warm n σ = some (r, σ1) ∧ F_Mod_warm n σ1 = some (r, σ2) ∧ RR σ2 := by
  obtain ⟨V, hc, hm⟩ := h.2.2.2.view
  have hN := hc.1.1
  have h1 := hc.2.1
  have m1 := hm.2.1
  have hn' : 10 < n := by omega
  unfold F_Tent_warm
  by_cases g : vN V = 0
  · exact ⟨-4, σ, σ, by rw [h1, if_pos (by rw [g]; rfl)], by rw [F_Mod_warm, m1, if_pos (by rw [g]; rfl)], h⟩
  · have g0 : ¬ nI (vN V) = 0 := by rw [nI_z (by omega)]; exact g
    have hK : CV 4 V (tkP 4 0 σ) := hc.take (by decide)
    obtain ⟨w, e1, e2, e3⟩ : ∃ w, (F_Tent_warm_30 n n (mxS (fun o => worthV (setO V o)) 0).1 (mxS (fun o => worthV (setO V o)) 0).2 (nI 0) (tkP 4 0 σ)) = some w ∧ w.1 = (mxS (fun o => worthV (setO V o)) (vN V)).2 ∧ CW σ w.2 (mxS (fun o => worthV (setO V o)) (vN V)).1 := by
      refine loop_inv (fun q i (b : Int32 × Int32) s => F_Tent_warm_30 n q b.1 b.2 (nI i) s) (vN V) (mxS (fun o => worthV (setO V o))) (fun _ s => SC σ s ∧ (∀ g, 5 ≤ g → g ≤ 10 → s.1 g 4 = (tkP 4 0 σ).1 g 4) ∧ ∀ j, j ≠ 12 → s.1 4 4 j = (tkP 4 0 σ).1 4 4 j) (fun w => w.1 = (mxS (fun o => worthV (setO V o)) (vN V)).2 ∧ CW σ w.2 (mxS (fun o => worthV (setO V o)) (vN V)).1) (fun q s hs => ?_) (fun q i s hi hs => ?_) n 0 (tkP 4 0 σ) (by omega) (by omega) ⟨(SC.rf σ).tk, fun _ _ _ => rfl, fun _ _ => rfl⟩
      · refine ⟨((mxS (fun o => worthV (setO V o)) (vN V)).2, si s 0 0 10 (mxS (fun o => worthV (setO V o)) (vN V)).1), ?_, rfl, hs.1.cw _⟩
        rw [F_Tent_warm_30, hs.1.1 4 0 (by unfold keepG; omega), h1, if_pos (by simp (disch := omega) only [nI_leI]; omega)]
        rfl
      · have hs' : CV 4 (setO V i) (si s 4 4 12 (nI i)) := hK.setO hi (fun g a b => by rw [si_ne (by omega)]; exact hs.2.1 g a b) (fun j => by
          rw [si_g]
          by_cases e : j = 12
          · rw [if_pos ⟨⟨rfl, rfl⟩, e⟩, if_pos e]
          · rw [if_neg (fun z => e z.2), if_neg e]; exact hs.2.2 j e)
        refine ⟨si s 4 4 12 (nI i), ?_, hs.1.si (by unfold keepG; omega), fun g a b => by rw [si_ne (by omega)]; exact hs.2.1 g a b, fun j a => by rw [si_g, if_neg (fun z => a z.2)]; exact hs.2.2 j a⟩
        rw [F_Tent_warm_30, hs.1.1 4 0 (by unfold keepG; omega), h1, if_neg (by simp (disch := omega) only [nI_leI]; omega)]
        simp only [obind, b2_some, bs_eq]
        rw [cv_worth hs' hn']
        simp only [obind, b2_some, bs_eq, F_Tent_warm_69, nI_1, mx1 (fun o => worthV (setO V o)) i, mx2 (fun o => worthV (setO V o)) i]
    obtain ⟨w1, w2⟩ := w
    simp only at e2 e3
    have hm' := hm.cw e3
    have hL := hm'.ly
    obtain ⟨y, f1, f2, f3⟩ : ∃ y, (F_Mod_warm_20 n n (mxS (fun o => worthV (setO V o)) 0).2 (mxS (fun o => worthV (setO V o)) 0).1 (nI 0) (lay w2)) = some y ∧ y.1 = (mxS (fun o => worthV (setO V o)) (vN V)).2 ∧ MR w2 y.2 (mxS (fun o => worthV (setO V o)) (vN V)).1 := by
      refine loop_inv (fun q i (b : Int32 × Int32) s => F_Mod_warm_20 n q b.2 b.1 (nI i) s) (vN V) (mxS (fun o => worthV (setO V o))) (fun _ s => MR w2 s (w2.1 30 0 9) ∧ (∀ g, (31 ≤ g ∧ g ≤ 34) ∨ g = 42 ∨ g = 43 → s.1 g 0 = (lay w2).1 g 0) ∧ ∀ j, j ≠ 23 → s.1 30 0 j = (lay w2).1 30 0 j) (fun y => y.1 = (mxS (fun o => worthV (setO V o)) (vN V)).2 ∧ MR w2 y.2 (mxS (fun o => worthV (setO V o)) (vN V)).1) (fun q s hs => ?_) (fun q i s hi hs => ?_) n 0 (lay w2) (by omega) (by omega) ⟨MR.ly w2, fun _ _ => rfl, fun _ _ => rfl⟩
      · refine ⟨((mxS (fun o => worthV (setO V o)) (vN V)).2, si s 30 0 9 (mxS (fun o => worthV (setO V o)) (vN V)).1), ?_, rfl, hs.1.st⟩
        rw [F_Mod_warm_20, hs.2.2 1 (by omega), hL.2.1, if_pos (by simp (disch := omega) only [nI_leI]; omega)]
        rfl
      · have hs' : MW (setO V i) (si s 30 0 23 (nI i)) := hL.setO hi (fun g a => by rw [si_ne (by omega)]; exact hs.2.1 g a) (fun j a => by
          rw [si_g]
          by_cases e : j = 23
          · rw [if_pos ⟨⟨rfl, rfl⟩, e⟩, if_pos e]
          · rw [if_neg (fun z => e z.2), if_neg e]; exact hs.2.2 j e)
        refine ⟨si s 30 0 23 (nI i), ?_, hs.1.s0 (by omega), fun g a => by rw [si_ne (by omega)]; exact hs.2.1 g a, fun j a => by rw [si_g, if_neg (fun z => a z.2)]; exact hs.2.2 j a⟩
        rw [F_Mod_warm_20, hs.2.2 1 (by omega), hL.2.1, if_neg (by simp (disch := omega) only [nI_leI]; omega)]
        simp only [obind, b2_some, bs_eq]
        rw [mw_worth hs' hn']
        simp only [obind, b2_some, bs_eq, F_Mod_warm_50, F_Mod_warm_63, nI_1, mx1 (fun o => worthV (setO V o)) i, mx2 (fun o => worthV (setO V o)) i]
    obtain ⟨y1, y2⟩ := y
    simp only at f2 f3
    refine ⟨w1, w2, y2, ?_, ?_, h.both e3 f3⟩
    · rw [h1, if_neg g0, take_eq]
      exact e1
    · unfold F_Mod_warm
      rw [hm'.2.1, if_neg g0, layNow_eq hn', e2, ← f2]
      exact f1
