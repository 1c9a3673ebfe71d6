theorem op_hour {n : Nat} {σ : St} (hn : 2000 ≤ n) (h : RR σ) : ∃ r σ1 σ2, F_Tent_hour n σ = some (r, σ1) ∧ F_Mod_hour n σ1 = some (r, σ2) ∧ RR σ2 := by
  obtain ⟨V, hc, hm⟩ := h.2.2.2.view
  have hN := hc.1.1
  have h1 := hc.2.1
  have m1 := hm.2.1
  have hn' : 10 < n := by omega
  have ca := h.N hc
  obtain ⟨c1, ⟨H, hH, c2, c3, c4, c5⟩, c6, c7⟩ := id ca
  obtain ⟨e15, k, hk, ek⟩ := c6.2.2.2.2.2.2
  have e15 : σ.1 31 0 15 = σ.1 4 0 14 := e15
  have ek : σ.1 4 0 14 = nI k := ek
  unfold F_Tent_hour
  rw [h1, ek, c2]
  by_cases gN : vN V = 0
  · exact ⟨-4, σ, σ, by rw [if_pos (by rw [gN]; rfl)], by rw [F_Mod_hour, m1, if_pos (by rw [gN]; rfl)], h⟩
  · have g0 : ¬ nI (vN V) = 0 := by rw [nI_z (by omega)]; exact gN
    rw [if_neg g0]
    by_cases g8 : k = 8
    · subst g8
      refine ⟨-4, σ, σ, by rw [if_neg (by decide)], ?_, h⟩
      rw [F_Mod_hour, m1, if_neg g0, show (15 : Int32) = nI 15 from rfl, ald_31 (by omega), e15, ek]
      rfl
    · rw [if_pos (by rw [show (8 : Int32) = nI 8 from rfl]; simp (disch := omega) only [nI_ltI]; omega)]
      by_cases g40 : H = 40
      · refine ⟨-2, σ, σ, by rw [if_neg (by rw [g40]; decide)], ?_, h⟩
        rw [F_Mod_hour, m1, if_neg g0, show (15 : Int32) = nI 15 from rfl, ald_31 (by omega), e15, ek]
        simp only [obind, b2_some, bs_eq]
        rw [if_neg (by rw [show (8 : Int32) = nI 8 from rfl]; simp (disch := omega) only [nI_eq]; omega), show (0 : Int32) = nI 0 from rfl, ald_31 (by omega), c3, g40]
        rfl
      · obtain ⟨R, r1, r2, r3, r4, r5, r6⟩ := rem_eq (t := 0) (H := H) (σ := σ) (by omega) (by omega) c2
        have hR : CV 0 V R := hc.cg (fun g a b => r2 g 0 (by omega))
        generalize hM : nI (msk (fun j => slp V j k) (vN V)) = M
        obtain ⟨⟨w1, w2⟩, p1, p2, p3, p4, p5, p6⟩ := pass_eq (n := n) (M := M) hR hn'
        simp only at p2 p3 p4 p5 p6
        subst p2
        have w31 : w2.1 31 0 = σ.1 31 0 := by rw [p3 31 0 (by omega), r2 31 0 (by omega)]
        have wo : ∀ g u, ¬ ((g = 4 ∨ g = 11 ∨ g = 12 ∨ g = 14) ∧ u = 0) → w2.1 g u = σ.1 g u := fun g u a => by rw [p3 g u (by omega), r2 g u (by omega)]
        generalize hX : (sa w2 31 0 (fun j => if 26 + 25 * H ≤ j ∧ j < 26 + 25 * H + 25 then σ.1 31 0 (1 + (j - (26 + 25 * H))) else w2.1 31 0 j)) = X
        have x31 : ∀ q, X.1 31 0 q = if 26 + 25 * H ≤ q ∧ q < 26 + 25 * H + 25 then σ.1 31 0 (1 + (q - (26 + 25 * H))) else σ.1 31 0 q := fun q => by rw [← hX, sa_at, w31]
        have xo : ∀ g u, ¬ (g = 31 ∧ u = 0) → X.1 g u = w2.1 g u := fun g u a => by rw [← hX, sa_ne a]
        have x2 : X.2 = σ.2 := by rw [← hX, sa_2, p4, r3]
        have hmX : MU V X := hm.cg2 (fun j hj => by rw [x31, if_neg (by omega)]) (fun g a b => by rw [xo g 0 (by omega), wo g 0 (by omega)]) (by rw [xo 30 0 (by omega), wo 30 0 (by omega)]) (by rw [xo 30 0 (by omega), wo 30 0 (by omega)]) (by rw [xo 30 0 (by omega), wo 30 0 (by omega)])
        have hL := hmX.ly
        obtain ⟨⟨y1, y2⟩, q1, q2, q3, q4, q5, q6⟩ := mpass_eq (n := n) (M := w1) hL hn'
        simp only at q2 q3 q4 q5 q6
        subst q2
        have l31 : ∀ q, (lay X).1 31 0 q = X.1 31 0 q := fun q => by rw [lay_ne (by omega) (by omega) (by omega)]
        refine ⟨y1, w2, y2, ?_, ?_, ?_⟩
        · rw [if_pos (by rw [show (40 : Int32) = nI 40 from rfl]; simp (disch := omega) only [nI_ltI]; omega)]
          unfold F_Camp_passHour
          rw [ek, cv_sleeping hc (by omega) hn', hM]
          simp only [obind, b2_some, bs_eq]
          rw [r1]
          simp only [obind, b2_some, bs_eq]
          rw [show (0 : Int32) = nI 0 from rfl, p1]
          rfl
        · rw [F_Mod_hour, wo 30 0 (by omega), m1, if_neg g0, show (15 : Int32) = nI 15 from rfl, ald_31 (by omega), w31, e15, ek]
          simp only [obind, b2_some, bs_eq]
          rw [if_neg (by rw [show (8 : Int32) = nI 8 from rfl]; simp (disch := omega) only [nI_eq]; omega), show (0 : Int32) = nI 0 from rfl, ald_31 (by omega), w31, c3]
          simp only [obind, b2_some, bs_eq]
          rw [if_neg (by rw [show (40 : Int32) = nI 40 from rfl]; simp (disch := omega) only [nI_eq]; omega)]
          have key := fill_gen (fun k i s => F_Mod_hour_38 n k (nI i) s) (fun s => (F_Mod_layNow n s).bind fun σ3 => (ald σ3 31 0 15).bind fun v4 => (F_Mod_sleepsIn n v4 σ3).bind fun v5 => F_Mod_hour_95 n n v5 0 σ3) (fun s => ∀ q, q < 26 → s.1 31 0 q = σ.1 31 0 q) 31 0 (26 + 25 * H) 25 (fun i => σ.1 31 0 (1 + i)) (fun k s hs => by
            rw [F_Mod_hour_38, if_pos (by decide)]) (fun i s hi hs q hq => by
            rw [si_g, if_neg (by omega)]; exact hs q hq) (fun k i s hi hs => by
            rw [F_Mod_hour_38, if_neg (by rw [show (25 : Int32) = nI 25 from rfl]; simp (disch := omega) only [nI_leI]; omega), show (0 : Int32) = nI 0 from rfl, ald_31 (by omega), hs 0 (by omega), c3]
            simp only [obind, b2_some, bs_eq]
            rw [show (1 : Int32) = nI 1 from rfl, nI_add, ald_31 (by omega), hs (1 + i) (by omega)]
            simp only [obind, b2_some, bs_eq]
            rw [show (26 : Int32) = nI 26 from rfl, show (25 : Int32) = nI 25 from rfl, pk_mul, nI_add, nI_add, ast_31 (by omega)]
            simp only [obind, b2_some, bs_eq]
            rw [nI_add]) n 0 w2 (by omega) (by omega) (fun q hq => by rw [w31])
          simp only [Nat.add_zero] at key
          rw [hX] at key
          rw [key, layNow_eq hn']
          simp only [obind, b2_some, bs_eq]
          rw [show (15 : Int32) = nI 15 from rfl, ald_31 (by omega), l31, x31, if_neg (by omega), e15, ek]
          simp only [obind, b2_some, bs_eq]
          rw [mw_sleeping hL (by omega) hn', hM]
          simp only [obind, b2_some, bs_eq]
          exact q1
        · have yo : ∀ g u, ¬ ((g = 4 ∨ g = 11 ∨ g = 12 ∨ g = 14 ∨ g = 31 ∨ g = 42 ∨ g = 43 ∨ g = 30) ∧ u = 0) → y2.1 g u = σ.1 g u := fun g u a => by rw [q3 g u (by omega), lay_ne (by omega) (by omega) (by omega), xo g u (by omega), wo g u (by omega)]
          have y30 : ∀ q, q ≠ 22 → q ≠ 23 → y2.1 30 0 q = σ.1 30 0 q := fun q a b => by rw [q3 30 0 (by omega), lay_30 a b, xo 30 0 (by omega), wo 30 0 (by omega)]
          have yw : ∀ g, g ≤ 29 → y2.1 g 0 = w2.1 g 0 := fun g a => by rw [q3 g 0 (by omega), lay_ne (by omega) (by omega) (by omega), xo g 0 (by omega)]
          have y31 : ∀ q, ¬ (16 ≤ q ∧ q ≤ 25) → q ≠ 15 → q ≠ 0 → y2.1 31 0 q = X.1 31 0 q := fun q a b c => by rw [q5 q a, if_neg b, if_neg c, l31]
          refine h.camp hN m1 ⟨fun g u a b c => yo g u (by unfold keepG at a; omega), fun q hq => by rw [y31 q (by omega) (by omega) (by omega), x31, if_neg (by omega)], by rw [q4, lay_2, x2], ⟨by rw [y30 9 (by omega) (by omega), yo 0 0 (by omega)]; exact h.2.2.1.1, by rw [yo 0 0 (by omega)], y30 12 (by omega) (by omega)⟩, y30 1 (by omega) (by omega), y30 24 (by omega) (by omega), y30 25 (by omega) (by omega)⟩ ?_
          have y4 : ∀ q, y2.1 4 0 q = if q = 14 then nI (k + 1) else if q = 16 then nI (H + 1) else σ.1 4 0 q := fun q => by
            rw [yw 4 (by omega), p5 q, r2 4 0 (by omega), ek, c2, nI_1, nI_1]
          have y14 : y2.1 14 0 = R.1 14 0 := by rw [yw 14 (by omega), p3 14 0 (by omega)]
          refine ⟨by rw [y4, if_neg (by omega), if_neg (by omega)]; exact c1, ⟨H + 1, by omega, by rw [y4, if_neg (by omega), if_pos rfl], ?_, fun z => absurd z gN, fun q hq => ?_⟩, ?_, fun p hp => ?_⟩
          · rw [q5 0 (by omega), if_neg (by omega), if_pos rfl, l31, x31, if_neg (by omega), c3, nI_1]
          · by_cases eq : q = H
            · subst eq
              rw [y14, r5.1, r5.2.1, r5.2.2.1, r5.2.2.2.1, r5.2.2.2.2]
              refine c6.cg hN (fun i hi => ?_) (fun z hz => ?_)
              · have := r6 i (by omega)
                exact ⟨this.1, this.2.1, this.2.2.1, this.2.2.2⟩
              · rw [y31 _ (by omega) (by omega) (by omega), x31, if_pos (by omega)]
                exact congrArg (σ.1 31 0) (by omega)
            · have := c5 q (by omega)
              rw [y14, r4 (25 * q) (by omega), r4 (25 * q + 1) (by omega), r4 (25 * q + 2) (by omega), r4 (25 * q + 3) (by omega), r4 (25 * q + 4) (by omega)]
              refine this.cg hN (fun i hi => ⟨r4 _ (by omega), r4 _ (by omega), r4 _ (by omega), r4 _ (by omega)⟩) (fun z hz => ?_)
              rw [y31 _ (by omega) (by omega) (by omega), x31, if_neg (by omega)]
          · obtain ⟨⟨P, W, b1, b2⟩, s2, s3, s4, s5, s6, s7⟩ := c6
            refine ⟨⟨P, W, fun i hi => ?_, fun p hp => ?_⟩, fun i hi => ⟨?_, ?_, ?_⟩, ⟨?_, ?_⟩, ⟨?_, ?_⟩, ⟨?_, ?_⟩, ⟨?_, ?_⟩, ⟨?_, k + 1, by omega, ?_⟩⟩
            · rw [yo 9 0 (by omega)]; exact b1 i hi
            · simp only []
              rw [y31 _ (by omega) (by omega) (by omega), x31, if_neg (by omega)]; exact b2 p hp
            · simp only []
              rw [y31 _ (by omega) (by omega) (by omega), x31, if_neg (by omega), yo 8 0 (by omega)]; exact (s2 i hi).1
            · simp only []
              rw [show 0 + 1 + (15 + i) = 16 + i by omega, (q6 i hi).1, l31, x31, if_neg (by omega), yw 11 (by omega), (p6 i hi).1, r2 11 0 (by omega)]
              have := (s2 i hi).2.1
              simp only [show 0 + 1 + (15 + i) = 16 + i by omega] at this
              rw [this]
            · simp only []
              rw [show 0 + 1 + (20 + i) = 21 + i by omega, (q6 i hi).2, l31, x31, if_neg (by omega), yw 12 (by omega), (p6 i hi).2, r2 12 0 (by omega)]
              have := (s2 i hi).2.2
              simp only [show 0 + 1 + (20 + i) = 21 + i by omega] at this
              rw [this]
            · simp only []
              rw [y31 _ (by omega) (by omega) (by omega), x31, if_neg (by omega), y4, if_neg (by omega), if_neg (by omega)]; exact s3.1
            · rw [y4, if_neg (by omega), if_neg (by omega)]; exact s3.2
            · simp only []
              rw [y31 _ (by omega) (by omega) (by omega), x31, if_neg (by omega), y4, if_neg (by omega), if_neg (by omega)]; exact s4.1
            · rw [y4, if_neg (by omega), if_neg (by omega)]; exact s4.2
            · simp only []
              rw [y31 _ (by omega) (by omega) (by omega), x31, if_neg (by omega), y4, if_neg (by omega), if_neg (by omega)]; exact s5.1
            · rw [y4, if_neg (by omega), if_neg (by omega)]; exact s5.2
            · simp only []
              rw [y31 _ (by omega) (by omega) (by omega), x31, if_neg (by omega), y4, if_neg (by omega), if_neg (by omega)]; exact s6.1
            · rw [y4, if_neg (by omega), if_neg (by omega)]; exact s6.2
            · simp only []
              rw [show 0 + 1 + 14 = 15 by omega, q5 15 (by omega), if_pos rfl, l31, x31, if_neg (by omega), e15, ek, nI_1, y4, if_pos rfl]
            · rw [y4, if_pos rfl]
          · rw [yo 10 0 (by omega), y31 _ (by omega) (by omega) (by omega), x31, if_neg (by omega)]
            exact c7 p hp
theorem si_same (σ : St) (g t j : Nat) : si σ g t j (σ.1 g t j) = σ := by
  rw [si_sa]
  have : upd (σ.1 g t) j (σ.1 g t j) = σ.1 g t := by
    funext q
    unfold upd
    by_cases e : q = j
    · rw [if_pos e, e]
    · rw [if_neg e]
  rw [this, sa_id]
