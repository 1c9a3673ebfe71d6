-- LOTS
theorem rmL_pos {a b : Int64} (ha : 0 ≤ a.toInt) (hb : 0 < b.toInt) : ∃ v, rmL a b = some v ∧ v.toInt = a.toInt % b.toInt := by
  unfold rmL
  have hne : ¬ b = 0 := fun e => by rw [e] at hb; exact absurd hb (by decide)
  rw [if_neg hne]
  refine ⟨_, rfl, ?_⟩
  have hu := Int64.toInt_lt a
  have h1 : (a.toInt.tdiv b.toInt) = a.toInt / b.toInt := Int.tdiv_eq_ediv_of_nonneg ha
  have h2 : a.toInt / b.toInt * b.toInt + a.toInt % b.toInt = a.toInt := by
    have := Int.mul_ediv_add_emod a.toInt b.toInt
    rw [Int.mul_comm] at this
    exact this
  have h3 := Int.emod_nonneg a.toInt (show b.toInt ≠ 0 by omega)
  have h4 : 0 ≤ a.toInt / b.toInt := Int.ediv_nonneg ha (by omega)
  have h5 : a.toInt / b.toInt ≤ a.toInt := Int.ediv_le_self _ ha
  have h6 : 0 ≤ a.toInt / b.toInt * b.toInt := Int.mul_nonneg h4 (by omega)
  have q1 : (a / b).toInt = a.toInt / b.toInt := by
    rw [Int64.toInt_div, h1, Int.bmod_def]
    split <;> omega
  have q2 : (a / b * b).toInt = a.toInt / b.toInt * b.toInt := by
    rw [Int64.toInt_mul, q1, Int.bmod_def]
    split <;> omega
  rw [Int64.toInt_sub, q2, Int.bmod_def]
  split <;> omega
def sd (a : Int64) : Nat → Int64
  | 0 => a
  | k + 1 => (rmL (sd a k * 48271) 2147483647).getD 0
def dgt (N : Nat) (a : Int64) (k : Nat) : Nat := ((rmL (sd a (k + 1)) (nI (N - k)).toInt64).getD 0).toInt.toNat
theorem sd_ok {a : Int64} (h0 : 0 ≤ a.toInt ∧ a.toInt < 2147483648) : ∀ k, 0 ≤ (sd a k).toInt ∧ (sd a k).toInt < 2147483648
  | 0 => h0
  | k + 1 => by
    have ih := sd_ok h0 k
    have e : (sd a k * 48271).toInt = (sd a k).toInt * 48271 := by
      rw [Int64.toInt_mul, show (48271 : Int64).toInt = 48271 by decide, Int.bmod_def]
      split <;> omega
    obtain ⟨v, v1, v2⟩ := rmL_pos (a := sd a k * 48271) (b := 2147483647) (by omega) (by decide)
    show 0 ≤ ((rmL (sd a k * 48271) 2147483647).getD 0).toInt ∧ ((rmL (sd a k * 48271) 2147483647).getD 0).toInt < 2147483648
    rw [v1]
    simp only [Option.getD_some]
    rw [v2, show (2147483647 : Int64).toInt = 2147483647 by decide]
    omega
theorem sd_step {a : Int64} (h0 : 0 ≤ a.toInt ∧ a.toInt < 2147483648) (k : Nat) : rmL (sd a k * 48271) 2147483647 = some (sd a (k + 1)) := by
  have ih := sd_ok h0 k
  have e : (sd a k * 48271).toInt = (sd a k).toInt * 48271 := by
    rw [Int64.toInt_mul, show (48271 : Int64).toInt = 48271 by decide, Int.bmod_def]
    split <;> omega
  obtain ⟨v, v1, v2⟩ := rmL_pos (a := sd a k * 48271) (b := 2147483647) (by omega) (by decide)
  show _ = some ((rmL (sd a k * 48271) 2147483647).getD 0)
  rw [v1]
  rfl
theorem dgt_ok {a : Int64} {N k : Nat} (h0 : 0 ≤ a.toInt ∧ a.toInt < 2147483648) (hN : N ≤ 5) (hk : k < N) : dgt N a k < N - k ∧ ∃ v, rmL (sd a (k + 1)) (nI (N - k)).toInt64 = some v ∧ v.toInt32 = nI (dgt N a k) := by
  have ih := sd_ok h0 (k + 1)
  have e : ((nI (N - k)).toInt64).toInt = ((N - k : Nat) : Int) := by rw [Int32.toInt_toInt64, nI_toInt (by omega)]
  obtain ⟨v, v1, v2⟩ := rmL_pos (a := sd a (k + 1)) (b := (nI (N - k)).toInt64) ih.1 (by omega)
  rw [e] at v2
  have l1 := Int.emod_lt_of_pos (sd a (k + 1)).toInt (show (0 : Int) < ((N - k : Nat) : Int) by omega)
  have l2 := Int.emod_nonneg (sd a (k + 1)).toInt (show ((N - k : Nat) : Int) ≠ 0 by omega)
  have ed : dgt N a k = v.toInt.toNat := by
    unfold dgt
    rw [v1]
    rfl
  refine ⟨by omega, v, v1, ?_⟩
  rw [i32_eq, ed, nI_toInt (by omega), Int64.toInt_toInt32, Int.bmod_def]
  split <;> omega
theorem draw_eq {n N : Nat} {a : Int32} {σ : St} (hN : N ≤ 5) (ha : 0 ≤ a.toInt) (hn : 10 < n) : ∃ w, F_Orders_draw n (nI N) a σ = some w ∧ (∀ g u, ¬ ((g = 18 ∨ g = 19) ∧ u = 0) → w.1 g u = σ.1 g u) ∧ w.2 = σ.2 ∧ OW N (ordG N (dgt N a.toInt64)) w := by
  have h0 : 0 ≤ a.toInt64.toInt ∧ a.toInt64.toInt < 2147483648 := by
    rw [Int32.toInt_toInt64]
    have := Int32.toInt_lt a
    omega
  have hd : ∀ k, k < N → dgt N a.toInt64 k < N - k := fun k hk => (dgt_ok h0 hN hk).1
  unfold F_Orders_draw
  rw [min5 hN]
  simp only [obind, b2_some, bs_eq]
  rw [show (si σ 18 0 1 (nI N)).1 18 0 1 = nI N by rw [si_g, if_pos (by omega)], full_eq N hN]
  refine loop_inv (fun q k (b : Nat × Int64) s => F_Orders_draw_25 n q (nI b.1) b.2 (nI k) s) N (fun k => (mkG N (dgt N a.toInt64) k, sd a.toInt64 k)) (fun k s => (∀ g u, ¬ ((g = 18 ∨ g = 19) ∧ u = 0) → s.1 g u = σ.1 g u) ∧ s.2 = σ.2 ∧ s.1 18 0 1 = nI N ∧ ∀ p, p < k → s.1 19 0 p = nI (ordG N (dgt N a.toInt64) p)) (fun w => (∀ g u, ¬ ((g = 18 ∨ g = 19) ∧ u = 0) → w.1 g u = σ.1 g u) ∧ w.2 = σ.2 ∧ OW N (ordG N (dgt N a.toInt64)) w) (fun q s hs => ?_) (fun q k s hk hs => ?_) n 0 _ (by omega) (by omega) ⟨fun g u a => si_ne (by omega), rfl, by rw [si_g, if_pos (by omega)], fun p hp => by omega⟩
  · refine ⟨s, ?_, hs.1, hs.2.1, hs.2.2.1, hs.2.2.2⟩
    rw [F_Orders_draw_25, hs.2.2.1, if_pos (by simp (disch := omega) only [nI_leI]; omega)]
  · obtain ⟨d1, v, v1, v2⟩ := dgt_ok h0 hN hk
    obtain ⟨m1, m2, -⟩ := mkG_ok hN hd k (by omega)
    obtain ⟨o1, o2, o3⟩ := ordG_ok hN hd hk
    obtain ⟨q1, -⟩ := clr_ok _ m1 _ (show ordG N (dgt N a.toInt64) k < 5 by omega) o3
    refine ⟨si s 19 0 k (nI (ordG N (dgt N a.toInt64) k)), ?_, fun g u z => by rw [si_ne (by omega)]; exact hs.1 g u z, hs.2.1, by rw [si_ne (by omega)]; exact hs.2.2.1, fun p hp => ?_⟩
    · rw [F_Orders_draw_25, hs.2.2.1, if_neg (by simp (disch := omega) only [nI_leI]; omega), sub_nI (by omega) (by omega), sd_step h0 k]
      simp only [obind, b2_some, bs_eq]
      rw [v1]
      simp only [obind, b2_some, bs_eq]
      rw [v2, pick_eq m1 (by omega) (by omega)]
      simp only [obind, b2_some, bs_eq]
      rw [show pkN (mkG N (dgt N a.toInt64) k) (dgt N a.toInt64 k) = ordG N (dgt N a.toInt64) k from rfl, ast_19 (by omega)]
      simp only [obind, b2_some, bs_eq]
      rw [ald_19 (by omega), si_g, if_pos (by omega)]
      simp only [obind, b2_some, bs_eq, nI_1]
      rw [q1]
      rfl
    · rw [si_g]
      by_cases e : p = k
      · rw [if_pos (by omega), e]
      · rw [if_neg (by omega)]
        exact hs.2.2.2 p (by omega)
theorem lots_75 {n : Nat} (K40 : Int64 → Int32 → Int32 → St → Option (Int32 × St)) (l2 : Int64) (l4 l5 : Int32) (σ : St) (v : Int32) : ∀ k l6 l7, mpk k l4 l6 l7 = some v → F_Mod_lots_75 n K40 k l2 l4 l5 l6 l7 σ = (ast σ 31 0 (1 + l5) v).bind fun σ7 => K40 l2 (l4 &&& ((1 <<< (v &&& 31)) ^^^ (-1))) (l5 + 1) σ7
  | 0, _, _, h => by rw [mpk] at h; exact absurd h (by simp)
  | k + 1, l6, l7, h => by
    rw [F_Mod_lots_75]
    unfold F_Mod_has F_Mod_lots_90
    rw [mpk] at h
    by_cases e1 : ((l4 >>> (l7 &&& 31)) &&& 1) = 1
    · rw [if_pos e1] at *
      simp only [obind, b2_some, bs_eq, if_neg one_ne]
      by_cases e2 : l6 ≤ 0
      · rw [if_pos e2] at *
        rw [Option.some.inj h]
      · rw [if_neg e2] at *
        exact lots_75 K40 l2 l4 l5 σ v k _ _ h
    · rw [if_neg e1] at *
      simp only [obind, b2_some, bs_eq, if_true]
      exact lots_75 K40 l2 l4 l5 σ v k _ _ h
theorem op_lots {n : Nat} {σ : St} (a1 : Int32) (hn : 2000 ≤ n) (h : RR σ) : ∃ r σ1 σ2, F_Tent_lots n a1 σ = some (r, σ1) ∧ F_Mod_lots n a1 σ1 = some (r, σ2) ∧ RR σ2 := by
  obtain ⟨V, hc, hm⟩ := h.2.2.2.view
  have hN := hc.1.1
  have h1 := hc.2.1
  have m1 := hm.2.1
  have hn' : 10 < n := by omega
  unfold F_Tent_lots F_Mod_lots
  rw [show (1 : Int64) = (1 : Int32).toInt64 from rfl, show (2147483646 : Int64) = (2147483646 : Int32).toInt64 from rfl, in_I]
  have t1 : (1 : Int32).toInt = 1 := by decide
  have t2 : (2147483646 : Int32).toInt = 2147483646 := by decide
  have t3 : (2147483647 : Int32).toInt = 2147483647 := by decide
  by_cases g : 1 ≤ a1 ∧ a1 ≤ 2147483646
  · have gi := g
    rw [i32_le, i32_le, t1, t2] at gi
    have c1 : ¬ a1 < 1 := by rw [i32_lt, t1]; omega
    have c2 : a1 < 2147483647 := by rw [i32_lt, t3]; omega
    rw [if_neg c1, if_pos c2, if_pos g, h1]
    simp only [obind, b2_some, bs_eq, if_neg one_ne]
    by_cases gN : vN V = 0
    · exact ⟨-4, σ, σ, by rw [if_pos (by rw [gN]; rfl)], by rw [m1, if_pos (by rw [gN]; rfl)], h⟩
    · have g0 : ¬ nI (vN V) = 0 := by rw [nI_z (by omega)]; exact gN
      have h0 : 0 ≤ a1.toInt64.toInt ∧ a1.toInt64.toInt < 2147483648 := by
        rw [Int32.toInt_toInt64]
        omega
      have hd : ∀ k, k < vN V → dgt (vN V) a1.toInt64 k < vN V - k := fun k hk => (dgt_ok h0 hN hk).1
      obtain ⟨P, pw⟩ := ordG_pw hN hd
      obtain ⟨w, w1, w2, w3, w4⟩ := draw_eq (n := n) (N := vN V) (a := a1) (σ := σ) hN (by omega) hn'
      obtain ⟨y, y1, y2, y3, y4, y5⟩ := lay_by (n := n) (t := 0) (g1 := 19) (u1 := 0) (σ := w) hN (by rw [w2 4 0 (by omega)]; exact h1) (by omega) rfl w4.2 pw hn'
      have yo : ∀ g u, ¬ ((g = 18 ∨ g = 19 ∨ g = 9 ∨ g = 10) ∧ u = 0) → y.1 g u = σ.1 g u := fun g u a => by rw [y2 g u (by omega), w2 g u (by omega)]
      have hy : CV 0 (setW V P (ordG (vN V) (dgt (vN V) a1.toInt64))) y := hc.setW pw (fun g a b => yo g 0 (by omega)) y4 y5
      generalize hW : ordG (vN V) (dgt (vN V) a1.toInt64) = W at *
      obtain ⟨⟨z1, z2⟩, f1, f2, f3, f4, f5, f6⟩ : ∃ z, F_Mod_lots_40 n n (sd a1.toInt64 0) (nI (mkG (vN V) (dgt (vN V) a1.toInt64) 0)) (nI 0) y = some z ∧ z.1 = nI (worthV (setW V P W)) ∧ (∀ g u, ¬ ((g = 31 ∨ g = 42 ∨ g = 43 ∨ g = 30) ∧ u = 0) → z.2.1 g u = y.1 g u) ∧ z.2.2 = y.2 ∧ (∀ q, ¬ (1 ≤ q ∧ q < 6) → z.2.1 31 0 q = y.1 31 0 q) ∧ (∀ p, p < vN V → z.2.1 31 0 (1 + p) = nI (W p)) ∧ ∀ j, j ≠ 22 → j ≠ 23 → z.2.1 30 0 j = y.1 30 0 j := by
        refine loop_inv (fun q k (b : Int64 × Nat) s => F_Mod_lots_40 n q b.1 (nI b.2) (nI k) s) (vN V) (fun k => (sd a1.toInt64 k, mkG (vN V) (dgt (vN V) a1.toInt64) k)) (fun k s => (∀ g u, ¬ (g = 31 ∧ u = 0) → s.1 g u = y.1 g u) ∧ s.2 = y.2 ∧ (∀ q, ¬ (1 ≤ q ∧ q < 6) → s.1 31 0 q = y.1 31 0 q) ∧ ∀ p, p < k → s.1 31 0 (1 + p) = nI (W p)) (fun z => z.1 = nI (worthV (setW V P W)) ∧ (∀ g u, ¬ ((g = 31 ∨ g = 42 ∨ g = 43 ∨ g = 30) ∧ u = 0) → z.2.1 g u = y.1 g u) ∧ z.2.2 = y.2 ∧ (∀ q, ¬ (1 ≤ q ∧ q < 6) → z.2.1 31 0 q = y.1 31 0 q) ∧ (∀ p, p < vN V → z.2.1 31 0 (1 + p) = nI (W p)) ∧ ∀ j, j ≠ 22 → j ≠ 23 → z.2.1 30 0 j = y.1 30 0 j) (fun q s hs => ?_) (fun q k s hk hs => ?_) n 0 y (by omega) (by omega) ⟨fun _ _ _ => rfl, rfl, fun _ _ => rfl, fun p hp => by omega⟩
        · have hsM : MU (setW V P W) s := by
            obtain ⟨hw, a1', a2, a3, a4, a5, a6, a7, a8⟩ := hm
            refine ⟨hy.1, ?_, fun i hi => ?_, fun k hk => ?_, ?_, ?_, ?_, ?_, ?_⟩
            · rw [hs.1 30 0 (by omega), yo 30 0 (by omega)]; exact a1'
            · have hi' : i < vN V := hi
              obtain ⟨b1, b2, b3, b4, b5, b6⟩ := a2 i hi
              rw [hs.1 32 0 (by omega), hs.1 33 0 (by omega), yo 32 0 (by omega), yo 33 0 (by omega), hs.2.2.1 (6 + i) (by omega), yo 31 0 (by omega)]
              exact ⟨b1, b2, b3, b4, b5, hs.2.2.2 i hi⟩
            · rw [hs.1 34 0 (by omega), yo 34 0 (by omega)]; exact a3 k hk
            · rw [hs.2.2.1 11 (by omega), yo 31 0 (by omega)]; exact a4
            · rw [hs.2.2.1 12 (by omega), yo 31 0 (by omega)]; exact a5
            · rw [hs.2.2.1 13 (by omega), yo 31 0 (by omega)]; exact a6
            · rw [hs.1 30 0 (by omega), yo 30 0 (by omega)]; exact a7
            · rw [hs.1 30 0 (by omega), yo 30 0 (by omega)]; exact a8
          refine ⟨(nI (worthV (setW V P W)), lay s), ?_, rfl, fun g u a => ?_, by show (lay s).2 = y.2; rw [lay_2, hs.2.1], fun q hq => ?_, fun p hp => ?_, fun j a b => ?_⟩
          · rw [F_Mod_lots_40, hs.1 30 0 (by omega), yo 30 0 (by omega), m1, if_pos (by simp (disch := omega) only [nI_leI]; omega), layNow_eq hn']
            simp only [obind, b2_some, bs_eq]
            rw [mw_worth hsM.ly hn']
            rfl
          · simp only []
            rw [lay_ne (by omega) (by omega) (by omega), hs.1 g u (by omega)]
          · simp only []
            rw [lay_ne (by omega) (by omega) (by omega), hs.2.2.1 q hq]
          · simp only []
            rw [lay_ne (by omega) (by omega) (by omega), hs.2.2.2 p hp]
          · simp only []
            rw [lay_30 a b, hs.1 30 0 (by omega)]
        · obtain ⟨d1, v, v1, v2⟩ := dgt_ok h0 hN hk
          obtain ⟨q1, q2, -⟩ := mkG_ok hN hd k (by omega)
          obtain ⟨o1, o2, o3⟩ := ordG_ok hN hd hk
          obtain ⟨q3, -⟩ := clr_ok _ q1 _ (show ordG (vN V) (dgt (vN V) a1.toInt64) k < 5 by omega) o3
          have mp := mpk_up 10 (n - 10) _ _ _ _ (mpk_ok _ q1 (dgt (vN V) a1.toInt64 k) (by omega) (by omega))
          rw [show 10 + (n - 10) = n by omega] at mp
          refine ⟨si s 31 0 (1 + k) (nI (W k)), ?_, fun g u a => by rw [si_ne a]; exact hs.1 g u a, hs.2.1, fun q hq => by rw [si_g, if_neg (by omega)]; exact hs.2.2.1 q hq, fun p hp => ?_⟩
          · rw [F_Mod_lots_40, hs.1 30 0 (by omega), yo 30 0 (by omega), m1, if_neg (by simp (disch := omega) only [nI_leI]; omega), sub_nI (by omega) (by omega), sd_step h0 k]
            simp only [obind, b2_some, bs_eq]
            rw [v1]
            simp only [obind, b2_some, bs_eq]
            rw [v2, lots_75 _ _ _ _ _ _ _ _ _ mp, show (1 : Int32) + nI k = nI (1 + k) from nI_add 1 k, ast_31 (by omega)]
            simp only [obind, b2_some, bs_eq, nI_1]
            rw [show pkN (mkG (vN V) (dgt (vN V) a1.toInt64) k) (dgt (vN V) a1.toInt64 k) = ordG (vN V) (dgt (vN V) a1.toInt64) k from rfl, q3, hW]
            rw [← hW]
            rfl
          · rw [si_g]
            by_cases e : p = k
            · rw [if_pos (by omega), e]
            · rw [if_neg (by omega)]
              exact hs.2.2.2 p (by omega)
      simp only at f2 f3 f4 f5 f6
      refine ⟨nI (worthV (setW V P W)), y, z2, ?_, ?_, ?_⟩
      · rw [if_neg g0, w1]
        simp only [obind, b2_some, bs_eq]
        rw [y1]
        simp only [obind, b2_some, bs_eq]
        rw [cv_worth hy hn']
        rfl
      · rw [yo 30 0 (by omega), m1, if_neg g0, full_eq _ hN]
        rw [f2] at f1
        exact f1
      · exact h.lieW (h.N hc) hN m1 pw (fun g u a b => yo g u (by unfold keepG at a; omega)) (by rw [y3, w3]) y5 y4 (fun g u a b => f3 g u (by unfold keepG at a; omega)) f4 (fun j a => f6.2 j (by omega) (by omega)) f6.1 f5
  · refine ⟨-1, σ, σ, ?_, ?_, h⟩
    · by_cases c1 : a1 < 1
      · rw [if_pos c1]
      · rw [if_neg c1, if_neg]
        intro c2
        refine g ?_
        rw [i32_lt, t1] at c1
        rw [i32_lt, t3] at c2
        rw [i32_le, i32_le, t1, t2]
        omega
    · rw [if_neg g]; rfl
