-- A TENT AS IT IS SEEN: how one feels, who sleeps
def kG (k g : Int32) : Int32 := if k = 3 then 2 * g else g
def kR (k : Int32) : Nat := if k = 4 then 2 else if k = 1 then 1 else 0
def kD (k : Int32) : Bool := decide (k = 2) || decide (k = 5)
def kS (k : Int32) : Bool := decide (k = 5)
abbrev Vw : Type := Nat × (Nat → Int32) × (Nat → Nat) × (Nat → Bool) × (Nat → Bool) × (Nat → Int32) × (Nat → Int32) × (Nat → Nat) × (Nat → Nat) × Int32 × Nat × Nat
abbrev vN (V : Vw) : Nat := V.1
abbrev vG (V : Vw) : Nat → Int32 := V.2.1
abbrev vR (V : Vw) : Nat → Nat := V.2.2.1
abbrev vD (V : Vw) : Nat → Bool := V.2.2.2.1
abbrev vS (V : Vw) : Nat → Bool := V.2.2.2.2.1
abbrev vB (V : Vw) : Nat → Int32 := V.2.2.2.2.2.1
abbrev vC (V : Vw) : Nat → Int32 := V.2.2.2.2.2.2.1
abbrev vW (V : Vw) : Nat → Nat := V.2.2.2.2.2.2.2.1
abbrev vP (V : Vw) : Nat → Nat := V.2.2.2.2.2.2.2.2.1
abbrev vV (V : Vw) : Int32 := V.2.2.2.2.2.2.2.2.2.1
abbrev vO (V : Vw) : Nat := V.2.2.2.2.2.2.2.2.2.2.1
abbrev vT (V : Vw) : Nat := V.2.2.2.2.2.2.2.2.2.2.2
def wfV (V : Vw) : Prop := vN V ≤ 5 ∧ (∀ i, i < vN V → vP V i < vN V ∧ vW V (vP V i) = i) ∧ (∀ p, p < vN V → vW V p < vN V ∧ vP V (vW V p) = p) ∧ (vV V = 0 ∨ vV V = 1) ∧ (vO V < vN V ∨ (vN V = 0 ∧ vO V = 0)) ∧ vT V < 256 ∧ ∀ i, i < vN V → vR V i ≤ 2
/-- the class's camp t shows V -/
def CV (t : Nat) (V : Vw) (σ : St) : Prop := wfV V ∧ σ.1 4 t 10 = nI (vN V) ∧ (∀ i, i < vN V → vG V i = kG (σ.1 6 t i) (σ.1 7 t i) ∧ vR V i = kR (σ.1 6 t i) ∧ vD V i = kD (σ.1 6 t i) ∧ vS V i = kS (σ.1 6 t i) ∧ vB V i = σ.1 8 t i ∧ σ.1 10 t i = nI (vW V i) ∧ σ.1 9 t i = nI (vP V i)) ∧ (∀ h, h < 8 → vC V h = σ.1 5 t h) ∧ σ.1 4 t 11 = vV V ∧ σ.1 4 t 12 = nI (vO V) ∧ σ.1 4 t 13 = nI (vT V)
def kd (σ : St) (i : Nat) : Int32 := if nI i = σ.1 30 0 25 then σ.1 30 0 26 else σ.1 32 0 i
/-- the reference shows V -/
def MW (V : Vw) (σ : St) : Prop := wfV V ∧ σ.1 30 0 1 = nI (vN V) ∧ (∀ i, i < vN V → vG V i = (if nI i = σ.1 30 0 24 then 0 else kG (kd σ i) (σ.1 33 0 i)) ∧ vR V i = (if nI i = σ.1 30 0 24 then 0 else kR (kd σ i)) ∧ vD V i = kD (kd σ i) ∧ vS V i = kS (kd σ i) ∧ vB V i = σ.1 43 0 i ∧ σ.1 42 0 i = nI (vW V i)) ∧ (∀ h, h < 8 → vC V h = σ.1 34 0 h) ∧ σ.1 31 0 11 = vV V ∧ σ.1 30 0 23 = nI (vO V) ∧ σ.1 30 0 22 = nI (vT V)
def rim (V : Vw) (i : Nat) : Bool := decide (vP V i = 0) || decide (vP V i + 1 = vN V)
def givL (V : Vw) (i : Nat) : Int32 := if 0 < vP V i then vG V (vW V (vP V i - 1)) else 0
def givR (V : Vw) (i : Nat) : Int32 := if vP V i + 1 < vN V then vG V (vW V (vP V i + 1)) else 0
def feel (V : Vw) (i h : Nat) : Int32 := vB V i + givL V i + givR V i + (if (vO V + h) % vN V = vP V i then 3 else 0) - vC V h - (if rim V i = true then 2 else 0) - (if vV V = 1 then 2 else if rim V i = true then nI (h / 2) else 0)
def nearB (V : Vw) (i o : Nat) : Bool := decide (vP V i ≠ vP V o) && (decide (vP V i ≤ vP V o + vR V o) && decide (vP V o ≤ vP V i + vR V o))
def cnt (c : Nat → Bool) : Nat → Nat
  | 0 => 0
  | k + 1 => cnt c k + (if c k = true then 1 else 0)
def sumf (f : Nat → Nat) : Nat → Nat
  | 0 => 0
  | k + 1 => sumf f k + f k
def minf (z : Nat) (f : Nat → Nat) : Nat → Nat
  | 0 => z
  | k + 1 => if f k < minf z f k then f k else minf z f k
def anyB (c : Nat → Bool) : Nat → Bool
  | 0 => false
  | k + 1 => anyB c k || c k
def hearsV (V : Vw) (i : Nat) : Bool := !vD V i && anyB (nearB V i) (vN V)
/-- the latest turn up to an hour -/
def lastT (T : Nat) : Nat → Nat
  | 0 => 0
  | h + 1 => if T.testBit (h + 1) = true then h + 1 else lastT T h
def soreB (T h : Nat) : Bool := decide (lastT T h + 3 ≤ h)
def wokenB (V : Vw) (i h : Nat) : Bool := !vS V i && (vT V).testBit h
def slp (V : Vw) (i h : Nat) : Bool := !decide (feel V i h < 0) && (!hearsV V i && (!soreB (vT V) h && !wokenB V i h))
def whyV (V : Vw) (i h : Nat) : Int32 := (if feel V i h < 0 then 1 else 0) + (if hearsV V i = true then 2 else 0) + (if soreB (vT V) h = true then 4 else 0) + (if wokenB V i h = true then 8 else 0)
def sleptV (V : Vw) (i : Nat) : Nat := cnt (slp V i) 8
def worthV (V : Vw) : Nat := sumf (sleptV V) (vN V)
def leastV (V : Vw) : Nat := minf 8 (sleptV V) (vN V)
/-- a set of places, by bits -/
def msk (c : Nat → Bool) : Nat → Nat
  | 0 => 0
  | h + 1 => msk c h + (if c h = true then 2 ^ h else 0)
theorem msk_lt (c : Nat → Bool) : ∀ k, msk c k < 2 ^ k
  | 0 => by show 0 < 1; decide
  | k + 1 => by
    have := msk_lt c k
    simp only [msk, Nat.pow_succ]
    split <;> omega
theorem bit_or : ∀ h, h < 8 → ∀ m, m < 2 ^ h → nI m ||| ((1 : Int32) <<< (nI h &&& 31)) = nI (m + 2 ^ h) := by decide +kernel
theorem bit_or0 (z : Int32) : z ||| 0 = z := by simp
theorem bit_at : ∀ T, T < 256 → ∀ h, h < 8 → ((((nI T) >>> (nI h &&& 31)) &&& 1) = 1 ↔ T.testBit h = true) := by decide +kernel
theorem bit_z (h : Nat) (hh : h < 8) : ¬ (((0 : Int32) >>> (nI h &&& 31)) &&& 1) = 1 := by
  have := (bit_at 0 (by omega) h hh)
  rw [show (0 : Int32) = nI 0 from rfl, this]
  simp
def pc8 (M : Nat) : Nat := cnt (fun h => M.testBit h) 8
theorem bitCount_eq : ∀ M, M < 256 → F_Integer_bitCount (nI M) = some (nI (pc8 M)) := by
  intro M hM
  unfold F_Integer_bitCount
  congr 1
  revert M hM
  decide +kernel
