theorem kI (n : Nat) : (OfNat.ofNat n : Int32) = nI n := rfl
theorem krem (a d : Nat) : nI a - nI (a / d * d) = nI (a % d) := by
  rw [pk_sub (Nat.div_mul_le_self a d)]
  congr 1
  have := Nat.div_add_mod a d
  rw [Nat.mul_comm] at this
  omega
theorem ksub1 {a : Nat} (h : 1 ≤ a) : nI a - nI 1 = nI (a - 1) := pk_sub h
theorem brn_t {c A B : Prop} (h : ¬ c) (a : A) : (¬ c → A) ∧ (c → B) := ⟨fun _ => a, fun z => absurd z h⟩
theorem brn_f {c A B : Prop} (h : c) (b : B) : (¬ c → A) ∧ (c → B) := ⟨fun z => absurd h z, fun _ => b⟩
theorem fa_lt_ (a b : Int32) : a < b ↔ a.toInt < b.toInt := Int32.lt_iff_toInt_lt
theorem fa_le_ (a b : Int32) : a ≤ b ↔ a.toInt ≤ b.toInt := Int32.le_iff_toInt_le
theorem nI_m1 {t : Nat} (h : t < 2 ^ 31) : ¬ nI t = -1 ∧ ¬ nI t < -1 := by
  have b3 : (-1 : Int32).toInt = -1 := by decide
  constructor
  · intro q
    have : (nI t).toInt = (-1 : Int32).toInt := by rw [q]
    rw [nI_toInt h] at this
    omega
  · intro q
    have := (fa_lt_ _ _).mp q
    rw [nI_toInt h] at this
    omega
theorem m1_le {y : Int32} (c : ¬ y < -1) (c3 : ¬ y = -1) : ¬ y < 0 := by
  intro q
  have b1 := (fa_lt_ _ _).mp q
  have b2 : ¬ (y.toInt < (-1 : Int32).toInt) := fun z => c ((fa_lt_ _ _).mpr z)
  have b3 : (-1 : Int32).toInt = -1 := by decide
  have b4 : (0 : Int32).toInt = 0 := by decide
  exact c3 (ksw (v := -1) (k := -1) (by omega) b3)
theorem kIm1 : (-1 : Int32) = nI 4294967295 := rfl
/-- the number of an int that isn't below 0 -/
def gN (g : Nat → Int32) (k : Nat) : Nat := (g k).toNatClampNeg
def aN (g : Nat → Int32) : Nat := gN g 0
def aP (g : Nat → Int32) : Nat := gN g 1
def aF (g : Nat → Int32) : Nat := gN g 2
def aC (g : Nat → Int32) : Nat := gN g 3
def aCost (g : Nat → Int32) (i : Nat) : Nat := gN g (12 + i)
def aMany (g : Nat → Int32) (i : Nat) : Nat := gN g (17 + i)
def aWay (g : Nat → Int32) (i k : Nat) : Nat := gN g (22 + 12 * i + k)
def aLane (g : Nat → Int32) (a b : Nat) : Bool := (gN g (4 + a)).testBit b
def aPlc (g : Nat → Int32) (i t : Nat) : Nat := aWay g i (t % aMany g i)
def aD (d : Nat → Int32) (a b : Nat) : Nat := gN d (8 * a + b)
/-- a farm as it is told, in the model's row -/
def WFg (g : Nat → Int32) : Prop :=
  (∀ k, k < 82 → g k = nI (gN g k)) ∧ 2 ≤ aN g ∧ aN g ≤ 8 ∧ 1 ≤ aP g ∧ aP g ≤ 5 ∧ aF g ≤ 20 ∧ aC g < aN g ∧
  (∀ a, a < 8 → gN g (4 + a) < 256) ∧ (∀ a b, a < 8 → b < 8 → aLane g a b = true → a < aN g ∧ b < aN g ∧ a ≠ b ∧ aLane g b a = true) ∧
  (∀ i, i < aP g → aCost g i ≤ 99) ∧ (∀ i, i < aP g → 1 ≤ aMany g i ∧ aMany g i ≤ 12) ∧ (∀ i k, i < aP g → k < aMany g i → aWay g i k < aN g)
/-- a farm in the component's cells -/
def FmC (σ : Mm) (b : Nat) (g : Nat → Int32) : Prop :=
  σ.1 b 5 = nI (aN g) ∧ σ.1 b 6 = nI (aP g) ∧ σ.1 b 7 = nI (aF g) ∧ σ.1 b 8 = nI (aC g) ∧
  (∀ i, i < aP g → σ.1 (b + 3) i = nI (aCost g i)) ∧
  (∀ i, i < aP g → (σ.1 (b + 5) i = nI (aMany g i) ∧ ∀ k, k < aMany g i → σ.1 (b + 4) (12 * i + k) = nI (aWay g i k)) ∨ (σ.1 (b + 5) i = 0 ∧ aMany g i = 1 ∧ aWay g i 0 = 0))
theorem WFg.P {g : Nat → Int32} (h : WFg g) : 1 ≤ aP g ∧ aP g ≤ 5 := ⟨h.2.2.2.1, h.2.2.2.2.1⟩
theorem WFg.N {g : Nat → Int32} (h : WFg g) : 2 ≤ aN g ∧ aN g ≤ 8 := ⟨h.2.1, h.2.2.1⟩
theorem WFg.F {g : Nat → Int32} (h : WFg g) : aF g ≤ 20 := h.2.2.2.2.2.1
theorem WFg.C {g : Nat → Int32} (h : WFg g) : aC g < aN g := h.2.2.2.2.2.2.1
theorem WFg.plc {g : Nat → Int32} (h : WFg g) {i t : Nat} (hi : i < aP g) : aPlc g i t < aN g := by
  obtain ⟨h0, h1, h2, h3, h4, h5, h6, hl1, hl2, h7, h8, h9⟩ := h
  exact h9 i _ hi (Nat.mod_lt _ (h8 i hi).1)
theorem cC_yardAt {σ : Mm} {b : Nat} {g : Nat → Int32} (hw : WFg g) (hf : FmC σ b g) {i t : Nat} (hi : i < aP g) (ht : t < 100000) {Φ : Int32 → Prop} (h : Φ (nI (aPlc g i t))) : wp_X1_yardAt σ b (nI i) (nI t) Φ := by
  obtain ⟨h0, h1, h2, h3, h4, h5, h6, hl1, hl2, h7, h8, h9⟩ := hw
  obtain ⟨f1, f2, f3, f4, f5, f6⟩ := hf
  have hm := h8 i hi
  have e : t % aMany g i < aMany g i := Nat.mod_lt _ (by omega)
  rcases f6 i hi with ⟨f6, f7⟩ | ⟨f6, f7, f8⟩
  · have f8 := f7 _ e
    rw [Nat.mul_comm] at f8
    simp (disch := omega) only [wp_X1_yardAt, kI, nI_ltI, nI_leI, nI_eq, f2, nI_clamp, f6, pk_rem, pk_mul, nI_add, forall_eq, f8]
    refine br_f (by omega) (br_f (by omega) (br_t (by omega) ⟨by omega, br_t (by omega) ⟨by omega, by omega, h⟩⟩))
  · simp (disch := omega) only [wp_X1_yardAt, kI, nI_ltI, nI_leI, nI_eq, f2, nI_clamp, f6, pk_rem, pk_mul, nI_add, forall_eq]
    have e2 : aPlc g i t = 0 := by
      unfold aPlc
      rw [f7, Nat.mod_one]
      exact f8
    rw [e2] at h
    grind
