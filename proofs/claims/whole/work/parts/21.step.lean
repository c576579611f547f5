theorem sl32 : ∀ n, n < 32 → ((nI n &&& 31).toBitVec.smod 32).toNat = n := by decide +kernel
theorem kbitI {x y : Nat} (hx : x < 2 ^ 31) (hy : y < 32) : ((nI x >>> (nI y &&& 31)) &&& 1) = nI (x / 2 ^ y % 2) := by
  rw [pk_shrN hx _ y (sl32 y hy)]
  have h1 : x / 2 ^ y ≤ x := Nat.div_le_self x _
  exact pk_andN (m := 1) (by omega) 1 (by decide)
theorem testBit_dm (x y : Nat) : x.testBit y = decide (x / 2 ^ y % 2 = 1) := Nat.testBit_eq_decide_div_mod_eq
/-- the least place from k on, of n, where p holds -/
def lst (p : Nat → Bool) : Nat → Nat → Nat
  | 0, k => k
  | n + 1, k => if p k then k else lst p n (k + 1)
theorem lst_spec (p : Nat → Bool) : ∀ (n k y : Nat), k ≤ y → y < k + n → p y = true → k ≤ lst p n k ∧ lst p n k ≤ y ∧ p (lst p n k) = true ∧ ∀ j, k ≤ j → j < lst p n k → p j = false
  | 0, k, y, h1, h2, _ => by omega
  | n + 1, k, y, h1, h2, h3 => by
    unfold lst
    by_cases hk : p k = true
    · rw [if_pos hk]
      exact ⟨Nat.le_refl k, h1, hk, fun j a b => by omega⟩
    · rw [if_neg hk]
      have hky : k ≠ y := fun e => hk (e ▸ h3)
      obtain ⟨a, b, c, d⟩ := lst_spec p n (k + 1) y (by omega) (by omega) h3
      refine ⟨by omega, b, c, fun j e f => ?_⟩
      rcases Nat.lt_or_ge k j with q | q
      · exact d j (by omega) f
      · have : j = k := by omega
        subst this
        cases hh : p j
        · rfl
        · exact absurd hh hk
/-- distances as they must be -/
def WFd (g d : Nat → Int32) : Prop :=
  (∀ k, k < 64 → d k = nI (gN d k)) ∧ (∀ a, a < 8 → aD d a a = 0) ∧ (∀ a b, a < 8 → b < 8 → aD d a b < 8 ∨ aD d a b = 999999) ∧
  (∀ a b, a < 8 → b < 8 → 0 < aD d a b → aD d a b < 8 → ∃ y, y < 8 ∧ aLane g a y = true ∧ aD d y b = aD d a b - 1) ∧
  (∀ a b, a < 8 → b < 8 → (aLane g a b = true ↔ aD d a b = 1))
def aNp (g d : Nat → Int32) (a t y : Nat) : Bool := aLane g a y && decide (aD d y t = aD d a t - 1)
/-- where it goes from a, if he is at t -/
def aNx (g d : Nat → Int32) (a t : Nat) : Nat := if aD d a t = 0 ∨ 999999 ≤ aD d a t then a else lst (aNp g d a t) 8 0
theorem aNx_spec {g d : Nat → Int32} (hd : WFd g d) {a t : Nat} (ha : a < 8) (ht : t < 8) (h0 : aD d a t ≠ 0) (h1 : aD d a t < 999999) : aNx g d a t < 8 ∧ aNp g d a t (aNx g d a t) = true ∧ ∀ j, j < aNx g d a t → aNp g d a t j = false := by
  obtain ⟨d0, d1, d2, d3, d4⟩ := hd
  have e : aNx g d a t = lst (aNp g d a t) 8 0 := if_neg (by omega)
  obtain ⟨y, y1, y2, y3⟩ := d3 a t ha ht (by omega) (by rcases d2 a t ha ht with h | h <;> omega)
  have hp : aNp g d a t y = true := by
    unfold aNp
    rw [y2, y3]
    simp
  obtain ⟨a1, a2, a3, a4⟩ := lst_spec (aNp g d a t) 8 0 y (by omega) (by omega) hp
  rw [e]
  exact ⟨by omega, a3, fun j hj => a4 j (by omega) hj⟩
theorem aNx_lt {g d : Nat → Int32} (hg : WFg g) (hd : WFd g d) {a t : Nat} (ha : a < aN g) (ht : t < 8) : aNx g d a t < aN g := by
  have h8 := hg.N
  by_cases h : aD d a t = 0 ∨ 999999 ≤ aD d a t
  · unfold aNx
    rw [if_pos h]
    exact ha
  · obtain ⟨a1, a2, a3⟩ := aNx_spec hd (by omega : a < 8) ht (by omega) (by omega)
    unfold aNp at a2
    simp only [Bool.and_eq_true] at a2
    obtain ⟨h0, h1, h2, h3, h4, h5, h6, hl1, hl2, h7⟩ := hg
    exact (hl2 a _ (by omega) a1 a2.1).2.1
/-- the model's farm -/
def FmM (σ : Mm) (g d : Nat → Int32) : Prop := (∀ k, k < 82 → σ.1 1 k = nI (gN g k)) ∧ (∀ k, k < 64 → σ.1 2 k = nI (gN d k))
/-- the component's distances and ways -/
def FmD (σ : Mm) (b : Nat) (g d : Nat → Int32) : Prop := ∀ a t, a < 8 → t < 8 → σ.1 (b + 1) (8 * a + t) = nI (if aD d a t < 8 then aD d a t else 99) ∧ σ.1 (b + 2) (8 * a + t) = nI (aNx g d a t)
/-- a state of the calf, the model's number: yard + 8 w + 48 left, w 0: nobody, i + 1: person i -/
def isSt (g : Nat → Int32) (m : Nat) : Prop := m < 1008 ∧ m % 8 < aN g ∧ m / 8 % 6 ≤ aP g ∧ (m / 8 % 6 = 0 → m / 48 = 0) ∧ (aF g = 0 → m / 48 = 0) ∧ (m / 8 % 6 ≠ 0 → aF g ≠ 0 → 1 ≤ m / 48 ∧ m / 48 ≤ aF g)
/-- the component's number of a state -/
def cst (g : Nat → Int32) (m : Nat) : Nat := ((if m / 8 % 6 = 0 ∨ aF g = 0 then 0 else aF g - m / 48) * 6 + m / 8 % 6) * 8 + m % 8
/-- a minute goes by: t is the minute that begins -/
def aft (g d : Nat → Int32) (m t : Nat) : Nat :=
  if m / 8 % 6 = 0 then m % 8
  else if aF g ≠ 0 ∧ m / 48 = 1 then m % 8
  else aNx g d (m % 8) (aPlc g (m / 8 % 6 - 1) t) + 8 * (m / 8 % 6) + 48 * (if aF g = 0 then 0 else m / 48 - 1)
def fedm (g : Nat → Int32) (m i : Nat) : Nat := m % 8 + 8 * (i + 1) + 48 * aF g
theorem split3 {y w l : Nat} (hy : y < 8) (hw : w < 6) : (y + 8 * w + 48 * l) % 8 = y ∧ (y + 8 * w + 48 * l) / 8 % 6 = w ∧ (y + 8 * w + 48 * l) / 48 = l := by omega
theorem isSt_fed {g : Nat → Int32} (hg : WFg g) {m i : Nat} (hm : isSt g m) (hi : i < aP g) : isSt g (fedm g m i) := by
  have h1 := hg.N
  have h2 := hg.P
  have h3 := hg.F
  obtain ⟨m0, m1, m2, m3, m4, m5⟩ := hm
  obtain ⟨e1, e2, e3⟩ := split3 (y := m % 8) (w := i + 1) (l := aF g) (by omega) (by omega)
  unfold isSt fedm
  rw [e1, e2, e3]
  refine ⟨by omega, m1, by omega, by omega, fun h => h, fun _ _ => by omega⟩
theorem isSt_aft {g d : Nat → Int32} (hg : WFg g) (hd : WFd g d) {m t : Nat} (hm : isSt g m) : isSt g (aft g d m t) := by
  have h1 := hg.N
  have h2 := hg.P
  have h3 := hg.F
  obtain ⟨m0, m1, m2, m3, m4, m5⟩ := hm
  have hy : isSt g (m % 8) := by
    unfold isSt
    refine ⟨by omega, by omega, by omega, by omega, by omega, by omega⟩
  unfold aft
  split
  · exact hy
  · split
    · exact hy
    · rename_i a b
      have hp := hg.plc (i := m / 8 % 6 - 1) (t := t) (by omega)
      have hx := aNx_lt hg hd (a := m % 8) (t := aPlc g (m / 8 % 6 - 1) t) m1 (by omega)
      obtain ⟨e1, e2, e3⟩ := split3 (y := aNx g d (m % 8) (aPlc g (m / 8 % 6 - 1) t)) (w := m / 8 % 6) (l := if aF g = 0 then 0 else m / 48 - 1) (by omega) (by omega)
      unfold isSt
      rw [e1, e2, e3]
      refine ⟨?_, hx, m2, by omega, fun h => by rw [if_pos h], fun h h' => ?_⟩
      · split
        · omega
        · have := m5 a (by assumption)
          omega
      · rw [if_neg h']
        have := m5 a h'
        omega
theorem cst_lt {g : Nat → Int32} (hg : WFg g) {m : Nat} (hm : isSt g m) : cst g m < (if aF g = 0 then 1 else aF g) * 48 ∧ cst g m < 960 := by
  have h3 := hg.F
  have h2 := hg.P
  obtain ⟨m0, m1, m2, m3, m4, m5⟩ := hm
  unfold cst
  by_cases hf : aF g = 0
  · rw [if_pos hf, if_pos (Or.inr hf)]
    omega
  · rw [if_neg hf]
    by_cases hw : m / 8 % 6 = 0
    · rw [if_pos (Or.inl hw)]
      omega
    · rw [if_neg (by omega)]
      have := m5 hw hf
      omega
theorem cst_inj {g : Nat → Int32} {m n : Nat} (hm : isSt g m) (hn : isSt g n) (h : cst g m = cst g n) : m = n := by
  obtain ⟨m0, m1, m2, m3, m4, m5⟩ := hm
  obtain ⟨n0, n1, n2, n3, n4, n5⟩ := hn
  unfold cst at h
  by_cases hf : aF g = 0
  · rw [if_pos (Or.inr hf), if_pos (Or.inr hf)] at h
    have := m4 hf
    have := n4 hf
    omega
  · by_cases hw : m / 8 % 6 = 0
    · by_cases hv : n / 8 % 6 = 0
      · rw [if_pos (Or.inl hw), if_pos (Or.inl hv)] at h
        have := m3 hw
        have := n3 hv
        omega
      · rw [if_pos (Or.inl hw), if_neg (by omega)] at h
        omega
    · by_cases hv : n / 8 % 6 = 0
      · rw [if_neg (by omega), if_pos (Or.inl hv)] at h
        omega
      · rw [if_neg (by omega), if_neg (by omega)] at h
        have := m5 hw hf
        have := n5 hv hf
        omega
