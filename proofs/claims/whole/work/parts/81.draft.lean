-- ===== a farm that is being told
def Drf (g : Nat → Int32) (hl : Bool) : Prop :=
  (∀ k, k < 82 → g k = nI (gN g k)) ∧ (2 ≤ aN g ∧ aN g ≤ 8) ∧ aP g ≤ 5 ∧ aF g ≤ 20 ∧ aC g < 8 ∧ (∀ a, a < 8 → gN g (4 + a) < 256) ∧
  (∀ a b, a < 8 → b < 8 → aLane g a b = true → a < aN g ∧ b < aN g ∧ a ≠ b ∧ aLane g b a = true) ∧
  (∀ i, i < aP g → aCost g i ≤ 99) ∧ (∀ i, i < aP g → 1 ≤ aMany g i ∧ aMany g i ≤ 12) ∧ (∀ i k, i < aP g → k < aMany g i → aWay g i k < 8) ∧
  (hl = false → ∀ a b, a < 8 → b < 8 → aLane g a b = false)
def DC (σ : Mm) (b : Nat) (g : Nat → Int32) (hl : Bool) : Prop := FmC σ b g ∧ (∀ a c, a < 8 → c < 8 → σ.1 (b + 1) (8 * a + c) = nI (if a = c then 0 else if aLane g a c then 1 else 99)) ∧ σ.1 b 9 = wI hl
def DM (τ : Mm) (g : Nat → Int32) (hl : Bool) : Prop := (∀ k, k < 82 → τ.1 1 (82 + k) = g k) ∧ τ.1 0 6 = wI hl
theorem gN_same {g : Nat → Int32} {j v : Nat} (h : v < 2 ^ 31) : gN (upd g j (nI v)) j = v := by
  unfold gN
  rw [upd_at, nI_clamp h]
theorem gN_ne {g : Nat → Int32} {j k : Nat} {x : Int32} (h : k ≠ j) : gN (upd g j x) k = gN g k := by
  unfold gN
  rw [pk_un h]
theorem gI_upd {g : Nat → Int32} (hg : ∀ k, k < 82 → g k = nI (gN g k)) {j v : Nat} (h : v < 2 ^ 31) : ∀ k, k < 82 → upd g j (nI v) k = nI (gN (upd g j (nI v)) k) := by
  intro k hk
  by_cases e : k = j
  · subst e
    rw [gN_same h, upd_at]
  · rw [gN_ne e, pk_un e]; exact hg k hk
theorem DM_kw {r g : Nat → Int32} (h : ∀ k, k < 82 → r (82 + k) = g k) (j : Nat) (x : Int32) : ∀ k, k < 82 → upd r (82 + j) x (82 + k) = upd g j x k := by
  intro k hk
  by_cases e : k = j
  · subst e
    rw [upd_at, upd_at]
  · rw [pk_un (by omega), pk_un e]; exact h k hk
def gy (g : Nat → Int32) (v : Nat) : Nat → Int32 := upd g 0 (nI v)
def gf (g : Nat → Int32) (v : Nat) : Nat → Int32 := upd g 2 (nI v)
def gc (g : Nat → Int32) (v : Nat) : Nat → Int32 := upd g 3 (nI v)
def gp (g : Nat → Int32) (v : Nat) : Nat → Int32 := upd (upd (upd (upd g (12 + aP g) (nI v)) (17 + aP g) (nI 1)) (22 + 12 * aP g) (nI 0)) 1 (nI (aP g + 1))
def gl (g : Nat → Int32) (a c : Nat) : Nat → Int32 := upd (upd g (4 + a) (nI (gN g (4 + a) ||| 2 ^ c))) (4 + c) (nI (gN g (4 + c) ||| 2 ^ a))
def gw (g : Nat → Int32) (n : Nat) (T : Nat → Nat) (q : Nat) : Nat → Int32 := fun k => if k = 17 + (aP g - 1) then nI n else if 22 + 12 * (aP g - 1) ≤ k ∧ k < 22 + 12 * (aP g - 1) + n then nI (T (q + (k - (22 + 12 * (aP g - 1)))) - 48) else g k
theorem Drf_y {g : Nat → Int32} {v : Nat} (h : Drf g false) (h1 : 2 ≤ v) (h2 : v ≤ 8) : Drf (gy g v) false := by
  obtain ⟨a1, a2, a3, a4, a5, a6, a7, a8, a9, a10, a11⟩ := h
  have e0 : aN (gy g v) = v := gN_same (by omega)
  have e : ∀ k, k ≠ 0 → gN (gy g v) k = gN g k := fun k hk => gN_ne hk
  have el : ∀ a b, aLane (gy g v) a b = aLane g a b := fun a b => by unfold aLane; rw [e _ (by omega)]
  have eP : aP (gy g v) = aP g := e 1 (by omega)
  have eM : ∀ i, aMany (gy g v) i = aMany g i := fun i => e _ (by omega)
  refine ⟨gI_upd a1 (by omega), by rw [e0]; omega, by rw [eP]; exact a3, ?_, ?_, fun a ha => by rw [e _ (by omega)]; exact a6 a ha, fun a b ha hb hl => ?_, fun i hi => ?_, fun i hi => ?_, fun i k hi hk => ?_, fun _ a b ha hb => by rw [el]; exact a11 rfl a b ha hb⟩
  · show gN (gy g v) 2 ≤ 20; rw [e 2 (by omega)]; exact a4
  · show gN (gy g v) 3 < 8; rw [e 3 (by omega)]; exact a5
  · rw [el, a11 rfl a b ha hb] at hl; cases hl
  · show gN (gy g v) (12 + i) ≤ 99; rw [e _ (by omega)]; exact a8 i (by rw [← eP]; exact hi)
  · rw [eM]; exact a9 i (by rw [← eP]; exact hi)
  · show gN (gy g v) (22 + 12 * i + k) < 8; rw [e _ (by omega)]; exact a10 i k (by rw [← eP]; exact hi) (by rw [← eM]; exact hk)
theorem Drf_f {g : Nat → Int32} {v : Nat} {hl : Bool} (h : Drf g hl) (h2 : v ≤ 20) : Drf (gf g v) hl := by
  obtain ⟨a1, a2, a3, a4, a5, a6, a7, a8, a9, a10, a11⟩ := h
  have e0 : aF (gf g v) = v := gN_same (by omega)
  have e : ∀ k, k ≠ 2 → gN (gf g v) k = gN g k := fun k hk => gN_ne hk
  have el : ∀ a b, aLane (gf g v) a b = aLane g a b := fun a b => by unfold aLane; rw [e _ (by omega)]
  have eP : aP (gf g v) = aP g := e 1 (by omega)
  have eN : aN (gf g v) = aN g := e 0 (by omega)
  have eM : ∀ i, aMany (gf g v) i = aMany g i := fun i => e _ (by omega)
  refine ⟨gI_upd a1 (by omega), by rw [eN]; exact a2, by rw [eP]; exact a3, by rw [e0]; exact h2, ?_, fun a ha => by rw [e _ (by omega)]; exact a6 a ha, fun a b ha hb => ?_, fun i hi => ?_, fun i hi => ?_, fun i k hi hk => ?_, fun q a b ha hb => by rw [el]; exact a11 q a b ha hb⟩
  · show gN (gf g v) 3 < 8; rw [e 3 (by omega)]; exact a5
  · rw [el, el, eN]; exact a7 a b ha hb
  · show gN (gf g v) (12 + i) ≤ 99; rw [e _ (by omega)]; exact a8 i (by rw [← eP]; exact hi)
  · rw [eM]; exact a9 i (by rw [← eP]; exact hi)
  · show gN (gf g v) (22 + 12 * i + k) < 8; rw [e _ (by omega)]; exact a10 i k (by rw [← eP]; exact hi) (by rw [← eM]; exact hk)
theorem Drf_c {g : Nat → Int32} {v : Nat} {hl : Bool} (h : Drf g hl) (h2 : v ≤ 7) : Drf (gc g v) hl := by
  obtain ⟨a1, a2, a3, a4, a5, a6, a7, a8, a9, a10, a11⟩ := h
  have e0 : aC (gc g v) = v := gN_same (by omega)
  have e : ∀ k, k ≠ 3 → gN (gc g v) k = gN g k := fun k hk => gN_ne hk
  have el : ∀ a b, aLane (gc g v) a b = aLane g a b := fun a b => by unfold aLane; rw [e _ (by omega)]
  have eP : aP (gc g v) = aP g := e 1 (by omega)
  have eN : aN (gc g v) = aN g := e 0 (by omega)
  have eM : ∀ i, aMany (gc g v) i = aMany g i := fun i => e _ (by omega)
  refine ⟨gI_upd a1 (by omega), by rw [eN]; exact a2, by rw [eP]; exact a3, ?_, by rw [e0]; omega, fun a ha => by rw [e _ (by omega)]; exact a6 a ha, fun a b ha hb => ?_, fun i hi => ?_, fun i hi => ?_, fun i k hi hk => ?_, fun q a b ha hb => by rw [el]; exact a11 q a b ha hb⟩
  · show gN (gc g v) 2 ≤ 20; rw [e 2 (by omega)]; exact a4
  · rw [el, el, eN]; exact a7 a b ha hb
  · show gN (gc g v) (12 + i) ≤ 99; rw [e _ (by omega)]; exact a8 i (by rw [← eP]; exact hi)
  · rw [eM]; exact a9 i (by rw [← eP]; exact hi)
  · show gN (gc g v) (22 + 12 * i + k) < 8; rw [e _ (by omega)]; exact a10 i k (by rw [← eP]; exact hi) (by rw [← eM]; exact hk)
theorem gp_v {g : Nat → Int32} {v : Nat} (hP : aP g < 5) (hv : v ≤ 99) : gN (gp g v) 1 = aP g + 1 ∧ gN (gp g v) (12 + aP g) = v ∧ gN (gp g v) (17 + aP g) = 1 ∧ gN (gp g v) (22 + 12 * aP g) = 0 ∧ ∀ k, k ≠ 1 → k ≠ 12 + aP g → k ≠ 17 + aP g → k ≠ 22 + 12 * aP g → gN (gp g v) k = gN g k := by
  unfold gp
  refine ⟨gN_same (by omega), ?_, ?_, ?_, fun k h1 h2 h3 h4 => ?_⟩
  · rw [gN_ne (by omega), gN_ne (by omega), gN_ne (by omega), gN_same (by omega)]
  · rw [gN_ne (by omega), gN_ne (by omega), gN_same (by omega)]
  · rw [gN_ne (by omega), gN_same (by omega)]
  · rw [gN_ne h1, gN_ne h4, gN_ne h3, gN_ne h2]
theorem Drf_p {g : Nat → Int32} {v : Nat} {hl : Bool} (h : Drf g hl) (hP : aP g < 5) (h2 : v ≤ 99) : Drf (gp g v) hl := by
  obtain ⟨a1, a2, a3, a4, a5, a6, a7, a8, a9, a10, a11⟩ := h
  obtain ⟨p1, p2, p3, p4, e⟩ := gp_v (g := g) hP h2
  have el : ∀ a b, a < 8 → aLane (gp g v) a b = aLane g a b := fun a b ha => by unfold aLane; rw [e _ (by omega) (by omega) (by omega) (by omega)]
  have eP : aP (gp g v) = aP g + 1 := p1
  have eN : aN (gp g v) = aN g := e 0 (by omega) (by omega) (by omega) (by omega)
  refine ⟨?_, by rw [eN]; exact a2, by rw [eP]; omega, ?_, ?_, fun a ha => by rw [e _ (by omega) (by omega) (by omega) (by omega)]; exact a6 a ha, fun a b ha hb => ?_, fun i hi => ?_, fun i hi => ?_, fun i k hi hk => ?_, fun q a b ha hb => by rw [el a b ha]; exact a11 q a b ha hb⟩
  · unfold gp
    exact gI_upd (gI_upd (gI_upd (gI_upd a1 (by omega)) (by omega)) (by omega)) (by omega)
  · show gN (gp g v) 2 ≤ 20; rw [e 2 (by omega) (by omega) (by omega) (by omega)]; exact a4
  · show gN (gp g v) 3 < 8; rw [e 3 (by omega) (by omega) (by omega) (by omega)]; exact a5
  · rw [el a b ha, el b a hb, eN]; exact a7 a b ha hb
  · rw [eP] at hi
    show gN (gp g v) (12 + i) ≤ 99
    by_cases q : i = aP g
    · rw [q, p2]; exact h2
    · rw [e _ (by omega) (by omega) (by omega) (by omega)]; exact a8 i (by omega)
  · rw [eP] at hi
    show 1 ≤ gN (gp g v) (17 + i) ∧ gN (gp g v) (17 + i) ≤ 12
    by_cases q : i = aP g
    · rw [q, p3]; omega
    · rw [e _ (by omega) (by omega) (by omega) (by omega)]; exact a9 i (by omega)
  · rw [eP] at hi
    have hk' : k < gN (gp g v) (17 + i) := hk
    show gN (gp g v) (22 + 12 * i + k) < 8
    by_cases q : i = aP g
    · rw [q, p3] at hk'
      have : k = 0 := by omega
      rw [q, this, Nat.add_zero, p4]; omega
    · have hk12 : gN g (17 + i) ≤ 12 := (a9 i (by omega)).2
      rw [e _ (by omega) (by omega) (by omega) (by omega)] at hk' 
      rw [e _ (by omega) (by omega) (by omega) (by omega)]
      exact a10 i k (by omega) hk'
theorem or_lt256 {x c : Nat} (hx : x < 256) (hc : c < 8) : x ||| 2 ^ c < 256 := by
  have h2 : (2 : Nat) ^ c < 2 ^ 8 := Nat.pow_lt_pow_right (by omega) hc
  exact Nat.or_lt_two_pow (n := 8) hx h2
theorem gl_v {g : Nat → Int32} {a c : Nat} (ha : a < 8) (hc : c < 8) (hac : a ≠ c) (h1 : gN g (4 + a) < 256) (h2 : gN g (4 + c) < 256) : gN (gl g a c) (4 + a) = gN g (4 + a) ||| 2 ^ c ∧ gN (gl g a c) (4 + c) = gN g (4 + c) ||| 2 ^ a ∧ ∀ k, k ≠ 4 + a → k ≠ 4 + c → gN (gl g a c) k = gN g k := by
  have q1 := or_lt256 h1 hc
  have q2 := or_lt256 h2 ha
  unfold gl
  refine ⟨?_, gN_same (by omega), fun k k1 k2 => ?_⟩
  · rw [gN_ne (by omega), gN_same (by omega)]
  · rw [gN_ne k2, gN_ne k1]
theorem gl_lane {g : Nat → Int32} {a c : Nat} (ha : a < 8) (hc : c < 8) (hac : a ≠ c) (h1 : gN g (4 + a) < 256) (h2 : gN g (4 + c) < 256) (x y : Nat) : aLane (gl g a c) x y = (aLane g x y || decide ((x = a ∧ y = c) ∨ (x = c ∧ y = a))) := by
  obtain ⟨v1, v2, v3⟩ := gl_v ha hc hac h1 h2
  unfold aLane
  by_cases e1 : x = a
  · subst e1
    rw [v1, Nat.testBit_or, Nat.testBit_two_pow]
    congr 1
    by_cases q : c = y
    · subst q; simp
    · simp [q, hac]
      intro z; exact absurd z.symm q
  · by_cases e2 : x = c
    · subst e2
      rw [v2, Nat.testBit_or, Nat.testBit_two_pow]
      congr 1
      by_cases q : a = y
      · subst q; simp
      · simp [q, e1]
        intro z; exact absurd z.symm q
    · rw [v3 _ (by omega) (by omega)]
      simp [e1, e2]
theorem Drf_l {g : Nat → Int32} {a c : Nat} {hl : Bool} (h : Drf g hl) (ha : a < aN g) (hc : c < aN g) (hac : a ≠ c) : Drf (gl g a c) true := by
  obtain ⟨a1, a2, a3, a4, a5, a6, a7, a8, a9, a10, a11⟩ := h
  have ha8 : a < 8 := by omega
  have hc8 : c < 8 := by omega
  obtain ⟨v1, v2, e⟩ := gl_v ha8 hc8 hac (a6 a ha8) (a6 c hc8)
  have el := gl_lane ha8 hc8 hac (a6 a ha8) (a6 c hc8)
  have eP : aP (gl g a c) = aP g := e 1 (by omega) (by omega)
  have eN : aN (gl g a c) = aN g := e 0 (by omega) (by omega)
  have eM : ∀ i, aMany (gl g a c) i = aMany g i := fun i => e _ (by omega) (by omega)
  have q1 := or_lt256 (a6 a ha8) hc8
  have q2 := or_lt256 (a6 c hc8) ha8
  refine ⟨?_, by rw [eN]; exact a2, by rw [eP]; exact a3, ?_, ?_, fun x hx => ?_, fun x y hx hy hxy => ?_, fun i hi => ?_, fun i hi => ?_, fun i k hi hk => ?_, fun q => by cases q⟩
  · unfold gl
    exact gI_upd (gI_upd a1 (by omega)) (by omega)
  · show gN (gl g a c) 2 ≤ 20; rw [e 2 (by omega) (by omega)]; exact a4
  · show gN (gl g a c) 3 < 8; rw [e 3 (by omega) (by omega)]; exact a5
  · by_cases z1 : x = a
    · rw [z1, v1]; exact q1
    · by_cases z2 : x = c
      · rw [z2, v2]; exact q2
      · rw [e _ (by omega) (by omega)]; exact a6 x hx
  · rw [el] at hxy
    rw [el, eN]
    rcases Bool.or_eq_true_iff.mp hxy with z | z
    · obtain ⟨b1, b2, b3, b4⟩ := a7 x y hx hy z
      exact ⟨b1, b2, b3, by rw [b4]; rfl⟩
    · have z' := of_decide_eq_true z
      refine ⟨by omega, by omega, by omega, ?_⟩
      have : decide ((y = a ∧ x = c) ∨ (y = c ∧ x = a)) = true := decide_eq_true (by omega)
      rw [this]; simp
  · show gN (gl g a c) (12 + i) ≤ 99; rw [e _ (by omega) (by omega)]; exact a8 i (by rw [← eP]; exact hi)
  · rw [eM]; exact a9 i (by rw [← eP]; exact hi)
  · show gN (gl g a c) (22 + 12 * i + k) < 8; rw [e _ (by omega) (by omega)]; exact a10 i k (by rw [← eP]; exact hi) (by rw [← eM]; exact hk)
theorem gw_v {g : Nat → Int32} {n q : Nat} {T : Nat → Nat} (hP : 1 ≤ aP g ∧ aP g ≤ 5) (hn : n ≤ 12) (hT : ∀ j, j < n → T (q + j) ≤ 55) : gN (gw g n T q) (17 + (aP g - 1)) = n ∧ (∀ j, j < n → gN (gw g n T q) (22 + 12 * (aP g - 1) + j) = T (q + j) - 48) ∧ ∀ k, k ≠ 17 + (aP g - 1) → ¬ (22 + 12 * (aP g - 1) ≤ k ∧ k < 22 + 12 * (aP g - 1) + n) → gN (gw g n T q) k = gN g k := by
  unfold gw gN
  refine ⟨?_, fun j hj => ?_, fun k k1 k2 => ?_⟩
  · dsimp only
    rw [if_pos rfl, nI_clamp (by omega)]
  · have := hT j hj
    dsimp only
    have e : 22 + 12 * (aP g - 1) + j - (22 + 12 * (aP g - 1)) = j := by omega
    rw [if_neg (by omega), if_pos (by omega), e, nI_clamp (by omega)]
  · dsimp only
    rw [if_neg k1, if_neg k2]
theorem Drf_w {g : Nat → Int32} {n q : Nat} {T : Nat → Nat} {hl : Bool} (h : Drf g hl) (hP : 1 ≤ aP g) (hn0 : 0 < n) (hn : n ≤ 12) (hT : ∀ j, j < n → T (q + j) ≤ 55) : Drf (gw g n T q) hl := by
  obtain ⟨a1, a2, a3, a4, a5, a6, a7, a8, a9, a10, a11⟩ := h
  obtain ⟨v1, v2, e⟩ := gw_v (g := g) (q := q) ⟨hP, a3⟩ hn hT
  have el : ∀ a b, a < 8 → aLane (gw g n T q) a b = aLane g a b := fun a b ha => by unfold aLane; rw [e _ (by omega) (by omega)]
  have eP : aP (gw g n T q) = aP g := e 1 (by omega) (by omega)
  have eN : aN (gw g n T q) = aN g := e 0 (by omega) (by omega)
  refine ⟨fun k hk => ?_, by rw [eN]; exact a2, by rw [eP]; exact a3, ?_, ?_, fun a ha => by rw [e _ (by omega) (by omega)]; exact a6 a ha, fun a b ha hb => ?_, fun i hi => ?_, fun i hi => ?_, fun i k hi hk => ?_, fun q a b ha hb => by rw [el a b ha]; exact a11 q a b ha hb⟩
  · by_cases k1 : k = 17 + (aP g - 1)
    · rw [k1, v1]; exact if_pos rfl
    · by_cases k2 : 22 + 12 * (aP g - 1) ≤ k ∧ k < 22 + 12 * (aP g - 1) + n
      · have := v2 (k - (22 + 12 * (aP g - 1))) (by omega)
        have e2 : 22 + 12 * (aP g - 1) + (k - (22 + 12 * (aP g - 1))) = k := by omega
        rw [e2] at this
        rw [this]
        unfold gw
        rw [if_neg k1, if_pos k2]
      · rw [e k k1 k2, ← a1 k hk]
        unfold gw
        rw [if_neg k1, if_neg k2]
  · show gN (gw g n T q) 2 ≤ 20; rw [e 2 (by omega) (by omega)]; exact a4
  · show gN (gw g n T q) 3 < 8; rw [e 3 (by omega) (by omega)]; exact a5
  · rw [el a b ha, el b a hb, eN]; exact a7 a b ha hb
  · rw [eP] at hi
    show gN (gw g n T q) (12 + i) ≤ 99; rw [e _ (by omega) (by omega)]; exact a8 i hi
  · rw [eP] at hi
    show 1 ≤ gN (gw g n T q) (17 + i) ∧ gN (gw g n T q) (17 + i) ≤ 12
    by_cases z : i = aP g - 1
    · rw [z, v1]; omega
    · rw [e _ (by omega) (by omega)]; exact a9 i hi
  · rw [eP] at hi
    have hk' : k < gN (gw g n T q) (17 + i) := hk
    show gN (gw g n T q) (22 + 12 * i + k) < 8
    by_cases z : i = aP g - 1
    · rw [z, v1] at hk'
      rw [z, v2 k hk']
      have := hT k hk'
      omega
    · have hk12 : gN g (17 + i) ≤ 12 := (a9 i hi).2
      rw [e _ (by omega) (by omega)] at hk'
      rw [e _ (by omega) (by omega)]
      exact a10 i k hi hk'
