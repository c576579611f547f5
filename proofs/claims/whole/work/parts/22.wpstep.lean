theorem nI0m1 : nI 0 - nI 1 = -1 := rfl
theorem kx {P : Int32 → Prop} {a b : Int32} (h : P b) (e : a = b) : P a := e ▸ h
-- ===== the model
theorem cM_yardOf {m : Nat} (hm : m < 100000) {Φ : Int32 → Prop} (h : Φ (nI (m % 8))) : wp_X11_yardOf (nI m) Φ := by
  simp (disch := omega) only [wp_X11_yardOf, kI, nI_ltI, nI_leI, nI_eq, nI_clamp, krem, pk_div, pk_mul, nI_add, forall_eq]
  exact h
theorem cM_whom0 {m : Nat} (hm : m < 100000) (hw : m / 8 % 6 = 0) {Φ : Int32 → Prop} (h : Φ (-1)) : wp_X11_whomOf (nI m) Φ := by
  simp (disch := omega) only [wp_X11_whomOf, kI, nI_ltI, nI_leI, nI_eq, nI_clamp, krem, pk_div, pk_mul, nI_add, forall_eq]
  rw [hw]
  exact h
theorem cM_whom1 {m : Nat} (hm : m < 100000) (hw : m / 8 % 6 ≠ 0) {Φ : Int32 → Prop} (h : Φ (nI (m / 8 % 6 - 1))) : wp_X11_whomOf (nI m) Φ := by
  simp (disch := omega) only [wp_X11_whomOf, kI, nI_ltI, nI_leI, nI_eq, nI_clamp, krem, pk_div, pk_mul, nI_add, forall_eq, ksub1]
  exact h
theorem cM_placeOf {σ : Mm} {g d : Nat → Int32} (hw : WFg g) (hf : FmM σ g d) {i t : Nat} (hi : i < aP g) (ht : t < 100000) {Φ : Int32 → Prop} (h : Φ (nI (aPlc g i t))) : wp_X11_placeOf σ (nI i) (nI t) Φ := by
  have hP := hw.P
  obtain ⟨h0, h1, h2, h3, h4, h5, h6, hl1, hl2, h7, h8, h9⟩ := hw
  obtain ⟨f1, f2⟩ := hf
  have hm := h8 i hi
  have e : t % aMany g i < aMany g i := Nat.mod_lt _ (by omega)
  unfold aMany at hm e
  simp (disch := omega) only [wp_X11_placeOf, kI, nI_ltI, nI_leI, nI_eq, nI_clamp, krem, pk_div, pk_mul, nI_add, forall_eq, f1]
  exact ⟨by omega, by omega, by omega, h⟩
theorem cM_fedBy {σ : Mm} {g d : Nat → Int32} (hw : WFg g) (hf : FmM σ g d) {m i : Nat} (hm : m < 1008) (hi : i < aP g) {Φ : Int32 → Prop} (h : Φ (nI (fedm g m i))) : wp_X11_fedBy σ (nI m) (nI i) Φ := by
  have hP := hw.P
  have hF := hw.F
  refine cM_yardOf (by omega) ?_
  simp (disch := omega) only [kI, nI_ltI, nI_leI, nI_eq, nI_clamp, krem, pk_div, pk_mul, nI_add, forall_eq, hf.1]
  exact h
theorem cM_mayFeed {σ : Mm} {g d : Nat → Int32} (hw : WFg g) (hf : FmM σ g d) {m i t : Nat} (hm : m < 1008) (hi : i < aP g) (ht : t < 100000) {Φ : Int32 → Prop} (h : Φ (if aPlc g i t = m % 8 then 1 else 0)) : wp_X11_mayFeed σ (nI m) (nI i) (nI t) Φ := by
  have hN := hw.N
  have hp := hw.plc (t := t) hi
  refine cM_placeOf hw hf hi ht (cM_yardOf (by omega) ?_)
  simp (disch := omega) only [kI, nI_ltI, nI_leI, nI_eq, nI_clamp, krem, pk_div, pk_mul, nI_add, forall_eq]
  refine ⟨fun c => ?_, fun c => ?_⟩
  · rw [if_neg c] at h; exact h
  · rw [if_pos c] at h; exact h
theorem cM_after_L {σ : Mm} {g d : Nat → Int32} (hw : WFg g) (hd : WFd g d) (hf : FmM σ g d) {a t : Nat} (ha : a < 8) (ht : t < 8) (h0 : aD d a t ≠ 0) (h1 : aD d a t < 999999) {K : Int32 → Prop} (hK : K (nI (aNx g d a t))) : ∀ (n y : Nat), y + n = aNx g d a t → wp_X11_after_L82 σ (nI a) (nI t) (nI (aD d a t)) K (n + 1) (nI y) := by
  obtain ⟨x1, x2, x3⟩ := aNx_spec hd ha ht h0 h1
  obtain ⟨g0, g1, g2, g3, g4, g5, g6, gl1, gl2, g7, g8, g9⟩ := hw
  have hm := gl1 a ha
  have hdy : ∀ y, y < 8 → gN d (8 * y + t) < 8 ∨ gN d (8 * y + t) = 999999 := fun y hy => hd.2.2.1 y t hy ht
  have hb : ∀ y, y < 8 → ((σ.1 1 (4 + a) >>> (nI y &&& 31)) &&& 1) = nI (gN g (4 + a) / 2 ^ y % 2) := by
    intro y hy
    rw [hf.1 _ (by omega)]
    exact kbitI (by omega) (by omega)
  have key : ∀ y, y < 8 → (aNp g d a t y = true ↔ gN g (4 + a) / 2 ^ y % 2 ≠ 0 ∧ gN d (8 * y + t) = aD d a t - 1) := by
    intro y hy
    unfold aNp aLane aD
    rw [testBit_dm]
    simp only [Bool.and_eq_true, decide_eq_true_eq]
    have : gN g (4 + a) / 2 ^ y % 2 < 2 := Nat.mod_lt _ (by omega)
    constructor
    · rintro ⟨p, q⟩; exact ⟨by omega, q⟩
    · rintro ⟨p, q⟩; exact ⟨by omega, q⟩
  intro n
  induction n with
  | zero =>
    intro y hy
    have hy' : y = aNx g d a t := by omega
    subst hy'
    have k1 := (key _ x1).mp x2
    generalize aNx g d a t = y at *
    simp (disch := omega) only [wp_X11_after_L82, kI, nI_add, pk_mul, nI_clamp, nI_leI, nI_ltI]
    have e := hb y x1
    have hdy1 := hdy y x1
    simp only [kI] at e
    simp (disch := omega) only [e, nI_eq, hf.2, pk_sub]
    have : gN g (4 + a) / 2 ^ y % 2 < 2 := Nat.mod_lt _ (by omega)
    refine ⟨by omega, _, fun h => h, ?_, ?_⟩
    · intro q; omega
    · intro q
      refine ⟨by omega, fun _ => hK, fun q2 => absurd k1.2 q2⟩
  | succ n ih =>
    intro y hy
    have k0 : ¬ (aNp g d a t y = true) := by
      rw [x3 y (by omega)]; decide
    have k1 := fun z => k0 ((key y (by omega)).mpr z)
    have ih' := ih (y + 1) (by omega)
    have e := hb y (by omega)
    have hdy1 := hdy y (by omega)
    simp only [kI] at e
    unfold wp_X11_after_L82
    simp (disch := omega) only [kI, nI_add, pk_mul, nI_clamp, nI_leI, nI_ltI, e, nI_eq, hf.2, pk_sub]
    refine ⟨by omega, _, fun h => h, fun _ => ih', fun q => ⟨by omega, fun q2 => absurd ⟨q, q2⟩ k1, fun _ => ih'⟩⟩
theorem cM_after {σ : Mm} {g d : Nat → Int32} (hw : WFg g) (hd : WFd g d) (hf : FmM σ g d) {m t : Nat} (hm : isSt g m) (ht : t < 100000) {Φ : Int32 → Prop} (h : Φ (nI (aft g d m t))) : wp_X11_after σ (nI m) (nI t) Φ := by
  have hN := hw.N
  have hP := hw.P
  have hF := hw.F
  obtain ⟨m0, m1, m2, m3, m4, m5⟩ := hm
  unfold aft at h
  by_cases hw0 : m / 8 % 6 = 0
  · rw [if_pos hw0] at h
    exact cM_whom0 (by omega) hw0 (cM_yardOf (by omega) (br_f (by decide) h))
  · rw [if_neg hw0] at h
    have hp := hw.plc (i := m / 8 % 6 - 1) (t := t) (by omega)
    have hx := aNx_lt hw hd (a := m % 8) (t := aPlc g (m / 8 % 6 - 1) t) m1 (by omega)
    refine cM_whom1 (by omega) hw0 (cM_yardOf (by omega) ?_)
    refine br_t (nI_pos' (by omega)) ?_
    have cont : ∀ l : Nat, l ≤ 20 → Φ (nI (aNx g d (m % 8) (aPlc g (m / 8 % 6 - 1) t) + 8 * (m / 8 % 6) + 48 * l)) → wp_X11_placeOf σ (nI (m / 8 % 6 - 1)) (nI t) (fun r8 => (0 ≤ ((8 * (nI (m % 8))) + r8) ∧ ((8 * (nI (m % 8))) + r8) < 64) ∧ ∀ x7_10 : Int32, x7_10 = (σ.1 2 (((8 * (nI (m % 8))) + r8).toNatClampNeg)) → ∃ K129 : Int32 → Prop, (∀ (x4_11 : Int32), K129 x4_11 → Φ ((x4_11 + (8 * (nI (m / 8 % 6 - 1) + 1))) + (48 * nI l))) ∧ ((x7_10 ≤ 0 → K129 (nI (m % 8))) ∧ (¬ (x7_10 ≤ 0) → (((999999 ≤ x7_10 → K129 (nI (m % 8))) ∧ (¬ (999999 ≤ x7_10) → (∃ K125 : Int32 → Prop, (∀ (x8_12 : Int32), K125 x8_12 → K129 x8_12) ∧ ∃ n : Nat, wp_X11_after_L82 σ (nI (m % 8)) r8 x7_10 K125 n 0))))))) := by
      intro l hl hΦ
      refine cM_placeOf hw hf (by omega) ht ?_
      generalize aPlc g (m / 8 % 6 - 1) t = q at *
      have hdq := hd.2.2.1 (m % 8) q (by omega) (by omega)
      have eD : gN d (8 * (m % 8) + q) = aD d (m % 8) q := rfl
      simp (disch := omega) only [kI, nI_ltI, nI_leI, nI_eq, nI_clamp, krem, pk_div, pk_mul, nI_add, forall_eq, hf.2, eD]
      refine ⟨by omega, fun v => v = nI (aNx g d (m % 8) q), ?_, ?_⟩
      · intro x ex
        rw [ex]
        simp (disch := omega) only [kI, nI_ltI, nI_leI, nI_eq, nI_clamp, krem, pk_div, pk_mul, nI_add, forall_eq]
        have : 8 * (m / 8 % 6 - 1 + 1) = 8 * (m / 8 % 6) := by omega
        rw [this]
        exact hΦ
      · refine ⟨fun c => ?_, fun c => ⟨fun c2 => ?_, fun c2 => ?_⟩⟩
        · unfold aNx; rw [if_pos (by omega)]
        · unfold aNx; rw [if_pos (by omega)]
        · refine ⟨fun v => v = nI (aNx g d (m % 8) q), fun x e => e, aNx g d (m % 8) q + 1, ?_⟩
          exact cM_after_L (a := m % 8) (t := q) (K := fun v => v = nI (aNx g d (m % 8) q)) hw hd hf (by omega) (by omega) (by omega) (by omega) rfl (aNx g d (m % 8) q) 0 (by omega)
    have e48 : (nI m) / 48 = nI (m / 48) := pk_div (a := m) (d := 48) (by omega) (by omega) (by omega)
    intro x5 ex5
    rw [e48] at ex5
    subst ex5
    refine ⟨_, fun _ z => z, ?_⟩
    rw [hf.1 2 (by omega)]
    have eF : gN g 2 = aF g := rfl
    rw [eF]
    by_cases hF0 : aF g = 0
    · refine br_t ?_ ?_
      · rw [hF0]; decide
      · rw [if_neg (by omega), if_pos hF0] at h
        have := m4 hF0
        rw [this]
        exact cont 0 (by omega) h
    · have m6 := m5 hw0 hF0
      have e1 : nI (m / 48) + -1 = nI (m / 48 - 1) := by
        have : m / 48 = (m / 48 - 1) + 1 := by omega
        rw [this]
        exact pk_m1 _
      rw [e1]
      refine br_f ?_ ?_
      · intro q
        have := (nI_leI (a := aF g) (b := 0) (by omega) (by omega)).mp q
        omega
      · by_cases h1 : m / 48 = 1
        · rw [if_pos ⟨hF0, h1⟩] at h
          refine ⟨fun q => absurd ?_ q, fun _ => h⟩
          rw [h1]; rfl
        · rw [if_neg (by omega), if_neg hF0] at h
          refine ⟨fun _ => cont _ (by omega) h, fun q => ?_⟩
          have := (nI_eq (a := m / 48 - 1) (b := 0) (by omega) (by omega)).mp q
          omega
-- ===== the component
theorem cC_yardOf {m : Nat} (hm : m < 100000) {Φ : Int32 → Prop} (h : Φ (nI (m % 8))) : wp_X10_yardOf (nI m) Φ := by
  simp (disch := omega) only [wp_X10_yardOf, kI, nI_ltI, nI_leI, nI_eq, nI_clamp, krem, pk_div, pk_mul, nI_add, forall_eq]
  exact h
theorem cst_parts {g : Nat → Int32} (hg : WFg g) {m : Nat} (hm : isSt g m) : cst g m % 8 = m % 8 ∧ cst g m / 8 % 6 = m / 8 % 6 ∧ cst g m / 48 = (if m / 8 % 6 = 0 ∨ aF g = 0 then 0 else aF g - m / 48) := by
  have hP := hg.P
  obtain ⟨m0, m1, m2, m3, m4, m5⟩ := hm
  unfold cst
  generalize (if m / 8 % 6 = 0 ∨ aF g = 0 then 0 else aF g - m / 48) = a
  omega
theorem cC_followed0 {m : Nat} (hm : m < 100000) (hw : m / 8 % 6 = 0) {Φ : Int32 → Prop} (h : Φ (-1)) : wp_X10_followedIn (nI m) Φ := by
  simp (disch := omega) only [wp_X10_followedIn, kI, nI_ltI, nI_leI, nI_eq, nI_clamp, krem, pk_div, pk_mul, nI_add, forall_eq]
  rw [hw]
  exact h
theorem cC_followed1 {m : Nat} (hm : m < 100000) (hw : m / 8 % 6 ≠ 0) {Φ : Int32 → Prop} (h : Φ (nI (m / 8 % 6 - 1))) : wp_X10_followedIn (nI m) Φ := by
  simp (disch := omega) only [wp_X10_followedIn, kI, nI_ltI, nI_leI, nI_eq, nI_clamp, krem, pk_div, pk_mul, nI_add, forall_eq, ksub1]
  exact h
theorem cC_packed {a f y : Nat} {Φ : Int32 → Prop} (h : Φ (nI ((a * 6 + (f + 1)) * 8 + y))) : wp_X10_packed (nI y) (nI f) (nI a) Φ := by
  simp (disch := omega) only [wp_X10_packed, kI, nI_ltI, nI_leI, nI_eq, nI_clamp, krem, pk_div, pk_mul, nI_add, forall_eq]
  exact h
theorem cC_packed0 {y : Nat} {Φ : Int32 → Prop} (h : Φ (nI y)) : wp_X10_packed (nI y) (-1) 0 Φ := by
  unfold wp_X10_packed
  have : ((0 : Int32) * 6 + -1 + 1) * 8 + nI y = nI y := by
    have : ((0 : Int32) * 6 + -1 + 1) * 8 = nI 0 := by decide
    rw [this, nI_add, Nat.zero_add]
  rw [this]
  exact h
theorem cC_fedState {g : Nat → Int32} (hg : WFg g) {m i : Nat} (hm : isSt g m) (hi : i < aP g) {Φ : Int32 → Prop} (h : Φ (nI (cst g (fedm g m i)))) : wp_X10_fedState (nI (cst g m)) (nI i) Φ := by
  have hP := hg.P
  have hl := cst_lt hg hm
  obtain ⟨p1, p2, p3⟩ := cst_parts hg hm
  refine cC_yardOf (by omega) (cC_packed (a := 0) ?_)
  obtain ⟨e1, e2, e3⟩ := split3 (y := m % 8) (w := i + 1) (l := aF g) (by omega) (by omega)
  have e : (0 * 6 + (i + 1)) * 8 + cst g m % 8 = cst g (fedm g m i) := by
    unfold cst fedm
    rw [e1, e2, e3]
    have : (if i + 1 = 0 ∨ aF g = 0 then 0 else aF g - aF g) = 0 := by split <;> omega
    rw [this]
    omega
  rw [e]
  exact h
theorem cC_canFeed {σ : Mm} {b : Nat} {g : Nat → Int32} (hw : WFg g) (hf : FmC σ b g) {m i t : Nat} (hm : isSt g m) (hi : i < aP g) (ht : t < 100000) {Φ : Int32 → Prop} (h : Φ (if aPlc g i t = m % 8 then 1 else 0)) : wp_X1_canFeed σ b (nI i) (nI (cst g m)) (nI t) Φ := by
  have hN := hw.N
  have hP := hw.P
  have hp := hw.plc (t := t) hi
  have hl := cst_lt hw hm
  obtain ⟨p1, p2, p3⟩ := cst_parts hw hm
  refine br_f (nI_pos (by omega)) (br_f ?_ (cC_yardAt hw hf hi ht (cC_yardOf (by omega) ?_)))
  · rw [hf.2.1, nI_leI (by omega) (by omega)]
    omega
  · rw [p1]
    simp (disch := omega) only [kI, nI_ltI, nI_leI, nI_eq, nI_clamp, krem, pk_div, pk_mul, nI_add, forall_eq]
    refine ⟨fun c => ?_, fun c => ?_⟩
    · rw [if_neg c] at h; exact h
    · rw [if_pos c] at h; exact h
theorem cC_towards {σ : Mm} {b : Nat} {g d : Nat → Int32} (hf : FmD σ b g d) {a t : Nat} (ha : a < 8) (ht : t < 8) {Φ : Int32 → Prop} (h : Φ (nI (aNx g d a t))) : wp_X1_towards σ b (nI a) (nI t) Φ := by
  have e := (hf a t ha ht).2
  rw [Nat.mul_comm] at e
  simp (disch := omega) only [wp_X1_towards, kI, nI_ltI, nI_leI, nI_eq, nI_clamp, krem, pk_div, pk_mul, nI_add, forall_eq, e]
  exact br_f (by omega) (br_f (by omega) (br_f (by omega) (br_t (by omega) ⟨by omega, h⟩)))
theorem cC_onward {σ : Mm} {b : Nat} {g d : Nat → Int32} (hw : WFg g) (hd : WFd g d) (hf : FmC σ b g) (hfd : FmD σ b g d) {m t : Nat} (hm : isSt g m) (ht : t < 100000) {Φ : Int32 → Prop} (h : Φ (nI (cst g (aft g d m t)))) : wp_X1_onward σ b (nI (cst g m)) (nI t) Φ := by
  have hN := hw.N
  have hP := hw.P
  have hF := hw.F
  have hl := cst_lt hw hm
  obtain ⟨p1, p2, p3⟩ := cst_parts hw hm
  have hm' := hm
  obtain ⟨m0, m1, m2, m3, m4, m5⟩ := hm
  have cy : cst g (m % 8) = m % 8 := by
    unfold cst
    rw [if_pos (Or.inl (by omega))]
    omega
  unfold aft at h
  refine cC_yardOf (by omega) ?_
  rw [p1]
  by_cases hw0 : m / 8 % 6 = 0
  · rw [if_pos hw0, cy] at h
    refine cC_followed0 (by omega) (by omega) ⟨fun c => absurd rfl c, fun _ => ?_⟩
    have : cst g m = m % 8 := by
      unfold cst
      rw [if_pos (Or.inl hw0)]
      omega
    rw [this]
    exact h
  · rw [if_neg hw0] at h
    have hp := hw.plc (i := m / 8 % 6 - 1) (t := t) (by omega)
    have hx := aNx_lt hw hd (a := m % 8) (t := aPlc g (m / 8 % 6 - 1) t) m1 (by omega)
    refine cC_followed1 (by omega) (by omega) ?_
    rw [p2]
    refine brn_t ?_ ?_
    · intro q
      have : (nI (m / 8 % 6 - 1)).toInt = (-1 : Int32).toInt := by rw [q]
      rw [nI_toInt (by omega)] at this
      have h2 : (-1 : Int32).toInt = -1 := by decide
      omega
    · rw [hf.2.2.1]
      refine ⟨_, fun _ z => z, ?_⟩
      by_cases hF0 : aF g = 0
      · rw [if_neg (by omega), if_pos hF0] at h
        have e0 : nI (aF g) ≤ 0 := by rw [hF0]; decide
        refine br_t e0 ?_
        refine ⟨_, fun z => z, ?_⟩
        refine br_t e0 ?_
        refine cC_yardAt hw hf (by omega) ht (cC_towards hfd (by omega) (by omega) (cC_packed (a := 0) ?_))
        generalize aPlc g (m / 8 % 6 - 1) t = q at *
        obtain ⟨e1, e2, e3⟩ := split3 (y := aNx g d (m % 8) q) (w := m / 8 % 6) (l := 0) (by omega) (by omega)
        have e : (0 * 6 + (m / 8 % 6 - 1 + 1)) * 8 + aNx g d (m % 8) q = cst g (aNx g d (m % 8) q + 8 * (m / 8 % 6) + 48 * 0) := by
          unfold cst
          rw [e1, e2, if_pos (Or.inr hF0)]
          omega
        rw [e]
        exact h
      · have m6 := m5 hw0 hF0
        have e0 : ¬ (nI (aF g) ≤ 0) := by
          intro q
          have := (nI_leI (a := aF g) (b := 0) (by omega) (by omega)).mp q
          omega
        rw [if_neg (by omega)] at p3
        refine br_f e0 ?_
        unfold wp_X10_ageIn
        have e48 : nI (cst g m) / 48 + 1 = nI (aF g - m / 48 + 1) := by
          have : nI (cst g m) / 48 = nI (cst g m / 48) := pk_div (a := cst g m) (d := 48) (by omega) (by omega) (by omega)
          rw [this, p3]
          exact nI_1 _
        dsimp only
        rw [e48]
        refine ⟨_, fun z => z, ?_⟩
        refine br_f e0 ?_
        rw [nI_ltI (by omega) (by omega)]
        by_cases h1 : m / 48 = 1
        · rw [if_pos ⟨hF0, h1⟩, cy] at h
          refine br_f (by omega) ?_
          exact cC_packed0 h
        · rw [if_neg (by omega), if_neg hF0] at h
          refine br_t (by omega) ?_
          refine cC_yardAt hw hf (by omega) ht (cC_towards hfd (by omega) (by omega) (cC_packed ?_))
          generalize aPlc g (m / 8 % 6 - 1) t = q at *
          obtain ⟨e1, e2, e3⟩ := split3 (y := aNx g d (m % 8) q) (w := m / 8 % 6) (l := m / 48 - 1) (by omega) (by omega)
          have e : ((aF g - m / 48 + 1) * 6 + (m / 8 % 6 - 1 + 1)) * 8 + aNx g d (m % 8) q = cst g (aNx g d (m % 8) q + 8 * (m / 8 % 6) + 48 * (m / 48 - 1)) := by
            unfold cst
            rw [e1, e2, e3, if_neg (by omega)]
            omega
          rw [e]
          exact h
