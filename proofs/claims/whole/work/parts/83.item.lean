/-- how many figures of a way there are, n at most -/
def wn (T : Nat → Nat) : Nat → Nat → Nat
  | 0, _ => 0
  | r + 1, q => if 48 ≤ T q ∧ T q ≤ 55 then wn T r (q + 1) + 1 else 0
theorem wn_le (T : Nat → Nat) : ∀ r q, wn T r q ≤ r
  | 0, _ => Nat.le_refl 0
  | r + 1, q => by
    unfold wn
    have := wn_le T r (q + 1)
    split <;> omega
theorem wn_in (T : Nat → Nat) : ∀ r q j, j < wn T r q → 48 ≤ T (q + j) ∧ T (q + j) ≤ 55
  | 0, _, j, h => absurd h (Nat.not_lt_zero j)
  | r + 1, q, j, h => by
    unfold wn at h
    by_cases c : 48 ≤ T q ∧ T q ≤ 55
    · rw [if_pos c] at h
      cases j with
      | zero => exact c
      | succ j =>
        have := wn_in T r (q + 1) j (by omega)
        have e : q + 1 + j = q + (j + 1) := by omega
        rw [e] at this
        exact this
    · rw [if_neg c] at h
      exact absurd h (Nat.not_lt_zero j)
theorem wn_end (T : Nat → Nat) : ∀ r q, wn T r q < r → ¬ (48 ≤ T (q + wn T r q) ∧ T (q + wn T r q) ≤ 55)
  | 0, _, h => absurd h (Nat.not_lt_zero _)
  | r + 1, q, h => by
    have e0 : wn T (r + 1) q = if 48 ≤ T q ∧ T q ≤ 55 then wn T r (q + 1) + 1 else 0 := rfl
    by_cases c : 48 ≤ T q ∧ T q ≤ 55
    · rw [if_pos c] at e0
      have := wn_end T r (q + 1) (by omega)
      have e : q + 1 + wn T r (q + 1) = q + wn T (r + 1) q := by omega
      rw [e] at this
      exact this
    · rw [if_neg c] at e0
      rw [e0, Nat.add_zero]
      exact c
/-- what an item does: the place behind it, the farm, whether a lane is told; none: it is wrong -/
def itm (T : Nat → Nat) (g : Nat → Int32) (hl : Bool) (p : Nat) : Option (Nat × (Nat → Int32) × Bool) :=
  if T p = 108 then
    (if nq T (p + 1) ≠ 0 ∧ T (p + 1 + nq T (p + 1)) = 44 ∧ nq T (p + 2 + nq T (p + 1)) ≠ 0 ∧ T (p + 2 + nq T (p + 1) + nq T (p + 2 + nq T (p + 1))) = 59 ∧ (nv T (p + 1) < aN g ∧ nv T (p + 2 + nq T (p + 1)) < aN g ∧ nv T (p + 1) ≠ nv T (p + 2 + nq T (p + 1)))
      then some (p + 3 + nq T (p + 1) + nq T (p + 2 + nq T (p + 1)), gl g (nv T (p + 1)) (nv T (p + 2 + nq T (p + 1))), true) else none)
  else if T p = 119 then
    (if 1 ≤ aP g ∧ 0 < wn T 12 (p + 1) ∧ T (p + 1 + wn T 12 (p + 1)) = 59 then some (p + 2 + wn T 12 (p + 1), gw g (wn T 12 (p + 1)) T (p + 1), hl) else none)
  else if nq T (p + 1) ≠ 0 ∧ T (p + 1 + nq T (p + 1)) = 59 then
    (if T p = 121 then (if (2 ≤ nv T (p + 1) ∧ nv T (p + 1) ≤ 8) ∧ hl = false then some (p + 2 + nq T (p + 1), gy g (nv T (p + 1)), hl) else none)
    else if T p = 112 then (if aP g < 5 then some (p + 2 + nq T (p + 1), gp g (nv T (p + 1)), hl) else none)
    else if T p = 102 then (if nv T (p + 1) ≤ 20 then some (p + 2 + nq T (p + 1), gf g (nv T (p + 1)), hl) else none)
    else if T p = 99 then (if nv T (p + 1) ≤ 7 then some (p + 2 + nq T (p + 1), gc g (nv T (p + 1)), hl) else none)
    else none)
  else none
theorem itm_l {T : Nat → Nat} {p : Nat} (h : T p = 108) (g : Nat → Int32) (hl : Bool) : itm T g hl p = if nq T (p + 1) ≠ 0 ∧ T (p + 1 + nq T (p + 1)) = 44 ∧ nq T (p + 2 + nq T (p + 1)) ≠ 0 ∧ T (p + 2 + nq T (p + 1) + nq T (p + 2 + nq T (p + 1))) = 59 ∧ (nv T (p + 1) < aN g ∧ nv T (p + 2 + nq T (p + 1)) < aN g ∧ nv T (p + 1) ≠ nv T (p + 2 + nq T (p + 1))) then some (p + 3 + nq T (p + 1) + nq T (p + 2 + nq T (p + 1)), gl g (nv T (p + 1)) (nv T (p + 2 + nq T (p + 1))), true) else none := if_pos h
theorem itm_w {T : Nat → Nat} {p : Nat} (h : T p = 119) (g : Nat → Int32) (hl : Bool) : itm T g hl p = if 1 ≤ aP g ∧ 0 < wn T 12 (p + 1) ∧ T (p + 1 + wn T 12 (p + 1)) = 59 then some (p + 2 + wn T 12 (p + 1), gw g (wn T 12 (p + 1)) T (p + 1), hl) else none := by
  unfold itm
  rw [if_neg (by omega), if_pos h]
theorem itm_n {T : Nat → Nat} {p : Nat} (h1 : T p ≠ 108) (h2 : T p ≠ 119) (g : Nat → Int32) (hl : Bool) : itm T g hl p = if nq T (p + 1) ≠ 0 ∧ T (p + 1 + nq T (p + 1)) = 59 then (if T p = 121 then (if (2 ≤ nv T (p + 1) ∧ nv T (p + 1) ≤ 8) ∧ hl = false then some (p + 2 + nq T (p + 1), gy g (nv T (p + 1)), hl) else none)
    else if T p = 112 then (if aP g < 5 then some (p + 2 + nq T (p + 1), gp g (nv T (p + 1)), hl) else none)
    else if T p = 102 then (if nv T (p + 1) ≤ 20 then some (p + 2 + nq T (p + 1), gf g (nv T (p + 1)), hl) else none)
    else if T p = 99 then (if nv T (p + 1) ≤ 7 then some (p + 2 + nq T (p + 1), gc g (nv T (p + 1)), hl) else none)
    else none) else none := by
  unfold itm
  rw [if_neg h1, if_neg h2]
/-- nothing but the reader's place and the farm b has changed -/
def FrD (b : Nat) (σ σ2 : Mm) : Prop := (∀ k, k ≠ 3 → k < b ∨ b + 5 < k → σ2.1 k = σ.1 k) ∧ σ2.2 = σ.2
theorem FrD.refl (b : Nat) (σ : Mm) : FrD b σ σ := ⟨fun _ _ _ => rfl, rfl⟩
theorem FrD.trans {b : Nat} {σ σ2 σ3 : Mm} (h1 : FrD b σ σ2) (h2 : FrD b σ2 σ3) : FrD b σ σ3 := ⟨fun k a c => (h2.1 k a c).trans (h1.1 k a c), h2.2.trans h1.2⟩
theorem FrD3.toD {b : Nat} {σ σ2 : Mm} (h : FrD3 σ σ2) : FrD b σ σ2 := ⟨fun k a _ => h.1 k a, h.2⟩
theorem FrB.toD {b : Nat} {σ σ2 : Mm} (h : FrB b σ σ2) : FrD b σ σ2 := ⟨fun k _ c => h.1 k c, h.2⟩
theorem DC.fr3 {b : Nat} (hb : 4 ≤ b) {σ σ2 : Mm} {g : Nat → Int32} {hl : Bool} (h : DC σ b g hl) (f : FrD3 σ σ2) : DC σ2 b g hl := by
  rw [DC_iff] at *
  rw [f.1 b (by omega), f.1 (b + 3) (by omega), f.1 (b + 4) (by omega), f.1 (b + 5) (by omega), f.1 (b + 1) (by omega)]
  exact h
theorem TX.frD {b : Nat} (hb : 4 ≤ b) {σ σ2 : Mm} {L : Nat} {T : Nat → Nat} (h : TX (σ.1 2) (σ.1 1 1) L T) (f : FrD b σ σ2) : TX (σ2.1 2) (σ2.1 1 1) L T := by
  rw [f.1 1 (by decide) (by omega), f.1 2 (by decide) (by omega)]; exact h
theorem cC_readLane {σ : Mm} {b L : Nat} {T : Nat → Nat} (hb : 4 ≤ b) (h : TX (σ.1 2) (σ.1 1 1) L T) {p : Nat} (hp : p < 8000) (h3 : σ.1 3 1 = nI (p + 1)) {g : Nat → Int32} {hl : Bool} (hC : DC σ b g hl) (hD : Drf g hl) (hTp : T p = 108) {Φ : Int32 → Mm → Prop}
    (h1 : ∀ p2 g2 hl2, itm T g hl p = some (p2, g2, hl2) → ∀ σ2, FrD b σ σ2 → σ2.1 3 1 = nI p2 → DC σ2 b g2 hl2 → Φ 1 σ2) (h0 : itm T g hl p = none → ∀ σ2, FrD b σ σ2 → Φ 0 σ2) : wp_X5_readLane σ b Φ := by
  have hi := itm_l hTp g hl
  have q1le := nq_le T (p + 1)
  refine cC_readNumber h (by omega) h3 (fun z => br_t (by decide) (h0 (by rw [hi, if_neg (fun y => y.1 z)]) σ (FrD.refl b σ))) (fun z σ1 f1 g1 => br_f (nI_pos (by have := nv_le T (p + 1); omega)) ?_)
  refine cC_takes (c := 44) (h.fr3 f1) (by omega) (by omega) g1 (fun y => brn_f rfl (h0 (by rw [hi, if_neg (fun x => y x.2.1)]) σ1 f1.toD)) (fun y σ3 f3 g3 => brn_t (by decide) ?_)
  have F3 := f1.trans f3
  have e2 : p + 1 + nq T (p + 1) + 1 = p + 2 + nq T (p + 1) := by omega
  rw [e2] at g3
  have q2le := nq_le T (p + 2 + nq T (p + 1))
  refine cC_readNumber (h.fr3 F3) (by omega) g3 (fun z2 => br_t (by decide) (h0 (by rw [hi, if_neg (fun x => x.2.2.1 z2)]) σ3 F3.toD)) (fun z2 σ5 f5 g5 => br_f (nI_pos (by have := nv_le T (p + 2 + nq T (p + 1)); omega)) ?_)
  have F5 := F3.trans f5
  refine cC_takes (c := 59) (h.fr3 F5) (by omega) (by omega) g5 (fun y2 => br_t rfl (h0 (by rw [hi, if_neg (fun x => y2 x.2.2.2.1)]) σ5 F5.toD)) (fun y2 σ7 f7 g7 => br_f (by decide) ?_)
  have F7 := F5.trans f7
  refine cC_tellLane (hC.fr3 hb F7) hD (nv_le _ _) (nv_le _ _) (fun c σ9 f9 d9 => br_f (by decide) ?_) (fun c => br_t rfl (h0 (by rw [hi, if_neg (fun x => c x.2.2.2.2)]) σ7 F7.toD))
  refine h1 _ _ _ (by rw [hi, if_pos ⟨z, y, z2, y2, c⟩]) σ9 (F7.toD.trans f9.toD) ?_ d9
  rw [f9.1 3 (by omega), g7]
  congr 1
  omega
theorem FC_w {r0 r3 r4 r5 g : Nat → Int32} (h : FC r0 r3 r4 r5 g) {n q : Nat} {T : Nat → Nat} (hP : 1 ≤ aP g ∧ aP g ≤ 5) (hn : n ≤ 12) (hM : ∀ i, i < aP g → aMany g i ≤ 12) (hT : ∀ j, j < n → T (q + j) ≤ 55) {r4' r5' : Nat → Int32} (h5 : r5' (aP g - 1) = nI n) (h5' : ∀ i, i ≠ aP g - 1 → r5' i = r5 i) (h4 : ∀ j, j < n → r4' (12 * (aP g - 1) + j) = nI (T (q + j) - 48)) (h4' : ∀ i, i < 12 * (aP g - 1) → r4' i = r4 i) : FC r0 r3 r4' r5' (gw g n T q) := by
  obtain ⟨f1, f2, f3, f4, f5, f6⟩ := h
  obtain ⟨v1, v2, e⟩ := gw_v (g := g) (q := q) hP hn hT
  have eP : aP (gw g n T q) = aP g := e 1 (by omega) (by omega)
  refine ⟨?_, ?_, ?_, ?_, fun i hi => ?_, fun i hi => ?_⟩
  · rw [f1]; exact congrArg nI (e 0 (by omega) (by omega)).symm
  · rw [f2]; exact congrArg nI (e 1 (by omega) (by omega)).symm
  · rw [f3]; exact congrArg nI (e 2 (by omega) (by omega)).symm
  · rw [f4]; exact congrArg nI (e 3 (by omega) (by omega)).symm
  · rw [f5 i (by omega)]; exact congrArg nI (e (12 + i) (by omega) (by omega)).symm
  · by_cases z : i = aP g - 1
    · left
      unfold aMany aWay
      rw [z, v1]
      refine ⟨h5, fun k hk => ?_⟩
      rw [v2 k hk]; exact h4 k hk
    · have h12 := hM i (by omega)
      have := f6 i (by omega)
      rw [h5' i z]
      unfold aMany aWay at *
      rw [e (17 + i) (by omega) (by omega)]
      refine this.imp (fun z => ⟨z.1, fun k hk => ?_⟩) (fun z => ⟨z.1, z.2.1, ?_⟩)
      · rw [e _ (by omega) (by omega), h4' _ (by omega)]; exact z.2 k hk
      · rw [e _ (by omega) (by omega)]; exact z.2.2
theorem tI_sub {n : Nat} (hn : n ≤ 256) : (tI n - 48 < 0 ↔ n < 48 ∨ n = 256) ∧ (48 ≤ n → n < 256 → tI n - 48 = nI (n - 48)) := by
  have h : ∀ n, n < 257 → (tI n - 48 < 0 ↔ n < 48 ∨ n = 256) := by decide +kernel
  refine ⟨h n (by omega), fun h1 h2 => ?_⟩
  rw [tI_lt h2]
  exact pk_sub (b := 48) h1
theorem cC_readWay {σ : Mm} {b L : Nat} {T : Nat → Nat} (hb : 4 ≤ b) (h : TX (σ.1 2) (σ.1 1 1) L T) {p : Nat} (hp : p < 8000) (h3 : σ.1 3 1 = nI (p + 1)) {g : Nat → Int32} {hl : Bool} (hC : DC σ b g hl) (hD : Drf g hl) (hTp : T p = 119) {Φ : Int32 → Mm → Prop}
    (h1 : ∀ p2 g2 hl2, itm T g hl p = some (p2, g2, hl2) → ∀ σ2, FrD b σ σ2 → σ2.1 3 1 = nI p2 → DC σ2 b g2 hl2 → Φ 1 σ2) (h0 : itm T g hl p = none → ∀ σ2, FrD b σ σ2 → Φ 0 σ2) : wp_X5_readWay σ b Φ := by
  have hi := itm_w hTp g hl
  obtain ⟨d1, d2, d3⟩ := (DC_iff _ _ _ _).mp hC
  have hP5 := hD.2.2.1
  have hM : ∀ i, i < aP g → aMany g i ≤ 12 := fun i hi => (hD.2.2.2.2.2.2.2.2.1 i hi).2
  have e6 := d1.2.1
  unfold wp_X5_readWay wp_X1_beginWay
  have q1 : 1 ≤ nI (aP g) ↔ 1 ≤ aP g := nI_leI (a := 1) (by omega) (by omega)
  dsimp only
  rw [e6, q1]
  refine ⟨fun hP1 => ?_, fun hP1 => brn_f rfl (h0 (by rw [hi, if_neg (fun y => hP1 y.1)]) σ (FrD.refl b σ))⟩
  have e7 : nI (aP g) - 1 = nI (aP g - 1) := ksub1 hP1
  rw [e7, nI_clamp (by omega)]
  have b5 : (0 ≤ nI (aP g - 1) ∧ nI (aP g - 1) < 5) := ⟨nI_pos' (by omega), (nI_ltI (b := 5) (by omega) (by omega)).mpr (by omega)⟩
  refine ⟨b5, fun σ1 e1 => brn_t (by decide) ?_⟩
  have hw12 := wn_le T 12 (p + 1)
  have hwin := wn_in T 12 (p + 1)
  -- the invariant
  let I : Nat → Mm → Prop := fun i ρ => FrD b σ ρ ∧ ρ.1 3 1 = nI (p + 1 + i) ∧ ρ.1 b = σ.1 b ∧ ρ.1 (b + 1) = σ.1 (b + 1) ∧ ρ.1 (b + 3) = σ.1 (b + 3) ∧ ρ.1 (b + 5) (aP g - 1) = nI i ∧ (∀ j, j ≠ aP g - 1 → ρ.1 (b + 5) j = σ.1 (b + 5) j) ∧ (∀ j, j < i → ρ.1 (b + 4) (12 * (aP g - 1) + j) = nI (T (p + 1 + j) - 48)) ∧ (∀ j, j < 12 * (aP g - 1) → ρ.1 (b + 4) j = σ.1 (b + 4) j)
  have hK : ∀ (ρ : Mm) (x : Int32), (x = nI (wn T 12 (p + 1)) ∧ I (wn T 12 (p + 1)) ρ) → (((x ≤ 0 → Φ 0 ρ) ∧ (¬ (x ≤ 0) → (wp_X5_takes ρ 59 (fun r6 σ5 => ((r6 = 0 → Φ 0 σ5) ∧ (¬ (r6 = 0) → Φ 1 σ5))))))) := by
    rintro ρ x ⟨rfl, i1, i2, i3, i4, i5, i6, i7, i8, i9⟩
    have e0 : nI (wn T 12 (p + 1)) ≤ 0 ↔ wn T 12 (p + 1) ≤ 0 := nI_leI (b := 0) (by omega) (by omega)
    rw [e0]
    refine ⟨fun c => h0 (by rw [hi, if_neg (fun y => by omega)]) ρ i1, fun c => ?_⟩
    refine cC_takes (c := 59) (h.frD hb i1) (by omega) (by omega) i2 (fun y => br_t rfl (h0 (by rw [hi, if_neg (fun x => y x.2.2)]) ρ i1)) (fun y σ7 f7 g7 => br_f (by decide) ?_)
    have hif : 1 ≤ aP g ∧ 0 < wn T 12 (p + 1) ∧ T (p + 1 + wn T 12 (p + 1)) = 59 := ⟨hP1, by omega, y⟩
    refine h1 _ _ _ (by rw [hi, if_pos hif]) σ7 (i1.trans f7.toD) (by rw [g7]; congr 1; omega) ((DC_iff _ _ _ _).mpr ?_)
    rw [f7.1 b (by omega), f7.1 (b + 1) (by omega), f7.1 (b + 3) (by omega), f7.1 (b + 4) (by omega), f7.1 (b + 5) (by omega), i3, i4, i5]
    refine ⟨FC_w d1 ⟨hP1, hP5⟩ hw12 hM (fun j hj => (hwin j hj).2) i6 i7 i8 i9, FL_of d2 (fun a ha => (gw_v (g := g) (q := p + 1) ⟨hP1, hP5⟩ hw12 (fun j hj => (hwin j hj).2)).2.2 _ (by omega) (by omega)), d3⟩
  refine ⟨fun ρ x => x = nI (wn T 12 (p + 1)) ∧ I (wn T 12 (p + 1)) ρ, hK, fun ρ x => x = nI (wn T 12 (p + 1)) ∧ I (wn T 12 (p + 1)) ρ, fun _ _ z => z, 13, ?_⟩
  have key : ∀ r i (ρ : Mm), i + r = 12 → i ≤ wn T 12 (p + 1) → wn T r (p + 1 + i) + i = wn T 12 (p + 1) → I i ρ → wp_X5_readWay_L13 b (fun ρ x => x = nI (wn T 12 (p + 1)) ∧ I (wn T 12 (p + 1)) ρ) (fun ρ x => x = nI (wn T 12 (p + 1)) ∧ I (wn T 12 (p + 1)) ρ) (r + 1) ρ (nI i) (nI i) := by
    intro r
    induction r with
    | zero =>
      intro i ρ hir hle hw hI
      have e : i = 12 := by omega
      subst e
      have : wn T 12 (p + 1) = 12 := by omega
      exact br_t (by decide) ⟨by rw [this], by rw [this]; exact hI⟩
    | succ r ih =>
      intro i ρ hir hle hw hI
      obtain ⟨i1, i2, i3, i4, i5, i6, i7, i8, i9⟩ := id hI
      have en : nI i + 1 = nI (i + 1) := nI_1 i
      have hwr : wn T (r + 1) (p + 1 + i) = if 48 ≤ T (p + 1 + i) ∧ T (p + 1 + i) ≤ 55 then wn T r (p + 1 + i + 1) + 1 else 0 := rfl
      unfold wp_X5_readWay_L13
      rw [i2, en]
      refine br_f (nI_ge (a := i) (b := 12) (by omega) (by omega)) (cC_byteAt (h.frD hb i1) (by omega) ?_)
      intro x4 ex4
      have hle256 := (h.frD hb i1).le (p + 1 + i)
      obtain ⟨t1, t2⟩ := tI_sub hle256
      rw [ex4, t1]
      have stop : ¬ (48 ≤ T (p + 1 + i) ∧ T (p + 1 + i) ≤ 55) → (nI i = nI (wn T 12 (p + 1)) ∧ I (wn T 12 (p + 1)) ρ) := by
        intro c
        rw [if_neg c] at hwr
        have : wn T 12 (p + 1) = i := by omega
        rw [this]
        exact ⟨rfl, hI⟩
      refine ⟨fun c => stop (by omega), fun c => ?_⟩
      rw [t2 (by omega) (by omega)]
      have e8 : nI (T (p + 1 + i) - 48) < 8 ↔ T (p + 1 + i) - 48 < 8 := nI_ltI (b := 8) (by omega) (by omega)
      rw [e8]
      refine ⟨fun c8 => ?_, fun c8 => stop (by omega)⟩
      rw [if_pos (by omega)] at hwr
      unfold wp_X1_addToWay
      have g6 : ρ.1 b 6 = nI (aP g) := by rw [i3]; exact e6
      have e12 : 12 ≤ nI i ↔ 12 ≤ i := nI_leI (a := 12) (by omega) (by omega)
      have em : nI (aP g - 1) * 12 + nI i = nI (12 * (aP g - 1) + i) := by
        have : nI (aP g - 1) * 12 = nI ((aP g - 1) * 12) := pk_mul _ 12
        rw [this, nI_add, Nat.mul_comm]
      rw [g6, e7, q1, nI_clamp (by omega)]
      refine br_t hP1 ⟨b5, fun x2 ex2 => ?_⟩
      rw [i6] at ex2
      rw [ex2, e12, em, nI_clamp (by omega)]
      refine br_f (by omega) ⟨⟨nI_pos' (by omega), (nI_ltI (b := 60) (by omega) (by omega)).mpr (by omega)⟩, fun σ4 e4 => ?_⟩
      have g64 : σ4.1 b 6 = nI (aP g) := by rw [e4, kwi_ne _ _ _ (by omega)]; exact g6
      rw [g64, e7, nI_clamp (by omega), en]
      refine ⟨b5, fun σ6 e6' σ16 e16 => ?_⟩
      have h36 : σ6.1 3 1 = nI (p + 1 + i) := by rw [e6', kwi_ne _ _ _ (by omega), e4, kwi_ne _ _ _ (by omega)]; exact i2
      have en2 : nI (p + 1 + i) + 1 = nI (p + 1 + (i + 1)) := nI_1 (p + 1 + i)
      rw [h36, en2] at e16
      refine ih (i + 1) σ16 (by omega) (by omega) ?_ ⟨?_, ?_, ?_, ?_, ?_, ?_, ?_, ?_, ?_⟩
      · have : p + 1 + (i + 1) = p + 1 + i + 1 := by omega
        rw [this]; omega
      · refine i1.trans ⟨fun k k3 kb => ?_, ?_⟩
        · rw [e16, kwi_ne _ _ _ k3, e6', kwi_ne _ _ _ (by omega), e4, kwi_ne _ _ _ (by omega)]
        · rw [e16, e6', e4]; rfl
      · rw [e16, kwi_same]; exact upd_at _ _ _
      · rw [e16, kwi_ne _ _ _ (by omega), e6', kwi_ne _ _ _ (by omega), e4, kwi_ne _ _ _ (by omega)]; exact i3
      · rw [e16, kwi_ne _ _ _ (by omega), e6', kwi_ne _ _ _ (by omega), e4, kwi_ne _ _ _ (by omega)]; exact i4
      · rw [e16, kwi_ne _ _ _ (by omega), e6', kwi_ne _ _ _ (by omega), e4, kwi_ne _ _ _ (by omega)]; exact i5
      · rw [e16, kwi_ne _ _ _ (by omega), e6', kwi_same]; exact upd_at _ _ _
      · intro j hj
        rw [e16, kwi_ne _ _ _ (by omega), e6', kwi_same, pk_un hj, e4, kwi_ne _ _ _ (by omega)]; exact i7 j hj
      · intro j hj
        rw [e16, kwi_ne _ _ _ (by omega), e6', kwi_ne _ _ _ (by omega), e4, kwi_same]
        by_cases z : j = i
        · rw [z]; exact upd_at _ _ _
        · rw [pk_un (by omega)]; exact i8 j (by omega)
      · intro j hj
        rw [e16, kwi_ne _ _ _ (by omega), e6', kwi_ne _ _ _ (by omega), e4, kwi_same, pk_un (by omega)]; exact i9 j hj
  refine key 12 0 σ1 (by omega) (by omega) (by rw [Nat.add_zero, Nat.add_zero]) ⟨(by rw [e1]; exact (FrB.kw σ (by omega) (by omega) _ _).toD), ?_, ?_, ?_, ?_, ?_, ?_, fun j hj => absurd hj (Nat.not_lt_zero j), ?_⟩
  · rw [e1, kwi_ne _ _ _ (by omega)]; exact h3
  · rw [e1, kwi_ne _ _ _ (by omega)]
  · rw [e1, kwi_ne _ _ _ (by omega)]
  · rw [e1, kwi_ne _ _ _ (by omega)]
  · rw [e1, kwi_same]; exact upd_at _ _ _
  · intro j hj
    rw [e1, kwi_same, pk_un hj]
  · intro j hj
    rw [e1, kwi_ne _ _ _ (by omega)]
theorem cC_readItem {σ : Mm} {b L : Nat} {T : Nat → Nat} (hb : 4 ≤ b) (h : TX (σ.1 2) (σ.1 1 1) L T) {p : Nat} (hp : p < 8000) (h3 : σ.1 3 1 = nI p) {g : Nat → Int32} {hl : Bool} (hC : DC σ b g hl) (hD : Drf g hl) {Φ : Int32 → Mm → Prop}
    (h1 : ∀ p2 g2 hl2, itm T g hl p = some (p2, g2, hl2) → ∀ σ2, FrD b σ σ2 → σ2.1 3 1 = nI p2 → DC σ2 b g2 hl2 → Φ 1 σ2) (h0 : itm T g hl p = none → ∀ σ2, FrD b σ σ2 → Φ 0 σ2) : wp_X5_readItem σ b Φ := by
  unfold wp_X5_readItem
  have e1 : nI p + 1 = nI (p + 1) := nI_1 p
  rw [h3, e1]
  refine cC_byteAt h (by omega) (fun σ3 e3 => ?_)
  have f3 : FrD3 σ σ3 := by rw [e3]; exact FrD3.kw _ _
  have g3 : σ3.1 3 1 = nI (p + 1) := by rw [e3, kwi_same]; exact upd_at _ _ _
  have t : ∀ c, c < 256 → (tI (T p) = nI c ↔ T p = c) := fun c hc => tI_eq hc
  have t108 : tI (T p) = 108 ↔ T p = 108 := t 108 (by omega)
  have t119 : tI (T p) = 119 ↔ T p = 119 := t 119 (by omega)
  have t99 : tI (T p) = 99 ↔ T p = 99 := t 99 (by omega)
  have t102 : tI (T p) = 102 ↔ T p = 102 := t 102 (by omega)
  have t112 : tI (T p) = 112 ↔ T p = 112 := t 112 (by omega)
  have t121 : tI (T p) = 121 ↔ T p = 121 := t 121 (by omega)
  rw [t108, t119]
  refine ⟨fun c1 => ⟨fun c2 => ?_, fun c2 => cC_readWay hb (h.fr3 f3) hp g3 (hC.fr3 hb f3) hD c2 (fun p2 g2 hl2 e σ2 f d1 d2 => ⟨kbit_1, h1 p2 g2 hl2 e σ2 (f3.toD.trans f) d1 d2⟩) (fun e σ2 f => ⟨kbit_0, h0 e σ2 (f3.toD.trans f)⟩)⟩, fun c1 => cC_readLane hb (h.fr3 f3) hp g3 (hC.fr3 hb f3) hD c1 (fun p2 g2 hl2 e σ2 f d1 d2 => ⟨kbit_1, h1 p2 g2 hl2 e σ2 (f3.toD.trans f) d1 d2⟩) (fun e σ2 f => ⟨kbit_0, h0 e σ2 (f3.toD.trans f)⟩)⟩
  have hi := itm_n c1 c2 g hl
  have q1le := nq_le T (p + 1)
  have hv := nv_le T (p + 1)
  refine cC_readNumber (h.fr3 f3) (by omega) g3 (fun z => br_t (by decide) (h0 (by rw [hi, if_neg (fun y => y.1 z)]) σ3 f3.toD)) (fun z σ4 f4 g4 => br_f (nI_pos (by omega)) ?_)
  have F4 := f3.trans f4
  refine cC_takes (c := 59) (h.fr3 F4) (by omega) (by omega) g4 (fun y => brn_f rfl (h0 (by rw [hi, if_neg (fun x => y x.2)]) σ4 F4.toD)) (fun y σ6 f6 g6 => brn_t (by decide) ?_)
  have F6 := F4.trans f6
  have ep : p + 1 + nq T (p + 1) + 1 = p + 2 + nq T (p + 1) := by omega
  rw [ep] at g6
  rw [if_pos ⟨z, y⟩] at hi
  intro w8 ew8
  rw [ew8, t99, t102, t112, t121]
  refine ⟨fun k => ?_, fun k => ⟨fun k2 => ?_, fun k2 => ⟨fun k3 => ?_, fun k3 => ⟨fun k4 => ?_, fun k4 => ?_⟩⟩⟩⟩
  · rw [if_neg (by omega), if_neg (by omega), if_neg (by omega), if_pos k] at hi
    exact cC_tellStart (hC.fr3 hb F6) hv (fun c σ9 f9 d9 => ⟨kbit_1, h1 _ _ _ (by rw [hi, if_pos c]) σ9 (F6.toD.trans f9.toD) (by rw [f9.1 3 (by omega)]; exact g6) d9⟩) (fun c => ⟨kbit_0, h0 (by rw [hi, if_neg c]) σ6 F6.toD⟩)
  · rw [if_neg (by omega), if_neg (by omega), if_pos k2] at hi
    exact cC_tellForget (hC.fr3 hb F6) hv (fun c σ9 f9 d9 => ⟨kbit_1, h1 _ _ _ (by rw [hi, if_pos c]) σ9 (F6.toD.trans f9.toD) (by rw [f9.1 3 (by omega)]; exact g6) d9⟩) (fun c => ⟨kbit_0, h0 (by rw [hi, if_neg c]) σ6 F6.toD⟩)
  · rw [if_neg (by omega), if_pos k3] at hi
    exact cC_tellPerson (hC.fr3 hb F6) hD hv (fun c σ9 f9 d9 => ⟨kbit_1, h1 _ _ _ (by rw [hi, if_pos c]) σ9 (F6.toD.trans f9.toD) (by rw [f9.1 3 (by omega)]; exact g6) d9⟩) (fun c => ⟨kbit_0, h0 (by rw [hi, if_neg c]) σ6 F6.toD⟩)
  · rw [if_pos k4] at hi
    exact cC_tellYards (hC.fr3 hb F6) hv (fun c σ9 f9 d9 => ⟨kbit_1, h1 _ _ _ (by rw [hi, if_pos c]) σ9 (F6.toD.trans f9.toD) (by rw [f9.1 3 (by omega)]; exact g6) d9⟩) (fun c => ⟨kbit_0, h0 (by rw [hi, if_neg c]) σ6 F6.toD⟩)
  · rw [if_neg k4, if_neg k3, if_neg k2, if_neg k] at hi
    exact h0 hi σ6 F6.toD
