def FC (r0 r3 r4 r5 g : Nat → Int32) : Prop :=
  r0 5 = nI (aN g) ∧ r0 6 = nI (aP g) ∧ r0 7 = nI (aF g) ∧ r0 8 = nI (aC g) ∧
  (∀ i, i < aP g → r3 i = nI (aCost g i)) ∧
  (∀ i, i < aP g → (r5 i = nI (aMany g i) ∧ ∀ k, k < aMany g i → r4 (12 * i + k) = nI (aWay g i k)) ∨ (r5 i = 0 ∧ aMany g i = 1 ∧ aWay g i 0 = 0))
def FL (r1 g : Nat → Int32) : Prop := ∀ a c, a < 8 → c < 8 → r1 (8 * a + c) = nI (if a = c then 0 else if aLane g a c then 1 else 99)
theorem DC_iff (σ : Mm) (b : Nat) (g : Nat → Int32) (hl : Bool) : DC σ b g hl ↔ FC (σ.1 b) (σ.1 (b + 3)) (σ.1 (b + 4)) (σ.1 (b + 5)) g ∧ FL (σ.1 (b + 1)) g ∧ σ.1 b 9 = wI hl := Iff.rfl
/-- nothing but the farm b has changed -/
def FrB (b : Nat) (σ σ2 : Mm) : Prop := (∀ k, k < b ∨ b + 5 < k → σ2.1 k = σ.1 k) ∧ σ2.2 = σ.2
theorem FrB.refl (b : Nat) (σ : Mm) : FrB b σ σ := ⟨fun _ _ => rfl, rfl⟩
theorem FrB.trans {b : Nat} {σ σ2 σ3 : Mm} (h1 : FrB b σ σ2) (h2 : FrB b σ2 σ3) : FrB b σ σ3 := ⟨fun k a => (h2.1 k a).trans (h1.1 k a), h2.2.trans h1.2⟩
theorem FrB.kw {b : Nat} (σ : Mm) {k : Nat} (h1 : b ≤ k) (h2 : k ≤ b + 5) (j : Nat) (v : Int32) : FrB b σ (kwi σ k j v) := ⟨fun q a => kwi_ne _ _ _ (by omega), rfl⟩
theorem FC_y {r0 r3 r4 r5 g : Nat → Int32} (h : FC r0 r3 r4 r5 g) {v : Nat} (hv : v ≤ 8) : FC (upd r0 5 (nI v)) r3 r4 r5 (gy g v) := by
  obtain ⟨f1, f2, f3, f4, f5, f6⟩ := h
  have e0 : aN (gy g v) = v := gN_same (by omega)
  have e : ∀ k, k ≠ 0 → gN (gy g v) k = gN g k := fun k hk => gN_ne hk
  refine ⟨by rw [upd_at, e0], ?_, ?_, ?_, fun i hi => ?_, fun i hi => ?_⟩
  · rw [pk_un (by decide), f2]; exact congrArg nI (e 1 (by omega)).symm
  · rw [pk_un (by decide), f3]; exact congrArg nI (e 2 (by omega)).symm
  · rw [pk_un (by decide), f4]; exact congrArg nI (e 3 (by omega)).symm
  · have hi' : i < aP g := by have := e 1 (by omega); unfold aP at hi ⊢; omega
    rw [f5 i hi']; exact congrArg nI (e (12 + i) (by omega)).symm
  · have hi' : i < aP g := by have := e 1 (by omega); unfold aP at hi ⊢; omega
    have := f6 i hi'
    unfold aMany aWay at *
    rw [e (17 + i) (by omega)]
    refine this.imp (fun z => ⟨z.1, fun k hk => ?_⟩) (fun z => ⟨z.1, z.2.1, ?_⟩)
    · rw [e _ (by omega)]; exact z.2 k hk
    · rw [e _ (by omega)]; exact z.2.2
theorem FC_f {r0 r3 r4 r5 g : Nat → Int32} (h : FC r0 r3 r4 r5 g) {v : Nat} (hv : v ≤ 20) : FC (upd r0 7 (nI v)) r3 r4 r5 (gf g v) := by
  obtain ⟨f1, f2, f3, f4, f5, f6⟩ := h
  have e0 : aF (gf g v) = v := gN_same (by omega)
  have e : ∀ k, k ≠ 2 → gN (gf g v) k = gN g k := fun k hk => gN_ne hk
  refine ⟨?_, ?_, by rw [upd_at, e0], ?_, fun i hi => ?_, fun i hi => ?_⟩
  · rw [pk_un (by decide), f1]; exact congrArg nI (e 0 (by omega)).symm
  · rw [pk_un (by decide), f2]; exact congrArg nI (e 1 (by omega)).symm
  · rw [pk_un (by decide), f4]; exact congrArg nI (e 3 (by omega)).symm
  · have hi' : i < aP g := by have := e 1 (by omega); unfold aP at hi ⊢; omega
    rw [f5 i hi']; exact congrArg nI (e (12 + i) (by omega)).symm
  · have hi' : i < aP g := by have := e 1 (by omega); unfold aP at hi ⊢; omega
    have := f6 i hi'
    unfold aMany aWay at *
    rw [e (17 + i) (by omega)]
    refine this.imp (fun z => ⟨z.1, fun k hk => ?_⟩) (fun z => ⟨z.1, z.2.1, ?_⟩)
    · rw [e _ (by omega)]; exact z.2 k hk
    · rw [e _ (by omega)]; exact z.2.2
theorem FC_c {r0 r3 r4 r5 g : Nat → Int32} (h : FC r0 r3 r4 r5 g) {v : Nat} (hv : v ≤ 20) : FC (upd r0 8 (nI v)) r3 r4 r5 (gc g v) := by
  obtain ⟨f1, f2, f3, f4, f5, f6⟩ := h
  have e0 : aC (gc g v) = v := gN_same (by omega)
  have e : ∀ k, k ≠ 3 → gN (gc g v) k = gN g k := fun k hk => gN_ne hk
  refine ⟨?_, ?_, ?_, by rw [upd_at, e0], fun i hi => ?_, fun i hi => ?_⟩
  · rw [pk_un (by decide), f1]; exact congrArg nI (e 0 (by omega)).symm
  · rw [pk_un (by decide), f2]; exact congrArg nI (e 1 (by omega)).symm
  · rw [pk_un (by decide), f3]; exact congrArg nI (e 2 (by omega)).symm
  · have hi' : i < aP g := by have := e 1 (by omega); unfold aP at hi ⊢; omega
    rw [f5 i hi']; exact congrArg nI (e (12 + i) (by omega)).symm
  · have hi' : i < aP g := by have := e 1 (by omega); unfold aP at hi ⊢; omega
    have := f6 i hi'
    unfold aMany aWay at *
    rw [e (17 + i) (by omega)]
    refine this.imp (fun z => ⟨z.1, fun k hk => ?_⟩) (fun z => ⟨z.1, z.2.1, ?_⟩)
    · rw [e _ (by omega)]; exact z.2 k hk
    · rw [e _ (by omega)]; exact z.2.2
theorem FL_of {r1 g g2 : Nat → Int32} (h : FL r1 g) (e : ∀ a, a < 8 → gN g2 (4 + a) = gN g (4 + a)) : FL r1 g2 := by
  intro a c ha hc
  have : aLane g2 a c = aLane g a c := by unfold aLane; rw [e a ha]
  rw [this]; exact h a c ha hc
theorem cC_tellYards {σ : Mm} {b v : Nat} {g : Nat → Int32} {hl : Bool} (h : DC σ b g hl) (hv : v ≤ 99) {Φ : Int32 → Mm → Prop} (h1 : (2 ≤ v ∧ v ≤ 8) ∧ hl = false → ∀ σ2, FrB b σ σ2 → DC σ2 b (gy g v) hl → Φ 1 σ2) (h0 : ¬ ((2 ≤ v ∧ v ≤ 8) ∧ hl = false) → Φ 0 σ) : wp_X1_tellYards σ b (nI v) Φ := by
  obtain ⟨d1, d2, d3⟩ := (DC_iff _ _ _ _).mp h
  unfold wp_X1_tellYards
  have e1 : nI v < 2 ↔ v < 2 := nI_ltI (b := 2) (by omega) (by omega)
  have e2 : 8 < nI v ↔ 8 < v := nI_ltI (a := 8) (by omega) (by omega)
  rw [e1, e2, d3, wI_0]
  refine ⟨fun c => h0 (by omega), fun c => ⟨fun c2 => h0 (by omega), fun c2 => ⟨fun c3 σ1 es => ?_, fun c3 => h0 (fun z => c3 z.2)⟩⟩⟩
  subst es
  refine h1 ⟨by omega, c3⟩ _ (FrB.kw σ (by omega) (by omega) _ _) ((DC_iff _ _ _ _).mpr ⟨?_, ?_, ?_⟩)
  · rw [kwi_same, kwi_ne _ _ _ (by omega), kwi_ne _ _ _ (by omega), kwi_ne _ _ _ (by omega)]
    exact FC_y d1 (by omega)
  · rw [kwi_ne _ _ _ (by omega)]
    exact FL_of d2 (fun a ha => gN_ne (by omega))
  · rw [kwi_same, pk_un (by decide)]; exact d3
theorem cC_tellForget {σ : Mm} {b v : Nat} {g : Nat → Int32} {hl : Bool} (h : DC σ b g hl) (hv : v ≤ 99) {Φ : Int32 → Mm → Prop} (h1 : v ≤ 20 → ∀ σ2, FrB b σ σ2 → DC σ2 b (gf g v) hl → Φ 1 σ2) (h0 : ¬ v ≤ 20 → Φ 0 σ) : wp_X1_tellForgetting σ b (nI v) Φ := by
  obtain ⟨d1, d2, d3⟩ := (DC_iff _ _ _ _).mp h
  unfold wp_X1_tellForgetting
  have e1 : nI v ≤ 20 ↔ v ≤ 20 := nI_leI (b := 20) (by omega) (by omega)
  rw [e1]
  refine br_f (nI_pos (by omega)) ⟨fun c σ1 es => ?_, h0⟩
  subst es
  refine h1 c _ (FrB.kw σ (by omega) (by omega) _ _) ((DC_iff _ _ _ _).mpr ⟨?_, ?_, ?_⟩)
  · rw [kwi_same, kwi_ne _ _ _ (by omega), kwi_ne _ _ _ (by omega), kwi_ne _ _ _ (by omega)]
    exact FC_f d1 c
  · rw [kwi_ne _ _ _ (by omega)]
    exact FL_of d2 (fun a ha => gN_ne (by omega))
  · rw [kwi_same, pk_un (by decide)]; exact d3
theorem cC_tellStart {σ : Mm} {b v : Nat} {g : Nat → Int32} {hl : Bool} (h : DC σ b g hl) (hv : v ≤ 99) {Φ : Int32 → Mm → Prop} (h1 : v ≤ 7 → ∀ σ2, FrB b σ σ2 → DC σ2 b (gc g v) hl → Φ 1 σ2) (h0 : ¬ v ≤ 7 → Φ 0 σ) : wp_X1_tellStart σ b (nI v) Φ := by
  obtain ⟨d1, d2, d3⟩ := (DC_iff _ _ _ _).mp h
  unfold wp_X1_tellStart
  have e1 : nI v < 8 ↔ v < 8 := nI_ltI (b := 8) (by omega) (by omega)
  rw [e1]
  refine br_f (nI_pos (by omega)) ⟨fun c σ1 es => ?_, fun c => h0 (by omega)⟩
  subst es
  refine h1 (by omega) _ (FrB.kw σ (by omega) (by omega) _ _) ((DC_iff _ _ _ _).mpr ⟨?_, ?_, ?_⟩)
  · rw [kwi_same, kwi_ne _ _ _ (by omega), kwi_ne _ _ _ (by omega), kwi_ne _ _ _ (by omega)]
    exact FC_c d1 (by omega)
  · rw [kwi_ne _ _ _ (by omega)]
    exact FL_of d2 (fun a ha => gN_ne (by omega))
  · rw [kwi_same, pk_un (by decide)]; exact d3
theorem FC_p {r0 r3 r4 r5 g : Nat → Int32} (h : FC r0 r3 r4 r5 g) {v : Nat} (hv : v ≤ 99) (hP : aP g < 5) (hM : ∀ i, i < aP g → aMany g i ≤ 12) : FC (upd r0 6 (nI (aP g + 1))) (upd r3 (aP g) (nI v)) r4 (upd r5 (aP g) 0) (gp g v) := by
  obtain ⟨f1, f2, f3, f4, f5, f6⟩ := h
  obtain ⟨p1, p2, p3, p4, e⟩ := gp_v (g := g) hP hv
  have eP : aP (gp g v) = aP g + 1 := p1
  refine ⟨?_, by rw [upd_at, eP], ?_, ?_, fun i hi => ?_, fun i hi => ?_⟩
  · rw [pk_un (by decide), f1]; exact congrArg nI (e 0 (by omega) (by omega) (by omega) (by omega)).symm
  · rw [pk_un (by decide), f3]; exact congrArg nI (e 2 (by omega) (by omega) (by omega) (by omega)).symm
  · rw [pk_un (by decide), f4]; exact congrArg nI (e 3 (by omega) (by omega) (by omega) (by omega)).symm
  · rw [eP] at hi
    by_cases q : i = aP g
    · rw [q, upd_at]; exact congrArg nI p2.symm
    · rw [pk_un q, f5 i (by omega)]; exact congrArg nI (e (12 + i) (by omega) (by omega) (by omega) (by omega)).symm
  · rw [eP] at hi
    by_cases q : i = aP g
    · right
      rw [q, upd_at]
      exact ⟨rfl, p3, p4⟩
    · have h12 := hM i (by omega)
      have := f6 i (by omega)
      rw [pk_un q]
      unfold aMany aWay at *
      rw [e (17 + i) (by omega) (by omega) (by omega) (by omega)]
      refine this.imp (fun z => ⟨z.1, fun k hk => ?_⟩) (fun z => ⟨z.1, z.2.1, ?_⟩)
      · rw [e _ (by omega) (by omega) (by omega) (by omega)]; exact z.2 k hk
      · rw [e _ (by omega) (by omega) (by omega) (by omega)]; exact z.2.2
theorem cC_tellPerson {σ : Mm} {b v : Nat} {g : Nat → Int32} {hl : Bool} (h : DC σ b g hl) (hD : Drf g hl) (hv : v ≤ 99) {Φ : Int32 → Mm → Prop} (h1 : aP g < 5 → ∀ σ2, FrB b σ σ2 → DC σ2 b (gp g v) hl → Φ 1 σ2) (h0 : ¬ aP g < 5 → Φ 0 σ) : wp_X1_tellPerson σ b (nI v) Φ := by
  obtain ⟨d1, d2, d3⟩ := (DC_iff _ _ _ _).mp h
  have hP := hD.2.2.1
  have e6 := d1.2.1
  unfold wp_X1_tellPerson
  have q1 : 5 ≤ nI (aP g) ↔ 5 ≤ aP g := nI_leI (a := 5) (by omega) (by omega)
  have q2 : nI v ≤ 99 ↔ v ≤ 99 := nI_leI (b := 99) (by omega) (by omega)
  rw [e6, q1, q2, nI_clamp (by omega)]
  refine ⟨fun c => h0 (by omega), fun c => br_f (nI_pos (by omega)) (br_t hv ⟨⟨nI_pos' (by omega), (nI_ltI (b := 5) (by omega) (by omega)).mpr (by omega)⟩, fun σ2 e2 => ?_⟩)⟩
  have g6 : σ2.1 b 6 = nI (aP g) := by rw [e2, kwi_ne _ _ _ (by omega)]; exact e6
  rw [g6, nI_clamp (by omega)]
  refine ⟨⟨nI_pos' (by omega), (nI_ltI (b := 5) (by omega) (by omega)).mpr (by omega)⟩, fun σ4 e4 σ5 e5 => ?_⟩
  have g64 : σ4.1 b 6 = nI (aP g) := by rw [e4, kwi_ne _ _ _ (by omega)]; exact g6
  have en : nI (aP g) + 1 = nI (aP g + 1) := nI_1 _
  rw [g64, en] at e5
  subst e5 e4 e2
  refine h1 (by omega) _ ((FrB.kw σ (by omega) (by omega) _ _).trans ((FrB.kw _ (by omega) (by omega) _ _).trans (FrB.kw _ (by omega) (by omega) _ _))) ((DC_iff _ _ _ _).mpr ⟨?_, ?_, ?_⟩)
  · have r0 : ∀ x y z, (kwi (kwi (kwi σ (b + 3) (aP g) x) (b + 5) (aP g) y) b 6 z).1 b = upd (σ.1 b) 6 z := fun x y z => by rw [kwi_same, kwi_ne _ _ _ (by omega), kwi_ne _ _ _ (by omega)]
    have r3 : ∀ x y z, (kwi (kwi (kwi σ (b + 3) (aP g) x) (b + 5) (aP g) y) b 6 z).1 (b + 3) = upd (σ.1 (b + 3)) (aP g) x := fun x y z => by rw [kwi_ne _ _ _ (by omega), kwi_ne _ _ _ (by omega), kwi_same]
    have r4 : ∀ x y z, (kwi (kwi (kwi σ (b + 3) (aP g) x) (b + 5) (aP g) y) b 6 z).1 (b + 4) = σ.1 (b + 4) := fun x y z => by rw [kwi_ne _ _ _ (by omega), kwi_ne _ _ _ (by omega), kwi_ne _ _ _ (by omega)]
    have r5 : ∀ x y z, (kwi (kwi (kwi σ (b + 3) (aP g) x) (b + 5) (aP g) y) b 6 z).1 (b + 5) = upd (σ.1 (b + 5)) (aP g) y := fun x y z => by rw [kwi_ne _ _ _ (by omega), kwi_same, kwi_ne _ _ _ (by omega)]
    rw [r0, r3, r4, r5]
    exact FC_p d1 hv (by omega) (fun i hi => (hD.2.2.2.2.2.2.2.2.1 i hi).2)
  · rw [kwi_ne _ _ _ (by omega), kwi_ne _ _ _ (by omega), kwi_ne _ _ _ (by omega)]
    exact FL_of d2 (fun a ha => (gp_v (g := g) (v := v) (by omega) hv).2.2.2.2 _ (by omega) (by omega) (by omega) (by omega))
  · rw [kwi_same, pk_un (by decide), kwi_ne _ _ _ (by omega), kwi_ne _ _ _ (by omega)]; exact d3
theorem cC_hasY {σ : Mm} {b v N : Nat} (h : σ.1 b 5 = nI N) (hN : N ≤ 8) (hv : v ≤ 99) {Φ : Int32 → Prop} (h1 : v < N → Φ 1) (h0 : ¬ v < N → Φ 0) : wp_X1_hasYard σ b (nI v) Φ := by
  unfold wp_X1_hasYard
  rw [h]
  have e1 : nI v < nI N ↔ v < N := nI_ltI (by omega) (by omega)
  have e2 : nI N ≤ nI v ↔ N ≤ v := nI_leI (by omega) (by omega)
  have e3 : ¬ nI v < 0 := nI_pos (by omega)
  simp only [e1, e2]
  by_cases q : v < N
  · have := h1 q
    grind
  · have := h0 q
    grind
theorem FC_l {r0 r3 r4 r5 g : Nat → Int32} (h : FC r0 r3 r4 r5 g) {a c : Nat} (ha : a < 8) (hc : c < 8) (hac : a ≠ c) (h1 : gN g (4 + a) < 256) (h2 : gN g (4 + c) < 256) : FC (upd r0 9 1) r3 r4 r5 (gl g a c) := by
  obtain ⟨f1, f2, f3, f4, f5, f6⟩ := h
  obtain ⟨v1, v2, e⟩ := gl_v ha hc hac h1 h2
  have eP : aP (gl g a c) = aP g := e 1 (by omega) (by omega)
  refine ⟨?_, ?_, ?_, ?_, fun i hi => ?_, fun i hi => ?_⟩
  · rw [pk_un (by decide), f1]; exact congrArg nI (e 0 (by omega) (by omega)).symm
  · rw [pk_un (by decide), f2]; exact congrArg nI (e 1 (by omega) (by omega)).symm
  · rw [pk_un (by decide), f3]; exact congrArg nI (e 2 (by omega) (by omega)).symm
  · rw [pk_un (by decide), f4]; exact congrArg nI (e 3 (by omega) (by omega)).symm
  · rw [f5 i (by omega)]; exact congrArg nI (e (12 + i) (by omega) (by omega)).symm
  · have := f6 i (by omega)
    unfold aMany aWay at *
    rw [e (17 + i) (by omega) (by omega)]
    refine this.imp (fun z => ⟨z.1, fun k hk => ?_⟩) (fun z => ⟨z.1, z.2.1, ?_⟩)
    · rw [e _ (by omega) (by omega)]; exact z.2 k hk
    · rw [e _ (by omega) (by omega)]; exact z.2.2
theorem FL_l {r1 g : Nat → Int32} (h : FL r1 g) {a c : Nat} (ha : a < 8) (hc : c < 8) (hac : a ≠ c) (h1 : gN g (4 + a) < 256) (h2 : gN g (4 + c) < 256) : FL (upd (upd r1 (8 * a + c) 1) (8 * c + a) 1) (gl g a c) := by
  intro x y hx hy
  rw [gl_lane ha hc hac h1 h2 x y]
  by_cases e1 : x = c ∧ y = a
  · obtain ⟨q1, q2⟩ := e1
    subst q1 q2
    rw [upd_at, if_neg (Ne.symm hac)]
    simp
    rfl
  · rw [pk_un (by omega)]
    by_cases e2 : x = a ∧ y = c
    · obtain ⟨q1, q2⟩ := e2
      subst q1 q2
      rw [upd_at, if_neg hac]
      simp
      rfl
    · rw [pk_un (by omega), h x y hx hy]
      have : decide ((x = a ∧ y = c) ∨ (x = c ∧ y = a)) = false := decide_eq_false (by omega)
      rw [this, Bool.or_false]
theorem cC_tellLane {σ : Mm} {b v w : Nat} {g : Nat → Int32} {hl : Bool} (h : DC σ b g hl) (hD : Drf g hl) (hv : v ≤ 99) (hw : w ≤ 99) {Φ : Int32 → Mm → Prop} (h1 : v < aN g ∧ w < aN g ∧ v ≠ w → ∀ σ2, FrB b σ σ2 → DC σ2 b (gl g v w) true → Φ 1 σ2) (h0 : ¬ (v < aN g ∧ w < aN g ∧ v ≠ w) → Φ 0 σ) : wp_X1_tellLane σ b (nI v) (nI w) Φ := by
  obtain ⟨d1, d2, d3⟩ := (DC_iff _ _ _ _).mp h
  have hN := hD.2.1
  refine cC_hasY d1.1 hN.2 hv (fun q1 => br_f (by decide) (cC_hasY d1.1 hN.2 hw (fun q2 => br_f (by decide) ?_) (fun q2 => br_t rfl (h0 (fun z => q2 z.2.1))))) (fun q1 => br_t rfl (h0 (fun z => q1 z.1)))
  have e1 : nI v = nI w ↔ v = w := nI_eq (by omega) (by omega)
  have i1 : nI v * 8 + nI w = nI (8 * v + w) := by
    have : nI v * 8 = nI (v * 8) := pk_mul v 8
    rw [this, nI_add, Nat.mul_comm v 8]
  have i2 : nI w * 8 + nI v = nI (8 * w + v) := by
    have : nI w * 8 = nI (w * 8) := pk_mul w 8
    rw [this, nI_add, Nat.mul_comm w 8]
  rw [e1, i1, i2, nI_clamp (by omega), nI_clamp (by omega)]
  refine ⟨fun c => ⟨⟨nI_pos' (by omega), (nI_ltI (b := 64) (by omega) (by omega)).mpr (by omega)⟩, fun σ6 e6 => ⟨⟨nI_pos' (by omega), (nI_ltI (b := 64) (by omega) (by omega)).mpr (by omega)⟩, fun σ8 e8 σ9 e9 => ?_⟩⟩, fun c => h0 (fun z => z.2.2 c)⟩
  subst e9 e8 e6
  have hv8 : v < 8 := by omega
  have hw8 : w < 8 := by omega
  refine h1 ⟨q1, q2, c⟩ _ ((FrB.kw σ (by omega) (by omega) _ _).trans ((FrB.kw _ (by omega) (by omega) _ _).trans (FrB.kw _ (by omega) (by omega) _ _))) ((DC_iff _ _ _ _).mpr ⟨?_, ?_, ?_⟩)
  · have r0 : ∀ x y z, (kwi (kwi (kwi σ (b + 1) (8 * v + w) x) (b + 1) (8 * w + v) y) b 9 z).1 b = upd (σ.1 b) 9 z := fun x y z => by rw [kwi_same, kwi_ne _ _ _ (by omega), kwi_ne _ _ _ (by omega)]
    have rk : ∀ k x y z, k ≠ 0 → k ≠ 1 → (kwi (kwi (kwi σ (b + 1) (8 * v + w) x) (b + 1) (8 * w + v) y) b 9 z).1 (b + k) = σ.1 (b + k) := fun k x y z k0 k1 => by rw [kwi_ne _ _ _ (by omega), kwi_ne _ _ _ (by omega), kwi_ne _ _ _ (by omega)]
    rw [r0, rk 3 _ _ _ (by omega) (by omega), rk 4 _ _ _ (by omega) (by omega), rk 5 _ _ _ (by omega) (by omega)]
    exact FC_l d1 hv8 hw8 c (hD.2.2.2.2.2.1 v hv8) (hD.2.2.2.2.2.1 w hw8)
  · rw [kwi_ne _ _ _ (by omega), kwi_same, kwi_same]
    exact FL_l d2 hv8 hw8 c (hD.2.2.2.2.2.1 v hv8) (hD.2.2.2.2.2.1 w hw8)
  · rw [kwi_same, upd_at]; rfl
