def OKL (g : Nat → Int32) : Prop := 1 ≤ aP g ∧ aC g < aN g ∧ ∀ i k, i < aP g → k < aMany g i → aWay g i k < aN g
theorem WFg_of {g : Nat → Int32} {hl : Bool} (h : Drf g hl) (ho : OKL g) : WFg g := by
  obtain ⟨a1, a2, a3, a4, a5, a6, a7, a8, a9, a10, a11⟩ := h
  exact ⟨a1, a2.1, a2.2, ho.1, a3, a4, ho.2.1, a6, a7, a8, a9, ho.2.2⟩
theorem WFd_of {g : Nat → Int32} {hl : Bool} (h : Drf g hl) : WFd g (dR g) := WFd_dR (fun a b ha hb q => (h.2.2.2.2.2.2.1 a b ha hb q).2.2.1)
theorem RelG_new {σ τ : Mm} {g : Nat → Int32} {hl : Bool} (hD : Drf g hl) (hO : OKL g) (hok : okC σ.2.2) (h01 : σ.2.2 0 ≠ σ.2.2 1) (h23 : σ.2.2 2 ≠ σ.2.2 3) (hC : FmC σ (σ.2.2 0) g) (hCD : FmD σ (σ.2.2 0) g (dR g)) (hM : FmM τ g (dR g)) (hT : TxR (σ.1 1 1) (σ.1 2) (τ.1 0 3) (τ.1 3)) (c16 : σ.1 16 0 = 0 ∧ σ.1 16 1 = nI (aC g) ∧ σ.1 16 2 = 0) (c4 : τ.1 4 0 = 0 ∧ τ.1 4 1 = nI (aC g) ∧ τ.1 4 2 = 0) (n1 : σ.1 17 3 = 0 ∧ σ.1 21 3 = 0 ∧ σ.1 25 2 = 0 ∧ σ.1 28 2 = 0) (n2 : τ.1 0 9 = 0 ∧ τ.1 0 11 = 0 ∧ τ.1 0 14 = 0 ∧ τ.1 0 21 = 0) (hf1 : FrR (σ.1 32 2) (σ.1 33) (σ.2.1 34)) (hf2 : FrR (σ.1 35 2) (σ.1 36) (σ.2.1 37)) : RelG g (dR g) σ τ := by
  have hg := WFg_of hD hO
  have hst := isSt_C hg
  have ec : aC g = cst g (aC g) := by
    have := hg.C
    have := hg.N
    unfold cst
    rw [if_pos (Or.inl (by omega))]
    omega
  refine ⟨⟨hg, WFd_of hD, hok, h01, h23, hC, hCD, hM⟩, hT, ⟨0, aC g, 0, by omega, hst, c16.1, ?_, c16.2.2, c4⟩, ⟨0, by omega, n1.1, n2.1, fun j hj => absurd hj (Nat.not_lt_zero j)⟩, ⟨0, by omega, n1.2.1, n2.2.1, fun j hj => absurd hj (Nat.not_lt_zero j)⟩, ⟨0, by omega, n1.2.2.1, n2.2.2.1, fun j hj => absurd hj (Nat.not_lt_zero j)⟩, ⟨0, by omega, n1.2.2.2, n2.2.2.2, fun j hj => absurd hj (Nat.not_lt_zero j)⟩, hf1, hf2⟩
  rw [← ec]; exact c16.2.1
theorem cC_canBeLaid {σ : Mm} {b : Nat} {g : Nat → Int32} {hl : Bool} (h : DC σ b g hl) (hD : Drf g hl) {Φ : Int32 → Prop} (h1 : OKL g → Φ 1) (h0 : ¬ OKL g → Φ 0) : wp_X1_canBeLaid σ b Φ := by
  obtain ⟨⟨f1, f2, f3, f4, f5, f6⟩, -, -⟩ := h
  obtain ⟨a1, a2, a3, a4, a5, a6, a7, a8, a9, a10, a11⟩ := hD
  unfold wp_X1_canBeLaid
  have e1 : nI (aP g) < 1 ↔ aP g < 1 := nI_ltI (b := 1) (by omega) (by omega)
  have e2 : nI (aC g) < nI (aN g) ↔ aC g < aN g := nI_ltI (by omega) (by omega)
  rw [f2, f4, f1, e1, e2]
  refine ⟨fun c => h0 (fun z => by have := z.1; omega), fun c => ⟨fun c2 => ⟨aP g + 1, ?_⟩, fun c2 => h0 (fun z => c2 z.2.1)⟩⟩
  have key : ∀ r i, i + r = aP g → (∀ j k, j < i → k < aMany g j → aWay g j k < aN g) → wp_X1_canBeLaid_L23 b σ Φ (r + 1) (nI i) := by
    intro r
    induction r with
    | zero =>
      intro i hi hn
      have e : i = aP g := by omega
      subst e
      unfold wp_X1_canBeLaid_L23
      rw [f2]
      exact br_t (nI_le (Nat.le_refl _) (by omega)) (h1 ⟨by omega, c2, hn⟩)
    | succ r ih =>
      intro i hi hn
      have hi' : i < aP g := by omega
      have en : nI i + 1 = nI (i + 1) := nI_1 i
      have b5 : (0 ≤ nI i ∧ nI i < 5) := ⟨nI_pos' (by omega), (nI_ltI (b := 5) (by omega) (by omega)).mpr (by omega)⟩
      unfold wp_X1_canBeLaid_L23
      rw [f2, en]
      refine br_f (nI_ge hi' (by omega)) ⟨∀ k, k < aMany g i → aWay g i k < aN g, fun q => ih (i + 1) (by omega) (fun j k hj hk => ?_), ?_⟩
      · rcases Nat.lt_or_ge j i with z | z
        · exact hn j k z hk
        · have : j = i := by omega
          subst this
          exact q k hk
      · rcases f6 i hi' with ⟨g1, g2⟩ | ⟨g1, g2, g3⟩
        · have hm := a9 i hi'
          have inner : ∀ r k, k + r = aMany g i → (∀ j, j < k → aWay g i j < aN g) → wp_X1_canBeLaid_L33 b σ Φ (nI i) (∀ k, k < aMany g i → aWay g i k < aN g) (r + 1) (nI k) := by
            intro r
            induction r with
            | zero =>
              intro k hk hq
              have e : k = aMany g i := by omega
              subst e
              unfold wp_X1_canBeLaid_L33
              rw [nI_clamp (by omega), g1]
              exact ⟨b5, br_t (nI_le (Nat.le_refl _) (by omega)) hq⟩
            | succ r ihr =>
              intro k hk hq
              have enk : nI k + 1 = nI (k + 1) := nI_1 k
              have ei : nI i * 12 + nI k = nI (12 * i + k) := by
                have : nI i * 12 = nI (i * 12) := pk_mul i 12
                rw [this, nI_add, Nat.mul_comm]
              have hw := a10 i k hi' (by omega)
              unfold wp_X1_canBeLaid_L33
              rw [nI_clamp (by omega), g1, enk, ei, nI_clamp (by omega), g2 k (by omega), f1]
              have el : nI (aWay g i k) < nI (aN g) ↔ aWay g i k < aN g := nI_ltI (by omega) (by omega)
              rw [el]
              refine ⟨b5, br_f (nI_ge (by omega) (by omega)) ⟨⟨nI_pos' (by omega), (nI_ltI (b := 60) (by omega) (by omega)).mpr (by omega)⟩, fun c3 => ihr (k + 1) (by omega) (fun j hj => ?_), fun c3 => h0 (fun z => c3 (z.2.2 i k hi' (by omega)))⟩⟩
              rcases Nat.lt_or_ge j k with z | z
              · exact hq j z
              · have : j = k := by omega
                rw [this]; exact c3
          exact ⟨aMany g i + 1, inner (aMany g i) 0 (by omega) (fun j hj => absurd hj (Nat.not_lt_zero j))⟩
        · refine ⟨1, ?_⟩
          unfold wp_X1_canBeLaid_L33
          rw [nI_clamp (by omega), g1]
          refine ⟨b5, br_t (by decide) (fun k hk => ?_)⟩
          have : k = 0 := by omega
          rw [this, g3]; omega
  exact key (aP g) 0 (by omega) (fun j k hj => absurd hj (Nat.not_lt_zero j))
/-- the model's lay, its text having no fault -/
theorem cM_layOk {τ1 : Mm} {g : Nat → Int32} {hl : Bool} (h : DM τ1 g hl) (hD : Drf g hl) {K : Int32 → Prop} (h1 : OKL g → K 1) (h0 : ¬ OKL g → K 0) : ∃ K41 : Int32 → Prop, (∀ v3, K41 v3 → ∃ n, wp_X11_lay_L44 τ1 K n v3 0) ∧ ∃ K40 : Prop, (K40 → K41 0) ∧ ((τ1.1 1 83 ≤ 0 → K40) ∧ (¬ τ1.1 1 83 ≤ 0 → ((τ1.1 1 82 ≤ τ1.1 1 85 → K40) ∧ (¬ τ1.1 1 82 ≤ τ1.1 1 85 → K41 1)))) := by
  obtain ⟨a1, a2, a3, a4, a5, a6, a7, a8, a9, a10, a11⟩ := hD
  have ev : ∀ k, k < 82 → τ1.1 1 (82 + k) = nI (gN g k) := fun k hk => by rw [h.1 k hk]; exact a1 k hk
  have e82 : τ1.1 1 82 = nI (aN g) := ev 0 (by omega)
  have e83 : τ1.1 1 83 = nI (aP g) := ev 1 (by omega)
  have e85 : τ1.1 1 85 = nI (aC g) := ev 3 (by omega)
  have p0 : nI (aP g) ≤ 0 ↔ aP g ≤ 0 := nI_leI (b := 0) (by omega) (by omega)
  have pc : nI (aN g) ≤ nI (aC g) ↔ aN g ≤ aC g := nI_leI (by omega) (by omega)
  rw [e83, e82, e85, p0, pc]
  have zero : ∀ i, ¬ OKL g → ∃ n, wp_X11_lay_L44 τ1 K n 0 (nI i) := fun i hn => ⟨1, by
    unfold wp_X11_lay_L44
    exact ⟨fun _ => h0 hn, fun _ => br_t rfl (h0 hn)⟩⟩
  have z1 : ∀ r i, ¬ OKL g → wp_X11_lay_L44 τ1 K (r + 1) 0 (nI i) := fun r i hn => by
    unfold wp_X11_lay_L44
    exact ⟨fun _ => h0 hn, fun _ => br_t rfl (h0 hn)⟩
  refine ⟨fun v => (v = 0 ∧ ¬ OKL g) ∨ (v = 1 ∧ 1 ≤ aP g ∧ aC g < aN g), fun v hv => ?_, ¬ OKL g, fun q => Or.inl ⟨rfl, q⟩, fun c z => by have := z.1; omega, fun c => ⟨fun c2 z => by have := z.2.1; omega, fun c2 => Or.inr ⟨rfl, by omega, by omega⟩⟩⟩
  rcases hv with ⟨rfl, hn⟩ | ⟨rfl, hP, hC⟩
  · exact zero 0 hn
  · refine ⟨aP g + 1, ?_⟩
    have key : ∀ r i, i + r = aP g → (∀ j k, j < i → k < aMany g j → aWay g j k < aN g) → wp_X11_lay_L44 τ1 K (r + 1) 1 (nI i) := by
      intro r
      induction r with
      | zero =>
        intro i hi hn
        have e : i = aP g := by omega
        subst e
        unfold wp_X11_lay_L44
        rw [e83]
        exact br_t (nI_le (Nat.le_refl _) (by omega)) (h1 ⟨hP, hC, hn⟩)
      | succ r ih =>
        intro i hi hn
        have hi' : i < aP g := by omega
        have hm := a9 i hi'
        have en : nI i + 1 = nI (i + 1) := nI_1 i
        unfold wp_X11_lay_L44
        rw [e83, en]
        refine br_f (nI_ge hi' (by omega)) (br_f (by decide) ⟨fun v => (v = 1 ∧ ∀ k, k < aMany g i → aWay g i k < aN g) ∨ (v = 0 ∧ ¬ OKL g), fun v hv => ?_, aMany g i + 1, ?_⟩)
        · rcases hv with ⟨rfl, hq⟩ | ⟨rfl, hq⟩
          · refine ih (i + 1) (by omega) (fun j k hj hk => ?_)
            rcases Nat.lt_or_ge j i with z | z
            · exact hn j k z hk
            · have : j = i := by omega
              subst this
              exact hq k hk
          · exact z1 r (i + 1) hq
        · have i99 : (99 : Int32) + nI i = nI (82 + (17 + i)) := by
            have : (99 : Int32) + nI i = nI (99 + i) := nI_add 99 i
            rw [this]; congr 1; omega
          have e99 : τ1.1 1 (82 + (17 + i)) = nI (aMany g i) := ev (17 + i) (by omega)
          have inner : ∀ r k (v : Int32), k + r = aMany g i → ((v = 1 ∧ ∀ j, j < k → aWay g i j < aN g) ∨ (v = 0 ∧ ¬ OKL g)) → wp_X11_lay_L61 τ1 (nI i) (fun v => (v = 1 ∧ ∀ k, k < aMany g i → aWay g i k < aN g) ∨ (v = 0 ∧ ¬ OKL g)) (r + 1) v (nI k) := by
            intro r
            induction r with
            | zero =>
              intro k v hk hv
              have e : k = aMany g i := by omega
              subst e
              unfold wp_X11_lay_L61
              rw [i99, nI_clamp (by omega), e99]
              exact ⟨⟨nI_pos' (by omega), (nI_ltI (b := 164) (by omega) (by omega)).mpr (by omega)⟩, br_t (nI_le (Nat.le_refl _) (by omega)) hv⟩
            | succ r ihr =>
              intro k v hk hv
              have enk : nI k + 1 = nI (k + 1) := nI_1 k
              have iw : (104 + (12 * nI i) : Int32) + nI k = nI (82 + (22 + 12 * i + k)) := by
                have q1 : (12 : Int32) * nI i = nI (12 * i) := pk_mul 12 _
                have q2 : (104 : Int32) + nI (12 * i) = nI (104 + 12 * i) := nI_add 104 _
                rw [q1, q2, nI_add]; congr 1; omega
              have ew : τ1.1 1 (82 + (22 + 12 * i + k)) = nI (aWay g i k) := ev (22 + 12 * i + k) (by omega)
              have hw := a10 i k hi' (by omega)
              unfold wp_X11_lay_L61
              rw [i99, nI_clamp (by omega), e99, enk, iw, nI_clamp (by omega), ew, e82]
              have el : nI (aN g) ≤ nI (aWay g i k) ↔ aN g ≤ aWay g i k := nI_leI (by omega) (by omega)
              rw [el]
              refine ⟨⟨nI_pos' (by omega), (nI_ltI (b := 164) (by omega) (by omega)).mpr (by omega)⟩, br_f (nI_ge (by omega) (by omega)) ⟨fun v => (v = 1 ∧ ∀ j, j < k + 1 → aWay g i j < aN g) ∨ (v = 0 ∧ ¬ OKL g), fun v hv => ihr (k + 1) v (by omega) hv, ¬ OKL g, fun q => Or.inr ⟨rfl, q⟩, ?_⟩⟩
              rcases hv with ⟨rfl, hq⟩ | ⟨rfl, hq⟩
              · refine br_f (by decide) ⟨⟨nI_pos' (by omega), (nI_ltI (b := 164) (by omega) (by omega)).mpr (by omega)⟩, fun c z => ?_, fun c => Or.inl ⟨rfl, fun j hj => ?_⟩⟩
                · have := z.2.2 i k hi' (by omega); omega
                · rcases Nat.lt_or_ge j k with z | z
                  · exact hq j z
                  · have : j = k := by omega
                    rw [this]; omega
              · exact br_t rfl hq
          exact inner (aMany g i) 0 1 (by omega) (Or.inl ⟨rfl, fun j hj => absurd hj (Nat.not_lt_zero j)⟩)
    exact key (aP g) 0 (by omega) (fun j k hj => absurd hj (Nat.not_lt_zero j))
theorem op_lay {σ τ : Mm} (h : Rel σ τ) : wp_X10_lay σ (fun r σ2 => wp_X11_lay τ (fun r2 τ2 => r = r2 ∧ Rel σ2 τ2)) := by
  obtain ⟨g, d, hR⟩ := h
  obtain ⟨L, T, t1, t2⟩ := TX_ex hR.2.1
  have hok := hR.1.2.2.1
  have h01 := hR.1.2.2.2.1
  have h23 := hR.1.2.2.2.2.1
  have hb0 : σ.2.2 0 = 4 ∨ σ.2.2 0 = 10 := hok.1
  have hb1 : σ.2.2 1 = 4 ∨ σ.2.2 1 = 10 := hok.2.1
  refine cC_readInto (by omega) t1 (fun g2 hl2 e hD σ2 f2 d2 => brn_f rfl ?_) (fun q g2 hl2 e hq σ2 f2 => brn_t (nI_m4 (by have := t1.1; omega)) ?_)
  · have er2 : σ2.2 = σ.2 := f2.2
    rw [er2]
    -- the model's side, up to its answer
    have hmod : ∀ {Φ : Int32 → Mm → Prop}, (∀ τ1, FrM τ τ1 → DM τ1 g2 hl2 → OKL g2 → (∃ K156 : Mm → Prop, (∀ (σ5 : Mm), K156 σ5 → (wp_X11_begin σ5 (fun σ6 => Φ (σ6.1 1 1) σ6))) ∧ ∃ n : Nat, wp_X11_lay_L129 K156 n τ1 0)) → (∀ τ1, FrM τ τ1 → DM τ1 g2 hl2 → ¬ OKL g2 → Φ (-2) τ1) → wp_X11_lay τ Φ := by
      intro Φ k1 k0
      refine cM_findFault t2 (fun g3 hl3 e3 hD3 τ1 f3 d3 => ?_) (fun q g3 hl3 e3 _ τ2 f3 => by rw [e] at e3; cases e3)
      rw [e] at e3
      cases e3
      obtain ⟨K41, q1, K40, q2, q3⟩ := cM_layOk (K := fun x => (¬ x = 0 → (∃ K156 : Mm → Prop, (∀ (σ5 : Mm), K156 σ5 → (wp_X11_begin σ5 (fun σ6 => Φ (σ6.1 1 1) σ6))) ∧ ∃ n : Nat, wp_X11_lay_L129 K156 n τ1 0)) ∧ (x = 0 → Φ (-2) τ1)) d3 hD3 (fun z => brn_t (by decide) (k1 τ1 f3 d3 z)) (fun z => brn_f rfl (k0 τ1 f3 d3 z))
      exact ⟨K41, fun v hv => ⟨_, fun x hx => hx, q1 v hv⟩, K40, q2, brn_f rfl q3⟩
    refine cC_canBeLaid d2 hD (fun ho => brn_t (by decide) ?_) (fun ho => brn_f rfl ?_)
    · intro σ9 e9 σ10 e10
      have hg := WFg_of hD ho
      have hN := hg.N
      have hP := hg.P
      have hd := WFd_of hD
      have rows10 : σ10.1 = σ2.1 := by rw [e10, e9]; rfl
      have l10 : σ10.2.1 = σ2.2.1 := by rw [e10, e9]; rfl
      have q0 : σ10.2.2 0 = σ.2.2 1 := by rw [e10, e9]; rfl
      have q1 : σ10.2.2 1 = σ.2.2 0 := by rw [e10, e9]; rfl
      have q2 : σ10.2.2 2 = σ.2.2 2 := by rw [e10, e9]; show σ2.2.2 2 = _; rw [er2]
      have q3 : σ10.2.2 3 = σ.2.2 3 := by rw [e10, e9]; show σ2.2.2 3 = _; rw [er2]
      rw [q0]
      have hFL : FL (σ10.1 (σ.2.2 1 + 1)) g2 := by rw [rows10]; exact ((DC_iff _ _ _ _).mp d2).2.1
      refine cC_measure hd hFL (fun σ12 m1 m2 m3 => ?_)
      have q12 : σ12.2.2 = σ10.2.2 := by rw [m2]
      rw [q12, q0]
      have hC12 : FmC σ12 (σ.2.2 1) g2 := by
        have := d2.1
        unfold FmC at *
        rw [m1 (σ.2.2 1) (by omega) (by omega), m1 (σ.2.2 1 + 3) (by omega) (by omega), m1 (σ.2.2 1 + 4) (by omega) (by omega), m1 (σ.2.2 1 + 5) (by omega) (by omega), rows10]
        exact this
      intro σ13 e13
      show wp_X10_packed (σ13.1 (σ.2.2 1) 8) (-1) 0 _
      have e8 : σ13.1 (σ.2.2 1) 8 = nI (aC g2) := by rw [e13, kwi_ne _ _ _ (by omega)]; exact hC12.2.2.2.1
      rw [e8]
      refine cC_packed0 ?_
      intro σ14 e14 σ15 e15 x16 ex16 σ16 e16 x17 ex17 σ17 e17 σ18 e18 σ20 e20
      have r20 : ∀ k, k ≠ 16 → k ≠ 25 → k ≠ 28 → k ≠ 17 → k ≠ 21 → σ20.1 k = σ12.1 k := fun k k1 k2 k3 k4 k5 => by
        rw [e20, kwi_ne _ _ _ k5, e18, kwi_ne _ _ _ k4, e17, kwi_ne _ _ _ k3, e16, kwi_ne _ _ _ k2, e15, kwi_ne _ _ _ k1, e14, kwi_ne _ _ _ k1, e13, kwi_ne _ _ _ k1]
      have s20 : σ20.2 = σ12.2 := by rw [e20, e18, e17, e16, e15, e14, e13]; rfl
      have q20 : σ20.2.2 = σ10.2.2 := by rw [s20, m2]
      have c21 : σ20.1 21 3 = 0 := by rw [e20, kwi_same]; exact upd_at _ _ _
      have c17 : σ20.1 17 3 = 0 := by rw [e20, kwi_ne _ _ _ (by decide), e18, kwi_same]; exact upd_at _ _ _
      have c28 : σ20.1 28 2 = 0 := by rw [e20, kwi_ne _ _ _ (by decide), e18, kwi_ne _ _ _ (by decide), e17, kwi_same]; exact upd_at _ _ _
      have c25 : σ20.1 25 2 = 0 := by rw [e20, kwi_ne _ _ _ (by decide), e18, kwi_ne _ _ _ (by decide), e17, kwi_ne _ _ _ (by decide), e16, kwi_same]; exact upd_at _ _ _
      have c16 : σ20.1 16 = upd (upd (upd (σ12.1 16) 0 0) 1 (nI (aC g2))) 2 0 := by
        rw [e20, kwi_ne _ _ _ (by decide), e18, kwi_ne _ _ _ (by decide), e17, kwi_ne _ _ _ (by decide), e16, kwi_ne _ _ _ (by decide), e15, kwi_same, e14, kwi_same, e13, kwi_same]
      have hC20 : FmC σ20 (σ.2.2 1) g2 := hC12.of (fun k k1 k2 => r20 k (by omega) (by omega) (by omega) (by omega) (by omega))
      have hD20 : FmD σ20 (σ.2.2 1) g2 (dR g2) := m3.of (fun k k1 k2 => r20 k (by omega) (by omega) (by omega) (by omega) (by omega))
      have old : ∀ k, k ≠ 3 → k < 4 ∨ 15 < k → k ≠ 16 → k ≠ 25 → k ≠ 28 → k ≠ 17 → k ≠ 21 → σ20.1 k = σ.1 k := fun k a1 a2 a3 a4 a5 a6 a7 => by
        rw [r20 k a3 a4 a5 a6 a7, m1 k (by omega) (by omega), rows10]
        exact f2.1 k a1 (by omega)
      have e206 : σ20.1 (σ20.2.2 0) 6 = nI (aP g2) := by rw [q20, q0]; exact hC20.2.1
      unfold wp_X1_persons
      rw [e206]
      refine hmod (fun τ1 f3 d3 _ => ?_) (fun τ1 f3 d3 z => absurd ho z)
      have a1 := hD.1
      refine ⟨fun ρ => (∀ k, k ≠ 1 → ρ.1 k = τ1.1 k) ∧ ∀ k, k < 82 → ρ.1 1 k = g2 k, fun ρ hρ => ?_, 83, ?_⟩
      · obtain ⟨w1, w2⟩ := hρ
        refine cM_begin hD.2.2.2.2.2.1 (fun k hk => by rw [w2 k hk]; exact a1 k hk) (fun τ6 b1 b2 b3 b4 b5 b6 b7 b8 b9 b10 => ⟨?_, g2, dR g2, ?_⟩)
        · rw [b1 1 (by decide) (by decide) (by decide), w2 1 (by omega), a1 1 (by omega)]
          rfl
        · refine RelG_new hD ho ?_ ?_ ?_ ?_ ?_ ?_ ?_ ?_ ⟨b7, b8, b9⟩ ⟨c17, c21, c25, c28⟩ ⟨b3, b4, b5, b6⟩ ?_ ?_
          · unfold okC
            rw [q20, q0, q1, q2, q3]
            exact ⟨hok.2.1, hok.1, hok.2.2.1, hok.2.2.2⟩
          · rw [q20, q0, q1]; exact Ne.symm h01
          · rw [q20, q2, q3]; exact h23
          · rw [q20, q0]; exact hC20
          · rw [q20, q0]; exact hD20
          · refine ⟨fun k hk => ?_, b10⟩
            rw [b1 1 (by decide) (by decide) (by decide), w2 k hk]; exact a1 k hk
          · rw [old 1 (by omega) (by omega) (by omega) (by omega) (by omega) (by omega) (by omega), old 2 (by omega) (by omega) (by omega) (by omega) (by omega) (by omega) (by omega), b2 3 (by decide) (by decide) (by decide) (by decide), b1 3 (by decide) (by decide) (by decide), w1 0 (by decide), w1 3 (by decide), f3.2.1 3 (by decide) (by decide) (by decide), f3.1 3 (by decide) (by decide)]
            exact hR.2.1
          · rw [c16]; exact ⟨rfl, rfl, rfl⟩
          · rw [old 32 (by omega) (by omega) (by omega) (by omega) (by omega) (by omega) (by omega), old 33 (by omega) (by omega) (by omega) (by omega) (by omega) (by omega) (by omega), s20, m2, l10, er2]
            exact hR.2.2.2.2.2.2.2.1
          · rw [old 35 (by omega) (by omega) (by omega) (by omega) (by omega) (by omega) (by omega), old 36 (by omega) (by omega) (by omega) (by omega) (by omega) (by omega) (by omega), s20, m2, l10, er2]
            exact hR.2.2.2.2.2.2.2.2
      · have cp : ∀ r i (ρ : Mm), i + r = 82 → (∀ k, k ≠ 1 → ρ.1 k = τ1.1 k) → (∀ k, 82 ≤ k → ρ.1 1 k = τ1.1 1 k) → (∀ k, k < i → ρ.1 1 k = g2 k) → wp_X11_lay_L129 (fun ρ => (∀ k, k ≠ 1 → ρ.1 k = τ1.1 k) ∧ ∀ k, k < 82 → ρ.1 1 k = g2 k) (r + 1) ρ (nI i) := by
          intro r
          induction r with
          | zero =>
            intro i ρ hi b1 b2 b3
            have e : i = 82 := by omega
            subst e
            exact br_t (by decide) ⟨b1, b3⟩
          | succ r ih =>
            intro i ρ hi b1 b2 b3
            have en : nI i + 1 = nI (i + 1) := nI_1 i
            have ei : (82 : Int32) + nI i = nI (82 + i) := nI_add 82 i
            unfold wp_X11_lay_L129
            rw [en, ei, nI_clamp (by omega), nI_clamp (by omega), b2 (82 + i) (by omega), d3.1 i (by omega)]
            refine br_f (nI_ge (a := i) (b := 82) (by omega) (by omega)) ⟨⟨nI_pos' (by omega), (nI_ltI (b := 164) (by omega) (by omega)).mpr (by omega)⟩, ⟨nI_pos' (by omega), (nI_ltI (b := 164) (by omega) (by omega)).mpr (by omega)⟩, fun σ9 e9 => ?_⟩
            subst e9
            refine ih (i + 1) _ (by omega) (fun k hk => by rw [kwi_ne _ _ _ hk]; exact b1 k hk) (fun k hk => by rw [kwi_same, pk_un (by omega)]; exact b2 k hk) (fun k hk => ?_)
            rw [kwi_same]
            by_cases q : k = i
            · rw [q]; exact upd_at _ _ _
            · rw [pk_un q]; exact b3 k (by omega)
        exact cp 82 0 τ1 (by omega) (fun _ _ => rfl) (fun _ _ => rfl) (fun k hk => absurd hk (Nat.not_lt_zero k))
    · exact hmod (fun τ1 f3 d3 z => absurd z ho) (fun τ1 f3 d3 z => ⟨rfl, g, d, RelG_D hR f2 f3⟩)
  · refine cM_findFault t2 (fun g3 hl3 e3 _ τ2 f3 _ => by rw [e] at e3; cases e3) (fun q3 g3 hl3 e3 hq3 τ2 f3 => ?_)
    refine ⟨fun v => v = 0, fun v ev => ⟨fun v => v = 0, fun v ev => ?_, 1, ?_⟩, True, fun _ => rfl, brn_t (nI_m4 (by have := t1.1; omega)) trivial⟩
    · rw [ev]
      exact brn_f rfl ⟨rfl, g, d, RelG_D hR f2 f3⟩
    · rw [ev]
      unfold wp_X11_lay_L44
      exact ⟨fun _ => rfl, fun _ => br_t rfl rfl⟩
