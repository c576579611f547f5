theorem itm_ok {r : Nat → Int32} {c : Int32} {L : Nat} {T : Nat → Nat} (h : TX r c L T) {g : Nat → Int32} {hl : Bool} (hD : Drf g hl) {p p2 : Nat} {g2 : Nat → Int32} {hl2 : Bool} (e : itm T g hl p = some (p2, g2, hl2)) : Drf g2 hl2 ∧ p < p2 ∧ p2 ≤ L := by
  have hin : ∀ q, T q = 59 → q < L := fun q hq => h.in (by omega)
  by_cases c1 : T p = 108
  · rw [itm_l c1] at e
    by_cases c2 : nq T (p + 1) ≠ 0 ∧ T (p + 1 + nq T (p + 1)) = 44 ∧ nq T (p + 2 + nq T (p + 1)) ≠ 0 ∧ T (p + 2 + nq T (p + 1) + nq T (p + 2 + nq T (p + 1))) = 59 ∧ (nv T (p + 1) < aN g ∧ nv T (p + 2 + nq T (p + 1)) < aN g ∧ nv T (p + 1) ≠ nv T (p + 2 + nq T (p + 1)))
    · rw [if_pos c2] at e
      have e' := Option.some.inj e
      have := hin _ c2.2.2.2.1
      cases e'
      exact ⟨Drf_l hD c2.2.2.2.2.1 c2.2.2.2.2.2.1 c2.2.2.2.2.2.2, by omega, by omega⟩
    · rw [if_neg c2] at e; cases e
  · by_cases c2 : T p = 119
    · rw [itm_w c2] at e
      by_cases c3 : 1 ≤ aP g ∧ 0 < wn T 12 (p + 1) ∧ T (p + 1 + wn T 12 (p + 1)) = 59
      · rw [if_pos c3] at e
        have e' := Option.some.inj e
        have := hin _ c3.2.2
        cases e'
        exact ⟨Drf_w hD c3.1 c3.2.1 (wn_le _ _ _) (fun j hj => (wn_in T 12 (p + 1) j hj).2), by omega, by omega⟩
      · rw [if_neg c3] at e; cases e
    · rw [itm_n c1 c2] at e
      by_cases c3 : nq T (p + 1) ≠ 0 ∧ T (p + 1 + nq T (p + 1)) = 59
      · rw [if_pos c3] at e
        have := hin _ c3.2
        by_cases k1 : T p = 121
        · rw [if_pos k1] at e
          by_cases k : (2 ≤ nv T (p + 1) ∧ nv T (p + 1) ≤ 8) ∧ hl = false
          · rw [if_pos k] at e
            have e' := Option.some.inj e
            obtain ⟨ka, kb⟩ := k
            subst kb
            cases e'
            exact ⟨Drf_y hD ka.1 ka.2, by omega, by omega⟩
          · rw [if_neg k] at e; cases e
        · rw [if_neg k1] at e
          by_cases k2 : T p = 112
          · rw [if_pos k2] at e
            by_cases k : aP g < 5
            · rw [if_pos k] at e
              have e' := Option.some.inj e
              cases e'
              exact ⟨Drf_p hD k (nv_le _ _), by omega, by omega⟩
            · rw [if_neg k] at e; cases e
          · rw [if_neg k2] at e
            by_cases k3 : T p = 102
            · rw [if_pos k3] at e
              by_cases k : nv T (p + 1) ≤ 20
              · rw [if_pos k] at e
                have e' := Option.some.inj e
                cases e'
                exact ⟨Drf_f hD k, by omega, by omega⟩
              · rw [if_neg k] at e; cases e
            · rw [if_neg k3] at e
              by_cases k4 : T p = 99
              · rw [if_pos k4] at e
                by_cases k : nv T (p + 1) ≤ 7
                · rw [if_pos k] at e
                  have e' := Option.some.inj e
                  cases e'
                  exact ⟨Drf_c hD k, by omega, by omega⟩
                · rw [if_neg k] at e; cases e
              · rw [if_neg k4] at e; cases e
      · rw [if_neg c3] at e; cases e
/-- the whole text: where its fault is, or none, and the farm -/
def prs (T : Nat → Nat) (L : Nat) : Nat → (Nat → Int32) → Bool → Nat → Option Nat × (Nat → Int32) × Bool
  | 0, g, hl, _ => (none, g, hl)
  | r + 1, g, hl, p => if L ≤ p then (none, g, hl) else match itm T g hl p with
    | none => (some p, g, hl)
    | some x => prs T L r x.2.1 x.2.2 x.1
theorem prs_end {T : Nat → Nat} {L r p : Nat} {g : Nat → Int32} {hl : Bool} (h : L ≤ p) : prs T L (r + 1) g hl p = (none, g, hl) := if_pos h
theorem prs_no {T : Nat → Nat} {L r p : Nat} {g : Nat → Int32} {hl : Bool} (h : ¬ L ≤ p) (e : itm T g hl p = none) : prs T L (r + 1) g hl p = (some p, g, hl) := by
  show (if L ≤ p then _ else _) = _
  rw [if_neg h, e]
theorem prs_go {T : Nat → Nat} {L r p p2 : Nat} {g g2 : Nat → Int32} {hl hl2 : Bool} (h : ¬ L ≤ p) (e : itm T g hl p = some (p2, g2, hl2)) : prs T L (r + 1) g hl p = prs T L r g2 hl2 p2 := by
  show (if L ≤ p then _ else _) = _
  rw [if_neg h, e]
def g0 : Nat → Int32 := upd (fun _ => 0) 0 4
theorem g0_v : gN g0 0 = 4 ∧ ∀ k, k ≠ 0 → gN g0 k = 0 := by
  refine ⟨by decide, fun k hk => ?_⟩
  unfold g0
  rw [gN_ne hk]
  rfl
theorem Drf_0 : Drf g0 false := by
  obtain ⟨v0, v⟩ := g0_v
  have hl : ∀ a b, aLane g0 a b = false := fun a b => by
    unfold aLane
    rw [v _ (by omega)]
    exact Nat.zero_testBit b
  have hP : aP g0 = 0 := v 1 (by omega)
  have hN : aN g0 = 4 := v0
  refine ⟨fun k hk => ?_, by rw [hN]; omega, by rw [hP]; omega, ?_, ?_, fun a ha => ?_, fun a b ha hb q => ?_, fun i hi => ?_, fun i hi => ?_, fun i k hi => ?_, fun _ a b _ _ => hl a b⟩
  · by_cases e : k = 0
    · subst e; rw [v0]; rfl
    · rw [v k e]
      unfold g0
      exact pk_un e
  · show gN g0 2 ≤ 20; rw [v 2 (by omega)]; omega
  · show gN g0 3 < 8; rw [v 3 (by omega)]; omega
  · rw [v _ (by omega)]; omega
  · rw [hl] at q; cases q
  · rw [hP] at hi; omega
  · rw [hP] at hi; omega
  · rw [hP] at hi; omega
theorem cC_fclear {σ : Mm} {b : Nat} {Φ : Mm → Prop} (hΦ : ∀ σ2, FrB b σ σ2 → DC σ2 b g0 false → Φ σ2) : wp_X1_clear σ b Φ := by
  obtain ⟨v0, v⟩ := g0_v
  have hl : ∀ a b, aLane g0 a b = false := fun a b => by
    unfold aLane
    rw [v _ (by omega)]
    exact Nat.zero_testBit b
  intro σ1 e1 σ2 e2 σ3 e3 σ4 e4 σ5 e5 σ6 e6
  have F5 : FrB b σ σ5 := by
    rw [e5, e4, e3, e2, e1]
    exact (FrB.kw _ (by omega) (by omega) _ _).trans ((FrB.kw _ (by omega) (by omega) _ _).trans ((FrB.kw _ (by omega) (by omega) _ _).trans ((FrB.kw _ (by omega) (by omega) _ _).trans (FrB.kw _ (by omega) (by omega) _ _))))
  have r5 : σ5.1 b = upd (upd (upd (upd (upd (σ.1 b) 5 4) 6 0) 7 0) 8 0) 9 0 := by
    rw [e5, kwi_same, e4, kwi_same, e3, kwi_same, e2, kwi_same, e1, kwi_same]
  have F6 : FrB b σ σ6 := F5.trans ⟨fun k hk => by rw [e6]; unfold kfillI; exact if_neg (by omega), by rw [e6]; rfl⟩
  have r6 : ∀ k, k ≠ b + 1 → σ6.1 k = σ5.1 k := fun k hk => by rw [e6]; unfold kfillI; exact if_neg hk
  have d6 : ∀ j, j < 64 → σ6.1 (b + 1) j = 99 := fun j hj => by
    rw [e6]
    unfold kfillI
    dsimp only
    rw [if_pos rfl, if_pos hj]
  have key : ∀ r i (ρ : Mm), i + r = 8 → FrB b σ ρ → ρ.1 b = σ5.1 b → (∀ a c, a < 8 → c < 8 → ρ.1 (b + 1) (8 * a + c) = nI (if a = c ∧ a < i then 0 else 99)) → wp_X1_clear_L36 b Φ (r + 1) ρ (nI i) := by
    intro r
    induction r with
    | zero =>
      intro i ρ hi a1 a2 a3
      have e : i = 8 := by omega
      subst e
      refine br_t (by decide) (hΦ ρ a1 ((DC_iff _ _ _ _).mpr ⟨?_, fun a c ha hc => ?_, ?_⟩))
      · rw [a2, r5]
        have hP : aP g0 = 0 := v 1 (by omega)
        refine ⟨?_, ?_, ?_, ?_, fun i hi => by omega, fun i hi => by omega⟩
        · have : aN g0 = 4 := v0
          rw [this]; rfl
        · rw [hP]; rfl
        · have : aF g0 = 0 := v 2 (by omega)
          rw [this]; rfl
        · have : aC g0 = 0 := v 3 (by omega)
          rw [this]; rfl
      · rw [a3 a c ha hc, hl]
        by_cases q : a = c
        · rw [if_pos ⟨q, ha⟩, if_pos q]
        · rw [if_neg (fun z => q z.1), if_neg q]; rfl
      · rw [a2, r5]; rfl
    | succ r ih =>
      intro i ρ hi a1 a2 a3
      have en : nI i + 1 = nI (i + 1) := nI_1 i
      have ei : nI i * 8 + nI i = nI (8 * i + i) := by
        have : nI i * 8 = nI (i * 8) := pk_mul i 8
        rw [this, nI_add, Nat.mul_comm]
      unfold wp_X1_clear_L36
      rw [en, ei, nI_clamp (by omega)]
      refine br_f (nI_ge (a := i) (b := 8) (by omega) (by omega)) ⟨⟨nI_pos' (by omega), (nI_ltI (b := 64) (by omega) (by omega)).mpr (by omega)⟩, fun σ9 e9 => ?_⟩
      subst e9
      refine ih (i + 1) _ (by omega) (a1.trans (FrB.kw _ (by omega) (by omega) _ _)) (by rw [kwi_ne _ _ _ (by omega)]; exact a2) (fun a c ha hc => ?_)
      rw [kwi_same]
      by_cases q : a = i ∧ c = i
      · obtain ⟨q1, q2⟩ := q
        subst q1 q2
        rw [upd_at, if_pos ⟨rfl, by omega⟩]; rfl
      · rw [pk_un (by omega), a3 a c ha hc]
        congr 1
        by_cases q3 : a = c ∧ a < i
        · rw [if_pos q3, if_pos ⟨q3.1, by omega⟩]
        · rw [if_neg q3, if_neg (by omega)]
  refine ⟨9, key 8 0 σ6 (by omega) F6 (r6 b (by omega)) (fun a c ha hc => ?_)⟩
  rw [d6 _ (by omega), if_neg (by omega)]; rfl
theorem DC.frD3 {b : Nat} (hb : 4 ≤ b) {σ : Mm} {g : Nat → Int32} {hl : Bool} (h : DC σ b g hl) (v : Int32) : DC (kwi σ 3 1 v) b g hl := h.fr3 hb (FrD3.kw _ _)
theorem cC_readInto {σ : Mm} {b L : Nat} {T : Nat → Nat} (hb : 4 ≤ b) (h : TX (σ.1 2) (σ.1 1 1) L T) {Φ : Int32 → Mm → Prop}
    (h1 : ∀ g hl, prs T L (L + 1) g0 false 0 = (none, g, hl) → Drf g hl → ∀ σ2, FrD b σ σ2 → DC σ2 b g hl → Φ (-4) σ2)
    (h0 : ∀ q g hl, prs T L (L + 1) g0 false 0 = (some q, g, hl) → q < L → ∀ σ2, FrD b σ σ2 → Φ (nI q) σ2) : wp_X5_readInto σ b Φ := by
  have hL := h.1
  refine cC_fclear (fun σ1 f1 d1 σ2 e2 => ?_)
  have F2 : FrD b σ σ2 := f1.toD.trans (by rw [e2]; exact (FrD3.kw _ _).toD)
  have D2 : DC σ2 b g0 false := by rw [e2]; exact d1.frD3 hb _
  have P2 : σ2.1 3 1 = nI 0 := by rw [e2, kwi_same]; exact upd_at _ _ _
  have key : ∀ r i p (ρ : Mm) g hl, L - p < r → i ≤ p → p ≤ L → FrD b σ ρ → ρ.1 3 1 = nI p → DC ρ b g hl → Drf g hl → prs T L r g hl p = prs T L (L + 1) g0 false 0 → wp_X5_readInto_L11 b Φ r ρ (nI i) := by
    intro r
    induction r with
    | zero => intro i p ρ g hl q; omega
    | succ r ih =>
      intro i p ρ g hl q1 q2 q3 a1 a2 a3 a4 a5
      have hT := h.frD hb a1
      have en : nI i + 1 = nI (i + 1) := nI_1 i
      have ends : L ≤ p → Φ (-4) ρ := fun c => h1 g hl (by rw [← a5]; exact prs_end c) a4 ρ a1 a3
      unfold wp_X5_readInto_L11 wp_X8_length
      have e300 : 300 ≤ nI i ↔ 300 ≤ i := nI_leI (a := 300) (by omega) (by omega)
      have eL : nI L ≤ nI p ↔ L ≤ p := nI_leI (by omega) (by omega)
      dsimp only
      rw [e300, hT.2.1, a2, eL, en]
      refine ⟨fun c => ends (by omega), fun c => ⟨ends, fun c2 x3 ex3 => ?_⟩⟩
      rw [ex3]
      refine cC_readItem hb hT (by omega) a2 a3 a4 (fun p2 g2 hl2 e σ3 f3 b2 b3 => brn_t (by decide) ?_) (fun e σ3 f3 => brn_f rfl ?_)
      · obtain ⟨o1, o2, o3⟩ := itm_ok h a4 e
        exact ih (i + 1) p2 σ3 g2 hl2 (by omega) (by omega) o3 (a1.trans f3) b2 b3 o1 (by rw [← a5]; exact (prs_go c2 e).symm)
      · exact h0 p g hl (by rw [← a5]; exact prs_no c2 e) (by omega) σ3 (a1.trans f3)
  exact ⟨L + 1, key (L + 1) 0 0 σ2 g0 false (by omega) (Nat.le_refl _) (by omega) F2 P2 D2 Drf_0 rfl⟩
theorem cM_findFault {τ : Mm} {L : Nat} {T : Nat → Nat} (h : TX (τ.1 3) (τ.1 0 3) L T) {Φ : Int32 → Mm → Prop}
    (h1 : ∀ g hl, prs T L (L + 1) g0 false 0 = (none, g, hl) → Drf g hl → ∀ τ2, FrM τ τ2 → DM τ2 g hl → Φ (-4) τ2)
    (h0 : ∀ q g hl, prs T L (L + 1) g0 false 0 = (some q, g, hl) → q < L → ∀ τ2, FrM τ τ2 → Φ (nI q) τ2) : wp_X11_findFault τ Φ := by
  have hL := h.1
  intro σ1 e1 σ2 e2 σ3 e3
  have F3 : FrM τ σ3 := by
    rw [e3, e2, e1]
    exact (FrM4.k4 _ _).toM.trans ((FrM4.k5 _ _).toM.trans (FrM.k6 _ _))
  have P3 : PM σ3 0 false := by
    refine ⟨?_, ?_⟩
    · rw [e3, kwi_same, pk_un (by decide), e2, kwi_same, pk_un (by decide), e1, kwi_same]; exact upd_at _ _ _
    · rw [e3, kwi_same, pk_un (by decide), e2, kwi_same]; exact upd_at _ _ _
  have l3 : σ3.1 0 6 = wI false := by rw [e3, kwi_same]; exact upd_at _ _ _
  refine ⟨fun ρ => FrM τ ρ ∧ PM ρ 0 false ∧ ρ.1 0 6 = wI false ∧ ∀ k, k < 82 → ρ.1 1 (82 + k) = 0, fun ρ hρ σ5 e5 => ?_, 83, ?_⟩
  · obtain ⟨a1, a2, a3, a4⟩ := hρ
    have F5 : FrM τ σ5 := a1.trans (by rw [e5]; exact FrM.k1 _ (by omega) _)
    have P5 : PM σ5 0 false := by rw [e5]; exact a2.k1
    have M5 : DM σ5 g0 false := by
      rw [e5]
      have : DM ρ (fun _ => 0) false := ⟨fun k hk => a4 k hk, a3⟩
      exact this.k1 0 4
    have key : ∀ r p (ρ : Mm) g hl, L - p < r → p ≤ L → FrM τ ρ → PM ρ p false → DM ρ g hl → Drf g hl → prs T L r g hl p = prs T L (L + 1) g0 false 0 → wp_X11_findFault_L47 Φ r ρ := by
      intro r
      induction r with
      | zero => intro p ρ g hl q; omega
      | succ r ih =>
        intro p ρ g hl q1 q3 b1 b2 b3 b4 b5
        have hT := h.frM b1
        have eL : nI L ≤ nI p ↔ L ≤ p := nI_leI (by omega) (by omega)
        unfold wp_X11_findFault_L47
        rw [hT.2.1, b2.1, eL]
        refine ⟨fun c => h1 g hl (by rw [← b5]; exact prs_end c) b4 ρ b1 b3, fun c x1 ex1 => ?_⟩
        rw [ex1]
        refine cM_readItem hT (by omega) b2 b3 b4 (fun p2 g2 hl2 e σ3 f3 c2 c3 => br_t ?_ ?_) (fun e σ3 f3 c5 => br_f ?_ ?_)
        · rw [c2.2]; rfl
        · obtain ⟨o1, o2, o3⟩ := itm_ok h b4 e
          exact ih p2 σ3 g2 hl2 (by omega) o3 (b1.trans f3) c2 c3 o1 (by rw [← b5]; exact (prs_go c e).symm)
        · rw [c5]; decide
        · exact h0 p g hl (by rw [← b5]; exact prs_no c e) (by omega) σ3 (b1.trans f3)
    exact ⟨L + 1, key (L + 1) 0 σ5 g0 false (by omega) (by omega) F5 P5 M5 Drf_0 rfl⟩
  · have key : ∀ r i (ρ : Mm), i + r = 82 → FrM τ ρ → PM ρ 0 false → ρ.1 0 6 = wI false → (∀ k, k < i → ρ.1 1 (82 + k) = 0) → wp_X11_findFault_L17 (fun ρ => FrM τ ρ ∧ PM ρ 0 false ∧ ρ.1 0 6 = wI false ∧ ∀ k, k < 82 → ρ.1 1 (82 + k) = 0) (r + 1) ρ (nI i) := by
      intro r
      induction r with
      | zero =>
        intro i ρ hi a1 a2 a3 a4
        have e : i = 82 := by omega
        subst e
        exact br_t (by decide) ⟨a1, a2, a3, a4⟩
      | succ r ih =>
        intro i ρ hi a1 a2 a3 a4
        have en : nI i + 1 = nI (i + 1) := nI_1 i
        have ei : (82 : Int32) + nI i = nI (82 + i) := nI_add 82 i
        unfold wp_X11_findFault_L17
        rw [en, ei, nI_clamp (by omega)]
        refine br_f (nI_ge (a := i) (b := 82) (by omega) (by omega)) ⟨⟨nI_pos' (by omega), (nI_ltI (b := 164) (by omega) (by omega)).mpr (by omega)⟩, fun σ9 e9 => ?_⟩
        subst e9
        refine ih (i + 1) _ (by omega) (a1.trans (FrM.k1 _ (by omega) _)) a2.k1 (by rw [kwi_ne _ _ _ (by decide)]; exact a3) (fun k hk => ?_)
        rw [kwi_same]
        by_cases q : k = i
        · rw [q]; exact upd_at _ _ _
        · rw [pk_un (by omega)]; exact a4 k (by omega)
    exact key 82 0 σ3 (by omega) F3 P3 l3 (fun k hk => absurd hk (Nat.not_lt_zero k))
/-- the relation when nothing but the readers and the drafts have changed -/
theorem RelG_D {g d : Nat → Int32} {σ σ2 τ τ2 : Mm} (h : RelG g d σ τ) (e : FrD (σ.2.2 1) σ σ2) (f : FrM τ τ2) : RelG g d σ2 τ2 := by
  obtain ⟨⟨a1, a2, a3, a4, a5, a6, a7, a8⟩, hT, hN, hD, hK, hG, hS, hf1, hf2⟩ := h
  obtain ⟨e1, er⟩ := e
  have hb0 : σ.2.2 0 = 4 ∨ σ.2.2 0 = 10 := a3.1
  have hb1 : σ.2.2 1 = 4 ∨ σ.2.2 1 = 10 := a3.2.1
  refine ⟨⟨a1, a2, by rw [er]; exact a3, by rw [er]; exact a4, by rw [er]; exact a5, ?_, ?_, ?_⟩, ?_, ?_, ?_, ?_, ?_, ?_, ?_, ?_⟩
  · rw [er]; exact a6.of (fun k _ _ => e1 k (by omega) (by omega))
  · rw [er]; exact a7.of (fun k _ _ => e1 k (by omega) (by omega))
  · refine ⟨fun k hk => ?_, fun k hk => ?_⟩
    · rw [f.2.2 k hk]; exact a8.1 k hk
    · rw [f.1 2 (by omega) (by omega)]; exact a8.2 k hk
  · rw [e1 1 (by omega) (by omega), e1 2 (by omega) (by omega), f.2.1 3 (by omega) (by omega) (by omega), f.1 3 (by omega) (by omega)]; exact hT
  · rw [e1 16 (by omega) (by omega), f.1 4 (by omega) (by omega)]; exact hN
  · rw [e1 17 (by omega) (by omega), e1 18 (by omega) (by omega), e1 19 (by omega) (by omega), e1 20 (by omega) (by omega), f.2.1 9 (by omega) (by omega) (by omega), f.1 5 (by omega) (by omega)]; exact hD
  · rw [e1 21 (by omega) (by omega), e1 22 (by omega) (by omega), e1 23 (by omega) (by omega), e1 24 (by omega) (by omega), f.2.1 11 (by omega) (by omega) (by omega), f.1 6 (by omega) (by omega)]; exact hK
  · rw [e1 25 (by omega) (by omega), e1 26 (by omega) (by omega), e1 27 (by omega) (by omega), f.2.1 14 (by omega) (by omega) (by omega), f.1 7 (by omega) (by omega), f.1 8 (by omega) (by omega)]; exact hG
  · rw [e1 28 (by omega) (by omega), e1 29 (by omega) (by omega), e1 30 (by omega) (by omega), f.2.1 21 (by omega) (by omega) (by omega), f.1 13 (by omega) (by omega), f.1 14 (by omega) (by omega)]; exact hS
  · rw [e1 32 (by omega) (by omega), e1 33 (by omega) (by omega), er]; exact hf1
  · rw [e1 35 (by omega) (by omega), e1 36 (by omega) (by omega), er]; exact hf2
theorem op_fault {σ τ : Mm} (h : Rel σ τ) : wp_X10_fault σ (fun r σ2 => wp_X11_fault τ (fun r2 τ2 => r = r2 ∧ Rel σ2 τ2)) := by
  obtain ⟨g, d, hR⟩ := h
  obtain ⟨L, T, t1, t2⟩ := TX_ex hR.2.1
  have hb : 4 ≤ σ.2.2 1 := by rcases hR.1.2.2.1.2.1 with q | q <;> omega
  refine cC_readInto hb t1 (fun g2 hl2 e hD σ2 f2 d2 => ?_) (fun q g2 hl2 e hq σ2 f2 => ?_)
  · exact cM_findFault t2 (fun g3 hl3 e3 _ τ2 f3 _ => ⟨rfl, g, d, RelG_D hR f2 f3⟩) (fun q g3 hl3 e3 _ τ2 f3 => by rw [e] at e3; cases e3)
  · refine cM_findFault t2 (fun g3 hl3 e3 _ τ2 f3 _ => by rw [e] at e3; cases e3) (fun q3 g3 hl3 e3 _ τ2 f3 => ⟨?_, g, d, RelG_D hR f2 f3⟩)
    rw [e] at e3
    cases e3
    rfl
