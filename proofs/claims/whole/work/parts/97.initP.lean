def wl_X10 : Nat → Nat → Mm → (Mm → Prop) → Prop
  | 0, _, σ, K => K σ
  | r + 1, i, σ, K => wp_X8_append σ (nI (T1 i)) (fun σ2 => wl_X10 r (i + 1) σ2 K)
def wt_X10 (σ : Mm) (Φ : Mm → Prop) : Prop := wl_X10 33 0 σ (fun σ1 => wp_X5_readInto σ1 (σ1.2.2 0) (fun _ σ2 => wp_X1_measure σ2 (σ2.2.2 0) (fun σ3 => wp_X8_clear σ3 (fun σ4 => wp_X3_begin σ4 (σ4.2.2 0) Φ))))
theorem T1_b : ∀ k, k < 33 → T1 k < 256 ∧ (vp_nar .byte ((nI (T1 k)).toInt8.toInt32) &&& 255) = nI (T1 k) := by decide +kernel
theorem T1_e {p : Nat} (h : 33 ≤ p) : T1 p = 256 := by
  unfold T1
  rw [List.getD_eq_getElem?_getD, List.getElem?_eq_none (by exact h)]
  rfl
theorem wl_ok {σ0 : Mm} {K : Mm → Prop} (hK : ∀ ρ : Mm, (∀ k, k ≠ 1 → k ≠ 2 → ρ.1 k = σ0.1 k) → ρ.2 = σ0.2 → ρ.1 1 1 = nI 33 → (∀ p, p < 33 → (ρ.1 2 p &&& 255) = nI (T1 p)) → K ρ) : ∀ r i (ρ : Mm), i + r = 33 → (∀ k, k ≠ 1 → k ≠ 2 → ρ.1 k = σ0.1 k) → ρ.2 = σ0.2 → ρ.1 1 1 = nI i → (∀ p, p < i → (ρ.1 2 p &&& 255) = nI (T1 p)) → wl_X10 r i ρ K := by
  intro r
  induction r with
  | zero =>
    intro i ρ hi a1 a2 a3 a4
    have e : i = 33 := by omega
    subst e
    exact hK ρ a1 a2 a3 a4
  | succ r ih =>
    intro i ρ hi a1 a2 a3 a4
    show wp_X8_append ρ (nI (T1 i)) (fun σ2 => wl_X10 r (i + 1) σ2 K)
    unfold wp_X8_append
    rw [a3, nI_clamp (by omega)]
    refine br_f (nI_ge (a := i) (b := 300) (by omega) (by omega)) ⟨⟨nI_pos' (by omega), (nI_ltI (b := 300) (by omega) (by omega)).mpr (by omega)⟩, fun σ2 e2 σ3 e3 => ?_⟩
    have e21 : σ2.1 1 1 = nI i := by rw [e2, kwi_ne _ _ _ (by decide)]; exact a3
    have en : nI i + 1 = nI (i + 1) := nI_1 i
    rw [e21, en] at e3
    subst e3 e2
    refine ih (i + 1) _ (by omega) (fun k q1 q2 => by rw [kwi_ne _ _ _ q1, kwi_ne _ _ _ q2]; exact a1 k q1 q2) a2 (by rw [kwi_same]; exact upd_at _ _ _) (fun p hp => ?_)
    rw [kwi_ne _ _ _ (by decide), kwi_same]
    by_cases e : p = i
    · rw [e, upd_at]; exact (T1_b i (by omega)).2
    · rw [pk_un e]; exact a4 p (by omega)
/-- what the component's constructor leaves -/
def CompR (σ : Mm) : Prop := σ.2.2 = kσC.2.2 ∧ FmC σ 4 gP ∧ FmD σ 4 gP (dR gP) ∧ σ.1 1 1 = 0 ∧ (σ.1 16 0 = 0 ∧ σ.1 16 1 = nI (aC gP) ∧ σ.1 16 2 = 0) ∧ (σ.1 17 3 = 0 ∧ σ.1 21 3 = 0 ∧ σ.1 25 2 = 0 ∧ σ.1 28 2 = 0) ∧ FrR (σ.1 32 2) (σ.1 33) (σ.2.1 34) ∧ FrR (σ.1 35 2) (σ.1 36) (σ.2.1 37)
theorem wt_C : wt_X10 kσC CompR := by
  refine wl_ok (σ0 := kσC) (fun ρ a1 a2 a3 a4 => ?_) 33 0 kσC (by omega) (fun _ _ _ => rfl) rfl rfl (fun p hp => absurd hp (Nat.not_lt_zero p))
  have q0 : ρ.2.2 0 = 4 := by rw [a2]; rfl
  have hT : TX (ρ.1 2) (ρ.1 1 1) 33 T1 := ⟨by omega, a3, fun p hp => ⟨(T1_b p hp).1, a4 p hp⟩, fun p hp => T1_e hp⟩
  rw [q0]
  have hD := gP_D
  refine cC_readInto (by omega) hT (fun g hl e hDg σ2 f2 d2 => ?_) (fun q g hl e _ σ2 f2 => ?_)
  · rw [gP_e] at e
    cases e
    have e22 : σ2.2 = kσC.2 := f2.2.trans a2
    have r2 : σ2.2.2 0 = 4 := by rw [e22]; rfl
    rw [r2]
    refine cC_measure (WFd_of hD) ((DC_iff _ _ _ _).mp d2).2.1 (fun σ3 m1 m2 m3 => ?_)
    intro σ4 e4
    have r4 : σ4.2.2 0 = 4 := by rw [e4]; show σ3.2.2 0 = 4; rw [m2]; exact r2
    rw [r4]
    have hC3 : FmC σ3 4 gP := by
      have := d2.1
      unfold FmC at *
      rw [m1 4 (by omega) (by omega), m1 (4 + 3) (by omega) (by omega), m1 (4 + 4) (by omega) (by omega), m1 (4 + 5) (by omega) (by omega)]
      exact this
    intro σ5 e5
    show wp_X10_packed (σ5.1 4 8) (-1) 0 _
    have e8 : σ5.1 4 8 = nI (aC gP) := by rw [e5, kwi_ne _ _ _ (by omega), e4, kwi_ne _ _ _ (by omega)]; exact hC3.2.2.2.1
    rw [e8]
    refine cC_packed0 ?_
    intro σ6 e6 σ7 e7
    have rk : ∀ k, k ≠ 1 → k ≠ 16 → σ7.1 k = σ3.1 k := fun k k1 k2 => by
      rw [e7, kwi_ne _ _ _ k2, e6, kwi_ne _ _ _ k2, e5, kwi_ne _ _ _ k2, e4, kwi_ne _ _ _ k1]
    have s7 : σ7.2 = kσC.2 := by rw [e7, e6, e5, e4]; show σ3.2 = _; rw [m2, e22]
    have old : ∀ k, k ≠ 1 → k ≠ 2 → k ≠ 3 → k ≠ 16 → k < 4 ∨ 9 < k → σ7.1 k = fun _ => 0 := fun k k1 k2 k3 k16 kb => by
      rw [rk k k1 k16, m1 k (by omega) (by omega), f2.1 k k3 (by omega), a1 k k1 k2]
      rfl
    have hfr : ∀ q, q = 34 ∨ q = 37 → FrR 0 (fun _ => 0) (σ7.2.1 q) := fun q hq => by
      refine ⟨0, by omega, rfl, fun i hi => absurd hi (Nat.not_lt_zero i), fun s hs hne => ?_⟩
      exfalso
      apply hne
      rw [s7]
      rcases hq with rfl | rfl
      · show (if s < 960 then (-1 : Int64) else 0) = -1
        rw [if_pos hs]
      · show (if s < 960 then (-1 : Int64) else 0) = -1
        rw [if_pos hs]
    refine ⟨by rw [s7], hC3.of (fun k _ _ => rk k (by omega) (by omega)), m3.of (fun k _ _ => rk k (by omega) (by omega)), ?_, ?_, ?_, ?_, ?_⟩
    · rw [e7, kwi_ne _ _ _ (by decide), e6, kwi_ne _ _ _ (by decide), e5, kwi_ne _ _ _ (by decide), e4, kwi_same]
      exact upd_at _ _ _
    · have : σ7.1 16 = upd (upd (upd (σ4.1 16) 0 0) 1 (nI (aC gP))) 2 0 := by rw [e7, kwi_same, e6, kwi_same, e5, kwi_same]
      rw [this]; exact ⟨rfl, rfl, rfl⟩
    · rw [old 17 (by omega) (by omega) (by omega) (by omega) (by omega), old 21 (by omega) (by omega) (by omega) (by omega) (by omega), old 25 (by omega) (by omega) (by omega) (by omega) (by omega), old 28 (by omega) (by omega) (by omega) (by omega) (by omega)]
      exact ⟨rfl, rfl, rfl, rfl⟩
    · rw [old 32 (by omega) (by omega) (by omega) (by omega) (by omega), old 33 (by omega) (by omega) (by omega) (by omega) (by omega)]
      exact hfr 34 (Or.inl rfl)
    · rw [old 35 (by omega) (by omega) (by omega) (by omega) (by omega), old 36 (by omega) (by omega) (by omega) (by omega) (by omega)]
      exact hfr 37 (Or.inr rfl)
  · rw [gP_e] at e
    cases e
theorem Rel_first {σ τ : Mm} (h1 : CompR σ) (h2 : ModR τ) : Rel σ τ := by
  obtain ⟨c0, c1, c2, c3, c4, c5, c6, c7⟩ := h1
  obtain ⟨d1, d2, d3, d4⟩ := h2
  have r0 : σ.2.2 0 = 4 := by rw [c0]; rfl
  have r1 : σ.2.2 1 = 10 := by rw [c0]; rfl
  have r2 : σ.2.2 2 = 32 := by rw [c0]; rfl
  have r3 : σ.2.2 3 = 35 := by rw [c0]; rfl
  refine ⟨gP, dR gP, RelG_new gP_D gP_ok ?_ ?_ ?_ ?_ ?_ d1 ⟨0, by omega, c3, d2, fun j hj => absurd hj (Nat.not_lt_zero j)⟩ c4 d3 c5 d4 c6 c7⟩
  · unfold okC
    rw [r0, r1, r2, r3]
    exact ⟨Or.inl rfl, Or.inr rfl, Or.inl rfl, Or.inr rfl⟩
  · rw [r0, r1]; decide
  · rw [r2, r3]; decide
  · rw [r0]; exact c1
  · rw [r0]; exact c2
