theorem cM_mono_far {τ : Mm} {x y : Int32} {Φ Ψ : Int32 → Prop} (h : wp_X11_far τ x y Φ) (k : ∀ r, Φ r → Ψ r) : wp_X11_far τ x y Ψ := by
  unfold wp_X11_far wp_X11_isYard wp_X11_in at *
  grind
theorem op_wipe {σ τ : Mm} (h : Rel σ τ) : wp_X10_wipe σ (fun r σ2 => wp_X11_wipe τ (fun r2 τ2 => r = r2 ∧ Rel σ2 τ2)) := by
  obtain ⟨g, d, hF, ⟨L, hL, t1, t2, t3⟩, hN, hD, hK, hG, hS, hf1, hf2⟩ := h
  intro σ2 e2 x1 e1 τ2 e3
  subst e1 e2 e3
  exact ⟨t1.trans t2.symm, g, d, FP_kwiM (FP_kwi hF (by omega)) (by decide), ⟨0, by omega, rfl, rfl, fun j hj => by omega⟩, hN, hD, hK, hG, hS, hf1, hf2⟩
theorem op_far {σ τ : Mm} (h : Rel σ τ) (x y : Int32) : wp_X10_far σ x y (fun r => wp_X11_far τ x y (fun r2 => r = r2)) := by
  obtain ⟨g, d, ⟨hg, hd, -, -, -, hC, hCD, hM⟩, -⟩ := h
  have hN := hg.N
  by_cases hx : yIn (aN g) x
  · by_cases hy : yIn (aN g) y
    · refine cC_hasYard hg hC (fun _ => br_f (by decide) (cC_hasYard hg hC (fun _ => brn_t (by decide) ?_) (fun q => absurd hy q))) (fun q => absurd hx q)
      obtain ⟨a, ha, rfl⟩ := id hx
      obtain ⟨b, hb, rfl⟩ := id hy
      have e := (hCD a b (by omega) (by omega)).1
      rw [Nat.mul_comm] at e
      have e2 := hM.2 (8 * a + b) (by omega)
      have e3 : gN d (8 * a + b) = aD d a b := rfl
      have hdq := hd.2.2.1 a b (by omega) (by omega)
      simp (disch := omega) only [wp_X1_distance, kI, nI_ltI, nI_leI, nI_eq, nI_clamp, krem, pk_div, pk_mul, nI_add, forall_eq, e]
      refine br_f (by omega) (br_f (by omega) (br_f (by omega) (br_t (by omega) ⟨by omega, ?_⟩)))
      have key : wp_X11_far τ (nI a) (nI b) (fun r2 => r2 = if aD d a b < 8 then nI (aD d a b) else -4) := by
        refine cM_isYard hg hM (fun _ => br_f (by decide) (cM_isYard hg hM (fun _ => brn_t (by decide) ?_) (fun q => absurd hy q))) (fun q => absurd hx q)
        simp (disch := omega) only [kI, nI_ltI, nI_leI, nI_eq, nI_clamp, krem, pk_div, pk_mul, nI_add, forall_eq, e2, e3]
        refine ⟨by omega, fun c => ⟨by omega, ?_⟩, fun c => ?_⟩
        · rw [if_pos (by omega)]
        · rw [if_neg (by omega)]
      by_cases h8 : aD d a b < 8
      · rw [if_pos h8] at key ⊢
        simp (disch := omega) only [nI_eq]
        refine brn_t (by omega) ?_
        exact cM_mono_far key (fun r q => q.symm)
      · rw [if_neg h8] at key ⊢
        refine brn_f rfl ?_
        exact cM_mono_far key (fun r q => q.symm)
    · refine cC_hasYard hg hC (fun _ => br_f (by decide) (cC_hasYard hg hC (fun q => absurd q hy) (fun _ => brn_f rfl ?_))) (fun q => absurd hx q)
      exact cM_isYard hg hM (fun _ => br_f (by decide) (cM_isYard hg hM (fun q => absurd q hy) (fun _ => brn_f rfl rfl))) (fun q => absurd hx q)
  · refine cC_hasYard hg hC (fun q => absurd q hx) (fun _ => br_t rfl ?_)
    exact cM_isYard hg hM (fun q => absurd q hx) (fun _ => br_t rfl rfl)
theorem op_person {σ τ : Mm} (h : Rel σ τ) (x y : Int32) : wp_X10_person σ x y (fun r => wp_X11_person τ x y (fun r2 => r = r2)) := by
  obtain ⟨g, d, ⟨hg, hd, -, -, -, hC, hCD, hM⟩, -⟩ := h
  have hN := hg.N
  have hP := hg.P
  by_cases hx : yIn (aP g) x
  · refine cC_hasPerson hg hC (fun _ => br_f (by decide) ?_) (fun q => absurd hx q)
    obtain ⟨i, hi, rfl⟩ := id hx
    have hm : ∀ {Φ : Int32 → Prop}, (y < -1 → Φ (-1)) → (¬ y ≤ 9999 → Φ (-1)) → (y = -1 → Φ (nI (aCost g i))) → (∀ t, t ≤ 9999 → y = nI t → Φ (nI (aPlc g i t))) → wp_X11_person τ (nI i) y Φ := by
      intro Φ h1 h2 h3 h4
      refine cM_isPerson hg hM (fun _ => br_f (by decide) ?_) (fun q => absurd hx q)
      refine ⟨fun c => brn_f rfl (h1 c), fun c => ⟨fun c2 => brn_f rfl (h2 ?_), fun c2 => brn_t (by decide) ⟨fun c3 => ?_, fun c3 => ?_⟩⟩⟩
      · intro q; exact absurd q (Int32.not_le.mpr c2)
      · have a1 : ¬ y < 0 := m1_le c c3
        obtain ⟨t, ht, rfl⟩ := nI_of2 (M := 9999) (n := 9999) (by decide) a1 (Int32.not_lt.mp c2)
        exact cM_placeOf hg hM hi (by omega) (h4 t ht rfl)
      · have e := hM.1 (12 + i) (by omega)
        have e2 : gN g (12 + i) = aCost g i := rfl
        simp (disch := omega) only [kI, nI_ltI, nI_leI, nI_eq, nI_clamp, krem, pk_div, pk_mul, nI_add, forall_eq, e, e2]
        exact ⟨by omega, h3 c3⟩
    refine ⟨fun c => ?_, fun c => ⟨fun c2 => ⟨fun c3 => ?_, fun c3 => ?_⟩, fun c2 => ?_⟩⟩
    · exact hm (fun _ => rfl) (fun _ => rfl) (fun q => absurd c (by rw [q]; decide)) (fun t ht q => absurd (q ▸ c) (nI_m1 (by omega)).2)
    · have a1 : ¬ y < 0 := m1_le c c3
      obtain ⟨t, ht, rfl⟩ := nI_of2 (M := 9999) (n := 9999) (by decide) a1 c2
      refine cC_yardAt hg hC hi (by omega) ?_
      refine hm (fun q => absurd q c) (fun q => absurd c2 q) (fun q => absurd q c3) (fun t2 ht2 q => ?_)
      rw [(nI_eq (by omega) (by omega)).mp q]
    · subst c3
      have e := hC.2.2.2.2.1 i hi
      have e1 := hC.2.1
      simp (disch := omega) only [wp_X1_cost, kI, nI_ltI, nI_leI, nI_eq, nI_clamp, krem, pk_div, pk_mul, nI_add, forall_eq, e, e1]
      refine br_f (by omega) (br_f (by omega) ⟨by omega, ?_⟩)
      refine hm (fun q => absurd q (by decide)) (fun q => absurd (by decide) q) (fun _ => rfl) (fun t ht q => absurd q.symm (nI_m1 (by omega)).1)
    · refine hm (fun _ => rfl) (fun _ => rfl) (fun q => absurd (by rw [q]; decide) c2) (fun t ht q => absurd ?_ c2)
      rw [q]
      exact (nI_leI (a := t) (b := 9999) (by omega) (by omega)).mpr ht
  · refine cC_hasPerson hg hC (fun q => absurd q hx) (fun _ => br_t rfl ?_)
    exact cM_isPerson hg hM (fun q => absurd q hx) (fun _ => br_t rfl rfl)
