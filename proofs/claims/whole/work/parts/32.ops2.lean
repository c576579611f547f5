theorem upd_at (f : Nat → Int32) (k : Nat) (x : Int32) : upd f k x k = x := pk_us
theorem upd_lt {f : Nat → Int32} {k j : Nat} {x : Int32} (h : j < k) : upd f k x j = f j := pk_un (by omega)
theorem TdR_add {n mx k y a : Nat} {ry rm xy xm : Nat → Int32} (hk : k < 6) (hy : y < n) (ha : a ≤ mx) (h : ∀ j, j < k → ∃ y a, y < n ∧ a ≤ mx ∧ ry j = nI y ∧ rm j = nI a ∧ xy j = nI y ∧ xm j = nI a) : TdR n mx (nI (k + 1)) (upd ry k (nI y)) (upd rm k (nI a)) (nI (k + 1)) (upd xy k (nI y)) (upd xm k (nI a)) := by
  refine ⟨k + 1, by omega, rfl, rfl, fun j hj => ?_⟩
  by_cases e : j = k
  · subst e
    exact ⟨y, a, hy, ha, upd_at _ _ _, upd_at _ _ _, upd_at _ _ _, upd_at _ _ _⟩
  · rw [upd_lt (by omega), upd_lt (by omega), upd_lt (by omega), upd_lt (by omega)]
    exact h j (by omega)
theorem cC_add {σ : Mm} {b k : Nat} {x y : Int32} {Φ : Int32 → Mm → Prop} (hc : σ.1 b 2 = nI k) (hk : k < 6) (h : Φ (nI (k + 1)) (kwi (kwi (kwi σ (b + 1) k x) (b + 2) k y) b 2 (nI (k + 1)))) : wp_X9_add σ b x y Φ := by
  unfold wp_X9_add
  have e1 : ∀ v, (kwi σ (b + 1) k v).1 b 2 = nI k := fun v => by rw [kwi_ne σ k v (by omega : b ≠ b + 1)]; exact hc
  have e2 : ∀ v w, (kwi (kwi σ (b + 1) k v) (b + 2) k w).1 b 2 = nI k := fun v w => by rw [kwi_ne _ k w (by omega : b ≠ b + 2)]; exact e1 v
  simp (disch := omega) only [kI, nI_ltI, nI_leI, nI_eq, nI_clamp, krem, pk_div, pk_mul, nI_add, forall_eq, hc, e1, e2]
  refine br_t (by omega) ⟨by omega, by omega, ?_⟩
  rw [kwi_same, upd_at]
  exact h
theorem cC_addF {σ : Mm} {b : Nat} {x y : Int32} {Φ : Int32 → Mm → Prop} (hc : σ.1 b 2 = nI 6) (h : Φ (-3) σ) : wp_X9_add σ b x y Φ := by
  unfold wp_X9_add
  rw [hc]
  exact br_f (by decide) h
theorem op_goal {σ τ : Mm} (h : Rel σ τ) (x y : Int32) : wp_X10_goal σ x y (fun r σ2 => wp_X11_goal τ x y (fun r2 τ2 => r = r2 ∧ Rel σ2 τ2)) := by
  have h0 := h
  obtain ⟨g, d, hF, hT, hN, hD, hK, ⟨k, hk, k1, k2, k3⟩, hS, hf1, hf2⟩ := h
  obtain ⟨hg, hd, -, -, -, hC, hCD, hM⟩ := id hF
  by_cases hx : yIn (aN g) x
  · refine cC_hasYard hg hC (fun _ => br_f (by decide) ?_) (fun q => absurd hx q)
    by_cases hy : yIn 41 y
    · have hy2 := (rg_in (hi := 40) (by omega)).mpr hy
      refine br_f hy2.1 (br_t hy2.2 ?_)
      obtain ⟨a, ha, rfl⟩ := id hx
      obtain ⟨m, hm, rfl⟩ := id hy
      by_cases h6 : k = 6
      · subst h6
        refine cC_addF k1 ?_
        refine cM_isYard hg hM (fun _ => br_f (by decide) ?_) (fun q => absurd hx q)
        refine cM_in1 (lo := 0) (hi := 40) (by omega) (by omega) (by omega) (brn_t (by decide) ?_)
        rw [k2]
        exact brn_f (by decide) ⟨rfl, h0⟩
      · refine cC_add k1 (by omega) ?_
        refine cM_isYard hg hM (fun _ => br_f (by decide) ?_) (fun q => absurd hx q)
        refine cM_in1 (lo := 0) (hi := 40) (by omega) (by omega) (by omega) (brn_t (by decide) ?_)
        have e1 : ∀ v, (kwi τ 7 k v).1 0 14 = nI k := fun v => k2
        have e2 : ∀ v w, (kwi (kwi τ 7 k v) 8 k w).1 0 14 = nI k := fun v w => k2
        simp (disch := omega) only [kI, nI_ltI, nI_leI, nI_eq, nI_clamp, krem, pk_div, pk_mul, nI_add, forall_eq, k2, e1, e2]
        refine brn_t (by omega) ⟨by omega, by omega, ?_⟩
        rw [kwi_same, upd_at]
        exact ⟨rfl, g, d, FP_kwiM (FP_kwiM (FP_kwiM (FP_kwi (FP_kwi (FP_kwi hF (by omega)) (by omega)) (by omega)) (by decide)) (by decide)) (by decide), hT, hN, hD, hK, TdR_add (by omega) ha (by omega) k3, hS, hf1, hf2⟩
    · have hb : wp_X11_goal τ x y (fun r2 τ2 => -1 = r2 ∧ Rel σ τ2) := by
        refine cM_isYard hg hM (fun _ => br_f (by decide) ?_) (fun q => absurd hx q)
        exact cM_in0 (hi := 40) (by omega) hy (brn_f rfl ⟨rfl, h0⟩)
      refine ⟨fun _ => hb, fun c => ⟨fun c2 => absurd ((rg_in (hi := 40) (by omega)).mp ⟨c, c2⟩) hy, fun _ => hb⟩⟩
  · refine cC_hasYard hg hC (fun q => absurd q hx) (fun _ => br_t rfl ?_)
    exact cM_isYard hg hM (fun q => absurd q hx) (fun _ => br_t rfl ⟨rfl, h0⟩)
theorem op_seen {σ τ : Mm} (h : Rel σ τ) (x y : Int32) : wp_X10_seen σ x y (fun r σ2 => wp_X11_seen τ x y (fun r2 τ2 => r = r2 ∧ Rel σ2 τ2)) := by
  have h0 := h
  obtain ⟨g, d, hF, hT, hN, hD, hK, hG, ⟨k, hk, k1, k2, k3⟩, hf1, hf2⟩ := h
  obtain ⟨hg, hd, -, -, -, hC, hCD, hM⟩ := id hF
  by_cases hx : yIn (aN g) x
  · refine cC_hasYard hg hC (fun _ => br_f (by decide) ?_) (fun q => absurd hx q)
    by_cases hy : yIn 21 y
    · have hy2 := (rg_in (hi := 20) (by omega)).mpr hy
      refine br_f hy2.1 (br_t hy2.2 ?_)
      obtain ⟨a, ha, rfl⟩ := id hx
      obtain ⟨m, hm, rfl⟩ := id hy
      by_cases h6 : k = 6
      · subst h6
        refine cC_addF k1 ?_
        refine cM_isYard hg hM (fun _ => br_f (by decide) ?_) (fun q => absurd hx q)
        refine cM_in1 (lo := 0) (hi := 20) (by omega) (by omega) (by omega) (brn_t (by decide) ?_)
        rw [k2]
        exact brn_f (by decide) ⟨rfl, h0⟩
      · refine cC_add k1 (by omega) ?_
        refine cM_isYard hg hM (fun _ => br_f (by decide) ?_) (fun q => absurd hx q)
        refine cM_in1 (lo := 0) (hi := 20) (by omega) (by omega) (by omega) (brn_t (by decide) ?_)
        have e1 : ∀ v, (kwi τ 13 k v).1 0 21 = nI k := fun v => k2
        have e2 : ∀ v w, (kwi (kwi τ 13 k v) 14 k w).1 0 21 = nI k := fun v w => k2
        simp (disch := omega) only [kI, nI_ltI, nI_leI, nI_eq, nI_clamp, krem, pk_div, pk_mul, nI_add, forall_eq, k2, e1, e2]
        refine brn_t (by omega) ⟨by omega, by omega, ?_⟩
        rw [kwi_same, upd_at]
        exact ⟨rfl, g, d, FP_kwiM (FP_kwiM (FP_kwiM (FP_kwi (FP_kwi (FP_kwi hF (by omega)) (by omega)) (by omega)) (by decide)) (by decide)) (by decide), hT, hN, hD, hK, hG, TdR_add (by omega) ha (by omega) k3, hf1, hf2⟩
    · have hb : wp_X11_seen τ x y (fun r2 τ2 => -1 = r2 ∧ Rel σ τ2) := by
        refine cM_isYard hg hM (fun _ => br_f (by decide) ?_) (fun q => absurd hx q)
        exact cM_in0 (hi := 20) (by omega) hy (brn_f rfl ⟨rfl, h0⟩)
      refine ⟨fun _ => hb, fun c => ⟨fun c2 => absurd ((rg_in (hi := 20) (by omega)).mp ⟨c, c2⟩) hy, fun _ => hb⟩⟩
  · refine cC_hasYard hg hC (fun q => absurd q hx) (fun _ => br_t rfl ?_)
    exact cM_isYard hg hM (fun q => absurd q hx) (fun _ => br_t rfl ⟨rfl, h0⟩)
theorem op_noGoals {σ τ : Mm} (h : Rel σ τ) : wp_X10_noGoals σ (fun r σ2 => wp_X11_noGoals τ (fun r2 τ2 => r = r2 ∧ Rel σ2 τ2)) := by
  obtain ⟨g, d, hF, hT, hN, hD, hK, ⟨k, hk, k1, k2, k3⟩, hS, hf1, hf2⟩ := h
  intro x1 e1 σ2 e2 x3 e3 τ2 e4
  subst e1 e2 e3 e4
  exact ⟨k1.trans k2.symm, g, d, FP_kwiM (FP_kwi hF (by omega)) (by decide), hT, hN, hD, hK, ⟨0, by omega, rfl, rfl, fun j hj => by omega⟩, hS, hf1, hf2⟩
theorem op_forget {σ τ : Mm} (h : Rel σ τ) : wp_X10_forget σ (fun r σ2 => wp_X11_forget τ (fun r2 τ2 => r = r2 ∧ Rel σ2 τ2)) := by
  obtain ⟨g, d, hF, hT, hN, hD, hK, hG, ⟨k, hk, k1, k2, k3⟩, hf1, hf2⟩ := h
  intro x1 e1 σ2 e2 x3 e3 τ2 e4
  subst e1 e2 e3 e4
  exact ⟨k1.trans k2.symm, g, d, FP_kwiM (FP_kwi hF (by omega)) (by decide), hT, hN, hD, hK, hG, ⟨0, by omega, rfl, rfl, fun j hj => by omega⟩, hf1, hf2⟩
theorem op_count {σ τ : Mm} (h : Rel σ τ) (x : Int32) : wp_X10_count σ x (fun r => wp_X11_count τ x (fun r2 => r = r2)) := by
  obtain ⟨g, d, ⟨hg, hd, -, -, -, hC, hCD, hM⟩, ⟨L, -, t1, t2, -⟩, ⟨mi, m, fe, -, -, n1, n2, n3, n4, n5, n6⟩, ⟨k, -, d1, d2, -⟩, ⟨k', -, p1, p2, -⟩, ⟨k'', -, g1, g2, -⟩, ⟨k''', -, s1, s2, -⟩, -⟩ := h
  intro w ew
  have q0 : τ.1 1 0 = nI (aN g) := hM.1 0 (by omega)
  have q1 : τ.1 1 1 = nI (aP g) := hM.1 1 (by omega)
  have key : ∀ {Φ : Int32 → Prop}, (x = 0 → Φ (nI (aN g))) → (x = 1 → Φ (nI (aP g))) → (x = 2 → Φ (nI mi)) → (x = 3 → Φ (nI k'')) → (x = 4 → Φ (nI k''')) → (x = 5 → Φ (nI k)) → (x = 6 → Φ (nI k')) → (x = 7 → Φ (nI L)) → ((x.toInt < 0 ∨ 7 < x.toInt) → Φ (-1)) → wp_X11_count τ x Φ := by
    intro Φ a0 a1 a2 a3 a4 a5 a6 a7 a8 w2 ew2
    subst ew2
    rw [q0, q1, n4, g2, s2, d2, p2, t2]
    exact ⟨a0, a1, a2, a3, a4, a5, a6, a7, a8⟩
  subst ew
  have z : ∀ (a b : Int32) (P : Prop), ¬ a = b → w = a → w = b → P := fun a b P n e1 e2 => absurd (e1.symm.trans e2) n
  have z2 : ∀ (a : Int32) (P : Prop), (0 ≤ a.toInt ∧ a.toInt ≤ 7) → w = a → (w.toInt < 0 ∨ 7 < w.toInt) → P := fun a P n e1 e2 => by rw [e1] at e2; omega
  refine ⟨fun c => ?_, fun c => ?_, fun c => ?_, fun c => ?_, fun c => ?_, fun c => ?_, fun c => ?_, fun c => ?_, fun c => ?_⟩
  · show wp_X11_count τ w (fun r2 => σ.1 (σ.2.2 0) 5 = r2)
    rw [hC.1]
    exact key (fun _ => rfl) (z 0 1 _ (by decide) c) (z 0 2 _ (by decide) c) (z 0 3 _ (by decide) c) (z 0 4 _ (by decide) c) (z 0 5 _ (by decide) c) (z 0 6 _ (by decide) c) (z 0 7 _ (by decide) c) (z2 0 _ (by decide) c)
  · show wp_X11_count τ w (fun r2 => σ.1 (σ.2.2 0) 6 = r2)
    rw [hC.2.1]
    exact key (z 1 0 _ (by decide) c) (fun _ => rfl) (z 1 2 _ (by decide) c) (z 1 3 _ (by decide) c) (z 1 4 _ (by decide) c) (z 1 5 _ (by decide) c) (z 1 6 _ (by decide) c) (z 1 7 _ (by decide) c) (z2 1 _ (by decide) c)
  · rw [n1]
    exact key (z 2 0 _ (by decide) c) (z 2 1 _ (by decide) c) (fun _ => rfl) (z 2 3 _ (by decide) c) (z 2 4 _ (by decide) c) (z 2 5 _ (by decide) c) (z 2 6 _ (by decide) c) (z 2 7 _ (by decide) c) (z2 2 _ (by decide) c)
  · show wp_X11_count τ w (fun r2 => σ.1 25 2 = r2)
    rw [g1]
    exact key (z 3 0 _ (by decide) c) (z 3 1 _ (by decide) c) (z 3 2 _ (by decide) c) (fun _ => rfl) (z 3 4 _ (by decide) c) (z 3 5 _ (by decide) c) (z 3 6 _ (by decide) c) (z 3 7 _ (by decide) c) (z2 3 _ (by decide) c)
  · show wp_X11_count τ w (fun r2 => σ.1 28 2 = r2)
    rw [s1]
    exact key (z 4 0 _ (by decide) c) (z 4 1 _ (by decide) c) (z 4 2 _ (by decide) c) (z 4 3 _ (by decide) c) (fun _ => rfl) (z 4 5 _ (by decide) c) (z 4 6 _ (by decide) c) (z 4 7 _ (by decide) c) (z2 4 _ (by decide) c)
  · show wp_X11_count τ w (fun r2 => σ.1 17 3 = r2)
    rw [d1]
    exact key (z 5 0 _ (by decide) c) (z 5 1 _ (by decide) c) (z 5 2 _ (by decide) c) (z 5 3 _ (by decide) c) (z 5 4 _ (by decide) c) (fun _ => rfl) (z 5 6 _ (by decide) c) (z 5 7 _ (by decide) c) (z2 5 _ (by decide) c)
  · show wp_X11_count τ w (fun r2 => σ.1 21 3 = r2)
    rw [p1]
    exact key (z 6 0 _ (by decide) c) (z 6 1 _ (by decide) c) (z 6 2 _ (by decide) c) (z 6 3 _ (by decide) c) (z 6 4 _ (by decide) c) (z 6 5 _ (by decide) c) (fun _ => rfl) (z 6 7 _ (by decide) c) (z2 6 _ (by decide) c)
  · show wp_X11_count τ w (fun r2 => σ.1 1 1 = r2)
    rw [t1]
    exact key (z 7 0 _ (by decide) c) (z 7 1 _ (by decide) c) (z 7 2 _ (by decide) c) (z 7 3 _ (by decide) c) (z 7 4 _ (by decide) c) (z 7 5 _ (by decide) c) (z 7 6 _ (by decide) c) (fun _ => rfl) (z2 7 _ (by decide) c)
  · have y : ∀ (a : Int32) (P : Prop), (0 ≤ a.toInt ∧ a.toInt ≤ 7) → w = a → P := fun a P n e1 => by rw [e1] at c; omega
    exact key (y 0 _ (by decide)) (y 1 _ (by decide)) (y 2 _ (by decide)) (y 3 _ (by decide)) (y 4 _ (by decide)) (y 5 _ (by decide)) (y 6 _ (by decide)) (y 7 _ (by decide)) (fun _ => rfl)
