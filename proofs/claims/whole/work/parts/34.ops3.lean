theorem kL (n : Nat) : (OfNat.ofNat n : Int64) = lN n := rfl
theorem kremL (a d : Nat) : lN a - lN (a / d * d) = lN (a % d) := by
  rw [lN_sub (Nat.div_mul_le_self a d)]
  congr 1
  have := Nat.div_add_mod a d
  rw [Nat.mul_comm] at this
  omega
theorem op_keep {σ τ : Mm} (h : Rel σ τ) : wp_X10_keep σ (fun r σ2 => wp_X11_keep τ (fun r2 τ2 => r = r2 ∧ Rel σ2 τ2)) := by
  have h0 := h
  obtain ⟨g, d, hF, hT, hN, hD, ⟨k, hk, k1, k2, k3⟩, hG, hS, hf1, hf2⟩ := h
  show ((σ.1 21 3 < 2 → _) ∧ (¬ (σ.1 21 3 < 2) → _))
  rw [k1]
  by_cases h2 : k = 2
  · subst h2
    refine br_f (by decide) ?_
    unfold wp_X11_keep
    rw [k2]
    exact brn_f (by decide) ⟨rfl, h0⟩
  · refine br_t ((nI_ltI (a := k) (b := 2) (by omega) (by omega)).mpr (by omega)) ?_
    refine cC_push (by omega) k1 (by omega) ?_
    show wp_X11_keep τ (fun r2 τ2 => nI (k + 1) = r2 ∧ Rel _ τ2)
    unfold wp_X11_keep
    rw [k2]
    refine brn_t (fun q => ?_) ?_
    · have := (nI_eq (a := k) (b := 2) (by omega) (by omega)).mp q
      omega
    · have st : ∀ (K : Mm → Prop) (n i : Nat) (ρ : Mm), i < 3 → ρ.1 0 11 = nI k → wp_X11_keep_L13 K n (kwi ρ 6 (3 * k + i) (ρ.1 4 i)) (nI (i + 1)) → wp_X11_keep_L13 K (n + 1) ρ (nI i) := by
        intro K n i ρ hi h1 h2
        unfold wp_X11_keep_L13
        simp (disch := omega) only [kI, nI_ltI, nI_leI, nI_eq, nI_clamp, krem, pk_div, pk_mul, nI_add, forall_eq, h1]
        exact br_f (by omega) ⟨by omega, by omega, h2⟩
      refine ⟨fun ρ => ρ = kwi (kwi (kwi τ 6 (3 * k) (τ.1 4 0)) 6 (3 * k + 1) (τ.1 4 1)) 6 (3 * k + 2) (τ.1 4 2), fun ρ e ρ2 e2 => ?_, 4, st _ 3 0 τ (by omega) k2 (st _ 2 1 _ (by omega) k2 (st _ 1 2 _ (by omega) k2 (br_t (by decide) rfl)))⟩
      subst e
      have e3 : (kwi (kwi (kwi τ 6 (3 * k) (τ.1 4 0)) 6 (3 * k + 1) (τ.1 4 1)) 6 (3 * k + 2) (τ.1 4 2)).1 0 11 + 1 = nI (k + 1) := by
        show τ.1 0 11 + 1 = _
        rw [k2]
        exact nI_1 k
      rw [e3] at e2
      subst e2
      refine ⟨rfl, g, d, ?_, hT, hN, hD, MsR_push (by omega) hN k3, hG, hS, hf1, hf2⟩
      exact FP_kwiM (FP_kwiM (FP_kwiM (FP_kwiM (FP_kwi (FP_kwi (FP_kwi (FP_kwi hF (by omega)) (by omega)) (by omega)) (by omega)) (by decide)) (by decide)) (by decide)) (by decide)
def popM (σ : Mm) (b k : Nat) : Mm := kwi (kwi (kwi (kwi σ b 3 (nI k)) 16 0 (σ.1 (b + 1) k)) 16 1 (σ.1 (b + 2) k)) 16 2 (σ.1 (b + 3) k)
theorem cC_pop {σ : Mm} {b k : Nat} {Φ : Mm → Prop} (hb : 16 < b) (hc : σ.1 b 3 = nI (k + 1)) (hk : k < 8) (h : Φ (popM σ b k)) : wp_X4_pop σ b Φ := by
  unfold wp_X4_pop
  have e1 : nI (k + 1) - nI 1 = nI k := pk_sub (a := k + 1) (b := 1) (by omega)
  have n1 : ∀ (ρ : Mm) (i : Nat) (v : Int32), (kwi ρ 16 i v).1 b = ρ.1 b := fun ρ i v => kwi_ne ρ i v (by omega)
  have n2 : ∀ (ρ : Mm) (v : Int32), (kwi ρ b 3 v).1 b 3 = v := fun ρ v => by rw [kwi_same, upd_at]
  have n3 : ∀ (ρ : Mm) (v : Int32), (kwi ρ b 3 v).1 (b + 1) = ρ.1 (b + 1) := fun ρ v => kwi_ne ρ 3 v (by omega)
  have n4 : ∀ (ρ : Mm) (v : Int32), (kwi ρ b 3 v).1 (b + 2) = ρ.1 (b + 2) := fun ρ v => kwi_ne ρ 3 v (by omega)
  have n5 : ∀ (ρ : Mm) (v : Int32), (kwi ρ b 3 v).1 (b + 3) = ρ.1 (b + 3) := fun ρ v => kwi_ne ρ 3 v (by omega)
  have n6 : ∀ (ρ : Mm) (i : Nat) (v : Int32), (kwi ρ 16 i v).1 (b + 2) = ρ.1 (b + 2) := fun ρ i v => kwi_ne ρ i v (by omega)
  have n7 : ∀ (ρ : Mm) (i : Nat) (v : Int32), (kwi ρ 16 i v).1 (b + 3) = ρ.1 (b + 3) := fun ρ i v => kwi_ne ρ i v (by omega)
  simp (disch := omega) only [kI, nI_ltI, nI_leI, nI_eq, nI_clamp, krem, pk_div, pk_mul, nI_add, forall_eq, hc, e1, n1, n2, n3, n4, n5, n6, n7]
  exact br_f (by omega) ⟨by omega, by omega, by omega, h⟩
theorem op_undo {σ τ : Mm} (h : Rel σ τ) : wp_X10_undo σ (fun r σ2 => wp_X11_undo τ (fun r2 τ2 => r = r2 ∧ Rel σ2 τ2)) := by
  have h0 := h
  obtain ⟨g, d, hF, hT, hN, ⟨k, hk, k1, k2, k3⟩, hK, hG, hS, hf1, hf2⟩ := h
  show ((¬ σ.1 17 3 = 0 → _) ∧ (σ.1 17 3 = 0 → _))
  rw [k1]
  rcases Nat.eq_zero_or_pos k with hk0 | hk0
  · subst hk0
    refine brn_f (by decide) ?_
    unfold wp_X11_undo
    rw [k2]
    exact brn_f (by decide) ⟨rfl, h0⟩
  · obtain ⟨k, rfl⟩ : ∃ j, k = j + 1 := ⟨k - 1, by omega⟩
    have hne : ¬ nI (k + 1) = 0 := nI_ne0 (by omega) (by omega)
    refine brn_t hne ?_
    refine cC_pop (by omega) k1 (by omega) ?_
    show wp_X11_undo τ (fun r2 τ2 => nI k = r2 ∧ Rel _ τ2)
    unfold wp_X11_undo
    rw [k2]
    refine brn_t hne ?_
    intro τ1 e1
    have : nI (k + 1) - 1 = nI k := pk_sub (a := k + 1) (b := 1) (by omega)
    rw [this] at e1
    have st : ∀ (K : Mm → Prop) (n i : Nat) (ρ : Mm), i < 3 → ρ.1 0 9 = nI k → wp_X11_undo_L22 K n (kwi ρ 4 i (ρ.1 5 (3 * k + i))) (nI (i + 1)) → wp_X11_undo_L22 K (n + 1) ρ (nI i) := by
      intro K n i ρ hi h1 h2
      unfold wp_X11_undo_L22
      simp (disch := omega) only [kI, nI_ltI, nI_leI, nI_eq, nI_clamp, krem, pk_div, pk_mul, nI_add, forall_eq, h1]
      exact br_f (by omega) ⟨by omega, by omega, h2⟩
    subst e1
    refine ⟨fun ρ => ρ = kwi (kwi (kwi (kwi τ 0 9 (nI k)) 4 0 (τ.1 5 (3 * k))) 4 1 (τ.1 5 (3 * k + 1))) 4 2 (τ.1 5 (3 * k + 2)), fun ρ e => ?_, 4, st _ 3 0 _ (by omega) rfl (st _ 2 1 _ (by omega) rfl (st _ 1 2 _ (by omega) rfl (br_t (by decide) rfl)))⟩
    subst e
    refine ⟨rfl, g, d, ?_, hT, k3 k (by omega), ⟨k, by omega, rfl, rfl, fun j hj => k3 j (by omega)⟩, hK, hG, hS, hf1, hf2⟩
    exact FP_kwiM (FP_kwiM (FP_kwiM (FP_kwiM (FP_kwi (FP_kwi (FP_kwi (FP_kwi hF (by omega)) (by omega)) (by omega)) (by omega)) (by decide)) (by decide)) (by decide)) (by decide)
theorem op_back {σ τ : Mm} (h : Rel σ τ) : wp_X10_back σ (fun r σ2 => wp_X11_back τ (fun r2 τ2 => r = r2 ∧ Rel σ2 τ2)) := by
  have h0 := h
  obtain ⟨g, d, hF, hT, hN, hD, ⟨k, hk, k1, k2, k3⟩, hG, hS, hf1, hf2⟩ := h
  show ((¬ σ.1 21 3 = 0 → _) ∧ (σ.1 21 3 = 0 → _))
  rw [k1]
  rcases Nat.eq_zero_or_pos k with hk0 | hk0
  · subst hk0
    refine brn_f (by decide) ?_
    unfold wp_X11_back
    rw [k2]
    exact brn_f (by decide) ⟨rfl, h0⟩
  · obtain ⟨k, rfl⟩ : ∃ j, k = j + 1 := ⟨k - 1, by omega⟩
    have hne : ¬ nI (k + 1) = 0 := nI_ne0 (by omega) (by omega)
    refine brn_t hne ?_
    refine cC_pop (by omega) k1 (by omega) ?_
    intro σ4 e4
    subst e4
    show wp_X11_back τ (fun r2 τ2 => nI k = r2 ∧ Rel _ τ2)
    unfold wp_X11_back
    rw [k2]
    refine brn_t hne ?_
    intro τ1 e1
    have : nI (k + 1) - 1 = nI k := pk_sub (a := k + 1) (b := 1) (by omega)
    rw [this] at e1
    have st : ∀ (K : Mm → Prop) (n i : Nat) (ρ : Mm), i < 3 → ρ.1 0 11 = nI k → wp_X11_back_L22 K n (kwi ρ 4 i (ρ.1 6 (3 * k + i))) (nI (i + 1)) → wp_X11_back_L22 K (n + 1) ρ (nI i) := by
      intro K n i ρ hi h1 h2
      unfold wp_X11_back_L22
      simp (disch := omega) only [kI, nI_ltI, nI_leI, nI_eq, nI_clamp, krem, pk_div, pk_mul, nI_add, forall_eq, h1]
      exact br_f (by omega) ⟨by omega, by omega, h2⟩
    subst e1
    refine ⟨fun ρ => ρ = kwi (kwi (kwi (kwi τ 0 11 (nI k)) 4 0 (τ.1 6 (3 * k))) 4 1 (τ.1 6 (3 * k + 1))) 4 2 (τ.1 6 (3 * k + 2)), fun ρ e ρ2 e2 => ?_, 4, st _ 3 0 _ (by omega) rfl (st _ 2 1 _ (by omega) rfl (st _ 1 2 _ (by omega) rfl (br_t (by decide) rfl)))⟩
    subst e e2
    refine ⟨rfl, g, d, ?_, hT, k3 k (by omega), ⟨0, by omega, rfl, rfl, fun j hj => by omega⟩, ⟨k, by omega, rfl, rfl, fun j hj => k3 j (by omega)⟩, hG, hS, hf1, hf2⟩
    exact FP_kwiM (FP_kwiM (FP_kwiM (FP_kwiM (FP_kwiM (FP_kwi (FP_kwi (FP_kwi (FP_kwi (FP_kwi hF (by omega)) (by omega)) (by omega)) (by omega)) (by omega)) (by decide)) (by decide)) (by decide)) (by decide)) (by decide)
theorem op_feed {σ τ : Mm} (h : Rel σ τ) (x : Int32) : wp_X10_feed σ x (fun r σ2 => wp_X11_feed τ x (fun r2 τ2 => r = r2 ∧ Rel σ2 τ2)) := by
  have h0 := h
  obtain ⟨g, d, hR⟩ := h
  obtain ⟨hF, hT, hN, hD, hK, hG, hS, hf1, hf2⟩ := id hR
  obtain ⟨hg, hd, -, -, -, hC, hCD, hM⟩ := id hF
  obtain ⟨mi, m, fe, hmi, hm, n1, n2, n3, n4, n5, n6⟩ := id hN
  by_cases hx : yIn (aP g) x
  · refine cC_hasPerson hg hC (fun _ => brn_t (by decide) ?_) (fun q => absurd hx q)
    obtain ⟨i, hi, rfl⟩ := id hx
    rw [n1, n2]
    refine cC_canFeed hg hC hm hi (by omega) ?_
    have hmod : ∀ {Φ : Int32 → Mm → Prop}, (aPlc g i mi = m % 8 → wp_X11_know τ (fun τ2 => wp_X11_fedBy τ2 (τ2.1 4 1) (nI i) (fun r7 => ∀ σ8 : Mm, σ8 = kwi τ2 4 1 r7 → ∀ σ9 : Mm, σ9 = kwi σ8 4 2 ((σ8.1 4 2) + 1) → Φ (σ9.1 4 2) σ9))) → (¬ aPlc g i mi = m % 8 → Φ (-2) τ) → wp_X11_feed τ (nI i) Φ := by
      intro Φ h1 h2
      refine cM_isPerson hg hM (fun _ => brn_t (by decide) ?_) (fun q => absurd hx q)
      rw [n4, n5]
      refine cM_mayFeed hg hM hm.1 hi (by omega) ?_
      by_cases hp : aPlc g i mi = m % 8
      · rw [if_pos hp]
        exact brn_t (by decide) (h1 hp)
      · rw [if_neg hp]
        exact brn_f rfl (h2 hp)
    by_cases hp : aPlc g i mi = m % 8
    · rw [if_pos hp]
      refine brn_t (by decide) ?_
      refine push_rel hR (Ψ := fun σ2 τ2 => wp_X11_fedBy τ2 (τ2.1 4 1) (nI i) (fun r7 => ∀ σ8 : Mm, σ8 = kwi τ2 4 1 r7 → ∀ σ9 : Mm, σ9 = kwi σ8 4 2 ((σ8.1 4 2) + 1) → (σ2.1 16 2 + 1) = (σ9.1 4 2) ∧ Rel (kwi (kwi σ2 16 1 (nI (cst g (fedm g m i)))) 16 2 (σ2.1 16 2 + 1)) σ9)) (fun σ2 e1 e2 hk => ?_) (fun σ2 τ2 hR2 e1 e2 e3 => ?_)
      · have e16 := e1 16 (by decide) (by decide) (by decide) (by decide)
        rw [e16, n2]
        refine cC_fedState hg hm hi ?_
        intro σ10 e10 σ11 e11
        subst e10 e11
        exact hmod (fun _ => hk) (fun q => absurd hp q)
      · obtain ⟨hF2, hT2, hN2, hD2, hK2, hG2, hS2, hf12, hf22⟩ := hR2
        have hM2 := hF2.2.2.2.2.2.2.2
        rw [e2, n5]
        refine cM_fedBy hg hM2 hm.1 hi ?_
        intro σ8 e8 σ9 e9
        subst e8 e9
        have q1 : σ2.1 16 2 = nI fe := by rw [e1]; exact n3
        have q2 : τ2.1 4 2 = nI fe := by rw [e2]; exact n6
        have q3 : σ2.1 16 0 = nI mi := by rw [e1]; exact n1
        have q4 : τ2.1 4 0 = nI mi := by rw [e2]; exact n4
        refine ⟨?_, g, d, FP_kwiM (FP_kwiM (FP_kwi (FP_kwi hF2 (by omega)) (by omega)) (by decide)) (by decide), hT2, ⟨mi, fedm g m i, fe + 1, hmi, isSt_fed hg hm hi, q3, rfl, ?_, q4, rfl, ?_⟩, hD2, hK2, hG2, hS2, hf12, hf22⟩
        · show σ2.1 16 2 + 1 = τ2.1 4 2 + 1
          rw [q1, q2]
        · show σ2.1 16 2 + 1 = nI (fe + 1)
          rw [q1]; exact nI_1 fe
        · show τ2.1 4 2 + 1 = nI (fe + 1)
          rw [q2]; exact nI_1 fe
    · rw [if_neg hp]
      refine brn_f rfl ?_
      exact hmod (fun q => absurd q hp) (fun _ => ⟨rfl, h0⟩)
  · refine cC_hasPerson hg hC (fun q => absurd q hx) (fun _ => brn_f rfl ?_)
    exact cM_isPerson hg hM (fun q => absurd q hx) (fun _ => brn_f rfl ⟨rfl, h0⟩)
def gon (g d : Nat → Int32) (m t : Nat) : Nat → Nat
  | 0 => m
  | n + 1 => aft g d (gon g d m t n) (t + (n + 1))
theorem isSt_gon {g d : Nat → Int32} (hg : WFg g) (hd : WFd g d) {m t : Nat} (hm : isSt g m) : ∀ n, isSt g (gon g d m t n)
  | 0 => hm
  | n + 1 => isSt_aft hg hd (isSt_gon hg hd hm n)
theorem cM_gone {τ : Mm} {g d : Nat → Int32} (hg : WFg g) (hd : WFd g d) (hM : FmM τ g d) {m t n : Nat} (hm : isSt g m) (ht : t ≤ 9999) (hn : n ≤ 400) {Φ : Int32 → Prop} (h : Φ (nI (gon g d m t n))) : wp_X11_gone τ (nI m) (nI t) (nI n) Φ := by
  have key : ∀ r i, i + r = n → wp_X11_gone_L6 (nI t) (nI n) τ Φ (r + 1) (nI (gon g d m t i)) (nI (i + 1)) := by
    intro r
    induction r with
    | zero =>
      intro i hi
      have : i = n := by omega
      subst this
      exact br_t (nI_lt (by omega) (by omega)) h
    | succ r ih =>
      intro i hi
      refine br_f (nI_nlt (by omega) (by omega)) ?_
      rw [nI_add, nI_1]
      exact cM_after hg hd hM (isSt_gon hg hd hm i) (by omega) (ih (i + 1) (by omega))
  exact ⟨n + 1, key n 0 (by omega)⟩
theorem cC_unfed {σ : Mm} {b : Nat} {g d : Nat → Int32} (hg : WFg g) (hd : WFd g d) (hC : FmC σ b g) (hCD : FmD σ b g d) {m t n : Nat} (hm : isSt g m) (ht : t ≤ 9999) (hn : n ≤ 400) {Φ : Int32 → Prop} (h : Φ (nI (cst g (gon g d m t n)))) : wp_X1_unfed σ b (nI (cst g m)) (nI t) (nI n) Φ := by
  have key : ∀ r i, i + r = n → wp_X1_unfed_L6 b (nI t) (nI n) σ Φ (r + 1) (nI (cst g (gon g d m t i))) (nI (i + 1)) := by
    intro r
    induction r with
    | zero =>
      intro i hi
      have : i = n := by omega
      subst this
      exact br_t (nI_lt (by omega) (by omega)) h
    | succ r ih =>
      intro i hi
      refine br_f (nI_nlt (by omega) (by omega)) ?_
      rw [nI_add, nI_1]
      exact cC_onward hg hd hC hCD (isSt_gon hg hd hm i) (by omega) (ih (i + 1) (by omega))
  exact ⟨n + 1, key n 0 (by omega)⟩
theorem rg1_in {x : Int32} {hi : Nat} (h3 : hi + 1 < 2 ^ 31) : (¬ x < 1 ∧ x ≤ nI hi) ↔ ∃ j, 1 ≤ j ∧ j ≤ hi ∧ x = nI j := by
  constructor
  · rintro ⟨a, b⟩
    have a' : ¬ x < 0 := by
      intro q
      have q1 := (fa_lt_ _ _).mp q
      have q0 : (0 : Int32).toInt = 0 := by decide
      have q2 : (1 : Int32).toInt = 1 := by decide
      exact a ((fa_lt_ _ _).mpr (by omega))
    obtain ⟨j, hj, rfl⟩ := nI_of2 (M := nI hi) (nI_toInt (by omega)) a' b
    refine ⟨j, ?_, hj, rfl⟩
    rcases Nat.eq_zero_or_pos j with q | q
    · subst q
      exact absurd (by decide) a
    · exact q
  · rintro ⟨j, h1, h2, rfl⟩
    exact ⟨fun q => by have := (nI_ltI (a := j) (b := 1) (by omega) (by omega)).mp q; omega, nI_le (by omega) (by omega)⟩
theorem cM_in1' {x : Int32} {hi : Nat} (h3 : hi + 1 < 2 ^ 31) {Φ : Int32 → Prop} (h1 : (∃ j, 1 ≤ j ∧ j ≤ hi ∧ x = nI j) → Φ 1) (h0 : ¬ (∃ j, 1 ≤ j ∧ j ≤ hi ∧ x = nI j) → Φ 0) : wp_X11_in x 1 (nI hi) Φ := by
  refine ⟨fun c => h0 (fun q => ((rg1_in h3).mpr q).1 c), fun c => ⟨fun c2 => h0 (fun q => absurd ((rg1_in h3).mpr q).2 (Int32.not_le.mpr c2)), fun c2 => h1 ((rg1_in h3).mp ⟨c, Int32.not_lt.mp c2⟩)⟩⟩
theorem op_pass {σ τ : Mm} (h : Rel σ τ) (x : Int32) : wp_X10_pass σ x (fun r σ2 => wp_X11_pass τ x (fun r2 τ2 => r = r2 ∧ Rel σ2 τ2)) := by
  have h0 := h
  obtain ⟨g, d, hR⟩ := h
  obtain ⟨hF, hT, hN, hD, hK, hG, hS, hf1, hf2⟩ := id hR
  obtain ⟨hg, hd, -, -, -, hC, hCD, hM⟩ := id hF
  obtain ⟨mi, m, fe, hmi, hm, n1, n2, n3, n4, n5, n6⟩ := id hN
  by_cases hx : ∃ j, 1 ≤ j ∧ j ≤ 99 ∧ x = nI j
  · have hx2 := (rg1_in (hi := 99) (by omega)).mpr hx
    refine br_f hx2.1 (br_t hx2.2 ?_)
    obtain ⟨n, hn1, hn2, rfl⟩ := id hx
    have e9 : nI mi + nI n ≤ 9999 ↔ mi + n ≤ 9999 := by
      rw [nI_add]
      exact nI_leI (a := mi + n) (b := 9999) (by omega) (by omega)
    have hmod : ∀ {Φ : Int32 → Mm → Prop}, (mi + n ≤ 9999 → wp_X11_know τ (fun σ3 => wp_X11_gone σ3 (σ3.1 4 1) (σ3.1 4 0) (nI n) (fun r5 => ∀ σ6 : Mm, σ6 = kwi σ3 4 1 r5 → ∀ σ7 : Mm, σ7 = kwi σ6 4 0 ((σ6.1 4 0) + nI n) → wp_X11_yardOf (σ7.1 4 1) (fun r9 => Φ r9 σ7)))) → (¬ mi + n ≤ 9999 → Φ (-2) τ) → wp_X11_pass τ (nI n) Φ := by
      intro Φ a1 a2
      refine cM_in1' (hi := 99) (by omega) (fun _ => brn_t (by decide) ?_) (fun q => absurd hx q)
      rw [n4, e9]
      exact ⟨a1, a2⟩
    rw [n1]
    rw [e9]
    refine ⟨fun c => ?_, fun c => hmod (fun q => absurd q c) (fun _ => ⟨rfl, h0⟩)⟩
    refine push_rel hR (Ψ := fun σ2 τ2 => wp_X11_gone τ2 (τ2.1 4 1) (τ2.1 4 0) (nI n) (fun r5 => ∀ σ6 : Mm, σ6 = kwi τ2 4 1 r5 → ∀ σ7 : Mm, σ7 = kwi σ6 4 0 ((σ6.1 4 0) + nI n) → wp_X11_yardOf (σ7.1 4 1) (fun r9 => nI (gon g d m mi n % 8) = r9 ∧ Rel (kwi (kwi σ2 16 1 (nI (cst g (gon g d m mi n)))) 16 0 (σ2.1 16 0 + nI n)) σ7))) (fun σ2 e1 e2 hk => ?_) (fun σ2 τ2 hR2 e1 e2 e3 => ?_)
    · have e16 := e1 16 (by decide) (by decide) (by decide) (by decide)
      have hb := hF.2.2.1.1
      have hb' : 4 ≤ σ.2.2 0 ∧ σ.2.2 0 ≤ 10 := by rcases hb with q | q <;> omega
      have r0 : σ2.2.2 0 = σ.2.2 0 := by rw [e2]
      rw [e16, n2, n1, r0]
      have ef : ∀ k, σ.2.2 0 ≤ k → k ≤ σ.2.2 0 + 5 → σ2.1 k = σ.1 k := fun k a b => e1 k (by omega) (by omega) (by omega) (by omega)
      refine cC_unfed hg hd (hC.of ef) (hCD.of ef) hm hmi (by omega) ?_
      intro σ5 e5 σ6 e6
      subst e5 e6
      have hst := isSt_gon (t := mi) hg hd hm n
      have hlt := cst_lt hg hst
      refine cC_yardOf (m := cst g (gon g d m mi n)) (by omega) ?_
      rw [(cst_parts hg hst).1]
      exact hmod (fun _ => hk) (fun q => absurd c q)
    · obtain ⟨hF2, hT2, hN2, hD2, hK2, hG2, hS2, hf12, hf22⟩ := hR2
      have hM2 := hF2.2.2.2.2.2.2.2
      have hst := isSt_gon (t := mi) hg hd hm n
      rw [e2, n5, n4]
      refine cM_gone hg hd hM2 hm hmi (by omega) ?_
      intro σ8 e8 σ9 e9
      subst e8 e9
      have q1 : σ2.1 16 0 = nI mi := by rw [e1]; exact n1
      have q2 : τ2.1 4 0 = nI mi := by rw [e2]; exact n4
      have q3 : σ2.1 16 2 = nI fe := by rw [e1]; exact n3
      have q4 : τ2.1 4 2 = nI fe := by rw [e2]; exact n6
      have hlt := hst.1
      refine cM_yardOf (m := gon g d m mi n) (by omega) ⟨rfl, g, d, FP_kwiM (FP_kwiM (FP_kwi (FP_kwi hF2 (by omega)) (by omega)) (by decide)) (by decide), hT2, ⟨mi + n, gon g d m mi n, fe, c, hst, ?_, rfl, q3, ?_, rfl, q4⟩, hD2, hK2, hG2, hS2, hf12, hf22⟩
      · show σ2.1 16 0 + nI n = nI (mi + n)
        rw [q1]; exact nI_add mi n
      · show τ2.1 4 0 + nI n = nI (mi + n)
        rw [q2]; exact nI_add mi n
  · have hb : wp_X11_pass τ x (fun r2 τ2 => -1 = r2 ∧ Rel σ τ2) := cM_in1' (hi := 99) (by omega) (fun q => absurd q hx) (fun _ => brn_f rfl ⟨rfl, h0⟩)
    exact ⟨fun _ => hb, fun c => ⟨fun c2 => absurd ((rg1_in (hi := 99) (by omega)).mp ⟨c, c2⟩) hx, fun _ => hb⟩⟩
theorem cC_isFlag {x : Int32} {Φ : Int32 → Prop} (h1 : x = 0 ∨ x = 1 → Φ 1) (h0 : ¬ (x = 0 ∨ x = 1) → Φ 0) : wp_X10_isFlag x Φ := by
  refine ⟨fun c => h1 (Or.inl c), fun c => ⟨fun c2 => h0 (by rintro (q | q); exact c q; exact c2 q), fun c2 => h1 (Or.inr c2)⟩⟩
theorem yIn2 {x : Int32} : yIn 2 x ↔ (x = 0 ∨ x = 1) := by
  constructor
  · rintro ⟨j, hj, rfl⟩
    rcases (by omega : j = 0 ∨ j = 1) with q | q
    · subst q; exact Or.inl rfl
    · subst q; exact Or.inr rfl
  · rintro (q | q)
    · exact ⟨0, by omega, q⟩
    · exact ⟨1, by omega, q⟩
theorem cM_in01 {x : Int32} {Φ : Int32 → Prop} (h1 : x = 0 ∨ x = 1 → Φ 1) (h0 : ¬ (x = 0 ∨ x = 1) → Φ 0) : wp_X11_in x 0 1 Φ := by
  by_cases h : yIn 2 x
  · obtain ⟨j, hj, rfl⟩ := id h
    exact cM_in1 (lo := 0) (hi := 1) (by omega) (by omega) (by omega) (h1 (yIn2.mp h))
  · exact cM_in0 (hi := 1) (by omega) h (h0 (fun q => h (yIn2.mpr q)))
theorem rg_gt {x : Int32} {hi : Nat} (h3 : hi + 1 < 2 ^ 31) (h0 : ¬ x < 0) : (nI hi < x) ↔ ¬ yIn (hi + 1) x := by
  constructor
  · intro q hy
    have := (rg_in h3).mpr hy
    exact absurd this.2 (Int32.not_le.mpr q)
  · intro q
    exact Int32.not_le.mp (fun z => q ((rg_in h3).mp ⟨h0, z⟩))
theorem op_calf {σ τ : Mm} (h : Rel σ τ) (x y : Int32) : wp_X10_calf σ x y (fun r => wp_X11_calf τ x y (fun r2 => r = r2)) := by
  obtain ⟨g, d, hR⟩ := h
  obtain ⟨hF, hT, hN, hD, hK, hG, hS, hf1, hf2⟩ := id hR
  obtain ⟨hg, hd, -, -, -, hC, hCD, hM⟩ := id hF
  obtain ⟨mi, m, fe, hmi, hm, n1, n2, n3, n4, n5, n6⟩ := id hN
  by_cases hx : yIn 401 x
  · have hx0 := ((rg_in (hi := 400) (by omega)).mpr hx).1
    refine br_f hx0 (br_f (fun q => ((rg_gt (hi := 400) (by omega) hx0).mp q) hx) ?_)
    obtain ⟨n, hn, rfl⟩ := id hx
    refine cC_isFlag (fun hy => brn_t (by decide) ?_) (fun hy => brn_f rfl ?_)
    · rw [n1, n2]
      have hst := isSt_gon (t := mi) hg hd hm n
      have hlt := cst_lt hg hst
      have hlt2 := hst.1
      obtain ⟨p1, p2, p3⟩ := cst_parts hg hst
      have hP := hg.P
      have hmod : ∀ {Φ : Int32 → Prop}, (y = 0 → Φ (nI (gon g d m mi n % 8))) → (¬ y = 0 → gon g d m mi n / 8 % 6 = 0 → Φ (-4)) → (¬ y = 0 → gon g d m mi n / 8 % 6 ≠ 0 → Φ (nI (gon g d m mi n / 8 % 6 - 1))) → wp_X11_calf τ (nI n) y Φ := by
        intro Φ a1 a2 a3
        refine cM_in1 (lo := 0) (hi := 400) (by omega) (by omega) (by omega) (br_f (by decide) (cM_in01 (fun _ => brn_t (by decide) ?_) (fun q => absurd hy q)))
        rw [n4, n5]
        refine cM_gone hg hd hM hm hmi (by omega) ⟨fun c => ?_, fun c => cM_yardOf (by omega) (a1 c)⟩
        by_cases hw : gon g d m mi n / 8 % 6 = 0
        · exact cM_whom0 (by omega) hw (br_f (by decide) (a2 c hw))
        · exact cM_whom1 (by omega) hw (br_t (nI_pos' (by omega)) (cM_whom1 (by omega) hw (a3 c hw)))
      refine cC_unfed hg hd hC hCD hm hmi (by omega) ⟨fun c => ?_, fun c => cC_yardOf (by omega) ?_⟩
      · by_cases hw : gon g d m mi n / 8 % 6 = 0
        · refine cC_followed0 (by omega) (by omega) (br_t (by decide) ?_)
          exact hmod (fun q => absurd q c) (fun _ _ => rfl) (fun _ q => absurd hw q)
        · refine cC_followed1 (by omega) (by omega) (br_f (nI_pos (by omega)) ?_)
          rw [p2]
          exact hmod (fun q => absurd q c) (fun _ q => absurd q hw) (fun _ _ => rfl)
      · rw [p1]
        exact hmod (fun _ => rfl) (fun q => absurd c q) (fun q => absurd c q)
    · exact cM_in1 (lo := 0) (hi := 400) (by omega) (by omega) (by omega) (br_f (by decide) (cM_in01 (fun q => absurd q hy) (fun _ => brn_f rfl rfl)))
  · have hb : wp_X11_calf τ x y (fun r2 => -1 = r2) := cM_in0 (hi := 400) (by omega) hx (br_t rfl rfl)
    exact ⟨fun _ => hb, fun c => ⟨fun _ => hb, fun c2 => absurd ((rg_gt (hi := 400) (by omega) c).mpr hx) c2⟩⟩
