theorem MsR_push {g : Nat → Int32} {mx k : Nat} {r1 r2 r3 a x X : Nat → Int32} (hk : k < mx) (hN : NwR g a x) (h : ∀ j, j < k → Mom g (r1 j) (r2 j) (r3 j) (X (3 * j)) (X (3 * j + 1)) (X (3 * j + 2))) : MsR g mx (nI (k + 1)) (upd r1 k (a 0)) (upd r2 k (a 1)) (upd r3 k (a 2)) (nI (k + 1)) (upd (upd (upd X (3 * k) (x 0)) (3 * k + 1) (x 1)) (3 * k + 2) (x 2)) := by
  refine ⟨k + 1, by omega, rfl, rfl, fun j hj => ?_⟩
  by_cases e : j = k
  · subst e
    have u0 : upd (upd (upd X (3 * j) (x 0)) (3 * j + 1) (x 1)) (3 * j + 2) (x 2) (3 * j) = x 0 := by rw [pk_un (by omega), pk_un (by omega), upd_at]
    have u1 : upd (upd (upd X (3 * j) (x 0)) (3 * j + 1) (x 1)) (3 * j + 2) (x 2) (3 * j + 1) = x 1 := by rw [pk_un (by omega), upd_at]
    rw [u0, u1, upd_at, upd_at, upd_at, upd_at]
    exact hN
  · rw [upd_lt (by omega), upd_lt (by omega), upd_lt (by omega)]
    rw [upd_lt (by omega), upd_lt (by omega), upd_lt (by omega), upd_lt (by omega), upd_lt (by omega), upd_lt (by omega), upd_lt (by omega), upd_lt (by omega), upd_lt (by omega)]
    exact h j (by omega)
-- ===== the component
def pushM (σ : Mm) (b k : Nat) : Mm := kwi (kwi (kwi (kwi σ (b + 1) k (σ.1 16 0)) (b + 2) k (σ.1 16 1)) (b + 3) k (σ.1 16 2)) b 3 (nI (k + 1))
theorem push_tail {σ : Mm} {b k : Nat} {Φ : Mm → Prop} (hb : 16 < b) (hc : σ.1 b 3 = nI k) (hk : k < 8) (h : Φ (pushM σ b k)) : ((0 ≤ (σ.1 b 3) ∧ (σ.1 b 3) < 8) ∧ ∀ σ3 : Mm, σ3 = kwi σ (b + 1) ((σ.1 b 3).toNatClampNeg) (σ.1 16 0) → (0 ≤ (σ3.1 b 3) ∧ (σ3.1 b 3) < 8) ∧ ∀ σ5 : Mm, σ5 = kwi σ3 (b + 2) ((σ3.1 b 3).toNatClampNeg) (σ3.1 16 1) → (0 ≤ (σ5.1 b 3) ∧ (σ5.1 b 3) < 8) ∧ ∀ σ7 : Mm, σ7 = kwi σ5 (b + 3) ((σ5.1 b 3).toNatClampNeg) (σ5.1 16 2) → ∀ σ8 : Mm, σ8 = kwi σ7 b 3 ((σ7.1 b 3) + 1) → Φ σ8) := by
  have n1 : ∀ (ρ : Mm) (i : Nat) (v : Int32), (kwi ρ (b + 1) i v).1 b = ρ.1 b := fun ρ i v => kwi_ne ρ i v (by omega)
  have n2 : ∀ (ρ : Mm) (i : Nat) (v : Int32), (kwi ρ (b + 2) i v).1 b = ρ.1 b := fun ρ i v => kwi_ne ρ i v (by omega)
  have n3 : ∀ (ρ : Mm) (i : Nat) (v : Int32), (kwi ρ (b + 3) i v).1 b = ρ.1 b := fun ρ i v => kwi_ne ρ i v (by omega)
  have n4 : ∀ (ρ : Mm) (i : Nat) (v : Int32), (kwi ρ (b + 1) i v).1 16 = ρ.1 16 := fun ρ i v => kwi_ne ρ i v (by omega)
  have n5 : ∀ (ρ : Mm) (i : Nat) (v : Int32), (kwi ρ (b + 2) i v).1 16 = ρ.1 16 := fun ρ i v => kwi_ne ρ i v (by omega)
  simp (disch := omega) only [kI, nI_ltI, nI_leI, nI_eq, nI_clamp, krem, pk_div, pk_mul, nI_add, forall_eq, hc, n1, n2, n3, n4, n5]
  exact ⟨by omega, by omega, by omega, h⟩
theorem cC_push {σ : Mm} {b k : Nat} {Φ : Mm → Prop} (hb : 16 < b) (hc : σ.1 b 3 = nI k) (hk : k < 8) (h : Φ (pushM σ b k)) : wp_X4_push σ b Φ := by
  refine ⟨fun ρ => ρ = σ, fun ρ e => ?_, ?_⟩
  · subst e
    exact push_tail hb hc hk h
  · rw [hc]
    exact br_t ((nI_ltI (a := k) (b := 8) (by omega) (by omega)).mpr hk) rfl
def shf (r : Nat → Int32) (i : Nat) : Nat → Int32 := fun j => if j + 1 < i then r (j + 1) else r j
theorem shf_1 (r : Nat → Int32) : shf r 1 = r := by
  funext j
  unfold shf
  rw [if_neg (by omega)]
theorem shf_s (r : Nat → Int32) {i : Nat} (hi : 1 ≤ i) : upd (shf r i) (i - 1) (shf r i i) = shf r (i + 1) := by
  funext j
  unfold shf upd
  by_cases h : j = i - 1
  · rw [if_pos h, if_neg (by omega), if_pos (by omega)]
    congr 1
    omega
  · rw [if_neg h]
    dsimp only
    by_cases h2 : j + 1 < i
    · rw [if_pos h2, if_pos (by omega)]
    · rw [if_neg h2, if_neg (by omega)]
/-- the three rows of b are moved down by one, up to i -/
def Sh (b i : Nat) (σ ρ : Mm) : Prop := ρ.1 (b + 1) = shf (σ.1 (b + 1)) i ∧ ρ.1 (b + 2) = shf (σ.1 (b + 2)) i ∧ ρ.1 (b + 3) = shf (σ.1 (b + 3)) i ∧ (∀ k, k ≠ b + 1 → k ≠ b + 2 → k ≠ b + 3 → ρ.1 k = σ.1 k) ∧ ρ.2 = σ.2
theorem cC_drop_L {σ : Mm} {b : Nat} {K : Mm → Prop} (hK : ∀ ρ, Sh b 8 σ ρ → K ρ) : ∀ (n i : Nat) (ρ : Mm), i + n = 8 → 1 ≤ i → Sh b i σ ρ → wp_X4_dropLowest_L2 b K (n + 1) ρ (nI i) := by
  intro n
  induction n with
  | zero =>
    intro i ρ h1 h2 h3
    have : i = 8 := by omega
    subst this
    exact br_t (by decide) (hK ρ h3)
  | succ n ih =>
    intro i ρ h1 h2 h3
    unfold wp_X4_dropLowest_L2
    simp (disch := omega) only [kI, nI_ltI, nI_leI, nI_eq, nI_clamp, krem, pk_div, pk_mul, nI_add, forall_eq, ksub1]
    refine br_f (by omega) ⟨by omega, by omega, by omega, by omega, by omega, by omega, ?_⟩
    obtain ⟨s1, s2, s3, s4, s5⟩ := h3
    refine ih (i + 1) _ (by omega) (by omega) ⟨?_, ?_, ?_, ?_, s5⟩
    · rw [kwi_ne _ _ _ (by omega : b + 1 ≠ b + 3), kwi_ne _ _ _ (by omega : b + 1 ≠ b + 2), kwi_same, s1, shf_s _ h2]
    · rw [kwi_ne _ _ _ (by omega : b + 2 ≠ b + 3), kwi_same, kwi_ne _ _ _ (by omega : b + 2 ≠ b + 1), s2, shf_s _ h2]
    · rw [kwi_same, kwi_ne _ _ _ (by omega : b + 3 ≠ b + 2), kwi_ne _ _ _ (by omega : b + 3 ≠ b + 1), s3, shf_s _ h2]
    · intro k a1 a2 a3
      rw [kwi_ne _ _ _ a3, kwi_ne _ _ _ a2, kwi_ne _ _ _ a1]
      exact s4 k a1 a2 a3
theorem cC_push8 {σ : Mm} {b : Nat} {Φ : Mm → Prop} (hb : 16 < b) (hc : σ.1 b 3 = nI 8) (h : ∀ ρ, Sh b 8 σ ρ → Φ (pushM (kwi ρ b 3 7) b 7)) : wp_X4_push σ b Φ := by
  refine ⟨fun ρ => Φ (pushM ρ b 7) ∧ ρ.1 b 3 = nI 7, fun ρ e => push_tail hb e.2 (by omega) e.1, ?_⟩
  rw [hc]
  refine br_f (by decide) ?_
  refine ⟨fun ρ => Sh b 8 σ ρ, fun ρ hρ ρ2 e2 => ?_, 8, ?_⟩
  · subst e2
    exact ⟨h ρ hρ, by rw [kwi_same]; rfl⟩
  · refine cC_drop_L (fun ρ hρ => hρ) 7 1 σ (by omega) (by omega) ⟨?_, ?_, ?_, fun k _ _ _ => rfl, rfl⟩ <;> rw [shf_1]
-- ===== the model
theorem cM_know_L {k : Nat} {K : Mm → Prop} {τ : Mm} (hc : τ.1 0 9 = nI k) (hk : k < 8) (h : K (kwi (kwi (kwi τ 5 (3 * k) (τ.1 4 0)) 5 (3 * k + 1) (τ.1 4 1)) 5 (3 * k + 2) (τ.1 4 2))) : wp_X11_know_L49 K 4 τ 0 := by
  have st : ∀ (n i : Nat) (ρ : Mm), i < 3 → ρ.1 0 9 = nI k → wp_X11_know_L49 K n (kwi ρ 5 (3 * k + i) (ρ.1 4 i)) (nI (i + 1)) → wp_X11_know_L49 K (n + 1) ρ (nI i) := by
    intro n i ρ hi h1 h2
    unfold wp_X11_know_L49
    simp (disch := omega) only [kI, nI_ltI, nI_leI, nI_eq, nI_clamp, krem, pk_div, pk_mul, nI_add, forall_eq, h1]
    exact br_f (by omega) ⟨by omega, by omega, h2⟩
  refine st 3 0 τ (by omega) hc (st 2 1 _ (by omega) hc (st 1 2 _ (by omega) hc ?_))
  exact br_t (by decide) h
def sh3 (r : Nat → Int32) (i : Nat) : Nat → Int32 := fun j => if j < i then r (j + 3) else r j
theorem cM_know_S {K : Mm → Prop} {τ : Mm} (hK : ∀ ρ : Mm, ρ.1 5 = sh3 (τ.1 5) 21 → (∀ k, k ≠ 5 → ρ.1 k = τ.1 k) → ρ.2 = τ.2 → K ρ) : ∀ (n i : Nat) (ρ : Mm), i + n = 21 → ρ.1 5 = sh3 (τ.1 5) i → (∀ k, k ≠ 5 → ρ.1 k = τ.1 k) → ρ.2 = τ.2 → wp_X11_know_L11 K (n + 1) ρ (nI i) := by
  intro n
  induction n with
  | zero =>
    intro i ρ h1 h2 h3 h4
    have : i = 21 := by omega
    subst this
    exact br_t (by decide) (hK ρ h2 h3 h4)
  | succ n ih =>
    intro i ρ h1 h2 h3 h4
    unfold wp_X11_know_L11
    simp (disch := omega) only [kI, nI_ltI, nI_leI, nI_eq, nI_clamp, krem, pk_div, pk_mul, nI_add, forall_eq]
    refine br_f (by omega) ⟨by omega, by omega, ?_⟩
    refine ih (i + 1) _ (by omega) ?_ (fun k hk => by rw [kwi_ne _ _ _ hk]; exact h3 k hk) h4
    rw [kwi_same, h2]
    funext j
    unfold sh3 upd
    by_cases h : j = i
    · rw [if_pos h, if_neg (by omega), if_pos (by omega), h]
    · rw [if_neg h]
      dsimp only
      by_cases h2 : j < i
      · rw [if_pos h2, if_pos (by omega)]
      · rw [if_neg h2, if_neg (by omega)]
def knowM (τ : Mm) (k : Nat) : Mm := kwi (kwi (kwi (kwi τ 5 (3 * k) (τ.1 4 0)) 5 (3 * k + 1) (τ.1 4 1)) 5 (3 * k + 2) (τ.1 4 2)) 0 9 (nI (k + 1))
theorem cM_know {k : Nat} {τ : Mm} {Φ : Mm → Prop} (hc : τ.1 0 9 = nI k) (hk : k < 8) (h : Φ (knowM τ k)) : wp_X11_know τ Φ := by
  refine ⟨fun ρ => ρ = τ, fun ρ e => ?_, ?_⟩
  · subst e
    refine ⟨fun ρ2 => Φ (kwi ρ2 0 9 (nI (k + 1))) ∧ ρ2.1 0 9 = nI k, fun ρ2 e2 ρ3 e3 => ?_, 4, cM_know_L hc hk ⟨h, hc⟩⟩
    rw [e2.2] at e3
    have : nI k + 1 = nI (k + 1) := nI_1 k
    rw [this] at e3
    rw [e3]
    exact e2.1
  · rw [hc]
    refine brn_t ?_ rfl
    intro q
    have := (nI_eq (a := k) (b := 8) (by omega) (by omega)).mp q
    omega
theorem cM_know8 {τ : Mm} {Φ : Mm → Prop} (hc : τ.1 0 9 = nI 8) (h : ∀ ρ : Mm, ρ.1 5 = sh3 (τ.1 5) 21 → (∀ k, k ≠ 5 → k ≠ 0 → ρ.1 k = τ.1 k) → ρ.1 0 = upd (τ.1 0) 9 7 → ρ.2 = τ.2 → Φ (knowM ρ 7)) : wp_X11_know τ Φ := by
  refine ⟨fun ρ => Φ (knowM ρ 7) ∧ ρ.1 0 9 = nI 7, fun ρ e => ?_, ?_⟩
  · refine ⟨fun ρ2 => Φ (kwi ρ2 0 9 8) ∧ ρ2.1 0 9 = nI 7, fun ρ2 e2 ρ3 e3 => ?_, 4, cM_know_L e.2 (by omega) ⟨e.1, e.2⟩⟩
    rw [e2.2] at e3
    rw [e3]
    exact e2.1
  · rw [hc]
    refine brn_f (by decide) ?_
    refine ⟨fun ρ => ρ.1 5 = sh3 (τ.1 5) 21 ∧ (∀ k, k ≠ 5 → ρ.1 k = τ.1 k) ∧ ρ.2 = τ.2, fun ρ hρ ρ2 e2 => ?_, 22, cM_know_S (fun ρ a b c => ⟨a, b, c⟩) 21 0 τ (by omega) ?_ (fun _ _ => rfl) rfl⟩
    · obtain ⟨a1, a2, a3⟩ := hρ
      have e9 : ρ.1 0 9 = nI 8 := by rw [a2 0 (by decide)]; exact hc
      rw [e9] at e2
      have : nI 8 - 1 = (7 : Int32) := by decide
      rw [this] at e2
      subst e2
      refine ⟨h _ ?_ ?_ ?_ a3, ?_⟩
      · rw [kwi_ne _ _ _ (by decide)]; exact a1
      · intro k b1 b2
        rw [kwi_ne _ _ _ b2]; exact a2 k b1
      · rw [kwi_same, a2 0 (by decide)]
      · rw [kwi_same]; rfl
    · funext j
      unfold sh3
      rw [if_neg (by omega)]
/-- both push: the relation of the row of moments goes on -/
theorem push_rel {g d : Nat → Int32} {σ τ : Mm} (h : RelG g d σ τ) {Φ : Mm → Prop} {Ψ : Mm → Mm → Prop} (hC : ∀ σ2 : Mm, (∀ k, k ≠ 17 → k ≠ 18 → k ≠ 19 → k ≠ 20 → σ2.1 k = σ.1 k) → σ2.2 = σ.2 → wp_X11_know τ (Ψ σ2) → Φ σ2)
    (hk : ∀ σ2 τ2, RelG g d σ2 τ2 → σ2.1 16 = σ.1 16 → τ2.1 4 = τ.1 4 → σ2.2 = σ.2 → Ψ σ2 τ2) : wp_X4_push σ 17 Φ := by
  obtain ⟨hF, hT, hN, ⟨k, hk8, d1, d2, d3⟩, hK, hG, hS, hf1, hf2⟩ := h
  by_cases h8 : k = 8
  · subst h8
    refine cC_push8 (by omega) d1 (fun ρ hρ => ?_)
    obtain ⟨s1, s2, s3, s4, s5⟩ := hρ
    have q : ∀ k, k ≠ 18 → k ≠ 19 → k ≠ 20 → ρ.1 k = σ.1 k := s4
    have s1' : ρ.1 18 = shf (σ.1 18) 8 := s1
    have s2' : ρ.1 19 = shf (σ.1 19) 8 := s2
    have s3' : ρ.1 20 = shf (σ.1 20) 8 := s3
    have e : ∀ k, k ≠ 17 → k ≠ 18 → k ≠ 19 → k ≠ 20 → (pushM (kwi ρ 17 3 7) 17 7).1 k = σ.1 k := by
      intro k a b c d
      unfold pushM
      rw [kwi_ne _ _ _ a, kwi_ne _ _ _ d, kwi_ne _ _ _ c, kwi_ne _ _ _ b, kwi_ne _ _ _ a]
      exact q k b c d
    refine hC _ e s5 (cM_know8 d2 (fun μ m1 m2 m3 m4 => ?_))
    have eM : ∀ k, k ≠ 0 → k ≠ 5 → (knowM μ 7).1 k = τ.1 k := by
      intro k a b
      unfold knowM
      rw [kwi_ne _ _ _ a, kwi_ne _ _ _ b, kwi_ne _ _ _ b, kwi_ne _ _ _ b]
      exact m2 k b a
    have e2 : (pushM (kwi ρ 17 3 7) 17 7).2 = σ.2 := s5
    have e0 : ∀ j, j ≠ 9 → (knowM μ 7).1 0 j = τ.1 0 j := by
      intro j hj
      show upd (μ.1 0) 9 _ j = _
      rw [pk_un hj, m3, pk_un hj]
    have ea : σ.1 16 = ρ.1 16 := (q 16 (by decide) (by decide) (by decide)).symm
    have eb : τ.1 4 = μ.1 4 := (m2 4 (by decide) (by decide)).symm
    refine hk _ _ ⟨hF.of (by rw [e2]) (fun i h1 h2 => e i (by omega) (by omega) (by omega) (by omega)) (eM 1 (by decide) (by decide)) (eM 2 (by decide) (by decide)), ?_, ?_, ?_, ?_, ?_, ?_, ?_, ?_⟩ (e 16 (by decide) (by decide) (by decide) (by decide)) (eM 4 (by decide) (by decide)) e2
    · rw [e 1 (by decide) (by decide) (by decide) (by decide), e 2 (by decide) (by decide) (by decide) (by decide), e0 3 (by decide), eM 3 (by decide) (by decide)]; exact hT
    · rw [e 16 (by decide) (by decide) (by decide) (by decide), eM 4 (by decide) (by decide)]; exact hN
    · have hN2 : NwR g (ρ.1 16) (μ.1 4) := by rw [← ea, ← eb]; exact hN
      have := MsR_push (g := g) (mx := 8) (k := 7) (r1 := ρ.1 18) (r2 := ρ.1 19) (r3 := ρ.1 20) (X := μ.1 5) (by omega) hN2 (fun j hj => by
        rw [s1', s2', s3', m1]
        have := d3 (j + 1) (by omega)
        have f1 : ∀ r : Nat → Int32, shf r 8 j = r (j + 1) := fun r => if_pos (by omega)
        have f2 : ∀ i, i < 21 → sh3 (τ.1 5) 21 i = τ.1 5 (i + 3) := fun i hi => if_pos hi
        rw [f1, f1, f1, f2 _ (by omega), f2 _ (by omega), f2 _ (by omega)]
        have g1 : 3 * j + 3 = 3 * (j + 1) := by omega
        have g2 : 3 * j + 1 + 3 = 3 * (j + 1) + 1 := by omega
        have g3 : 3 * j + 2 + 3 = 3 * (j + 1) + 2 := by omega
        rw [g1, g2, g3]
        exact this)
      exact this
    · rw [e 21 (by decide) (by decide) (by decide) (by decide), e 22 (by decide) (by decide) (by decide) (by decide), e 23 (by decide) (by decide) (by decide) (by decide), e 24 (by decide) (by decide) (by decide) (by decide), e0 11 (by decide), eM 6 (by decide) (by decide)]; exact hK
    · rw [e 25 (by decide) (by decide) (by decide) (by decide), e 26 (by decide) (by decide) (by decide) (by decide), e 27 (by decide) (by decide) (by decide) (by decide), e0 14 (by decide), eM 7 (by decide) (by decide), eM 8 (by decide) (by decide)]; exact hG
    · rw [e 28 (by decide) (by decide) (by decide) (by decide), e 29 (by decide) (by decide) (by decide) (by decide), e 30 (by decide) (by decide) (by decide) (by decide), e0 21 (by decide), eM 13 (by decide) (by decide), eM 14 (by decide) (by decide)]; exact hS
    · rw [e 32 (by decide) (by decide) (by decide) (by decide), e 33 (by decide) (by decide) (by decide) (by decide), e2]; exact hf1
    · rw [e 35 (by decide) (by decide) (by decide) (by decide), e 36 (by decide) (by decide) (by decide) (by decide), e2]; exact hf2
  · have e : ∀ j, j ≠ 17 → j ≠ 18 → j ≠ 19 → j ≠ 20 → (pushM σ 17 k).1 j = σ.1 j := by
      intro j a b c d
      unfold pushM
      rw [kwi_ne _ _ _ a, kwi_ne _ _ _ d, kwi_ne _ _ _ c, kwi_ne _ _ _ b]
    refine cC_push (by omega) d1 (by omega) (hC _ e rfl (cM_know d2 (by omega) ?_))
    refine hk _ _ ⟨?_, hT, hN, MsR_push (by omega) hN d3, hK, hG, hS, hf1, hf2⟩ rfl rfl rfl
    exact FP_kwiM (FP_kwiM (FP_kwiM (FP_kwiM (FP_kwi (FP_kwi (FP_kwi (FP_kwi hF (by omega)) (by omega)) (by omega)) (by omega)) (by decide)) (by decide)) (by decide)) (by decide)
