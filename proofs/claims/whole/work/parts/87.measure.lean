def FrR1 (k0 : Nat) (σ σ2 : Mm) : Prop := (∀ k, k ≠ k0 → σ2.1 k = σ.1 k) ∧ σ2.2 = σ.2
theorem FrR1.refl (k0 : Nat) (σ : Mm) : FrR1 k0 σ σ := ⟨fun _ _ => rfl, rfl⟩
theorem FrR1.trans {k0 : Nat} {σ σ2 σ3 : Mm} (h1 : FrR1 k0 σ σ2) (h2 : FrR1 k0 σ2 σ3) : FrR1 k0 σ σ3 := ⟨fun k a => (h2.1 k a).trans (h1.1 k a), h2.2.trans h1.2⟩
theorem FrR1.kw (k0 : Nat) (σ : Mm) (j : Nat) (v : Int32) : FrR1 k0 σ (kwi σ k0 j v) := ⟨fun k a => kwi_ne _ _ _ a, rfl⟩
theorem ix8 {a c : Nat} : nI a * 8 + nI c = nI (8 * a + c) := by
  have : nI a * 8 = nI (a * 8) := pk_mul a 8
  rw [this, nI_add, Nat.mul_comm]
theorem ix8' {a c : Nat} : 8 * nI a + nI c = nI (8 * a + c) := by
  have : 8 * nI a = nI (8 * a) := pk_mul 8 a
  rw [this, nI_add]
theorem b64 {a c : Nat} (ha : a < 8) (hc : c < 8) : (0 ≤ nI (8 * a + c) ∧ nI (8 * a + c) < 64) := ⟨nI_pos' (by omega), (nI_ltI (b := 64) (by omega) (by omega)).mpr (by omega)⟩
theorem cC_dist {σ : Mm} {b a c : Nat} (ha : a < 8) (hc : c < 8) {Φ : Int32 → Prop} (h : Φ (σ.1 (b + 1) (8 * a + c))) : wp_X1_distance σ b (nI a) (nI c) Φ := by
  unfold wp_X1_distance
  rw [ix8, nI_clamp (by omega)]
  exact br_f (nI_pos (by omega)) (br_f (nI_ge (a := a) (b := 8) ha (by omega)) (br_f (nI_pos (by omega)) (br_t ((nI_ltI (b := 8) (by omega) (by omega)).mpr hc) ⟨b64 ha hc, h⟩)))
theorem cC_round {σ : Mm} {b o : Nat} (ho : o < 8) {E : Nat → Nat → Nat} (hE : ∀ a c, a < 8 → c < 8 → E a c ≤ 99) (h0 : E o o = 0) (h : Mx (σ.1 (b + 1)) E) {K : Mm → Prop} (hK : ∀ σ2, FrR1 (b + 1) σ σ2 → Mx (σ2.1 (b + 1)) (fwF o E) → K σ2) : wp_X1_measure_L10 b (nI o) K 9 σ (nI 0) := by
  have inner : ∀ f, f < 8 → ∀ (K2 : Mm → Prop) r t (ρ : Mm), t + r = 8 → FrR1 (b + 1) σ ρ → Mx (ρ.1 (b + 1)) (midM o E f t) → (∀ ρ2, FrR1 (b + 1) σ ρ2 → Mx (ρ2.1 (b + 1)) (midM o E f 8) → K2 ρ2) → wp_X1_measure_L18 b (nI o) (nI f) K2 (r + 1) ρ (nI t) := by
    intro f hf K2 r
    induction r with
    | zero =>
      intro t ρ ht a1 a2 a3
      have e : t = 8 := by omega
      subst e
      exact br_t (by decide) (a3 ρ a1 a2)
    | succ r ih =>
      intro t ρ ht a1 a2 a3
      have ht8 : t < 8 := by omega
      have en : nI t + 1 = nI (t + 1) := nI_1 t
      have m1 : ρ.1 (b + 1) (8 * f + o) = nI (E f o) := by rw [a2 f o hf ho, (mid_o h0 f t f).1]
      have m2 : ρ.1 (b + 1) (8 * o + t) = nI (E o t) := by rw [a2 o t ho ht8, (mid_o h0 f t t).2]
      have m3 : ρ.1 (b + 1) (8 * f + t) = nI (E f t) := by
        rw [a2 f t hf ht8]
        unfold midM
        rw [if_neg (by omega)]
      have b1 := hE f o hf ho
      have b2 := hE o t ho ht8
      have b3 := hE f t hf ht8
      unfold wp_X1_measure_L18
      rw [en]
      refine br_f (nI_ge (a := t) (b := 8) ht8 (by omega)) (cC_dist hf ho (cC_dist ho ht8 ?_))
      intro x4 ex4
      rw [m1, m2, nI_add] at ex4
      have le : nI (E f t) ≤ nI (E f o + E o t) ↔ E f t ≤ E f o + E o t := nI_leI (by omega) (by omega)
      rw [ex4, ix8, nI_clamp (by omega), m3, le]
      refine ⟨b64 hf ht8, fun ρ2 => wp_X1_measure_L18 b (nI o) (nI f) K2 (r + 1) ρ2 (nI (t + 1)), fun _ z => z, fun c => ?_, fun c => ⟨b64 hf ht8, fun σ9 e9 => ?_⟩⟩
      · refine ih (t + 1) ρ (by omega) a1 (Mx_same a2 ?_) a3
        unfold fwF
        rw [if_pos c]
      · subst e9
        refine ih (t + 1) _ (by omega) (a1.trans (FrR1.kw _ _ _ _)) ?_ a3
        rw [kwi_same]
        refine Mx_set hf ht8 a2 ?_
        unfold fwF
        rw [if_neg c]
  have outer : ∀ r f (ρ : Mm), f + r = 8 → FrR1 (b + 1) σ ρ → Mx (ρ.1 (b + 1)) (midM o E f 0) → wp_X1_measure_L10 b (nI o) K (r + 1) ρ (nI f) := by
    intro r
    induction r with
    | zero =>
      intro f ρ hf a1 a2
      have e : f = 8 := by omega
      subst e
      exact br_t (by decide) (hK ρ a1 (Mx_all a2))
    | succ r ih =>
      intro f ρ hf a1 a2
      have en : nI f + 1 = nI (f + 1) := nI_1 f
      unfold wp_X1_measure_L10
      rw [en]
      refine br_f (nI_ge (a := f) (b := 8) (by omega) (by omega)) ⟨fun ρ2 => wp_X1_measure_L10 b (nI o) K (r + 1) ρ2 (nI (f + 1)), fun _ z => z, 9, ?_⟩
      exact inner f (by omega) _ 8 0 ρ (by omega) a1 a2 (fun ρ2 c1 c2 => ih (f + 1) ρ2 (by omega) c1 (Mx_row c2))
  exact outer 8 0 σ (by omega) (FrR1.refl _ σ) (Mx_start h)
theorem dI99_le (g : Nat → Int32) (a c : Nat) : dI99 g a c ≤ 99 := by
  unfold dI99
  split
  · omega
  · split <;> omega
theorem dI99_aa (g : Nat → Int32) (a : Nat) : dI99 g a a = 0 := if_pos rfl
theorem dI_aa (g : Nat → Int32) (a : Nat) : dI g a a = 0 := if_pos rfl
theorem cC_lowest {σ : Mm} {b : Nat} {g : Nat → Int32} (hd : WFd g (dR g)) (h : Mx (σ.1 (b + 1)) (fw (dI99 g) 8)) {a t : Nat} (ha : a < 8) (ht : t < 8) {Φ : Int32 → Prop} (hΦ : Φ (nI (aNx g (dR g) a t))) : wp_X1_lowestNearer σ b (nI a) (nI t) Φ := by
  obtain ⟨d0, d1, d2, d3, d4⟩ := id hd
  have hv : ∀ x y, x < 8 → y < 8 → σ.1 (b + 1) (8 * x + y) = nI (if aD (dR g) x y < 99 then aD (dR g) x y else 99) := fun x y hx hy => by
    rw [h x y hx hy, fw_clamp, (dR_v hx hy).1]
  have h2 := d2 a t ha ht
  refine cC_dist ha ht ?_
  rw [hv a t ha ht]
  by_cases hinf : aD (dR g) a t < 8
  · rw [if_pos (by omega)]
    have e99 : nI (aD (dR g) a t) = 99 ↔ aD (dR g) a t = 99 := nI_eq (b := 99) (by omega) (by omega)
    rw [e99]
    refine brn_t (by omega) ⟨9, ?_⟩
    -- what is looked for at y
    have hit : ∀ y, y < 8 → (σ.1 (b + 1) (8 * a + y) = 1 ↔ aLane g a y = true) := fun y hy => by
      rw [hv a y ha hy, d4 a y ha hy]
      have := d2 a y ha hy
      have e := nI_eq (a := if aD (dR g) a y < 99 then aD (dR g) a y else 99) (b := 1) (by split <;> omega) (by omega)
      show nI _ = nI 1 ↔ _
      rw [e]
      split <;> omega
    have hit2 : ∀ y, y < 8 → (σ.1 (b + 1) (8 * y + t) = nI (aD (dR g) a t) - 1 ↔ aD (dR g) a t ≠ 0 ∧ aD (dR g) y t = aD (dR g) a t - 1) := fun y hy => by
      rw [hv y t hy ht]
      have h3 := d2 y t hy ht
      rcases Nat.eq_zero_or_pos (aD (dR g) a t) with z | z
      · rw [z]
        have e0 : nI 0 - 1 = -1 := by decide
        rw [e0]
        refine ⟨fun q => absurd q (nI_m1 (by split <;> omega)).1, fun q => absurd rfl q.1⟩
      · have e0 : nI (aD (dR g) a t) - 1 = nI (aD (dR g) a t - 1) := ksub1 z
        rw [e0, nI_eq (by split <;> omega) (by omega)]
        split <;> omega
    have key : ∀ r y, y + r = 8 → (∀ j, j < y → ¬ (aD (dR g) a t ≠ 0 ∧ aNp g (dR g) a t j = true)) → wp_X1_lowestNearer_L18 b (nI a) (nI t) σ Φ (nI (aD (dR g) a t)) (r + 1) (nI y) := by
      intro r
      induction r with
      | zero =>
        intro y hy hn
        have e : y = 8 := by omega
        subst e
        refine br_t (by decide) ?_
        have : aNx g (dR g) a t = a := by
          unfold aNx
          by_cases z : aD (dR g) a t = 0
          · rw [if_pos (Or.inl z)]
          · exfalso
            obtain ⟨n1, n2, n3⟩ := aNx_spec hd ha ht z (by omega)
            exact hn _ n1 ⟨z, n2⟩
        rw [this] at hΦ
        exact hΦ
      | succ r ih =>
        intro y hy hn
        have hy8 : y < 8 := by omega
        have en : nI y + 1 = nI (y + 1) := nI_1 y
        unfold wp_X1_lowestNearer_L18
        rw [en]
        refine br_f (nI_ge (a := y) (b := 8) hy8 (by omega)) (cC_dist ha hy8 ⟨wp_X1_lowestNearer_L18 b (nI a) (nI t) σ Φ (nI (aD (dR g) a t)) (r + 1) (nI (y + 1)), fun z => z, ?_⟩)
        have skip : ¬ (aD (dR g) a t ≠ 0 ∧ aNp g (dR g) a t y = true) → wp_X1_lowestNearer_L18 b (nI a) (nI t) σ Φ (nI (aD (dR g) a t)) (r + 1) (nI (y + 1)) := fun hno => ih (y + 1) (by omega) (fun j hj => by
          rcases Nat.lt_or_ge j y with q | q
          · exact hn j q
          · have : j = y := by omega
            rw [this]; exact hno)
        rw [hit y hy8]
        refine ⟨fun c => skip (fun q => c ?_), fun c => cC_dist hy8 ht ?_⟩
        · have := q.2
          unfold aNp at this
          exact (Bool.and_eq_true_iff.mp this).1
        · rw [hit2 y hy8]
          refine ⟨fun c2 => skip (fun q => c2 ⟨q.1, ?_⟩), fun c2 => ?_⟩
          · have := q.2
            unfold aNp at this
            exact of_decide_eq_true (Bool.and_eq_true_iff.mp this).2
          · have hp : aNp g (dR g) a t y = true := by
              unfold aNp
              rw [c, decide_eq_true c2.2]; rfl
            obtain ⟨n1, n2, n3⟩ := aNx_spec hd ha ht c2.1 (by omega)
            have : aNx g (dR g) a t = y := by
              rcases Nat.lt_trichotomy (aNx g (dR g) a t) y with q | q | q
              · exact absurd ⟨c2.1, n2⟩ (hn _ q)
              · exact q
              · rw [n3 y q] at hp; cases hp
            rw [this] at hΦ
            exact hΦ
    exact key 8 0 (by omega) (fun j hj => absurd hj (Nat.not_lt_zero j))
  · rw [if_neg (by omega)]
    refine brn_f rfl ?_
    have : aNx g (dR g) a t = a := by
      unfold aNx
      rw [if_pos (Or.inr (by omega))]
    rw [this] at hΦ
    exact hΦ
theorem cC_measure {σ : Mm} {b : Nat} {g : Nat → Int32} (hd : WFd g (dR g)) (h : FL (σ.1 (b + 1)) g) {Φ : Mm → Prop} (hΦ : ∀ σ2, (∀ k, k ≠ b + 1 → k ≠ b + 2 → σ2.1 k = σ.1 k) → σ2.2 = σ.2 → FmD σ2 b g (dR g) → Φ σ2) : wp_X1_measure σ b Φ := by
  obtain ⟨d0, d1, d2, d3, d4⟩ := id hd
  refine ⟨fun ρ => FrR1 (b + 1) σ ρ ∧ Mx (ρ.1 (b + 1)) (fw (dI99 g) 8), fun ρ hρ => ?_, 9, ?_⟩
  · obtain ⟨r1, r2⟩ := hρ
    have inner : ∀ a, a < 8 → ∀ (K2 : Mm → Prop) r t (ξ : Mm), t + r = 8 → FrR1 (b + 2) ρ ξ → (∀ x y, x < 8 → y < 8 → (x < a ∨ (x = a ∧ y < t)) → ξ.1 (b + 2) (8 * x + y) = nI (aNx g (dR g) x y)) → (∀ ξ2, FrR1 (b + 2) ρ ξ2 → (∀ x y, x < 8 → y < 8 → (x < a + 1) → ξ2.1 (b + 2) (8 * x + y) = nI (aNx g (dR g) x y)) → K2 ξ2) → wp_X1_measure_L96 b (nI a) K2 (r + 1) ξ (nI t) := by
      intro a ha K2 r
      induction r with
      | zero =>
        intro t ξ ht a1 a2 a3
        have e : t = 8 := by omega
        subst e
        exact br_t (by decide) (a3 ξ a1 (fun x y hx hy hxa => a2 x y hx hy (by omega)))
      | succ r ih =>
        intro t ξ ht a1 a2 a3
        have ht8 : t < 8 := by omega
        have en : nI t + 1 = nI (t + 1) := nI_1 t
        unfold wp_X1_measure_L96
        rw [en, ix8, nI_clamp (by omega)]
        refine br_f (nI_ge (a := t) (b := 8) ht8 (by omega)) (cC_lowest hd (by rw [a1.1 (b + 1) (by omega)]; exact r2) ha ht8 ⟨b64 ha ht8, fun σ9 e9 => ?_⟩)
        subst e9
        refine ih (t + 1) _ (by omega) (a1.trans (FrR1.kw _ _ _ _)) (fun x y hx hy hxy => ?_) a3
        rw [kwi_same]
        by_cases q : x = a ∧ y = t
        · obtain ⟨q1, q2⟩ := q
          subst q1 q2
          exact upd_at _ _ _
        · rw [pk_un (by omega)]; exact a2 x y hx hy (by omega)
    have outer : ∀ r a (ξ : Mm), a + r = 8 → FrR1 (b + 2) ρ ξ → (∀ x y, x < 8 → y < 8 → x < a → ξ.1 (b + 2) (8 * x + y) = nI (aNx g (dR g) x y)) → wp_X1_measure_L88 b Φ (r + 1) ξ (nI a) := by
      intro r
      induction r with
      | zero =>
        intro a ξ ha a1 a2
        have e : a = 8 := by omega
        subst e
        refine br_t (by decide) (hΦ ξ (fun k k1 k2 => by rw [a1.1 k k2, r1.1 k k1]) (a1.2.trans r1.2) (fun x y hx hy => ⟨?_, a2 x y hx hy hx⟩))
        rw [a1.1 (b + 1) (by omega), r2 x y hx hy, fw_clamp, (dR_v hx hy).1]
        have := d2 x y hx hy
        rw [(dR_v hx hy).1] at this
        generalize fw (dI g) 8 x y = w at this
        have ew : (if w < 99 then w else 99) = (if w < 8 then w else 99) := by split <;> split <;> omega
        rw [ew]
      | succ r ih =>
        intro a ξ ha a1 a2
        have en : nI a + 1 = nI (a + 1) := nI_1 a
        unfold wp_X1_measure_L88
        rw [en]
        refine br_f (nI_ge (a := a) (b := 8) (by omega) (by omega)) ⟨fun ξ2 => wp_X1_measure_L88 b Φ (r + 1) ξ2 (nI (a + 1)), fun _ z => z, 9, ?_⟩
        exact inner a (by omega) _ 8 0 ξ (by omega) a1 (fun x y hx hy hxy => a2 x y hx hy (by omega)) (fun ξ2 c1 c2 => ih (a + 1) ξ2 (by omega) c1 c2)
    exact ⟨9, outer 8 0 ρ (by omega) (FrR1.refl _ ρ) (fun x y _ _ hx => absurd hx (Nat.not_lt_zero x))⟩
  · have key : ∀ r o (ρ : Mm), o + r = 8 → FrR1 (b + 1) σ ρ → Mx (ρ.1 (b + 1)) (fw (dI99 g) o) → wp_X1_measure_L2 b (fun ρ => FrR1 (b + 1) σ ρ ∧ Mx (ρ.1 (b + 1)) (fw (dI99 g) 8)) (r + 1) ρ (nI o) := by
      intro r
      induction r with
      | zero =>
        intro o ρ ho a1 a2
        have e : o = 8 := by omega
        subst e
        exact br_t (by decide) ⟨a1, a2⟩
      | succ r ih =>
        intro o ρ ho a1 a2
        have en : nI o + 1 = nI (o + 1) := nI_1 o
        unfold wp_X1_measure_L2
        rw [en]
        refine br_f (nI_ge (a := o) (b := 8) (by omega) (by omega)) ⟨fun ρ2 => wp_X1_measure_L2 b (fun ρ => FrR1 (b + 1) σ ρ ∧ Mx (ρ.1 (b + 1)) (fw (dI99 g) 8)) (r + 1) ρ2 (nI (o + 1)), fun _ z => z, 9, ?_⟩
        refine cC_round (by omega) (fun a c _ _ => ?_) (fw_00 (dI99 g) (fun a _ => dI99_aa g a) o o (by omega)) a2 (fun ρ2 c1 c2 => ih (o + 1) ρ2 (by omega) (a1.trans c1) c2)
        have := fw_le (dI99 g) a c o
        have := dI99_le g a c
        omega
    exact key 8 0 σ (by omega) (FrR1.refl _ σ) h
-- ===== the model begins
theorem cM_round {τ : Mm} {o : Nat} (ho : o < 8) {E : Nat → Nat → Nat} (hE : ∀ a c, a < 8 → c < 8 → E a c ≤ 999999) (h0 : E o o = 0) (h : Mx (τ.1 2) E) {K : Mm → Prop} (hK : ∀ τ2, FrR1 2 τ τ2 → Mx (τ2.1 2) (fwF o E) → K τ2) : wp_X11_begin_L80 (nI o) K 9 τ (nI 0) := by
  have inner : ∀ f, f < 8 → ∀ (K2 : Mm → Prop) r t (ρ : Mm), t + r = 8 → FrR1 2 τ ρ → Mx (ρ.1 2) (midM o E f t) → (∀ ρ2, FrR1 2 τ ρ2 → Mx (ρ2.1 2) (midM o E f 8) → K2 ρ2) → wp_X11_begin_L88 (nI o) (nI f) K2 (r + 1) ρ (nI t) := by
    intro f hf K2 r
    induction r with
    | zero =>
      intro t ρ ht a1 a2 a3
      have e : t = 8 := by omega
      subst e
      exact br_t (by decide) (a3 ρ a1 a2)
    | succ r ih =>
      intro t ρ ht a1 a2 a3
      have ht8 : t < 8 := by omega
      have en : nI t + 1 = nI (t + 1) := nI_1 t
      have m1 : ρ.1 2 (8 * f + o) = nI (E f o) := by rw [a2 f o hf ho, (mid_o h0 f t f).1]
      have m2 : ρ.1 2 (8 * o + t) = nI (E o t) := by rw [a2 o t ho ht8, (mid_o h0 f t t).2]
      have m3 : ρ.1 2 (8 * f + t) = nI (E f t) := by
        rw [a2 f t hf ht8]
        unfold midM
        rw [if_neg (by omega)]
      have b1 := hE f o hf ho
      have b2 := hE o t ho ht8
      have b3 := hE f t hf ht8
      unfold wp_X11_begin_L88
      rw [en, ix8', ix8', ix8', nI_clamp (by omega), nI_clamp (by omega), nI_clamp (by omega), m1, m2, nI_add]
      refine br_f (nI_ge (a := t) (b := 8) ht8 (by omega)) ⟨b64 hf ho, b64 ho ht8, fun x4 ex4 => ?_⟩
      have le : nI (E f t) ≤ nI (E f o + E o t) ↔ E f t ≤ E f o + E o t := nI_leI (by omega) (by omega)
      rw [ex4, m3, le]
      refine ⟨b64 hf ht8, fun v => v = nI (fwF o E f t), fun v ev => ⟨b64 hf ht8, fun σ9 e9 => ?_⟩, fun c => ⟨b64 hf ht8, ?_⟩, fun c => ?_⟩
      · subst e9 ev
        refine ih (t + 1) _ (by omega) (a1.trans (FrR1.kw _ _ _ _)) ?_ a3
        rw [kwi_same]
        exact Mx_set hf ht8 a2 rfl
      · unfold fwF
        rw [if_pos c]
      · unfold fwF
        rw [if_neg c]
  have outer : ∀ r f (ρ : Mm), f + r = 8 → FrR1 2 τ ρ → Mx (ρ.1 2) (midM o E f 0) → wp_X11_begin_L80 (nI o) K (r + 1) ρ (nI f) := by
    intro r
    induction r with
    | zero =>
      intro f ρ hf a1 a2
      have e : f = 8 := by omega
      subst e
      exact br_t (by decide) (hK ρ a1 (Mx_all a2))
    | succ r ih =>
      intro f ρ hf a1 a2
      have en : nI f + 1 = nI (f + 1) := nI_1 f
      unfold wp_X11_begin_L80
      rw [en]
      refine br_f (nI_ge (a := f) (b := 8) (by omega) (by omega)) ⟨fun ρ2 => wp_X11_begin_L80 (nI o) K (r + 1) ρ2 (nI (f + 1)), fun _ z => z, 9, ?_⟩
      exact inner f (by omega) _ 8 0 ρ (by omega) a1 a2 (fun ρ2 c1 c2 => ih (f + 1) ρ2 (by omega) c1 (Mx_row c2))
  exact outer 8 0 τ (by omega) (FrR1.refl _ τ) (Mx_start h)
theorem dI_le (g : Nat → Int32) (a c : Nat) : dI g a c ≤ 999999 := by
  unfold dI
  split
  · omega
  · split <;> omega
theorem cM_begin {τ : Mm} {g : Nat → Int32} (hg : ∀ a, a < 8 → gN g (4 + a) < 256) (h : ∀ k, k < 82 → τ.1 1 k = nI (gN g k)) {Φ : Mm → Prop}
    (hΦ : ∀ τ2, (∀ k, k ≠ 0 → k ≠ 2 → k ≠ 4 → τ2.1 k = τ.1 k) → (∀ j, j ≠ 9 → j ≠ 11 → j ≠ 14 → j ≠ 21 → τ2.1 0 j = τ.1 0 j) → τ2.1 0 9 = 0 → τ2.1 0 11 = 0 → τ2.1 0 14 = 0 → τ2.1 0 21 = 0 → τ2.1 4 0 = 0 → τ2.1 4 1 = nI (aC g) → τ2.1 4 2 = 0 → (∀ k, k < 64 → τ2.1 2 k = nI (gN (dR g) k)) → Φ τ2) : wp_X11_begin τ Φ := by
  refine ⟨fun ρ => FrR1 2 τ ρ ∧ Mx (ρ.1 2) (dI g), fun ρ hρ => ?_, 9, ?_⟩
  · refine ⟨fun ρ => FrR1 2 τ ρ ∧ Mx (ρ.1 2) (fw (dI g) 8), fun ρ2 hρ2 => ?_, 9, ?_⟩
    · obtain ⟨r1, r2⟩ := hρ2
      intro σ3 e3 σ4 e4 σ5 e5 σ6 e6 σ7 e7 σ8 e8 σ9 e9
      have e13 : σ3.1 1 3 = nI (aC g) := by
        rw [e3, kwi_ne _ _ _ (by decide), r1.1 1 (by decide)]; exact h 3 (by omega)
      rw [e13] at e4
      have ek : ∀ k, k ≠ 0 → k ≠ 4 → σ9.1 k = ρ2.1 k := fun k k0 k4 => by
        rw [e9, kwi_ne _ _ _ k0, e8, kwi_ne _ _ _ k0, e7, kwi_ne _ _ _ k0, e6, kwi_ne _ _ _ k0, e5, kwi_ne _ _ _ k4, e4, kwi_ne _ _ _ k4, e3, kwi_ne _ _ _ k4]
      have e0 : σ9.1 0 = upd (upd (upd (upd (ρ2.1 0) 9 0) 11 0) 14 0) 21 0 := by
        rw [e9, kwi_same, e8, kwi_same, e7, kwi_same, e6, kwi_same, e5, kwi_ne _ _ _ (by decide), e4, kwi_ne _ _ _ (by decide), e3, kwi_ne _ _ _ (by decide)]
      have e44 : σ9.1 4 = upd (upd (upd (ρ2.1 4) 0 0) 1 (nI (aC g))) 2 0 := by
        rw [e9, kwi_ne _ _ _ (by decide), e8, kwi_ne _ _ _ (by decide), e7, kwi_ne _ _ _ (by decide), e6, kwi_ne _ _ _ (by decide), e5, kwi_same, e4, kwi_same, e3, kwi_same]
      refine hΦ σ9 (fun k k0 k2 k4 => by rw [ek k k0 k4, r1.1 k k2]) (fun j j9 j11 j14 j21 => ?_) ?_ ?_ ?_ ?_ ?_ ?_ ?_ (fun k hk => ?_)
      · rw [e0, pk_un j21, pk_un j14, pk_un j11, pk_un j9, r1.1 0 (by decide)]
      · rw [e0]; rfl
      · rw [e0]; rfl
      · rw [e0]; rfl
      · rw [e0]; rfl
      · rw [e44]; rfl
      · rw [e44]; rfl
      · rw [e44]; rfl
      · rw [ek 2 (by decide) (by decide)]
        have := r2 (k / 8) (k % 8) (by omega) (by omega)
        have ei : 8 * (k / 8) + k % 8 = k := by omega
        rw [ei] at this
        rw [this]
        unfold gN dR
        have hb := (dR_v (g := g) (a := k / 8) (b := k % 8) (by omega) (by omega)).2
        rw [nI_clamp (by omega)]
    · have key : ∀ r o (ξ : Mm), o + r = 8 → FrR1 2 τ ξ → Mx (ξ.1 2) (fw (dI g) o) → wp_X11_begin_L72 (fun ρ => FrR1 2 τ ρ ∧ Mx (ρ.1 2) (fw (dI g) 8)) (r + 1) ξ (nI o) := by
        intro r
        induction r with
        | zero =>
          intro o ξ ho a1 a2
          have e : o = 8 := by omega
          subst e
          exact br_t (by decide) ⟨a1, a2⟩
        | succ r ih =>
          intro o ξ ho a1 a2
          have en : nI o + 1 = nI (o + 1) := nI_1 o
          unfold wp_X11_begin_L72
          rw [en]
          refine br_f (nI_ge (a := o) (b := 8) (by omega) (by omega)) ⟨fun ρ2 => wp_X11_begin_L72 (fun ρ => FrR1 2 τ ρ ∧ Mx (ρ.1 2) (fw (dI g) 8)) (r + 1) ρ2 (nI (o + 1)), fun _ z => z, 9, ?_⟩
          refine cM_round (by omega) (fun a c _ _ => ?_) (fw_00 (dI g) (fun a _ => dI_aa g a) o o (by omega)) a2 (fun ρ2 c1 c2 => ih (o + 1) ρ2 (by omega) (a1.trans c1) c2)
          have := fw_le (dI g) a c o
          have := dI_le g a c
          omega
      exact key 8 0 ρ (by omega) hρ.1 hρ.2
  · have inner : ∀ a, a < 8 → ∀ (K2 : Mm → Prop) r t (ξ : Mm), t + r = 8 → FrR1 2 τ ξ → (∀ x y, x < 8 → y < 8 → (x < a ∨ (x = a ∧ y < t)) → ξ.1 2 (8 * x + y) = nI (dI g x y)) → (∀ ξ2, FrR1 2 τ ξ2 → (∀ x y, x < 8 → y < 8 → (x < a + 1) → ξ2.1 2 (8 * x + y) = nI (dI g x y)) → K2 ξ2) → wp_X11_begin_L10 (nI a) K2 (r + 1) ξ (nI t) := by
      intro a ha K2 r
      induction r with
      | zero =>
        intro t ξ ht a1 a2 a3
        have e : t = 8 := by omega
        subst e
        exact br_t (by decide) (a3 ξ a1 (fun x y hx hy hxa => a2 x y hx hy (by omega)))
      | succ r ih =>
        intro t ξ ht a1 a2 a3
        have ht8 : t < 8 := by omega
        have en : nI t + 1 = nI (t + 1) := nI_1 t
        have i4 : (4 : Int32) + nI a = nI (4 + a) := nI_add 4 a
        have e4 : ξ.1 1 (4 + a) = nI (gN g (4 + a)) := by rw [a1.1 1 (by decide)]; exact h (4 + a) (by omega)
        have h256 := hg a ha
        have eq : nI a = nI t ↔ a = t := nI_eq (by omega) (by omega)
        unfold wp_X11_begin_L10
        rw [en, ix8', i4, nI_clamp (by omega), nI_clamp (by omega), e4, kbitI (by omega) (by omega), eq]
        have e1 : nI (gN g (4 + a) / 2 ^ t % 2) = 1 ↔ gN g (4 + a) / 2 ^ t % 2 = 1 := nI_eq (b := 1) (by omega) (by omega)
        rw [e1]
        refine br_f (nI_ge (a := t) (b := 8) ht8 (by omega)) ⟨fun v => v = nI (dI g a t), fun v ev => ⟨b64 ha ht8, fun σ9 e9 => ?_⟩, fun c => ⟨⟨nI_pos' (by omega), (nI_ltI (b := 164) (by omega) (by omega)).mpr (by omega)⟩, fun c2 => ?_, fun c2 => ?_⟩, fun c => ?_⟩
        · subst e9 ev
          refine ih (t + 1) _ (by omega) (a1.trans (FrR1.kw _ _ _ _)) (fun x y hx hy hxy => ?_) a3
          rw [kwi_same]
          by_cases q : x = a ∧ y = t
          · obtain ⟨q1, q2⟩ := q
            subst q1 q2
            exact upd_at _ _ _
          · rw [pk_un (by omega)]; exact a2 x y hx hy (by omega)
        · have : aLane g a t = false := by unfold aLane; rw [testBit_dm]; exact decide_eq_false c2
          unfold dI
          rw [if_neg c, this]; rfl
        · have : aLane g a t = true := by unfold aLane; rw [testBit_dm]; exact decide_eq_true c2
          unfold dI
          rw [if_neg c, this]; rfl
        · unfold dI
          rw [if_pos c]; rfl
    have outer : ∀ r a (ξ : Mm), a + r = 8 → FrR1 2 τ ξ → (∀ x y, x < 8 → y < 8 → x < a → ξ.1 2 (8 * x + y) = nI (dI g x y)) → wp_X11_begin_L2 (fun ρ => FrR1 2 τ ρ ∧ Mx (ρ.1 2) (dI g)) (r + 1) ξ (nI a) := by
      intro r
      induction r with
      | zero =>
        intro a ξ ha a1 a2
        have e : a = 8 := by omega
        subst e
        exact br_t (by decide) ⟨a1, fun x y hx hy => a2 x y hx hy hx⟩
      | succ r ih =>
        intro a ξ ha a1 a2
        have en : nI a + 1 = nI (a + 1) := nI_1 a
        unfold wp_X11_begin_L2
        rw [en]
        refine br_f (nI_ge (a := a) (b := 8) (by omega) (by omega)) ⟨fun ξ2 => wp_X11_begin_L2 (fun ρ => FrR1 2 τ ρ ∧ Mx (ρ.1 2) (dI g)) (r + 1) ξ2 (nI (a + 1)), fun _ z => z, 9, ?_⟩
        exact inner a (by omega) _ 8 0 ξ (by omega) a1 (fun x y hx hy hxy => a2 x y hx hy (by omega)) (fun ξ2 c1 c2 => ih (a + 1) ξ2 (by omega) c1 c2)
    exact outer 8 0 τ (by omega) (FrR1.refl _ τ) (fun x y _ _ hx => absurd hx (Nat.not_lt_zero x))
