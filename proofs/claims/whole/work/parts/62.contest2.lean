def genc : Nat → Int32
  | 0 => -1
  | i + 1 => nI i
theorem ifb (a w : Bool) : ((if a then (1 : Int32) else 0) = (if w then 1 else 0)) ↔ a = w := by
  cases a <;> cases w <;> decide
theorem cC_choice {g d : Nat → Int32} {σ : Mm} {b : Nat} (h : GC g d σ b) {t s k m : Nat} {x : Int32} (hx : HM g x s k) (ht : t ≤ 9999) (hk : k < 12) (hm : isSt g m) {W : Nat → Prop} (hW : ∀ c, gok g t s k m (aP g) c → (RB σ (k + 1) (cst g (csu g d (t + k) m c)) = true ↔ W (csu g d (t + k) m c))) {win : Bool} {Φ : Int32 → Prop}
    (h1 : ∀ c, gok g t s k m (aP g) c → (W (csu g d (t + k) m c) ↔ win = true) → (∀ c2, c2 < c → gok g t s k m (aP g) c2 → ¬ (W (csu g d (t + k) m c2) ↔ win = true)) → Φ (genc c))
    (h2 : (∀ c, gok g t s k m (aP g) c → ¬ (W (csu g d (t + k) m c) ↔ win = true)) → Φ (-2)) : wp_X0_choice σ b (nI (cst g m)) (nI k) (nI (t + k)) x (if win then 1 else 0) Φ := by
  obtain ⟨hg, hd, hb, hC, hCD⟩ := id h
  have hP := hg.P
  have e1 : nI (t + k) + 1 = nI (t + k + 1) := nI_1 _
  have e2 : nI k + 1 = nI (k + 1) := nI_1 _
  have hb' : ∀ (a : Bool) (p : Prop), (a = true ↔ p) → (a = win ↔ (p ↔ win = true)) := by
    intro a p hap
    rw [← hap]
    cases a <;> cases win <;> simp
  unfold wp_X0_choice
  rw [e1, e2]
  refine cC_onward hg hd hC hCD hm (by omega) ?_
  have hst := isSt_aft (t := t + k + 1) hg hd hm
  refine cC_hasR (by omega) (cst_lt hg hst).2 ?_
  rw [ifb]
  have h0 := hb' _ _ (hW 0 trivial)
  have h0' : RB σ (k + 1) (cst g (aft g d m (t + k + 1))) = win ↔ (W (csu g d (t + k) m 0) ↔ win = true) := h0
  rw [h0']
  refine ⟨fun c => ⟨aP g + 1, ?_⟩, fun c => h1 0 trivial c (fun c2 q => absurd q (Nat.not_lt_zero c2))⟩
  have key : ∀ r i, i + r = aP g → (∀ c, gok g t s k m i c → ¬ (W (csu g d (t + k) m c) ↔ win = true)) → wp_X0_choice_L29 b (nI (cst g m)) (nI k) (nI (t + k)) x (if win then 1 else 0) σ Φ (r + 1) (nI i) := by
    intro r
    induction r with
    | zero =>
      intro i hi hn
      have e : i = aP g := by omega
      subst e
      unfold wp_X0_choice_L29 wp_X1_persons
      rw [hC.2.1]
      exact br_t (nI_le (Nat.le_refl _) (by omega)) (h2 hn)
    | succ r ih =>
      intro i hi hn
      have en : nI i + 1 = nI (i + 1) := nI_1 i
      unfold wp_X0_choice_L29 wp_X1_persons
      rw [hC.2.1, en, e1, e2, HM_t hx (by omega)]
      refine br_f (nI_ge (by omega) (by omega)) ⟨wp_X0_choice_L29 b (nI (cst g m)) (nI k) (nI (t + k)) x (if win then 1 else 0) σ Φ (r + 1) (nI (i + 1)), fun z => z, ?_⟩
      have skip : ¬ (gmv s k i ∧ aPlc g i (t + k) = m % 8) → wp_X0_choice_L29 b (nI (cst g m)) (nI k) (nI (t + k)) x (if win then 1 else 0) σ Φ (r + 1) (nI (i + 1)) := by
        intro hno
        refine ih (i + 1) (by omega) (fun c q => ?_)
        rcases gok_s.mp q with z | z
        · exact hn c z
        · exact absurd z.2 hno
      refine ⟨fun c => skip (fun q => c q.1), fun c => cC_canFeed hg hC hm (by omega) (by omega) ?_⟩
      have c' : gmv s k i := Classical.byContradiction c
      by_cases hp : aPlc g i (t + k) = m % 8
      · rw [if_pos hp]
        have hfs := isSt_fed hg hm (i := i) (by omega)
        refine br_f (by decide) (cC_fedState hg hm (by omega) (cC_onward hg hd hC hCD hfs (by omega) ?_))
        have hst2 := isSt_aft (t := t + k + 1) hg hd hfs
        refine cC_hasR (by omega) (cst_lt hg hst2).2 ?_
        have hgi : gok g t s k m (aP g) (i + 1) := ⟨by omega, c', hp⟩
        have h3 : RB σ (k + 1) (cst g (aft g d (fedm g m i) (t + k + 1))) = win ↔ (W (csu g d (t + k) m (i + 1)) ↔ win = true) := hb' _ _ (hW (i + 1) hgi)
        rw [ifb, h3]
        refine ⟨fun c2 => ih (i + 1) (by omega) (fun c q => ?_), fun c2 => h1 (i + 1) hgi c2 (fun c3 q1 q2 => hn c3 ?_)⟩
        · rcases gok_s.mp q with z | ⟨z, -⟩
          · exact hn c z
          · rw [z]; exact c2
        · cases c3 with
          | zero => trivial
          | succ j => exact ⟨by omega, q2.2⟩
      · rw [if_neg hp]
        exact br_t rfl (skip (fun q => hp q.2))
  refine key (aP g) 0 (by omega) (fun c2 q => ?_)
  cases c2 with
  | zero => exact c
  | succ j => exact absurd q.1 (Nat.not_lt_zero j)
theorem nI_m2 {n : Nat} (h : n < 2 ^ 31) : ¬ nI n = -2 := by
  intro q
  have q1 : (nI n).toInt = (-2 : Int32).toInt := by rw [q]
  rw [nI_toInt h] at q1
  have q2 : (-2 : Int32).toInt = -2 := by decide
  omega
theorem genc_ne {c : Nat} (h : c < 100) : ¬ genc c = -2 := by
  cases c with
  | zero => exact (by decide : ¬ (-1 : Int32) = -2)
  | succ i => exact nI_m2 (by omega)
/-- what wins in round k, W being what wins in the next -/
def gG (g d : Nat → Int32) (t s k : Nat) (W : Nat → Prop) (m : Nat) : Prop := if k % 2 = 0 then ∃ c, gok g t s k m (aP g) c ∧ W (csu g d (t + k) m c) else ∀ c, gok g t s k m (aP g) c → W (csu g d (t + k) m c)
theorem nI_mod2 {k : Nat} (hk : k < 2 ^ 31) : (nI k - nI k / 2 * 2 = 0) ↔ k % 2 = 0 := by
  have e1 : nI k / 2 = nI (k / 2) := pk_div (a := k) (d := 2) hk (by omega) (by omega)
  have e2 : nI (k / 2) * 2 = nI (k / 2 * 2) := pk_mul _ 2
  have e3 : nI k - nI (k / 2 * 2) = nI (k % 2) := krem k 2
  rw [e1, e2, e3]
  exact nI_e0 (by omega)
theorem cC_goBack {g d : Nat → Int32} {σ : Mm} {b : Nat} (h : GC g d σ b) {t s k : Nat} {x : Int32} (hx : HM g x s k) (ht : t ≤ 9999) (hk : k < 12) {p : Nat → Prop} (hp : ∀ m, p m → isSt g m) (hR : RS g σ k p) {W : Nat → Prop} (hW : ∀ m, p m → ∀ c, gok g t s k m (aP g) c → (RB σ (k + 1) (cst g (csu g d (t + k) m c)) = true ↔ W (csu g d (t + k) m c))) {Φ : Mm → Prop}
    (hΦ : ∀ σ2, Fr40 σ σ2 → (∀ k2, k2 ≠ k → ∀ s2, s2 < 960 → RB σ2 k2 s2 = RB σ k2 s2) → RS g σ2 k (fun m => p m ∧ gG g d t s k W m) → Φ σ2) : wp_X0_goBack σ b (nI k) (nI (t + k)) x Φ := by
  have hg := h.1
  have hd := h.2.1
  have hP := hg.P
  have hn := nst_le hg
  have key : ∀ r i (ρ : Mm), i + r = nst g → Fr40 σ ρ → (∀ k2, k2 ≠ k → ∀ s2, s2 < 960 → RB ρ k2 s2 = RB σ k2 s2) → (∀ s2, s2 < 960 → (RB ρ k s2 = true ↔ RB σ k s2 = true ∧ (s2 < i → ∀ m, p m → s2 = cst g m → gG g d t s k W m))) → wp_X0_goBack_L16 b (nI k) (nI (t + k)) x Φ (if decide (k % 2 = 0) then 1 else 0) (r + 1) ρ (nI i) := by
    intro r
    induction r with
    | zero =>
      intro i ρ hi a1 a2 a3
      have e : i = nst g := by omega
      subst e
      refine cC_states hg (h.fr a1).2.2.2.1 (br_t (nI_le (Nat.le_refl _) (by omega)) (hΦ ρ a1 a2 (fun s2 hs2 => ?_)))
      rw [a3 s2 hs2, hR s2 hs2]
      constructor
      · rintro ⟨⟨m, q1, q2⟩, q3⟩
        have := (cst_lt hg (hp m q1)).1
        exact ⟨m, ⟨q1, q3 (by rw [q2]; exact this) m q1 q2⟩, q2⟩
      · rintro ⟨m, ⟨q1, q2⟩, q3⟩
        refine ⟨⟨m, q1, q3⟩, fun _ m2 q4 q5 => ?_⟩
        have : m2 = m := cst_inj (hp m2 q4) (hp m q1) (by omega)
        rw [this]; exact q2
    | succ r ih =>
      intro i ρ hi a1 a2 a3
      have en : nI i + 1 = nI (i + 1) := nI_1 i
      unfold wp_X0_goBack_L16
      rw [en]
      refine cC_states hg (h.fr a1).2.2.2.1 (br_f (nI_ge (by omega) (by omega)) (cC_hasR (by omega) (by omega) ?_))
      refine ⟨fun ρ2 => wp_X0_goBack_L16 b (nI k) (nI (t + k)) x Φ (if decide (k % 2 = 0) then 1 else 0) (r + 1) ρ2 (nI (i + 1)), fun _ z => z, ?_⟩
      have hi960 : i < 960 := by omega
      have hh := a3 i hi960
      -- what happens where the state is kept, or put away
      have keepI : (RB ρ k i = true → ∀ m, p m → i = cst g m → gG g d t s k W m) → wp_X0_goBack_L16 b (nI k) (nI (t + k)) x Φ (if decide (k % 2 = 0) then 1 else 0) (r + 1) ρ (nI (i + 1)) := by
        intro hkp
        refine ih (i + 1) ρ (by omega) a1 a2 (fun s2 hs2 => ?_)
        rw [a3 s2 hs2]
        constructor
        · rintro ⟨q1, q2⟩
          refine ⟨q1, fun z m hm1 hm2 => ?_⟩
          by_cases e : s2 = i
          · subst e
            exact hkp (hh.mpr ⟨q1, fun z => by omega⟩) m hm1 hm2
          · exact q2 (by omega) m hm1 hm2
        · rintro ⟨q1, q2⟩
          exact ⟨q1, fun z => q2 (by omega)⟩
      cases hq : RB ρ k i with
      | false => exact br_t rfl (keepI (fun q => by rw [hq] at q; cases q))
      | true =>
        obtain ⟨m, hm1, hm2⟩ := (hR i hi960).mp (hh.mp hq).1
        have hmst := hp m hm1
        refine br_f (by decide) ?_
        have drop : ¬ gG g d t s k W m → wp_X6_remove ρ (nI k) (nI i) (fun σ12 => wp_X0_goBack_L16 b (nI k) (nI (t + k)) x Φ (if decide (k % 2 = 0) then 1 else 0) (r + 1) σ12 (nI (i + 1))) := by
          intro hno
          refine cC_removeR (by omega) hi960 (fun ρ2 f1 f2 => ih (i + 1) ρ2 (by omega) (a1.trans f1) (fun k2 hk2 s2 hs2 => ?_) (fun s2 hs2 => ?_))
          · rw [f2 k2 s2 hs2, a2 k2 hk2 s2 hs2]
            simp [hk2]
          · rw [f2 k s2 hs2, Bool.and_eq_true, a3 s2 hs2]
            by_cases e : s2 = i
            · subst e
              simp
              intro _
              exact ⟨m, hm1, hm2, hno⟩
            · simp [e]
              intro _
              exact ⟨fun q z => q (by omega), fun q z => q (by omega)⟩
        have kp : gG g d t s k W m → wp_X0_goBack_L16 b (nI k) (nI (t + k)) x Φ (if decide (k % 2 = 0) then 1 else 0) (r + 1) ρ (nI (i + 1)) := fun hy => keepI (fun _ m2 q1 q2 => by
          have : m2 = m := cst_inj (hp m2 q1) hmst (by omega)
          rw [this]; exact hy)
        have eW : ∀ c, gok g t s k m (aP g) c → (RB ρ (k + 1) (cst g (csu g d (t + k) m c)) = true ↔ W (csu g d (t + k) m c)) := fun c hc => by
          rw [a2 (k + 1) (by omega) _ (cst_lt hg (csu_st hg hd hmst hc)).2]
          exact hW m hm1 c hc
        have hce : nI i = nI (cst g m) := by rw [hm2]
        rw [hce]
        refine cC_choice (h.fr a1) hx ht hk hmst eW (fun c c1 c2 _ => ?_) (fun c1 => ?_)
        · have hc5 := gok_le c1
          refine ⟨fun v => v = 1, fun v ev => ?_, fun q => absurd q (genc_ne (by omega)), fun _ => rfl⟩
          rw [ev, ← hce]
          by_cases ho : k % 2 = 0
          · have hd1 : decide (k % 2 = 0) = true := decide_eq_true ho
            rw [hd1] at kp c2 ⊢
            refine br_t rfl (kp ?_)
            unfold gG
            rw [if_pos ho]
            exact ⟨c, c1, c2.mpr rfl⟩
          · have hd1 : decide (k % 2 = 0) = false := decide_eq_false ho
            rw [hd1] at drop c2 ⊢
            refine br_f (by decide) (drop ?_)
            unfold gG
            rw [if_neg ho]
            intro q
            have := c2.mp (q c c1)
            cases this
        · refine ⟨fun v => v = 0, fun v ev => ?_, fun _ => rfl, fun q => absurd rfl q⟩
          rw [ev, ← hce]
          by_cases ho : k % 2 = 0
          · have hd1 : decide (k % 2 = 0) = true := decide_eq_true ho
            rw [hd1] at drop c1 ⊢
            refine br_f (by decide) (drop ?_)
            unfold gG
            rw [if_pos ho]
            rintro ⟨c, q1, q2⟩
            exact c1 c q1 ⟨fun _ => rfl, fun _ => q2⟩
          · have hd1 : decide (k % 2 = 0) = false := decide_eq_false ho
            rw [hd1] at kp c1 ⊢
            refine br_t rfl (kp ?_)
            unfold gG
            rw [if_neg ho]
            intro c q1
            apply Classical.byContradiction
            intro q2
            exact c1 c q1 ⟨fun z => absurd z q2, fun z => by cases z⟩
  refine ⟨fun v => v = (if decide (k % 2 = 0) then 1 else 0), fun v ev => ⟨nst g + 1, ?_⟩, ?_⟩
  · rw [ev]
    exact key (nst g) 0 σ (by omega) (Fr40.refl σ) (fun _ _ _ _ => rfl) (fun s2 hs2 => ⟨fun q => ⟨q, fun z => by omega⟩, fun q => q.1⟩)
  · rw [nI_mod2 (by omega)]
    exact ⟨fun c => by rw [decide_eq_false c]; rfl, fun c => by rw [decide_eq_true c]; rfl⟩
theorem gwk_G {g d : Nat → Int32} {t s n y k m : Nat} (hk : k < n) : gwk g d t s n y k m ↔ gG g d t s k (gwk g d t s n y (k + 1)) m := by
  rw [gwk_step hk]
  exact Iff.rfl
theorem mvtab : ∀ P, P < 6 → ∀ s, s < 32 → ∀ i, i < P → s < 2 ^ P → (((((1 <<< (nI P &&& 31)) - 1) &&& (nI s ^^^ (-1))) >>> (nI i &&& 31)) &&& 1) = if s / 2 ^ i % 2 = 1 then (0 : Int32) else 1 := by decide +kernel
theorem evtab : ∀ P, P < 6 → ((1 : Int32) <<< (nI P &&& 31)) - 1 = nI (2 ^ P - 1) := by decide +kernel
theorem pow2P {P : Nat} (h : P ≤ 5) : 2 ^ P ≤ 32 := by
  have : (2 : Nat) ^ P ≤ 2 ^ 5 := Nat.pow_le_pow_right (by omega) h
  omega
theorem cC_movers {g d : Nat → Int32} {σ : Mm} {b : Nat} (h : GC g d σ b) {s k : Nat} (hs : s < 2 ^ aP g) (hk : k < 100) {Φ : Int32 → Prop} (hΦ : ∀ x, HM g x s k → Φ x) : wp_X0_moversIn σ b (nI k) (nI s) Φ := by
  have hP := h.1.P
  have h32 := pow2P hP.2
  unfold wp_X0_moversIn wp_X1_everybody
  rw [nI_mod2 (by omega), h.2.2.2.1.2.1]
  refine ⟨fun c => hΦ _ (fun i hi => ?_), fun c => hΦ _ (fun i hi => ?_)⟩
  · rw [mvtab (aP g) (by omega) s (by omega) i hi hs]
    unfold gmv
    by_cases q : s / 2 ^ i % 2 = 1
    · simp [q, c]
    · simp [q, c]
  · rw [kbitI (by omega) (by omega)]
    unfold gmv
    by_cases q : s / 2 ^ i % 2 = 1
    · simp [q, c]; rfl
    · have : s / 2 ^ i % 2 = 0 := by omega
      simp [this, c]; rfl
