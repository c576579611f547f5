theorem lN_rem8 {T : Nat} (h : T < 1000000) : (lN T - lN T / 8 * 8).toInt32 - 1 = nI (T % 8) - 1 := by
  have e0 : lN T / lN 8 = lN (T / 8) := pk_lDiv (by omega) (by omega) (by omega)
  have e : lN T - lN T / lN 8 * lN 8 = lN (T % 8) := by rw [e0, lN_mul]; exact kremL T 8
  show (lN T - lN T / lN 8 * lN 8).toInt32 - 1 = _
  rw [e, lN_i]
theorem op_first {σ τ : Mm} (h : Rel σ τ) : wp_X10_first σ (fun r σ2 => wp_X11_first τ (fun r2 τ2 => r = r2 ∧ Rel σ2 τ2)) := by
  obtain ⟨g, d, hR⟩ := h
  obtain ⟨gs, t1, t2, t3⟩ := goals_of hR
  obtain ⟨⟨hg, hd, hok, h01, h23, hC, hCD, hM⟩, -, ⟨mi, m, fe, hmi, hm, n1, n2, n3, n4, n5, n6⟩, -, -, -, -, hf1, hf2⟩ := id hR
  have h6 := t2.1
  have hP := hg.P
  refine cC_cheapest hok.1 hg hd hC hCD hok h23 hf1 hf2 t1 t3 hm hmi n1 n2 (fun hnil σ2 L1 F1 L2 F2 a1 a2 a3 a4 a5 a6 => brn_f rfl ?_) (fun i hi hV hmin hG σ2 L1 F1 L2 F2 a1 a2 a3 a4 a5 => brn_t ?_ ?_) (fun G c T hG hup hall hT0 hT1 σ2 L1 F1 L2 F2 a1 a2 a3 a4 a5 a6 => brn_f rfl ?_)
  · refine cC_least hg a4 a6.1 a6.2 (br_t (by decide) (cM_lastGoal t2 (fun _ => br_f (by decide) (br_f (by decide) (br_t (by decide) ⟨rfl, g, d, RelG_S hR a1 a2 a3 a4 a5 rfl⟩))) (fun G hG _ => ?_)))
    rw [hnil] at hG
    exact absurd hG (Nat.not_lt_zero G)
  · intro q
    have q1 : (nI i).toInt = (-4 : Int32).toInt := by rw [q]
    rw [nI_toInt (by omega)] at q1
    have q2 : (-4 : Int32).toInt = -4 := by decide
    omega
  · refine cM_lastGoal t2 (fun q => ?_) (fun G hGl hup => ?_)
    · rw [q] at hi; exact absurd hi (Nat.not_lt_zero i)
    · refine cM_priceTo hg hd hM t2 hGl hm hmi n4 n5 (fun τ2 b1 b2 => ?_)
      rw [gV_eq]
      have := hG G hGl hup
      have := gV_B (d := d) hg mi m t3 hGl
      rw [FAR_le (by omega)]
      exact br_t (by omega) ⟨rfl, g, d, RelG_Q hR a1 a2 a3 a4 a5 b1.toQ⟩
  · refine cC_least hg a4 a6.1 a6.2 ?_
    have hv := hall G hG
    have hB := gV_B (d := d) hg mi m t3 hG
    obtain ⟨-, y2, -, y4⟩ := t2.2.2 G _ _ (gs_at hG)
    have bG : (0 ≤ nI G ∧ nI G < 6) := ⟨nI_pos' (by omega), (nI_ltI (a := G) (b := 6) (by omega) (by omega)).mpr (by omega)⟩
    have hz0 : nI (gAt gs G) = 0 ↔ gAt gs G = 0 := nI_e0 (by omega)
    have hmod : ∀ {Φ : Int32 → Mm → Prop}, (∀ τ2 : Mm, FrP τ τ2 → (gAt gs G ≠ 0 → MC τ2 (gW g d gs mi G 1)) → ((gAt gs G = 0 → Φ (-4) τ2) ∧ (¬ gAt gs G = 0 → (wp_X11_costBy τ2 (nI m) 0 (-1) (fun r7 => ((¬ r7 = nI (gV g d gs mi m G) → (∃ n : Nat, wp_X11_first_L51 Φ (nI (gV g d gs mi m G)) τ2 n 0)) ∧ (r7 = nI (gV g d gs mi m G) → Φ (-4) τ2))))))) → wp_X11_first τ Φ := by
      intro Φ k
      refine cM_lastGoal t2 (fun q => ?_) (fun G2 hG2 hup2 => ?_)
      · rw [q] at hG; exact absurd hG (Nat.not_lt_zero G)
      · have eG : G2 = G := upB_anti (hup G2 hG2) (hup2 G hG)
        subst eG
        refine cM_priceTo hg hd hM t2 hG hm hmi n4 n5 (fun τ2 b1 b2 => ?_)
        rw [gV_eq, FAR_le (by omega)]
        refine br_f (by omega) (br_f (nI_pos (by omega)) ⟨bG, ?_⟩)
        rw [nI_clamp (by omega), b1 8 (by decide) (by decide), y4, hz0, b1 4 (by decide) (by decide), n5]
        exact k τ2 b1 b2
    have hRel : ∀ τ2, FrP τ τ2 → Rel σ2 τ2 := fun τ2 b1 => ⟨g, d, RelG_Q hR a1 a2 a3 a4 a5 b1.toQ⟩
    by_cases hz : gAt gs G = 0
    · rw [hT0 hz]
      exact br_t (by decide) (hmod (fun τ2 b1 b2 => br_t hz ⟨rfl, hRel τ2 b1⟩))
    · obtain ⟨c1, c2⟩ := hT1 hz
      have hc5 := (cwt_le hg c1.1).2
      obtain ⟨c3, c4, c6⟩ := c1
      have eT : T % 8 = c := by omega
      have hls : gV g d gs mi m G = lsO g d mi (gW g d gs mi G 1) m (aP g) := by
        have e1 : gV g d gs mi m G = gW g d gs mi G 0 m := rfl
        have e2 := gW_step (d := d) (t := mi) (k := 0) (gs := gs) (G := G) (by omega) hm
        rw [e1] at hv ⊢
        cases hft : fitU gs 0 gs.length m with
        | true => rw [hft] at e2; exact e2
        | false => rw [hft] at e2; rw [e2] at hv; simp at hv
      have hWB := gW_B (d := d) hg gs mi G 1 (by have := gAt_le hG; omega)
      rw [lN_rem8 (by omega), eT]
      rw [← hls] at c4 c6
      have hcb : ∀ v c, (v ≤ 100000 ∨ v = 999999) → c ≤ 99 → cbv v c < 2 ^ 31 := fun v c q1 q2 => by
        unfold cbv; split <;> omega
      have e0 : nI (cbv (gW g d gs mi G 1 (aft g d m (mi + 0 + 1))) 0) = nI (gV g d gs mi m G) ↔ wch g d mi (gW g d gs mi G 1) m 0 = gV g d gs mi m G := nI_eq (hcb _ _ (hWB _) (by omega)) (by omega)
      cases c with
      | zero =>
        refine br_t (by decide) (hmod (fun τ2 b1 b2 => br_f hz ?_))
        refine cM_costN (k := 0) hg hd (hM.ofP b1) (b2 hz) hm hmi (by omega) (by rw [b1 4 (by decide) (by decide)]; exact n4) ?_
        rw [e0]
        exact brn_f c4 ⟨rfl, hRel τ2 b1⟩
      | succ i =>
        have hi := c3.1
        have es : nI (i + 1) - 1 = nI i := ksub1 (by omega)
        rw [es]
        refine br_f (nI_pos (by omega)) (hmod (fun τ2 b1 b2 => br_f hz ?_))
        have hMC := b2 hz
        have hM2 := hM.ofP b1
        have h4 : τ2.1 4 0 = nI mi := by rw [b1 4 (by decide) (by decide)]; exact n4
        have h41 : τ2.1 4 1 = nI m := by rw [b1 4 (by decide) (by decide)]; exact n5
        refine cM_costN (k := 0) hg hd hM2 hMC hm hmi (by omega) h4 ?_
        rw [e0]
        refine brn_t (c6 0 (by omega) trivial) ⟨i + 1, ?_⟩
        have key : ∀ r j, j + r = i → wp_X11_first_L51 (fun r2 τ2 => nI i = r2 ∧ Rel σ2 τ2) (nI (gV g d gs mi m G)) τ2 (r + 1) (nI j) := by
          intro r
          induction r with
          | zero =>
            intro j hj
            have e : j = i := by omega
            subst e
            unfold wp_X11_first_L51
            rw [h4, h41]
            refine cM_mayFeed hg hM2 hm.1 (by omega) (by omega) ?_
            rw [if_pos c3.2]
            refine ⟨False, fun q => absurd q (fun z => z), br_f (by decide) (cM_costI (k := 0) hg hd hM2 hMC hm (by omega) hmi (by omega) h4 ?_)⟩
            exact br_t (by rw [Nat.add_zero]; exact congrArg nI c4) ⟨rfl, hRel τ2 b1⟩
          | succ r ih =>
            intro j hj
            have en : nI j + 1 = nI (j + 1) := nI_1 j
            unfold wp_X11_first_L51
            rw [h4, h41, en]
            refine cM_mayFeed hg hM2 hm.1 (by omega) (by omega) ⟨_, fun z => z, ?_⟩
            have ih' := ih (j + 1) (by omega)
            by_cases hp : aPlc g j mi = m % 8
            · rw [if_pos hp]
              have hcost := hg.2.2.2.2.2.2.2.2.2.1 j (by omega)
              refine br_f (by decide) (cM_costI (k := 0) hg hd hM2 hMC hm (by omega) hmi (by omega) h4 (br_f ?_ ih'))
              rw [Nat.add_zero, nI_eq (hcb _ _ (hWB _) hcost) (by omega)]
              exact c6 (j + 1) (by omega) ⟨by omega, hp⟩
            · rw [if_neg hp]
              exact br_t rfl ih'
        exact key i 0 (by omega)
theorem nI_m4 {n : Nat} (h : n < 2 ^ 31) : ¬ nI n = -4 := by
  intro q
  have q1 : (nI n).toInt = (-4 : Int32).toInt := by rw [q]
  rw [nI_toInt h] at q1
  have q2 : (-4 : Int32).toInt = -4 := by decide
  omega
theorem cM_bars {τ : Mm} {g d : Nat → Int32} (hg : WFg g) (hd : WFd g d) (hM : FmM τ g d) {gs : List (Nat × Nat)} (hT : TdM τ 14 7 8 gs) (hl : lastA gs ≤ 40) {t m0 : Nat} (hm0 : isSt g m0) (ht : t ≤ 9999) (h4 : τ.1 4 0 = nI t) (h41 : τ.1 4 1 = nI m0) {Φ : Int32 → Mm → Prop}
    (h0 : (∀ j, j < gs.length → gV g d gs t m0 j < 999999) → ∀ τ2, FrP τ τ2 → Φ (-4) τ2)
    (h1 : ∀ i, i < gs.length → 999999 ≤ gV g d gs t m0 i → (∀ j, j < gs.length → 999999 ≤ gV g d gs t m0 j → upB gs i j = true) → ∀ τ2, FrP τ τ2 → Φ (nI i) τ2) : wp_X11_bars τ Φ := by
  have h6 := hT.1
  have key : ∀ r i (ρ : Mm) (f : Int32), i + r = gs.length → FrP τ ρ → ((f = -4 ∧ ∀ j, j < i → gV g d gs t m0 j < 999999) ∨ ∃ b, b < i ∧ f = nI b ∧ 999999 ≤ gV g d gs t m0 b ∧ ∀ j, j < i → 999999 ≤ gV g d gs t m0 j → upB gs b j = true) → wp_X11_bars_L5 Φ (r + 1) ρ f (nI i) := by
    intro r
    induction r with
    | zero =>
      intro i ρ f hi hρ hf
      have e : i = gs.length := by omega
      subst e
      unfold wp_X11_bars_L5
      rw [(hT.ofP hρ).2.1]
      refine br_t (nI_le (Nat.le_refl _) (by omega)) ?_
      rcases hf with ⟨rfl, q⟩ | ⟨b, q1, rfl, q2, q3⟩
      · exact h0 q ρ hρ
      · exact h1 b q1 q2 q3 ρ hρ
    | succ r ih =>
      intro i ρ f hi hρ hf
      have hil : i < gs.length := by omega
      have en : nI i + 1 = nI (i + 1) := nI_1 i
      have hself : upB gs i i = true := by unfold upB; simp
      unfold wp_X11_bars_L5
      rw [(hT.ofP hρ).2.1, en]
      refine br_f (nI_ge hil (by omega)) (cM_priceTo hg hd (hM.ofP hρ) (hT.ofP hρ) hil hm0 ht (by rw [hρ 4 (by decide) (by decide)]; exact h4) (by rw [hρ 4 (by decide) (by decide)]; exact h41) (fun ρ2 b1 _ => ?_))
      have hρ2 : FrP τ ρ2 := fun k q1 q2 => (b1 k q1 q2).trans (hρ k q1 q2)
      have hB := gV_B (d := d) hg t m0 hl hil
      rw [gV_eq, FAR_lt (by omega)]
      refine ⟨fun v => wp_X11_bars_L5 Φ (r + 1) ρ2 v (nI (i + 1)), fun _ z => z, fun c => ih (i + 1) ρ2 f (by omega) hρ2 ?_, fun c => ?_⟩
      · rcases hf with ⟨rfl, q⟩ | ⟨b, q1, rfl, q2, q3⟩
        · refine Or.inl ⟨rfl, fun j hj => ?_⟩
          rcases Nat.lt_or_ge j i with z | z
          · exact q j z
          · have : j = i := by omega
            subst this; exact c
        · refine Or.inr ⟨b, by omega, rfl, q2, fun j hj hV => ?_⟩
          rcases Nat.lt_or_ge j i with z | z
          · exact q3 j z hV
          · have : j = i := by omega
            subst this; omega
      · refine ⟨∀ j, j < i + 1 → 999999 ≤ gV g d gs t m0 j → upB gs i j = true, fun q => ih (i + 1) ρ2 _ (by omega) hρ2 (Or.inr ⟨i, by omega, rfl, by omega, q⟩), ?_⟩
        rcases hf with ⟨rfl, q⟩ | ⟨b, q1, rfl, q2, q3⟩
        · refine br_t rfl (fun j hj hV => ?_)
          rcases Nat.lt_or_ge j i with z | z
          · have := q j z; omega
          · have : j = i := by omega
            subst this; exact hself
        · refine br_f (nI_m4 (by omega)) (cM_isUpTo (hT.ofP hρ2) hil (by omega) ?_)
          cases hu : upB gs i b with
          | false =>
            refine br_t rfl (ih (i + 1) ρ2 _ (by omega) hρ2 (Or.inr ⟨b, by omega, rfl, q2, fun j hj hV => ?_⟩))
            rcases Nat.lt_or_ge j i with z | z
            · exact q3 j z hV
            · have : j = i := by omega
              subst this
              unfold upB at hu ⊢
              have := of_decide_eq_false hu
              exact decide_eq_true (by omega)
          | true =>
            refine br_f (by decide) (fun j hj hV => ?_)
            rcases Nat.lt_or_ge j i with z | z
            · have h3 := q3 j z hV
              unfold upB at hu h3 ⊢
              have a1 := of_decide_eq_true hu
              have a2 := of_decide_eq_true h3
              exact decide_eq_true (by omega)
            · have : j = i := by omega
              subst this; exact hself
  exact ⟨gs.length + 1, key gs.length 0 τ (-4) (by omega) (fun _ _ _ => rfl) (Or.inl ⟨rfl, fun j hj => by omega⟩)⟩
theorem op_bars {σ τ : Mm} (h : Rel σ τ) : wp_X10_bars σ (fun r σ2 => wp_X11_bars τ (fun r2 τ2 => r = r2 ∧ Rel σ2 τ2)) := by
  obtain ⟨g, d, hR⟩ := h
  obtain ⟨gs, t1, t2, t3⟩ := goals_of hR
  obtain ⟨⟨hg, hd, hok, h01, h23, hC, hCD, hM⟩, -, ⟨mi, m, fe, hmi, hm, n1, n2, n3, n4, n5, n6⟩, -, -, -, -, hf1, hf2⟩ := id hR
  refine cC_cheapest hok.1 hg hd hC hCD hok h23 hf1 hf2 t1 t3 hm hmi n1 n2 (fun hnil σ2 L1 F1 L2 F2 a1 a2 a3 a4 a5 a6 => ?_) (fun i hi hV hmin hG σ2 L1 F1 L2 F2 a1 a2 a3 a4 a5 => ?_) (fun G c T hG hup hall hT0 hT1 σ2 L1 F1 L2 F2 a1 a2 a3 a4 a5 a6 => ?_)
  · refine cM_bars hg hd hM t2 t3 hm hmi n4 n5 (fun _ τ2 b1 => ⟨rfl, g, d, RelG_Q hR a1 a2 a3 a4 a5 b1.toQ⟩) (fun i hi _ _ τ2 b1 => ?_)
    rw [hnil] at hi
    exact absurd hi (Nat.not_lt_zero i)
  · refine cM_bars hg hd hM t2 t3 hm hmi n4 n5 (fun q τ2 b1 => ?_) (fun i2 hi2 hV2 hmin2 τ2 b1 => ⟨?_, g, d, RelG_Q hR a1 a2 a3 a4 a5 b1.toQ⟩)
    · have := q i hi; omega
    · rw [upB_anti (hmin i2 hi2 hV2) (hmin2 i hi hV)]
  · refine cM_bars hg hd hM t2 t3 hm hmi n4 n5 (fun _ τ2 b1 => ⟨rfl, g, d, RelG_Q hR a1 a2 a3 a4 a5 b1.toQ⟩) (fun i2 hi2 hV2 hmin2 τ2 b1 => ?_)
    have := hall i2 hi2
    omega
