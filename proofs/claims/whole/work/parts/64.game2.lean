theorem nar1 : vp_nar .boolean 1 = 1 := by decide
theorem nar0 : vp_nar .boolean 0 = 0 := by decide
theorem TdM.ofW {τ τ2 : Mm} {gs : List (Nat × Nat)} (h : TdM τ 14 7 8 gs) (e : FrW τ τ2) : TdM τ2 14 7 8 gs := by
  unfold TdM at *
  rw [e 0 (by decide) (by decide), e 7 (by decide) (by decide), e 8 (by decide) (by decide)]
  exact h
theorem FmM.ofW {τ τ2 : Mm} {g d : Nat → Int32} (h : FmM τ g d) (e : FrW τ τ2) : FmM τ2 g d := h.of (e 1 (by decide) (by decide)) (e 2 (by decide) (by decide))
theorem FrW.trans {τ τ2 τ3 : Mm} (h1 : FrW τ τ2) (h2 : FrW τ2 τ3) : FrW τ τ3 := fun k a b => (h2 k a b).trans (h1 k a b)
theorem kwi_W {τ : Mm} {c j : Nat} {v : Int32} (h : c = 11 ∨ c = 12) : FrW τ (kwi τ c j v) := fun k a b => kwi_ne _ _ _ (by omega)
/-- the model's game, up to the last choice -/
theorem cM_game {τ : Mm} {g d : Nat → Int32} (hg : WFg g) (hd : WFd g d) (hM : FmM τ g d) {t s n y m0 : Nat} {w : Int32} (hs : s < 2 ^ aP g) (ht : t ≤ 9999) (hn1 : 1 ≤ n) (hn : n ≤ 12) (hy : y < aN g) (hw : w = 0 ∨ w = 1) (hm0 : isSt g m0) (h4 : τ.1 4 0 = nI t) (h41 : τ.1 4 1 = nI m0) {Φ : Int32 → Mm → Prop}
    (h1 : ∀ c, gok g t s 0 m0 (aP g) c → gwk g d t s n y 1 (csu g d (t + 0) m0 c) → (∀ c2, c2 < c → gok g t s 0 m0 (aP g) c2 → ¬ gwk g d t s n y 1 (csu g d (t + 0) m0 c2)) → ∀ τ2, FrW τ τ2 → Φ (if w = 0 then 1 else if c = 0 then -4 else genc c) τ2)
    (h2 : (∀ c, gok g t s 0 m0 (aP g) c → ¬ gwk g d t s n y 1 (csu g d (t + 0) m0 c)) → ∀ τ2, FrW τ τ2 → Φ (if w = 0 then 0 else -4) τ2) : wp_X11_game τ (nI n) (nI y) (nI s) w Φ := by
  have hP := hg.P
  have hN := hg.N
  have h32 := pow2P hP.2
  have q1 : τ.1 1 1 = nI (aP g) := hM.1 1 (by omega)
  refine cM_in1 (lo := 1) (hi := 12) hn1 hn (by omega) (br_f (by decide) (cM_isYard hg hM (fun _ => br_f (by decide) ?_) (fun q => absurd ⟨y, hy, rfl⟩ q)))
  rw [q1, evtab (aP g) (by omega)]
  refine cM_in1 (lo := 0) (by omega) (by omega) (by omega) (br_f (by decide) (cM_in01 (fun _ => brn_t (by decide) ?_) (fun q => absurd hw q)))
  -- the last round
  refine ⟨fun ρ => FrW τ ρ ∧ MG g ρ (gwk g d t s n y n), fun ρ hρ => ?_, 1009, ?_⟩
  · intro x5 ex5
    have e5 : nI n - 1 = nI (n - 1) := ksub1 hn1
    rw [ex5, e5]
    refine ⟨fun ρ => FrW τ ρ ∧ MG g ρ (gwk g d t s n y 1), fun ρ2 hρ2 => ?_, n, ?_⟩
    · -- the first choice
      obtain ⟨r1, r2⟩ := hρ2
      have hM2 := hM.ofW r1
      have h42 : ρ2.1 4 0 = nI t := by rw [r1 4 (by decide) (by decide)]; exact h4
      have h412 : ρ2.1 4 1 = nI m0 := by rw [r1 4 (by decide) (by decide)]; exact h41
      rw [h412]
      have hgG : gG g d t s 0 (gwk g d t s n y 1) m0 ↔ ∃ c, gok g t s 0 m0 (aP g) c ∧ gwk g d t s n y 1 (csu g d (t + 0) m0 c) := by
        unfold gG
        rw [if_pos rfl]
      refine cM_canWin (k := 0) hg hd hM2 r2 hm0 hs ht (by omega) h42 (fun z => ?_) (fun z => ?_)
      · -- it wins
        have hfst : ∃ c, gok g t s 0 m0 (aP g) c ∧ gwk g d t s n y 1 (csu g d (t + 0) m0 c) ∧ ∀ c2, c2 < c → gok g t s 0 m0 (aP g) c2 → ¬ gwk g d t s n y 1 (csu g d (t + 0) m0 c2) := by
          obtain ⟨c, c1, c2⟩ := hgG.mp z
          have key : ∀ N c, c ≤ N → gok g t s 0 m0 (aP g) c → gwk g d t s n y 1 (csu g d (t + 0) m0 c) → ∃ c, gok g t s 0 m0 (aP g) c ∧ gwk g d t s n y 1 (csu g d (t + 0) m0 c) ∧ ∀ c2, c2 < c → gok g t s 0 m0 (aP g) c2 → ¬ gwk g d t s n y 1 (csu g d (t + 0) m0 c2) := by
            intro N
            induction N with
            | zero =>
              intro c a1 a2 a3
              exact ⟨c, a2, a3, fun c2 q => by omega⟩
            | succ N ih =>
              intro c a1 a2 a3
              by_cases hex : ∃ c2, c2 < c ∧ gok g t s 0 m0 (aP g) c2 ∧ gwk g d t s n y 1 (csu g d (t + 0) m0 c2)
              · obtain ⟨c2, b1, b2, b3⟩ := hex
                exact ih c2 (by omega) b2 b3
              · exact ⟨c, a2, a3, fun c2 b1 b2 b3 => hex ⟨c2, b1, b2, b3⟩⟩
          exact key c c (Nat.le_refl _) c1 c2
        obtain ⟨c, c1, c2, c3⟩ := hfst
        have hfin := h1 c c1 c2 c3 ρ2 r1
        refine ⟨fun hw0 => br_f (by decide) ?_, fun hw0 => br_f (by decide) (by rw [if_pos hw0] at hfin; exact hfin)⟩
        rw [if_neg hw0] at hfin
        cases c with
        | zero =>
          rw [if_pos rfl] at hfin
          exact cM_wonN (k := 0) hg hd hM2 r2 hm0 ht (by omega) h42 (fun _ => br_f (by decide) hfin) (fun q => absurd c2 q)
        | succ i =>
          rw [if_neg (by omega)] at hfin
          refine cM_wonN (k := 0) hg hd hM2 r2 hm0 ht (by omega) h42 (fun q => absurd q (c3 0 (by omega) trivial)) (fun q => br_t rfl ⟨i + 1, ?_⟩)
          have hi := c1.1
          have hx : HM g (nI s) s 0 := fun i hi => by
            rw [kbitI (by omega) (by omega)]
            unfold gmv
            by_cases q : s / 2 ^ i % 2 = 1
            · simp [q]; rfl
            · have : s / 2 ^ i % 2 = 0 := by omega
              simp [this]; rfl
          have key : ∀ r j, j + r = i → wp_X11_game_L239 (nI s) Φ ρ2 (r + 1) (nI j) := by
            intro r
            induction r with
            | zero =>
              intro j hj
              have e : j = i := by omega
              subst e
              unfold wp_X11_game_L239
              rw [h42, h412, HM_t hx (by omega)]
              refine ⟨False, fun q => absurd q (fun z => z), br_f (fun q => q c1.2.1) (cM_mayFeed hg hM2 hm0.1 (by omega) (by omega) ?_)⟩
              have hpp : aPlc g j t = m0 % 8 := c1.2.2
              rw [if_pos hpp]
              exact br_f (by decide) (cM_wonI (k := 0) hg hd hM2 r2 hm0 (by omega) ht (by omega) h42 (fun _ => brn_t (by decide) hfin) (fun q => absurd c2 q))
            | succ r ih =>
              intro j hj
              have en : nI j + 1 = nI (j + 1) := nI_1 j
              have ih' := ih (j + 1) (by omega)
              unfold wp_X11_game_L239
              rw [h42, h412, en, HM_t hx (by omega)]
              refine ⟨_, fun z => z, fun _ => ih', fun q => cM_mayFeed hg hM2 hm0.1 (by omega) (by omega) ?_⟩
              by_cases hp : aPlc g j t = m0 % 8
              · rw [if_pos hp]
                have hgj : gok g t s 0 m0 (aP g) (j + 1) := ⟨by omega, Classical.byContradiction q, hp⟩
                exact br_f (by decide) (cM_wonI (k := 0) hg hd hM2 r2 hm0 (by omega) ht (by omega) h42 (fun w => absurd w (c3 (j + 1) (by omega) hgj)) (fun _ => brn_f rfl ih'))
              · rw [if_neg hp]
                exact br_t rfl ih'
          exact key i 0 (by omega)
      · have hfin := h2 (fun c c1 c2 => z (hgG.mpr ⟨c, c1, c2⟩)) ρ2 r1
        exact ⟨fun hw0 => br_t rfl (by rw [if_neg hw0] at hfin; exact hfin), fun hw0 => br_t rfl (by rw [if_pos hw0] at hfin; exact hfin)⟩
    · -- round by round
      have key : ∀ k (μ : Mm), k < n → FrW τ μ → MG g μ (gwk g d t s n y (k + 1)) → wp_X11_game_L91 (nI s) (fun ρ => FrW τ ρ ∧ MG g ρ (gwk g d t s n y 1)) (k + 1) μ (nI k) := by
        intro k
        induction k with
        | zero =>
          intro μ hk c1 c2
          exact br_t (by decide) ⟨c1, c2⟩
        | succ k ih =>
          intro μ hk c1 c2
          have em : nI (k + 1) + -1 = nI k := pk_m1 k
          have h42 : μ.1 4 0 = nI t := by rw [c1 4 (by decide) (by decide)]; exact h4
          unfold wp_X11_game_L91
          rw [em]
          refine br_f (fun q => ?_) ⟨fun ν => FrW τ ν ∧ ∀ x, x < 1008 → ((isSt g x ∧ gwk g d t s n y (k + 1) x → ν.1 12 x = 1) ∧ (¬ (isSt g x ∧ gwk g d t s n y (k + 1) x) → ν.1 12 x = 0)), fun ν hν => ?_, 1009, ?_⟩
          · have := (nI_leI (a := k + 1) (b := 0) (by omega) (by omega)).mp q
            omega
          · -- the copy
            refine ⟨fun ξ => FrW τ ξ ∧ MG g ξ (gwk g d t s n y (k + 1)), fun ξ hξ => ih ξ (by omega) hξ.1 hξ.2, 1009, ?_⟩
            have cp : ∀ r i (ξ : Mm), i + r = 1008 → FrW τ ξ → ξ.1 12 = ν.1 12 → (∀ x, x < i → ((isSt g x ∧ gwk g d t s n y (k + 1) x → ξ.1 11 x = 1) ∧ (¬ (isSt g x ∧ gwk g d t s n y (k + 1) x) → ξ.1 11 x = 0))) → wp_X11_game_L149 (fun ξ => FrW τ ξ ∧ MG g ξ (gwk g d t s n y (k + 1))) (r + 1) ξ (nI i) := by
              intro r
              induction r with
              | zero =>
                intro i ξ hi d1 d2 d3
                have e : i = 1008 := by omega
                subst e
                exact br_t (by decide) ⟨d1, fun m hm => ⟨fun z => (d3 m hm.1).1 ⟨hm, z⟩, fun z => (d3 m hm.1).2 (fun q => z q.2)⟩⟩
              | succ r ihr =>
                intro i ξ hi d1 d2 d3
                have hi' : i < 1008 := by omega
                have en : nI i + 1 = nI (i + 1) := nI_1 i
                unfold wp_X11_game_L149
                rw [nI_clamp (by omega), en, d2]
                refine br_f (n1008 hi') ⟨b1008 hi', b1008 hi', fun ρ4 e4 => ?_⟩
                subst e4
                refine ihr (i + 1) _ (by omega) (d1.trans (kwi_W (Or.inl rfl))) (by rw [kwi_ne _ _ _ (by decide)]; exact d2) (fun x hx => ?_)
                rw [kwi_same]
                by_cases e : x = i
                · subst e
                  rw [upd_at]
                  refine ⟨fun z => by rw [(hν.2 x hi').1 z]; exact nar1, fun z => by rw [(hν.2 x hi').2 z]; exact nar0⟩
                · rw [pk_un e]; exact d3 x (by omega)
            exact cp 1008 0 ν (by omega) hν.1 rfl (fun x hx => by omega)
          · have lp : ∀ r i (ξ : Mm), i + r = 1008 → FrW τ ξ → ξ.1 11 = μ.1 11 → (∀ x, x < i → ((isSt g x ∧ gwk g d t s n y (k + 1) x → ξ.1 12 x = 1) ∧ (¬ (isSt g x ∧ gwk g d t s n y (k + 1) x) → ξ.1 12 x = 0))) → wp_X11_game_L99 (nI s) (nI (k + 1)) (fun ν => FrW τ ν ∧ ∀ x, x < 1008 → ((isSt g x ∧ gwk g d t s n y (k + 1) x → ν.1 12 x = 1) ∧ (¬ (isSt g x ∧ gwk g d t s n y (k + 1) x) → ν.1 12 x = 0))) (r + 1) ξ (nI i) := by
              intro r
              induction r with
              | zero =>
                intro i ξ hi d1 d2 d3
                have e : i = 1008 := by omega
                subst e
                exact br_t (by decide) ⟨d1, d3⟩
              | succ r ihr =>
                intro i ξ hi d1 d2 d3
                have hi' : i < 1008 := by omega
                have en : nI i + 1 = nI (i + 1) := nI_1 i
                have hMξ := hM.ofW d1
                have hGξ : MG g ξ (gwk g d t s n y (k + 1 + 1)) := by
                  unfold MG at *
                  rw [d2]; exact c2
                unfold wp_X11_game_L99
                rw [nI_clamp (by omega), en]
                refine br_f (n1008 hi') (cM_isState hg hMξ hi' ?_)
                refine ⟨fun v => (isSt g i ∧ gwk g d t s n y (k + 1) i → v = 1) ∧ (¬ (isSt g i ∧ gwk g d t s n y (k + 1) i) → v = 0), fun v ev => ⟨b1008 hi', fun ρ4 e4 => ?_⟩, ?_⟩
                · subst e4
                  refine ihr (i + 1) _ (by omega) (d1.trans (kwi_W (Or.inr rfl))) (by rw [kwi_ne _ _ _ (by decide)]; exact d2) (fun x hx => ?_)
                  rw [kwi_same]
                  by_cases e : x = i
                  · subst e
                    rw [upd_at]
                    refine ⟨fun z => by rw [ev.1 z]; exact nar1, fun z => by rw [ev.2 z]; exact nar0⟩
                  · rw [pk_un e]; exact d3 x (by omega)
                · refine ⟨¬ (isSt g i ∧ gwk g d t s n y (k + 1) i), fun z => ⟨fun q => absurd q z, fun _ => rfl⟩, ?_⟩
                  cases hst : stB g i with
                  | false =>
                    refine br_t rfl (fun q => ?_)
                    have := stB_iff.mpr q.1
                    rw [hst] at this
                    cases this
                  | true =>
                    have hsti := stB_iff.mp hst
                    refine br_f (by decide) (cM_canWin hg hd hMξ hGξ hsti hs ht (by omega) (by rw [d1 4 (by decide) (by decide)]; exact h4) (fun z => br_f (by decide) ⟨fun _ => rfl, fun q => absurd ⟨hsti, (gwk_G hk).mpr z⟩ q⟩) (fun z => br_t rfl (fun q => z ((gwk_G hk).mp q.2))))
            exact lp 1008 0 μ (by omega) c1 rfl (fun x hx => by omega)
      obtain ⟨l, rfl⟩ : ∃ l, n = l + 1 := ⟨n - 1, by omega⟩
      exact key l ρ (by omega) hρ.1 hρ.2
  · have lp : ∀ r i (ξ : Mm), i + r = 1008 → FrW τ ξ → (∀ x, x < i → ((x % 8 = y → ξ.1 11 x = 1) ∧ (¬ x % 8 = y → ξ.1 11 x = 0))) → wp_X11_game_L51 (nI y) (fun ρ => FrW τ ρ ∧ MG g ρ (gwk g d t s n y n)) (r + 1) ξ (nI i) := by
      intro r
      induction r with
      | zero =>
        intro i ξ hi d1 d3
        have e : i = 1008 := by omega
        subst e
        refine br_t (by decide) ⟨d1, fun m hm => ?_⟩
        rw [gwk_end]
        exact d3 m hm.1
      | succ r ihr =>
        intro i ξ hi d1 d3
        have hi' : i < 1008 := by omega
        have en : nI i + 1 = nI (i + 1) := nI_1 i
        unfold wp_X11_game_L51
        rw [nI_clamp (by omega), en]
        refine br_f (n1008 hi') (cM_yardOf (by omega) ?_)
        rw [nI_eq (by omega) (by omega)]
        refine ⟨fun v => (i % 8 = y → v = 1) ∧ (¬ i % 8 = y → v = 0), fun v ev => ⟨b1008 hi', fun ρ4 e4 => ?_⟩, fun c => ⟨fun q => absurd q c, fun _ => rfl⟩, fun c => ⟨fun _ => rfl, fun q => absurd c q⟩⟩
        subst e4
        refine ihr (i + 1) _ (by omega) (d1.trans (kwi_W (Or.inl rfl))) (fun x hx => ?_)
        rw [kwi_same]
        by_cases e : x = i
        · subst e
          rw [upd_at]
          refine ⟨fun z => by rw [ev.1 z]; exact nar1, fun z => by rw [ev.2 z]; exact nar0⟩
        · rw [pk_un e]; exact d3 x (by omega)
    exact lp 1008 0 τ (by omega) (fun _ _ _ => rfl) (fun x hx => by omega)
theorem RelG_40 {g d : Nat → Int32} {σ σ2 τ τ2 : Mm} (h : RelG g d σ τ) (hs : Fr40 σ σ2) (hτ : FrQ τ τ2) : RelG g d σ2 τ2 := by
  obtain ⟨⟨a1, a2, a3, a4, a5, a6, a7, a8⟩, hT, hN, hD, hK, hG, hS, hf1, hf2⟩ := h
  have hb : 4 ≤ σ.2.2 0 ∧ σ.2.2 0 ≤ 10 := by rcases a3.1 with q | q <;> omega
  have e := hs.1
  refine ⟨⟨a1, a2, by rw [hs.2]; exact a3, by rw [hs.2]; exact a4, by rw [hs.2]; exact a5, ?_, ?_, a8.of (hτ 1 (by omega)) (hτ 2 (by omega))⟩, ?_, ?_, ?_, ?_, ?_, ?_, ?_, ?_⟩
  · rw [hs.2]; exact a6.of (fun k _ _ => e k (by omega))
  · rw [hs.2]; exact a7.of (fun k _ _ => e k (by omega))
  · rw [e 1 (by omega), e 2 (by omega), hτ 0 (by omega), hτ 3 (by omega)]; exact hT
  · rw [e 16 (by omega), hτ 4 (by omega)]; exact hN
  · rw [e 17 (by omega), e 18 (by omega), e 19 (by omega), e 20 (by omega), hτ 0 (by omega), hτ 5 (by omega)]; exact hD
  · rw [e 21 (by omega), e 22 (by omega), e 23 (by omega), e 24 (by omega), hτ 0 (by omega), hτ 6 (by omega)]; exact hK
  · rw [e 25 (by omega), e 26 (by omega), e 27 (by omega), hτ 0 (by omega), hτ 7 (by omega), hτ 8 (by omega)]; exact hG
  · rw [e 28 (by omega), e 29 (by omega), e 30 (by omega), hτ 0 (by omega), hτ 13 (by omega), hτ 14 (by omega)]; exact hS
  · rw [e 32 (by omega), e 33 (by omega), hs.2]; exact hf1
  · rw [e 35 (by omega), e 36 (by omega), hs.2]; exact hf2
theorem op_game {σ τ : Mm} (h : Rel σ τ) (x1 x2 x3 x4 : Int32) : wp_X10_game σ x1 x2 x3 x4 (fun r σ2 => wp_X11_game τ x1 x2 x3 x4 (fun r2 τ2 => r = r2 ∧ Rel σ2 τ2)) := by
  have h0 := h
  obtain ⟨g, d, hR⟩ := h
  obtain ⟨⟨hg, hd, hok, h01, h23, hC, hCD, hM⟩, -, ⟨mi, m, fe, hmi, hm, n1, n2, n3, n4, n5, n6⟩, -, -, -, -, hf1, hf2⟩ := id hR
  have hN := hg.N
  have hP := hg.P
  have h32 := pow2P hP.2
  have q1 : τ.1 1 1 = nI (aP g) := hM.1 1 (by omega)
  have hGC : GC g d σ (σ.2.2 0) := ⟨hg, hd, hok.1, hC, hCD⟩
  by_cases hx1 : ∃ j, 1 ≤ j ∧ j ≤ 12 ∧ x1 = nI j
  · obtain ⟨n, hn1, hn, rfl⟩ := hx1
    refine br_f ?_ (br_f (nI_nlt (a := 12) hn (by omega)) ?_)
    · intro q
      have := (nI_ltI (a := n) (b := 1) (by omega) (by omega)).mp q
      omega
    by_cases hx2 : yIn (aN g) x2
    · refine cC_hasYard hg hC (fun _ => br_f (by decide) ?_) (fun q => absurd hx2 q)
      obtain ⟨y, hy, rfl⟩ := id hx2
      have hmodf : ∀ (Φ : Int32 → Mm → Prop), (x4 = 0 ∨ x4 = 1 → ¬ yIn (2 ^ aP g) x3 → Φ (-1) τ) → (¬ (x4 = 0 ∨ x4 = 1) → Φ (-1) τ) → (¬ (x4 = 0 ∨ x4 = 1) ∨ ¬ yIn (2 ^ aP g) x3) → wp_X11_game τ (nI n) (nI y) x3 x4 Φ := by
        intro Φ k1 k2 k3
        refine cM_in1 (lo := 1) (hi := 12) hn1 hn (by omega) (br_f (by decide) (cM_isYard hg hM (fun _ => br_f (by decide) ?_) (fun q => absurd hx2 q)))
        rw [q1, evtab (aP g) (by omega)]
        have hp1 : 1 ≤ 2 ^ aP g := Nat.one_le_two_pow
        have ep : 2 ^ aP g - 1 + 1 = 2 ^ aP g := by omega
        by_cases hx3 : yIn (2 ^ aP g) x3
        · obtain ⟨s, hs, rfl⟩ := id hx3
          refine cM_in1 (lo := 0) (by omega) (by omega) (by omega) (br_f (by decide) (cM_in01 (fun q => ?_) (fun q => brn_f rfl (k2 q))))
          rcases k3 with z | z
          · exact absurd q z
          · exact absurd hx3 z
        · refine cM_in0 (by omega) (by rw [ep]; exact hx3) (br_t rfl ?_)
          by_cases q : x4 = 0 ∨ x4 = 1
          · exact k1 q hx3
          · exact k2 q
      refine cC_isFlag (fun hw => brn_t (by decide) ?_) (fun hw => brn_f rfl ?_)
      · by_cases hx3 : yIn (2 ^ aP g) x3
        · obtain ⟨s, hs, rfl⟩ := id hx3
          refine br_f (nI_pos (by omega)) ?_
          unfold wp_X1_everybody
          rw [hC.2.1, evtab (aP g) (by omega)]
          refine br_t (nI_le (by omega) (by omega)) ?_
          refine cC_opening hGC hs hmi hn1 hn (by omega) hm n1 n2 (fun c c1 c2 c3 σ2 f1 => ?_) (fun c1 σ2 f1 => ?_)
          · have hc5 := gok_le c1
            have fin : ∀ r : Int32, r = (if x4 = 0 then 1 else if c = 0 then -4 else genc c) → wp_X11_game τ (nI n) (nI y) (nI s) x4 (fun r2 τ2 => r = r2 ∧ Rel σ2 τ2) := by
              intro r hr
              refine cM_game hg hd hM hs hmi hn1 hn hy hw hm n4 n5 (fun c' c1' c2' c3' τ2 g1 => ⟨?_, g, d, RelG_40 hR f1 g1.toQ⟩) (fun q τ2 g1 => absurd c2 (q c c1))
              have : c' = c := by
                rcases Nat.lt_trichotomy c' c with z | z | z
                · exact absurd c2' (c3 c' z c1')
                · exact z
                · exact absurd c2 (c3' c z c1)
              rw [this]; exact hr
            refine ⟨fun z => ?_, fun z => brn_t (genc_ne (by omega)) (fin 1 (by rw [if_pos z]))⟩
            cases c with
            | zero => exact br_t (by decide) (fin (-4) (by rw [if_neg z]; rfl))
            | succ i => exact br_f (nI_pos (by omega)) (fin (genc (i + 1)) (by rw [if_neg z, if_neg (by omega)]))
          · have fin : ∀ r : Int32, r = (if x4 = 0 then 0 else -4) → wp_X11_game τ (nI n) (nI y) (nI s) x4 (fun r2 τ2 => r = r2 ∧ Rel σ2 τ2) := by
              intro r hr
              refine cM_game hg hd hM hs hmi hn1 hn hy hw hm n4 n5 (fun c' c1' c2' c3' τ2 g1 => absurd c2' (c1 c' c1')) (fun q τ2 g1 => ⟨hr, g, d, RelG_40 hR f1 g1.toQ⟩)
            exact ⟨fun z => br_t (by decide) (fin (-4) (by rw [if_neg z])), fun z => brn_f rfl (fin 0 (by rw [if_pos z]))⟩
        · have hb := hmodf (fun r2 τ2 => -1 = r2 ∧ Rel σ τ2) (fun _ _ => ⟨rfl, h0⟩) (fun _ => ⟨rfl, h0⟩) (Or.inr hx3)
          have hp1 : 1 ≤ 2 ^ aP g := Nat.one_le_two_pow
          have ep : 2 ^ aP g - 1 + 1 = 2 ^ aP g := by omega
          refine ⟨fun _ => hb, fun c => ?_⟩
          unfold wp_X1_everybody
          rw [hC.2.1, evtab (aP g) (by omega)]
          refine ⟨fun c2 => ?_, fun _ => hb⟩
          have := (rg_gt (hi := 2 ^ aP g - 1) (by omega) c).mpr (by rw [ep]; exact hx3)
          exact absurd c2 (Int32.not_le.mpr this)
      · exact hmodf (fun r2 τ2 => -1 = r2 ∧ Rel σ τ2) (fun _ _ => ⟨rfl, h0⟩) (fun _ => ⟨rfl, h0⟩) (Or.inl hw)
    · refine cC_hasYard hg hC (fun q => absurd q hx2) (fun _ => br_t rfl ?_)
      exact cM_in1 (lo := 1) (hi := 12) hn1 hn (by omega) (br_f (by decide) (cM_isYard hg hM (fun q => absurd q hx2) (fun _ => br_t rfl ⟨rfl, h0⟩)))
  · have hb : wp_X11_game τ x1 x2 x3 x4 (fun r2 τ2 => -1 = r2 ∧ Rel σ τ2) := cM_in1' (hi := 12) (by omega) (fun q => absurd q hx1) (fun _ => br_t rfl ⟨rfl, h0⟩)
    refine ⟨fun _ => hb, fun c => ⟨fun _ => hb, fun c2 => ?_⟩⟩
    exfalso
    apply hx1
    have b1 : (1 : Int32).toInt ≤ x1.toInt := (fa_le_ _ _).mp (Int32.not_lt.mp c)
    have b2 : x1.toInt ≤ (12 : Int32).toInt := (fa_le_ _ _).mp (Int32.not_lt.mp c2)
    have b3 : (1 : Int32).toInt = 1 := by decide
    have b4 : (12 : Int32).toInt = 12 := by decide
    refine ⟨x1.toInt.toNat, by omega, by omega, ?_⟩
    refine Int32.toInt_inj.mp ?_
    rw [nI_toInt (by omega)]
    omega
