def FrP (τ τ2 : Mm) : Prop := ∀ k, k ≠ 9 → k ≠ 10 → τ2.1 k = τ.1 k
theorem TdM.ofP {τ τ2 : Mm} {gs : List (Nat × Nat)} (h : TdM τ 14 7 8 gs) (e : FrP τ τ2) : TdM τ2 14 7 8 gs := by
  unfold TdM at *
  rw [e 0 (by decide) (by decide), e 7 (by decide) (by decide), e 8 (by decide) (by decide)]
  exact h
theorem FmM.ofP {τ τ2 : Mm} {g d : Nat → Int32} (h : FmM τ g d) (e : FrP τ τ2) : FmM τ2 g d := h.of (e 1 (by decide) (by decide)) (e 2 (by decide) (by decide))
theorem Vf_B {g d : Nat → Int32} (hg : WFg g) (t : Nat) (ft : Nat → Nat → Bool) (last : Nat) {n : Nat} (hn : n ≤ 40) : ∀ m, Vf g d t ft last n m ≤ 100000 ∨ Vf g d t ft last n m = 999999 := fun m => by
  have := Vf_le (d := d) hg t ft last n m
  omega
theorem gs_at {gs : List (Nat × Nat)} {i : Nat} (h : i < gs.length) : gs[i]? = some (gYd gs i, gAt gs i) := by
  unfold gYd gAt
  rw [List.getD_eq_getElem?_getD, List.getElem?_eq_getElem h]
  rfl
theorem cM_priceTo {τ : Mm} {g d : Nat → Int32} (hg : WFg g) (hd : WFd g d) (hM : FmM τ g d) {gs : List (Nat × Nat)} (hT : TdM τ 14 7 8 gs) {G t m0 : Nat} (hG : G < gs.length) (hm0 : isSt g m0) (ht : t ≤ 9999) (h4 : τ.1 4 0 = nI t) (h41 : τ.1 4 1 = nI m0) {Φ : Int32 → Mm → Prop}
    (h : ∀ τ2 : Mm, FrP τ τ2 → (gAt gs G ≠ 0 → MC τ2 (Vf g d t (fun k m => ftU gs G k gs.length m) (gAt gs G) (gAt gs G - 1))) → Φ (nI (Vf g d t (fun k m => ftU gs G k gs.length m) (gAt gs G) (gAt gs G) m0)) τ2) : wp_X11_priceTo τ (nI G) Φ := by
  have h6 := hT.1
  obtain ⟨-, a2, -, a4⟩ := hT.2.2 G _ _ (gs_at hG)
  have bG : (0 ≤ nI G ∧ nI G < 6) := ⟨nI_pos' (by omega), (nI_ltI (a := G) (b := 6) (by omega) (by omega)).mpr (by omega)⟩
  generalize hlast : gAt gs G = last at *
  generalize hft : (fun k m => ftU gs G k gs.length m) = ft at *
  have hftv : ∀ k m, ft k m = ftU gs G k gs.length m := fun k m => by rw [← hft]
  refine br_t bG.1 ⟨bG, ?_⟩
  intro x2 ex2
  rw [nI_clamp (by omega), a4] at ex2
  rw [ex2]
  refine ⟨fun ρ => FrP τ ρ, fun ρ hρ => ?_, 1009, ?_⟩
  · refine ⟨fun ρ => FrP τ ρ ∧ (last ≠ 0 → MC ρ (Vf g d t ft last (last - 1))), fun ρ2 hρ2 => ?_, last + 1, ?_⟩
    · -- the end, in this minute
      obtain ⟨r1, r2⟩ := hρ2
      have e4 := r1 4 (by decide) (by decide)
      rw [e4, h41]
      refine cM_fits (hT.ofP r1) (k := 0) hm0.1 (by omega) hG ?_
      rw [← hftv]
      have hfin := h ρ2 r1 r2
      have hst : stB g m0 = true := stB_iff.mpr hm0
      have hl0 : nI last = 0 ↔ last = 0 := nI_e0 (by omega)
      cases hf : ft 0 m0 with
      | false =>
        refine brn_f rfl ?_
        have : Vf g d t ft last last m0 = 999999 := by
          cases last with
          | zero => rw [Vf_0, hst, hf]; rfl
          | succ l => rw [Vf_s, Nat.sub_self, hst, hf]; rfl
        rw [this] at hfin
        exact hfin
      | true =>
        refine brn_t (by decide) ?_
        rw [hl0]
        refine ⟨fun c => ?_, fun c => ?_⟩
        · have hVV := r2 c
          refine cM_leastOf (k := 0) hg hd (hM.ofP r1) hVV (Vf_B hg t ft last (by omega)) hm0 ht (by omega) (by rw [e4]; exact h4) ?_
          have : Vf g d t ft last last m0 = lsO g d (t + 0) (Vf g d t ft last (last - 1)) m0 (aP g) := by
            obtain ⟨l, rfl⟩ : ∃ l, last = l + 1 := ⟨last - 1, by omega⟩
            rw [Vf_s, Nat.sub_self, hst, hf]
            rfl
          rw [← this]
          exact hfin
        · have : Vf g d t ft last last m0 = 0 := by
            subst c
            rw [Vf_0, hst, hf]
            rfl
          rw [this] at hfin
          exact hfin
    · -- from the last minute to the first
      have key : ∀ j (ρ : Mm), j ≤ last → FrP τ ρ → (j ≠ last → MC ρ (Vf g d t ft last (last - (j + 1)))) → wp_X11_priceTo_L37 (nI G) (nI last) (fun ρ => FrP τ ρ ∧ (last ≠ 0 → MC ρ (Vf g d t ft last (last - 1)))) (j + 1) ρ (nI j) := by
        intro j
        induction j with
        | zero =>
          intro ρ hj b1 b2
          refine br_t (by decide) ⟨b1, fun q => b2 (by omega)⟩
        | succ j ih =>
          intro ρ hj b1 b2
          have em : nI (j + 1) + -1 = nI j := pk_m1 j
          unfold wp_X11_priceTo_L37
          rw [em]
          refine br_f (fun q => ?_) ?_
          · have := (nI_leI (a := j + 1) (b := 0) (by omega) (by omega)).mp q
            omega
          · refine ⟨fun ρ2 => FrP τ ρ2 ∧ ∀ s, s < 1008 → ρ2.1 10 s = nI (Vf g d t ft last (last - (j + 1)) s), fun ρ2 hρ2 => ?_, 1009, ?_⟩
            · refine ⟨fun ρ3 => FrP τ ρ3 ∧ MC ρ3 (Vf g d t ft last (last - (j + 1))), fun ρ3 hρ3 => ih ρ3 (by omega) hρ3.1 (fun _ => hρ3.2), 1009, ?_⟩
              have cp : ∀ r i (μ : Mm), i + r = 1008 → FrP τ μ → μ.1 10 = ρ2.1 10 → (∀ s, s < i → μ.1 9 s = nI (Vf g d t ft last (last - (j + 1)) s)) → wp_X11_priceTo_L109 (fun ρ3 => FrP τ ρ3 ∧ MC ρ3 (Vf g d t ft last (last - (j + 1)))) (r + 1) μ (nI i) := by
                intro r
                induction r with
                | zero =>
                  intro i μ hi c1 c2 c3
                  have e : i = 1008 := by omega
                  subst e
                  exact br_t (by decide) ⟨c1, fun s hs => ⟨c3 s hs, Vf_B hg t ft last (by omega) s⟩⟩
                | succ r ihr =>
                  intro i μ hi c1 c2 c3
                  have hi' : i < 1008 := by omega
                  have en : nI i + 1 = nI (i + 1) := nI_1 i
                  unfold wp_X11_priceTo_L109
                  rw [nI_clamp (by omega), en]
                  refine br_f (n1008 hi') ⟨b1008 hi', b1008 hi', fun ρ4 e4 => ?_⟩
                  subst e4
                  refine ihr (i + 1) _ (by omega) (fun k q1 q2 => by rw [kwi_ne _ _ _ q1]; exact c1 k q1 q2) (by rw [kwi_ne _ _ _ (by decide)]; exact c2) (fun s hs => ?_)
                  rw [kwi_same]
                  by_cases e : s = i
                  · subst e
                    rw [upd_at, c2]; exact hρ2.2 s hi'
                  · rw [pk_un e]; exact c3 s (by omega)
              exact cp 1008 0 ρ2 (by omega) hρ2.1 rfl (fun s hs => by omega)
            · have lp : ∀ r i (μ : Mm), i + r = 1008 → FrP τ μ → μ.1 9 = ρ.1 9 → (∀ s, s < i → μ.1 10 s = nI (Vf g d t ft last (last - (j + 1)) s)) → wp_X11_priceTo_L44 (nI G) (nI last) (nI (j + 1)) (fun ρ2 => FrP τ ρ2 ∧ ∀ s, s < 1008 → ρ2.1 10 s = nI (Vf g d t ft last (last - (j + 1)) s)) (r + 1) μ (nI i) := by
                intro r
                induction r with
                | zero =>
                  intro i μ hi c1 c2 c3
                  have e : i = 1008 := by omega
                  subst e
                  exact br_t (by decide) ⟨c1, c3⟩
                | succ r ihr =>
                  intro i μ hi c1 c2 c3
                  have hi' : i < 1008 := by omega
                  have en : nI i + 1 = nI (i + 1) := nI_1 i
                  have hMμ := hM.ofP c1
                  unfold wp_X11_priceTo_L44
                  rw [nI_clamp (by omega), en]
                  refine br_f (n1008 hi') (cM_isState hg hMμ hi' ?_)
                  refine ⟨fun v => v = nI (Vf g d t ft last (last - (j + 1)) i), fun v ev => ⟨b1008 hi', fun ρ4 e4 => ?_⟩, ?_⟩
                  · subst ev e4
                    refine ihr (i + 1) _ (by omega) (fun k q1 q2 => by rw [kwi_ne _ _ _ q2]; exact c1 k q1 q2) (by rw [kwi_ne _ _ _ (by decide)]; exact c2) (fun s hs => ?_)
                    rw [kwi_same]
                    by_cases e : s = i
                    · subst e; exact upd_at _ _ _
                    · rw [pk_un e]; exact c3 s (by omega)
                  · -- what the number is
                    have hjl : last - (last - (j + 1)) = j + 1 := by omega
                    have hV : Vf g d t ft last (last - (j + 1)) i = if stB g i && ft (j + 1) i then (if j + 1 = last then 0 else lsO g d (t + (j + 1)) (Vf g d t ft last (last - (j + 1) - 1)) i (aP g)) else 999999 := by
                      by_cases e : j + 1 = last
                      · have e0 : last - (j + 1) = 0 := by omega
                        rw [e0, Vf_0, e]
                        simp
                      · obtain ⟨l, hl⟩ : ∃ l, last - (j + 1) = l + 1 := ⟨last - (j + 1) - 1, by omega⟩
                        rw [hl, Vf_s]
                        have : last - (l + 1) = j + 1 := by omega
                        rw [this]
                        simp [e]
                    refine ⟨(stB g i && ft (j + 1) i) = false, fun q => by rw [hV, q]; rfl, ?_⟩
                    cases hs : stB g i with
                    | false => exact br_t rfl rfl
                    | true =>
                      refine br_f (by decide) (cM_fits (hT.ofP c1) hi' (by omega) hG ?_)
                      rw [← hftv]
                      cases hf : ft (j + 1) i with
                      | false => exact br_t rfl rfl
                      | true =>
                        refine br_f (by decide) ?_
                        rw [hs, hf] at hV
                        simp only [Bool.and_self, if_true] at hV
                        have ejl : nI (j + 1) = nI last ↔ j + 1 = last := nI_eq (by omega) (by omega)
                        rw [ejl]
                        refine ⟨fun c => ?_, fun c => by rw [hV, if_pos c]; rfl⟩
                        rw [if_neg c] at hV
                        have hVV := b2 c
                        have e11 : last - (j + 1 + 1) = last - (j + 1) - 1 := by omega
                        rw [e11] at hVV
                        have hVμ : MC μ (Vf g d t ft last (last - (j + 1) - 1)) := by
                          unfold MC at *
                          rw [c2]; exact hVV
                        refine cM_leastOf hg hd hMμ hVμ (Vf_B hg t ft last (by omega)) (stB_iff.mp hs) ht (by omega) (by rw [c1 4 (by decide) (by decide)]; exact h4) ?_
                        rw [hV]
              exact lp 1008 0 ρ (by omega) b1 rfl (fun s hs => by omega)
      exact key last ρ (Nat.le_refl _) hρ (fun q => absurd rfl q)
  · have cp : ∀ r i (μ : Mm), i + r = 1008 → FrP τ μ → wp_X11_priceTo_L15 (fun ρ => FrP τ ρ) (r + 1) μ (nI i) := by
      intro r
      induction r with
      | zero =>
        intro i μ hi c1
        have e : i = 1008 := by omega
        subst e
        exact br_t (by decide) c1
      | succ r ihr =>
        intro i μ hi c1
        have hi' : i < 1008 := by omega
        have en : nI i + 1 = nI (i + 1) := nI_1 i
        unfold wp_X11_priceTo_L15
        rw [nI_clamp (by omega), en]
        refine br_f (n1008 hi') ⟨b1008 hi', fun ρ4 e4 => ?_⟩
        subst e4
        exact ihr (i + 1) _ (by omega) (fun k q1 q2 => by rw [kwi_ne _ _ _ q1]; exact c1 k q1 q2)
    exact cp 1008 0 τ (by omega) (fun _ _ _ => rfl)
/-- the goal that comes last: all are up to it -/
theorem cM_lastGoal {τ : Mm} {gs : List (Nat × Nat)} (hT : TdM τ 14 7 8 gs) {Φ : Int32 → Prop} (h0 : gs = [] → Φ (-1)) (h1 : ∀ G, G < gs.length → (∀ j, j < gs.length → upB gs j G = true) → Φ (nI G)) : wp_X11_lastGoal τ Φ := by
  have h6 := hT.1
  have key : ∀ r i (f : Int32), i + r = gs.length → ((i = 0 ∧ f = -1) ∨ ∃ G, f = nI G ∧ G < i ∧ ∀ j, j < i → upB gs j G = true) → wp_X11_lastGoal_L4 τ Φ (r + 1) f (nI i) := by
    intro r
    induction r with
    | zero =>
      intro i f hi hf
      have e : i = gs.length := by omega
      subst e
      unfold wp_X11_lastGoal_L4
      rw [hT.2.1]
      refine br_t (nI_le (Nat.le_refl _) (by omega)) ?_
      rcases hf with ⟨q, rfl⟩ | ⟨G, rfl, q1, q2⟩
      · exact h0 (List.eq_nil_of_length_eq_zero q)
      · exact h1 G q1 q2
    | succ r ih =>
      intro i f hi hf
      have hil : i < gs.length := by omega
      have en : nI i + 1 = nI (i + 1) := nI_1 i
      unfold wp_X11_lastGoal_L4
      rw [hT.2.1, en]
      refine br_f (nI_ge hil (by omega)) ⟨fun v => wp_X11_lastGoal_L4 τ Φ (r + 1) v (nI (i + 1)), fun _ z => z, ∀ j, j < i + 1 → upB gs j i = true, fun q => ih (i + 1) _ (by omega) (Or.inr ⟨i, rfl, by omega, q⟩), ?_⟩
      have hself : upB gs i i = true := by unfold upB; simp
      rcases hf with ⟨rfl, rfl⟩ | ⟨G, rfl, q1, q2⟩
      · refine br_t (by decide) (fun j hj => ?_)
        have : j = 0 := by omega
        subst this
        exact hself
      · refine br_f (nI_pos (by omega)) (cM_isUpTo hT (by omega) hil ?_)
        cases hu : upB gs G i with
        | false =>
          refine br_t rfl (ih (i + 1) _ (by omega) (Or.inr ⟨G, rfl, by omega, fun j hj => ?_⟩))
          rcases Nat.lt_or_ge j i with q | q
          · exact q2 j q
          · have : j = i := by omega
            subst this
            unfold upB at hu ⊢
            have := of_decide_eq_false hu
            exact decide_eq_true (by omega)
        | true =>
          refine br_f (by decide) (fun j hj => ?_)
          rcases Nat.lt_or_ge j i with q | q
          · have h3 := q2 j q
            unfold upB at hu h3 ⊢
            have a1 := of_decide_eq_true hu
            have a2 := of_decide_eq_true h3
            exact decide_eq_true (by omega)
          · have : j = i := by omega
            subst this
            exact hself
  exact ⟨gs.length + 1, key gs.length 0 (-1) (by omega) (Or.inl ⟨rfl, rfl⟩)⟩
theorem ftU_all {gs : List (Nat × Nat)} {G : Nat} (hG : ∀ j, j < gs.length → upB gs j G = true) (k m : Nat) : ftU gs G k gs.length m = fitU gs k gs.length m := by
  have key : ∀ n, n ≤ gs.length → ftU gs G k n m = fitU gs k n m := by
    intro n
    induction n with
    | zero => intro _; unfold ftU fitU; simp
    | succ n ih =>
      intro hn
      rw [ftU_s, fitU_s (gs_at (by omega)), ih (by omega), hG n (by omega)]
      simp
  exact key gs.length (Nat.le_refl _)
