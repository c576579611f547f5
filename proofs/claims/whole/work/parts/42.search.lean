def pfF (op : Nat → Nat → Nat) (F : Nat → Option Nat) (Ps : List (Nat × Nat)) : Nat → Option Nat := Ps.foldl (fun F p => ptF op F p.1 p.2) F
theorem pfF_app (op : Nat → Nat → Nat) (F : Nat → Option Nat) (Ps Qs : List (Nat × Nat)) : pfF op F (Ps ++ Qs) = pfF op (pfF op F Ps) Qs := by
  unfold pfF
  rw [List.foldl_append]
def okP (op : Nat → Nat → Nat) (F : Nat → Option Nat) (Ps : List (Nat × Nat)) : Prop := (∀ p, p ∈ Ps → p.2 < 2 ^ 62) ∧ ∀ Q, Q <+: Ps → ∀ x w, pfF op F Q x = some w → w < 2 ^ 62
theorem okP_pre {op : Nat → Nat → Nat} {F : Nat → Option Nat} {Ps Qs : List (Nat × Nat)} (h : okP op F Ps) (hp : Qs <+: Ps) : okP op F Qs := ⟨fun p q => h.1 p (hp.subset q), fun Q hQ => h.2 Q (hQ.trans hp)⟩
theorem okP_suf {op : Nat → Nat → Nat} {F : Nat → Option Nat} {Ps Qs : List (Nat × Nat)} (h : okP op F (Ps ++ Qs)) : okP op (pfF op F Ps) Qs := by
  refine ⟨fun p q => h.1 p (List.mem_append_right _ q), fun Q hQ x w hx => ?_⟩
  rw [← pfF_app] at hx
  exact h.2 _ ((List.prefix_append_right_inj Ps).mpr hQ) x w hx
/-- who is at the calf's yard, the one left out apart -/
def fds (g : Nat → Int32) (t lo m : Nat) (n : Nat) : List Nat := (List.range n).filter (fun i => decide (i ≠ lo ∧ aPlc g i t = m % 8))
/-- what a minute puts: nobody, and each who may -/
def chs (g d : Nat → Int32) (t lo m w0 : Nat) (wf : Nat → Nat) (n : Nat) : List (Nat × Nat) := (aft g d m (t + 1), w0) :: (fds g t lo m n).map (fun i => (aft g d (fedm g m i) (t + 1), wf i))
theorem fds_s (g : Nat → Int32) (t lo m n : Nat) : fds g t lo m (n + 1) = fds g t lo m n ++ (if n ≠ lo ∧ aPlc g n t = m % 8 then [n] else []) := by
  unfold fds
  rw [List.range_succ, List.filter_append]
  congr 1
  by_cases h : n ≠ lo ∧ aPlc g n t = m % 8
  · rw [if_pos h]; simp [h]
  · rw [if_neg h]; simp [h]
theorem chs_s (g d : Nat → Int32) (t lo m w0 : Nat) (wf : Nat → Nat) (n : Nat) : chs g d t lo m w0 wf (n + 1) = chs g d t lo m w0 wf n ++ (if n ≠ lo ∧ aPlc g n t = m % 8 then [(aft g d (fedm g m n) (t + 1), wf n)] else []) := by
  unfold chs
  rw [fds_s, List.map_append, List.cons_append]
  congr 2
  by_cases h : n ≠ lo ∧ aPlc g n t = m % 8
  · rw [if_pos h, if_pos h]; rfl
  · rw [if_neg h, if_neg h]; rfl
def nfd (g : Nat → Int32) (t m : Nat) : Nat := (fds g t 99 m (aP g)).length
def kW0 (kd nf u : Nat) : Nat := if kd = 2 then (if nf = 0 then u * 120 else u * 60) else u
def kWf (g : Nat → Int32) (kd nf : Nat) (opn : Bool) (u i : Nat) : Nat := if kd = 0 then u + aCost g i * 8 + (if opn then i + 1 else 0) else if nf = 0 then u else u * (60 / nf)
def kOp (kd : Nat) : Nat → Nat → Nat := fun u w => if kd = 0 then (if w < u then w else u) else u + w
def puts (g d : Nat → Int32) (t lo kd : Nat) (opn : Bool) (m u : Nat) : List (Nat × Nat) := chs g d t lo m (kW0 kd (if kd = 2 then nfd g t m else 0) u) (kWf g kd (if kd = 2 then nfd g t m else 0) opn u) (aP g)
/-- what the search stands on: farm b, kind, the one left out, whether it is the first minute -/
def SC (g d : Nat → Int32) (σ : Mm) (b kd lo : Nat) (opn : Bool) : Prop := WFg g ∧ WFd g d ∧ kFm b ∧ FmC σ b g ∧ FmD σ b g d ∧ okC σ.2.2 ∧ σ.2.2 2 ≠ σ.2.2 3 ∧ σ.1 31 2 = nI kd ∧ kd ≤ 2 ∧ (∀ i, i < 5 → (nI i = σ.1 31 3 ↔ i = lo)) ∧ σ.1 31 4 = (if opn then 1 else 0)
theorem SC.fr {g d : Nat → Int32} {σ σ2 : Mm} {b kd lo : Nat} {opn : Bool} (h : SC g d σ b kd lo opn) {q : Nat} (hq : kFr q) (hf : Fr q σ σ2) : SC g d σ2 b kd lo opn := by
  obtain ⟨a1, a2, a3, a4, a5, a6, a7, a8, a9, a10, a11⟩ := h
  have hb : 4 ≤ b ∧ b ≤ 10 := by rcases a3 with q | q <;> omega
  have hq' : 32 ≤ q ∧ q ≤ 35 := by rcases hq with q | q <;> omega
  have ef : ∀ k, k ≤ 31 → σ2.1 k = σ.1 k := fun k hk => hf.1 k (by omega) (by omega)
  unfold SC
  rw [hf.2.2, ef 31 (by omega)]
  exact ⟨a1, a2, a3, a4.of (fun k _ _ => ef k (by omega)), a5.of (fun k _ _ => ef k (by omega)), a6, a7, a8, a9, a10, a11⟩
theorem cC_cost {σ : Mm} {b : Nat} {g : Nat → Int32} (hg : WFg g) (hC : FmC σ b g) {i : Nat} (hi : i < aP g) {Φ : Int32 → Prop} (h : Φ (nI (aCost g i))) : wp_X1_cost σ b (nI i) Φ := by
  have hP := hg.P
  have e := hC.2.2.2.2.1 i hi
  have e1 := hC.2.1
  simp (disch := omega) only [wp_X1_cost, kI, nI_ltI, nI_leI, nI_eq, nI_clamp, krem, pk_div, pk_mul, nI_add, forall_eq, e, e1]
  exact br_f (by omega) (br_f (by omega) ⟨by omega, h⟩)
theorem nI_e0 {n : Nat} (h : n < 2 ^ 31) : nI n = 0 ↔ n = 0 := nI_eq (b := 0) h (by omega)
theorem nI_e2 {n : Nat} (h : n < 2 ^ 31) : nI n = 2 ↔ n = 2 := nI_eq (b := 2) h (by omega)
theorem cC_feeders {g d : Nat → Int32} {σ : Mm} {b kd lo : Nat} {opn : Bool} (h : SC g d σ b kd lo opn) {m t : Nat} (ht : t < 50000) {Φ : Int32 → Prop} (hΦ : Φ (nI (nfd g t m))) : wp_X1_feedersAt σ b (nI (m % 8)) (nI t) Φ := by
  obtain ⟨hg, hd, hb, hC, hCD, -⟩ := h
  have hN := hg.N
  have hP := hg.P
  have key : ∀ r i, i + r = aP g → wp_X1_feedersAt_L5 b (nI (m % 8)) (nI t) σ Φ (r + 1) (nI (fds g t 99 m i).length) (nI i) := by
    intro r
    induction r with
    | zero =>
      intro i hi
      have e : i = aP g := by omega
      subst e
      unfold wp_X1_feedersAt_L5
      rw [hC.2.1]
      exact br_t (nI_le (Nat.le_refl _) (by omega)) hΦ
    | succ r ih =>
      intro i hi
      have hi2 : i < aP g := by omega
      have hp2 := hg.plc (t := t) hi2
      unfold wp_X1_feedersAt_L5
      rw [hC.2.1]
      have e1 : nI i + 1 = nI (i + 1) := nI_1 i
      rw [e1]
      refine br_f (nI_ge (by omega) (by omega)) (cC_yardAt hg hC hi2 (by omega) ⟨_, fun _ z => z, ?_⟩)
      have ih' := ih (i + 1) (by omega)
      rw [fds_s, List.length_append] at ih'
      rw [nI_eq (by omega) (by omega)]
      by_cases hp : aPlc g i t = m % 8
      · rw [if_pos ⟨by omega, hp⟩] at ih'
        refine brn_f hp ?_
        have e2 : nI (fds g t 99 m i).length + 1 = nI ((fds g t 99 m i).length + 1) := nI_1 _
        rw [e2]
        exact ih'
      · rw [if_neg (fun q => hp q.2)] at ih'
        exact brn_t hp ih'
  exact ⟨aP g + 1, key (aP g) 0 (by omega)⟩
theorem nfd_le {g : Nat → Int32} (hg : WFg g) (t m : Nat) : nfd g t m ≤ 5 := by
  have hP := hg.P
  unfold nfd fds
  have := List.length_filter_le (fun i => decide (i ≠ 99 ∧ aPlc g i t = m % 8)) (List.range (aP g))
  rw [List.length_range] at this
  omega
theorem cC_branch {g d : Nat → Int32} {σ : Mm} {b kd lo : Nat} {opn : Bool} (h : SC g d σ b kd lo opn) {L : List Nat} {F : Nat → Option Nat} (hF : FIL g σ (σ.2.2 3) L F) {m t u : Nat} (hm : isSt g m) (ht : t < 50000) (hu : u < 2 ^ 62) (hok : okP (kOp kd) F (puts g d t lo kd opn m u)) {Φ : Mm → Prop} (hΦ : ∀ σ2 L2, Fr (σ.2.2 3) σ σ2 → FIL g σ2 (σ.2.2 3) L2 (pfF (kOp kd) F (puts g d t lo kd opn m u)) → Φ σ2) : wp_X7_branch σ b (nI (cst g m)) (lN u) (nI t) Φ := by
  obtain ⟨hg, hd, hb, hC, hCD, hokC, hne, k2, hkd, k3, k4⟩ := id h
  have hP := hg.P
  have hnf := nfd_le hg t m
  have hq : kFr (σ.2.2 3) := hokC.2.2.2
  have e1 : nI t + 1 = nI (t + 1) := nI_1 t
  generalize hle : (if kd = 0 then (1 : Int32) else 0) = le
  generalize hfe : (if kd = 2 then nfd g t m else 0) = fe at hok hΦ
  have hfe5 : fe ≤ 5 := by
    rw [← hfe]; split <;> omega
  have hop : (le = 0 ∧ ∀ u w, kOp kd u w = u + w) ∨ (¬ le = 0 ∧ ∀ u w, kOp kd u w = if w < u then w else u) := by
    unfold kOp
    by_cases hk : kd = 0
    · refine Or.inr ⟨by rw [← hle, if_pos hk]; decide, fun u w => by rw [if_pos hk]⟩
    · refine Or.inl ⟨by rw [← hle, if_neg hk], fun u w => by rw [if_neg hk]⟩
  have hputs : puts g d t lo kd opn m u = chs g d t lo m (kW0 kd fe u) (kWf g kd fe opn u) (aP g) := by
    unfold puts; rw [hfe]
  rw [hputs] at hok hΦ
  -- the loop over the persons
  have hloop : ∀ r i (ρ : Mm) L1, i + r = aP g → Fr (σ.2.2 3) σ ρ → FIL g ρ (σ.2.2 3) L1 (pfF (kOp kd) F (chs g d t lo m (kW0 kd fe u) (kWf g kd fe opn u) i)) → wp_X7_branch_L66 b (nI (cst g m)) (lN u) (nI t) Φ le (nI fe) (r + 1) ρ (nI i) := by
    intro r
    induction r with
    | zero =>
      intro i ρ L1 hi a1 a2
      have e : i = aP g := by omega
      subst e
      have hρ := h.fr hq a1
      unfold wp_X7_branch_L66 wp_X1_persons
      rw [hρ.2.2.2.1.2.1]
      exact br_t (nI_le (Nat.le_refl _) (by omega)) (hΦ ρ L1 a1 a2)
    | succ r ih =>
      intro i ρ L1 hi a1 a2
      have hρ := h.fr hq a1
      obtain ⟨-, -, -, hC', hCD', hokC', hne', k2', -, k3', k4'⟩ := id hρ
      unfold wp_X7_branch_L66 wp_X1_persons
      rw [hC'.2.1]
      have e2 : nI i + 1 = nI (i + 1) := nI_1 i
      rw [e2]
      refine br_f (nI_ge (by omega) (by omega)) ⟨fun ρ2 => wp_X7_branch_L66 b (nI (cst g m)) (lN u) (nI t) Φ le (nI fe) (r + 1) ρ2 (nI (i + 1)), fun _ z => z, ?_⟩
      rw [k3' i (by omega)]
      have hpre : chs g d t lo m (kW0 kd fe u) (kWf g kd fe opn u) (i + 1) <+: chs g d t lo m (kW0 kd fe u) (kWf g kd fe opn u) (aP g) := by
        have : ∀ j, (i + 1) + j ≤ aP g → chs g d t lo m (kW0 kd fe u) (kWf g kd fe opn u) (i + 1) <+: chs g d t lo m (kW0 kd fe u) (kWf g kd fe opn u) ((i + 1) + j) := by
          intro j
          induction j with
          | zero => intro _; exact List.prefix_rfl
          | succ j ihj =>
            intro hj
            have := ihj (by omega)
            rw [← Nat.add_assoc, chs_s g d t lo m _ _ (i + 1 + j)]
            exact this.trans (List.prefix_append _ _)
        have := this (aP g - (i + 1)) (by omega)
        rw [Nat.add_sub_cancel' (by omega)] at this
        exact this
      have hs := chs_s g d t lo m (kW0 kd fe u) (kWf g kd fe opn u) i
      have skip : ¬ (i ≠ lo ∧ aPlc g i t = m % 8) → wp_X7_branch_L66 b (nI (cst g m)) (lN u) (nI t) Φ le (nI fe) (r + 1) ρ (nI (i + 1)) := by
        intro hno
        refine ih (i + 1) ρ L1 (by omega) a1 ?_
        rw [hs, if_neg hno, List.append_nil]
        exact a2
      refine ⟨fun c => skip (fun q => q.1 c), fun c => ?_⟩
      refine cC_canFeed hg hC' hm (by omega) (by omega) ?_
      by_cases hp : aPlc g i t = m % 8
      · rw [if_pos hp]
        refine br_f (by decide) (cC_fedState hg hm (by omega) ?_)
        have hfs := isSt_fed hg hm (i := i) (by omega)
        rw [e1]
        refine cC_onward hg hd hC' hCD' hfs (by omega) ?_
        have hst := isSt_aft (t := t + 1) hg hd hfs
        have hok1 := okP_pre hok hpre
        rw [hs, if_pos ⟨c, hp⟩] at hok1
        have hok2 := okP_suf hok1
        have hv : kWf g kd fe opn u i < 2 ^ 62 := hok2.1 _ (List.mem_singleton.mpr rfl)
        have hfin : wp_X2_put ρ (ρ.2.2 3) (nI (cst g (aft g d (fedm g m i) (t + 1)))) (lN (kWf g kd fe opn u i)) le (fun σ23 => wp_X7_branch_L66 b (nI (cst g m)) (lN u) (nI t) Φ le (nI fe) (r + 1) σ23 (nI (i + 1))) := by
          have er : ρ.2.2 3 = σ.2.2 3 := by rw [a1.2.2]
          rw [er]
          refine cC_put hg a2 hst hv hop (fun w hw => ?_) (fun σ2 L2 f1 f2 => ih (i + 1) σ2 L2 (by omega) (a1.trans f1) ?_)
          · refine hok2.2 _ List.prefix_rfl (aft g d (fedm g m i) (t + 1)) _ ?_
            show ptF _ _ _ _ _ = _
            unfold ptF
            rw [if_pos rfl, hw]
          · rw [hs, if_pos ⟨c, hp⟩, pfF_app]
            exact f2
        unfold wp_X7_whenFed
        rw [k2']
        unfold kWf at hfin
        by_cases hk0 : kd = 0
        · rw [if_pos hk0] at hfin
          refine brn_f (by rw [hk0]; rfl) (cC_cost hg hC' (by omega) ?_)
          have hcst := hg.2.2.2.2.2.2.2.2.2.1 i (by omega)
          refine ⟨fun v => v = nI (if opn then i + 1 else 0), fun v ev => ?_, ?_⟩
          · rw [ev]
            have q1 : nI (aCost g i) * 8 = nI (aCost g i * 8) := pk_mul _ 8
            rw [q1, nI_l (by omega), nI_l (by split <;> omega), lN_add, lN_add]
            exact hfin
          · rw [k4']
            cases opn
            · exact br_t rfl rfl
            · refine br_f (by decide) ?_
              exact nI_1 i
        · rw [if_neg hk0] at hfin
          refine brn_t (fun q => hk0 ((nI_e0 (by omega)).mp q)) ?_
          by_cases hz : fe = 0
          · rw [if_pos hz] at hfin
            refine br_t (by rw [hz]; decide) hfin
          · rw [if_neg hz] at hfin
            refine br_f (fun q => ?_) ⟨fun q => hz ((nI_e0 (by omega)).mp q), ?_⟩
            · have := (nI_leI (a := fe) (b := 0) (by omega) (by omega)).mp q
              omega
            · have q1 : (60 : Int32) / nI fe = nI (60 / fe) := pk_div (a := 60) (by omega) (by omega) (by omega)
              have : 60 / fe ≤ 60 := Nat.div_le_self _ _
              rw [q1, nI_l (by omega), lN_mul]
              exact hfin
      · rw [if_neg hp]
        exact br_t rfl (skip (fun q => hp q.2))
  -- the body
  have hmain : wp_X1_onward σ b (nI (cst g m)) (nI t + 1) (fun r5 => wp_X7_whenUnfed σ (lN u) (nI fe) (fun r7 => wp_X2_put σ (σ.2.2 3) r5 r7 le (fun σ8 => (∃ n : Nat, wp_X7_branch_L66 b (nI (cst g m)) (lN u) (nI t) Φ le (nI fe) n σ8 0)))) := by
    rw [e1]
    refine cC_onward hg hd hC hCD hm (by omega) ?_
    have hst := isSt_aft (t := t + 1) hg hd hm
    have hpre0 : [(aft g d m (t + 1), kW0 kd fe u)] <+: chs g d t lo m (kW0 kd fe u) (kWf g kd fe opn u) (aP g) := by
      unfold chs
      exact List.prefix_append [(aft g d m (t + 1), kW0 kd fe u)] _
    have hok0 := okP_pre hok hpre0
    have hv : kW0 kd fe u < 2 ^ 62 := hok0.1 _ (List.mem_singleton.mpr rfl)
    have hfin : wp_X2_put σ (σ.2.2 3) (nI (cst g (aft g d m (t + 1)))) (lN (kW0 kd fe u)) le (fun σ8 => (∃ n : Nat, wp_X7_branch_L66 b (nI (cst g m)) (lN u) (nI t) Φ le (nI fe) n σ8 0)) := by
      refine cC_put hg hF hst hv hop (fun w hw => ?_) (fun σ2 L2 f1 f2 => ⟨aP g + 1, hloop (aP g) 0 σ2 L2 (by omega) f1 ?_⟩)
      · refine hok0.2 _ List.prefix_rfl (aft g d m (t + 1)) _ ?_
        show ptF _ _ _ _ _ = _
        unfold ptF
        rw [if_pos rfl, hw]
      · exact f2
    unfold wp_X7_whenUnfed
    rw [k2, nI_e2 (by omega)]
    unfold kW0 at hfin
    by_cases hk2 : kd = 2
    · rw [if_pos hk2] at hfin
      refine br_t hk2 ?_
      rw [nI_e0 (by omega)]
      have q1 : lN u * 60 = lN (u * 60) := lN_mul _ 60
      have q2 : lN u * 120 = lN (u * 120) := lN_mul _ 120
      rw [q1, q2]
      by_cases hz : fe = 0
      · rw [if_pos hz] at hfin
        exact brn_f hz hfin
      · rw [if_neg hz] at hfin
        exact brn_t hz hfin
    · rw [if_neg hk2] at hfin
      exact br_f hk2 hfin
  refine ⟨fun v => v = le, fun v ev => ?_, ?_⟩
  · rw [ev]
    refine ⟨fun v => v = nI fe, fun v ev => by rw [ev]; exact hmain, ?_⟩
    rw [k2, nI_e2 (by omega)]
    by_cases hk2 : kd = 2
    · have hl := cst_lt hg hm
      obtain ⟨p1, p2, p3⟩ := cst_parts hg hm
      refine brn_f hk2 (cC_yardOf (by omega) ?_)
      rw [p1]
      refine cC_feeders h ht ?_
      rw [← hfe, if_pos hk2]
    · refine brn_t hk2 ?_
      rw [← hfe, if_neg hk2]
      rfl
  · rw [k2, nI_e0 (by omega)]
    by_cases hk0 : kd = 0
    · exact brn_f hk0 (by rw [← hle, if_pos hk0])
    · exact brn_t hk0 (by rw [← hle, if_neg hk0])
