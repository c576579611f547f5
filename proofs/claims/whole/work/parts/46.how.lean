theorem TdR.list {n mx : Nat} {c c2 : Int32} {ry rm xy xm : Nat → Int32} (hn : n ≤ 8) (hmx : mx ≤ 40) (h : TdR n mx c ry rm c2 xy xm) : ∃ gs : List (Nat × Nat), gs.length ≤ 6 ∧ c = nI gs.length ∧ c2 = nI gs.length ∧ ∀ i y a, gs[i]? = some (y, a) → y < n ∧ a ≤ mx ∧ ry i = nI y ∧ rm i = nI a ∧ xy i = nI y ∧ xm i = nI a := by
  obtain ⟨k, hk, h1, h2, h3⟩ := h
  refine ⟨(List.range k).map (fun j => ((ry j).toNatClampNeg, (rm j).toNatClampNeg)), by simp; exact hk, by simp [h1], by simp [h2], fun i y a hi => ?_⟩
  rw [List.getElem?_map] at hi
  rcases Nat.lt_or_ge i k with q | q
  · rw [List.getElem?_range q] at hi
    obtain ⟨y', a', e1, e2, e3, e4, e5, e6⟩ := h3 i q
    simp at hi
    obtain ⟨b1, b2⟩ := hi
    rw [e3, nI_clamp (by omega)] at b1
    rw [e4, nI_clamp (by omega)] at b2
    subst b1 b2
    exact ⟨e1, e2, e3, e4, e5, e6⟩
  · rw [List.getElem?_eq_none (by rw [List.length_range]; exact q)] at hi
    simp at hi
theorem lastA_le {gs : List (Nat × Nat)} {mx : Nat} (h : ∀ i y a : Nat, gs[i]? = some (y, a) → a ≤ mx) : lastA gs ≤ mx := by
  have key : ∀ (l : List (Nat × Nat)) (b : Nat), b ≤ mx → (∀ p, p ∈ l → p.2 ≤ mx) → l.foldl (fun a p => if a < p.2 then p.2 else a) b ≤ mx := by
    intro l
    induction l with
    | nil => intro b hb _; exact hb
    | cons p l ih =>
      intro b hb hl
      rw [List.foldl_cons]
      refine ih _ ?_ (fun q hq => hl q (List.mem_cons_of_mem _ hq))
      have := hl p List.mem_cons_self
      split <;> omega
  refine key gs 0 (by omega) (fun p hp => ?_)
  obtain ⟨i, hi⟩ := List.getElem?_of_mem hp
  exact h i p.1 p.2 hi
/-- the relation when nothing but the search has changed -/
theorem RelG_S {g d : Nat → Int32} {σ σ2 τ τ2 : Mm} (h : RelG g d σ τ) (hs : FrS σ σ2) (hok : okC σ2.2.2) (hne : σ2.2.2 2 ≠ σ2.2.2 3) {L1 L2 : List Nat} {F1 F2 : Nat → Option Nat} (f1 : FIL g σ2 (σ2.2.2 2) L1 F1) (f2 : FIL g σ2 (σ2.2.2 3) L2 F2) (hτ : τ2.1 = τ.1) : RelG g d σ2 τ2 := by
  obtain ⟨⟨a1, a2, a3, a4, a5, a6, a7, a8⟩, hT, hN, hD, hK, hG, hS, hf1, hf2⟩ := h
  have hb : 4 ≤ σ.2.2 0 ∧ σ.2.2 0 ≤ 10 := by rcases a3.1 with q | q <;> omega
  have hfr : FrR (σ2.1 32 2) (σ2.1 33) (σ2.2.1 34) ∧ FrR (σ2.1 35 2) (σ2.1 36) (σ2.2.1 37) := by
    have r1 := f1.toR a1
    have r2 := f2.toR a1
    rcases hok.2.2.1 with q | q <;> rcases hok.2.2.2 with q' | q'
    · exact absurd (q.trans q'.symm) hne
    · rw [q] at r1; rw [q'] at r2; exact ⟨r1, r2⟩
    · rw [q] at r1; rw [q'] at r2; exact ⟨r2, r1⟩
    · exact absurd (q.trans q'.symm) hne
  have e := hs.1
  refine ⟨⟨a1, a2, hok, by rw [hs.2.2.1, hs.2.2.2]; exact a4, hne, ?_, ?_, a8.of1 hτ⟩, ?_, ?_, ?_, ?_, ?_, ?_, hfr.1, hfr.2⟩
  · rw [hs.2.2.1]; exact a6.of (fun k _ _ => e k (by omega))
  · rw [hs.2.2.1]; exact a7.of (fun k _ _ => e k (by omega))
  · rw [e 1 (by omega), e 2 (by omega), hτ]; exact hT
  · rw [e 16 (by omega), hτ]; exact hN
  · rw [e 17 (by omega), e 18 (by omega), e 19 (by omega), e 20 (by omega), hτ]; exact hD
  · rw [e 21 (by omega), e 22 (by omega), e 23 (by omega), e 24 (by omega), hτ]; exact hK
  · rw [e 25 (by omega), e 26 (by omega), e 27 (by omega), hτ]; exact hG
  · rw [e 28 (by omega), e 29 (by omega), e 30 (by omega), hτ]; exact hS
def sv (gs : List (Nat × Nat)) (k : Nat) (w : Nat → Nat) : Nat → Nat := fun s => if fitU gs k gs.length s then w s else 0
/-- in how many ways it is in a state when minute k begins, sights of the minutes ahead of it kept -/
def wk (g d : Nat → Int32) (gs : List (Nat × Nat)) (lo : Nat) : Nat → Nat → Nat
  | 0 => fun s => if s = aC g then 1 else 0
  | k + 1 => fun x => cP (allR g d k lo 1 (sv gs k (wk g d gs lo k))) x
def totW (g d : Nat → Int32) (gs : List (Nat × Nat)) (lo : Nat) : Nat := sm (sv gs (lastA gs) (wk g d gs lo (lastA gs))) 1008
theorem cP_ne {x : Nat} : ∀ {Ps : List (Nat × Nat)}, cP Ps x ≠ 0 → ∃ p, p ∈ Ps ∧ p.1 = x ∧ p.2 ≠ 0
  | [], h => absurd rfl h
  | p :: Ps, h => by
    rw [cP_cons] at h
    by_cases q : p.1 = x ∧ p.2 ≠ 0
    · exact ⟨p, List.mem_cons_self, q.1, q.2⟩
    · have : cP Ps x ≠ 0 := by
        intro z
        apply h
        rw [z]
        by_cases q1 : p.1 = x
        · rw [if_pos q1]
          have : p.2 = 0 := by
            apply Classical.byContradiction
            intro q2
            exact q ⟨q1, q2⟩
          omega
        · rw [if_neg q1]
      obtain ⟨p2, h1, h2⟩ := cP_ne this
      exact ⟨p2, List.mem_cons_of_mem _ h1, h2⟩
theorem puts_st {g d : Nat → Int32} (hg : WFg g) (hd : WFd g d) {t lo kd : Nat} {opn : Bool} {m u : Nat} (hm : isSt g m) : ∀ p, p ∈ puts g d t lo kd opn m u → isSt g p.1 := by
  intro p hp
  unfold puts chs at hp
  rcases List.mem_cons.mp hp with e | e
  · subst e; exact isSt_aft hg hd hm
  · obtain ⟨i, hi, rfl⟩ := List.mem_map.mp e
    unfold fds at hi
    have := List.mem_range.mp (List.mem_filter.mp hi).1
    exact isSt_aft hg hd (isSt_fed hg hm this)
theorem allR_sup {g d : Nat → Int32} (hg : WFg g) (hd : WFd g d) {t lo kd : Nat} (hkd : kd = 1 ∨ kd = 2) {w : Nat → Nat} (hw : ∀ s, w s ≠ 0 → isSt g s) {x : Nat} (h : cP (allR g d t lo kd w) x ≠ 0) : isSt g x := by
  obtain ⟨p, hp, rfl, hp2⟩ := cP_ne h
  unfold allR at hp
  obtain ⟨s, hs, hps⟩ := List.mem_flatMap.mp hp
  have hws : w s ≠ 0 := by
    intro z
    rw [z] at hps
    exact hp2 (puts_zero hkd p hps)
  exact puts_st hg hd (hw s hws) p hps
theorem sv_ne {gs : List (Nat × Nat)} {k : Nat} {w : Nat → Nat} {s : Nat} (h : sv gs k w s ≠ 0) : w s ≠ 0 := by
  unfold sv at h
  intro z
  apply h
  rw [z]
  split <;> rfl
theorem wk_s (g d : Nat → Int32) (gs : List (Nat × Nat)) (lo k x : Nat) : wk g d gs lo (k + 1) x = cP (allR g d k lo 1 (sv gs k (wk g d gs lo k))) x := rfl
theorem wk_0 (g d : Nat → Int32) (gs : List (Nat × Nat)) (lo x : Nat) : wk g d gs lo 0 x = if x = aC g then 1 else 0 := rfl
theorem wk_sup {g d : Nat → Int32} (hg : WFg g) (hd : WFd g d) (gs : List (Nat × Nat)) (lo : Nat) (k : Nat) : ∀ s, wk g d gs lo k s ≠ 0 → isSt g s := by
  induction k with
  | zero =>
    intro s h
    rw [wk_0] at h
    have : s = aC g := by
      apply Classical.byContradiction
      intro q
      rw [if_neg q] at h
      exact h rfl
    rw [this]
    exact isSt_C hg
  | succ k ih =>
    intro s h
    rw [wk_s] at h
    exact allR_sup hg hd (Or.inl rfl) (fun s hs => ih s (sv_ne hs)) h
theorem sv_le (gs : List (Nat × Nat)) (k : Nat) (w : Nat → Nat) (n : Nat) : sm (sv gs k w) n ≤ sm w n := sm_le (fun s _ => by unfold sv; split <;> omega)
theorem wk_sum {g d : Nat → Int32} (hg : WFg g) (gs : List (Nat × Nat)) (lo : Nat) : ∀ k, sm (wk g d gs lo k) 1008 ≤ 6 ^ k
  | 0 => by
    have hC := hg.C
    have hN := hg.N
    show sm (fun s => if s = aC g then 1 else 0) 1008 ≤ 1
    rw [sm_one (by omega)]
    exact Nat.le_refl _
  | k + 1 => by
    have h1 := wk_sum (d := d) hg gs lo k
    have h2 := sv_le gs k (wk g d gs lo k) 1008
    have h3 := allR_sum (d := d) hg k lo 1 (sv gs k (wk g d gs lo k)) (Or.inl rfl) (by omega)
    have h4 := sm_cP 1008 (allR g d k lo 1 (sv gs k (wk g d gs lo k)))
    have h5 : sm (wk g d gs lo (k + 1)) 1008 = sm (cP (allR g d k lo 1 (sv gs k (wk g d gs lo k)))) 1008 := rfl
    rw [h5, Nat.pow_succ]
    simp at h3
    omega
theorem pow6 {k : Nat} (h : k ≤ 20) : 6 ^ k ≤ 3656158440062976 := by
  have : (6 : Nat) ^ k ≤ 6 ^ 20 := Nat.pow_le_pow_right (by omega) h
  have e : (6 : Nat) ^ 20 = 3656158440062976 := by decide +kernel
  omega
theorem wk_all {g d : Nat → Int32} (hg : WFg g) (gs : List (Nat × Nat)) (lo : Nat) {k : Nat} (hk : k < 20) : sumP (allR g d k lo 1 (sv gs k (wk g d gs lo k))) < 2 ^ 62 := by
  have h1 := wk_sum (d := d) hg gs lo k
  have h2 := sv_le gs k (wk g d gs lo k) 1008
  have h3 := allR_sum (d := d) hg k lo 1 (sv gs k (wk g d gs lo k)) (Or.inl rfl) (by omega)
  have h4 := pow6 (k := k) (by omega)
  simp at h3
  omega
theorem cM_howBut {τ : Mm} {g d : Nat → Int32} (hg : WFg g) (hd : WFd g d) (hM : FmM τ g d) {gs : List (Nat × Nat)} (hT : TdM τ 21 13 14 gs) (hl : lastA gs ≤ 20) {x : Int32} {lo : Nat} (hlo : ∀ i, i < 5 → (nI i = x ↔ i = lo)) {Φ : Int64 → Mm → Prop} (h : ∀ τ2 : Mm, τ2.1 = τ.1 → Φ (lN (totW g d gs lo)) τ2) : wp_X11_howBut τ x Φ := by
  refine ⟨fun v => v = nI (lastA gs), fun v ev => ?_, ?_⟩
  · subst ev
    have q3 : τ.1 1 3 = nI (aC g) := hM.1 3 (by omega)
    rw [q3]
    have hC := (isSt_C hg).1
    refine cM_startWays hC (fun τ2 a1 a2 => ?_)
    refine ⟨fun ρ => ρ.1 = τ.1 ∧ MW ρ (wk g d gs lo (lastA gs)), fun ρ hρ => ?_, lastA gs + 1, ?_⟩
    · refine cM_bar (hT.of hρ.1) hρ.2 (by omega) (fun ρ2 b1 b2 => ?_)
      have key : ∀ r i, i + r = 1008 → wp_X11_howBut_L84 Φ ρ2 (r + 1) (lN (sm (sv gs (lastA gs) (wk g d gs lo (lastA gs))) i)) (nI i) := by
        intro r
        induction r with
        | zero =>
          intro i hi
          have e : i = 1008 := by omega
          subst e
          exact br_t (by decide) (h ρ2 (b1.trans hρ.1))
        | succ r ih =>
          intro i hi
          have hi' : i < 1008 := by omega
          have en : nI i + 1 = nI (i + 1) := nI_1 i
          unfold wp_X11_howBut_L84
          rw [nI_clamp (by omega), en, (b2 i hi').1, lN_add]
          refine br_f (n1008 hi') ⟨b1008 hi', fun x ex => ?_⟩
          rw [ex]
          exact ih (i + 1) (by omega)
      exact ⟨1009, key 1008 0 (by omega)⟩
    · have key : ∀ r k (ρ : Mm), k + r = lastA gs → ρ.1 = τ.1 → MW ρ (wk g d gs lo k) → wp_X11_howBut_L51 x (nI (lastA gs)) (fun ρ => ρ.1 = τ.1 ∧ MW ρ (wk g d gs lo (lastA gs))) (r + 1) ρ (nI k) := by
        intro r
        induction r with
        | zero =>
          intro k ρ hk b1 b2
          have e : k = lastA gs := by omega
          subst e
          exact br_t (nI_le (Nat.le_refl _) (by omega)) ⟨b1, b2⟩
        | succ r ih =>
          intro k ρ hk b1 b2
          have en : nI k + 1 = nI (k + 1) := nI_1 k
          unfold wp_X11_howBut_L51
          rw [en]
          refine br_f (nI_ge (by omega) (by omega)) (cM_bar (hT.of b1) b2 (by omega) (fun ρ2 c1 c2 => ?_))
          refine cM_goOn hg hd (hM.of1 (c1.trans b1)) c2 (fun s hs => wk_sup hg hd gs lo k s (sv_ne hs)) (by omega) (Or.inl rfl) hlo (by simp) (wk_all hg gs lo (by omega)) (fun ρ3 d1 d2 => ?_)
          exact ih (k + 1) ρ3 (by omega) (d1.trans (c1.trans b1)) d2
      exact key (lastA gs) 0 τ2 (by omega) a1 a2
  · have key : ∀ r i, i + r = gs.length → lastA (gs.take i) ≤ 40 → wp_X11_howBut_L4 τ (fun v => v = nI (lastA gs)) (r + 1) (nI (lastA (gs.take i))) (nI i) := by
      have h6 := hT.1
      intro r
      induction r with
      | zero =>
        intro i hi _
        have e : i = gs.length := by omega
        subst e
        rw [List.take_length]
        unfold wp_X11_howBut_L4
        rw [hT.2.1]
        exact br_t (nI_le (Nat.le_refl _) (by omega)) rfl
      | succ r ih =>
        intro i hi hb
        have hil : i < gs.length := by omega
        have hm : gs[i]? = some gs[i] := List.getElem?_eq_getElem hil
        generalize gs[i] = p at hm
        obtain ⟨y, a⟩ := p
        obtain ⟨y1, a1, e1, e2⟩ := hT.2.2 i y a hm
        have en : nI i + 1 = nI (i + 1) := nI_1 i
        have b6 : (0 ≤ nI i ∧ nI i < 6) := ⟨nI_pos' (by omega), (nI_ltI (a := i) (b := 6) (by omega) (by omega)).mpr (by omega)⟩
        have ht : lastA (gs.take (i + 1)) = if lastA (gs.take i) < a then a else lastA (gs.take i) := by
          unfold lastA
          rw [List.take_add_one, hm, List.foldl_append]
          rfl
        have ih' := ih (i + 1) (by omega) (by rw [ht]; split <;> omega)
        rw [ht] at ih'
        unfold wp_X11_howBut_L4
        have e3 : nI a ≤ nI (lastA (gs.take i)) ↔ a ≤ lastA (gs.take i) := nI_leI (by omega) (by omega)
        rw [hT.2.1, nI_clamp (by omega), e2, en, e3]
        refine br_f (nI_ge hil (by omega)) ⟨b6, _, fun _ z => z, fun c => ?_, fun c => ⟨b6, ?_⟩⟩
        · rw [if_neg (by omega)] at ih'; exact ih'
        · rw [if_pos (by omega)] at ih'; exact ih'
    exact ⟨gs.length + 1, key gs.length 0 (by omega) (Nat.zero_le 40)⟩
theorem puts_opn {g d : Nat → Int32} {t lo kd : Nat} (hkd : kd ≠ 0) (opn : Bool) (m u : Nat) : puts g d t lo kd opn m u = puts g d t lo kd false m u := by
  unfold puts
  have : kWf g kd (if kd = 2 then nfd g t m else 0) opn u = kWf g kd (if kd = 2 then nfd g t m else 0) false u := by
    funext i
    unfold kWf
    rw [if_neg hkd, if_neg hkd]
  rw [this]
theorem allP_opn {g d : Nat → Int32} {t lo kd : Nat} (hkd : kd ≠ 0) (opn : Bool) (L : List Nat) (F : Nat → Option Nat) : allP g d t lo kd opn L F = allP g d t lo kd false L F := by
  unfold allP
  congr 1
  funext m
  exact puts_opn hkd opn m _
/-- a filtered front -/
theorem filt_w {gs : List (Nat × Nat)} {k : Nat} {L : List Nat} {F : Nat → Option Nat} {w : Nat → Nat} (hm : ∀ m, m ∈ L ↔ F m ≠ none) (hw : ∀ m, (F m).getD 0 = w m) : (∀ m, m ∈ L.filter (fitU gs k gs.length) ↔ (fun x => if fitU gs k gs.length x then F x else none) m ≠ none) ∧ ∀ m, ((fun x => if fitU gs k gs.length x then F x else none) m).getD 0 = sv gs k w m := by
  constructor
  · intro m
    rw [List.mem_filter, hm m]
    by_cases q : fitU gs k gs.length m = true <;> simp [q]
  · intro m
    unfold sv
    rw [← hw m]
    by_cases q : fitU gs k gs.length m = true <;> simp [q]
theorem wk_zero {g d : Nat → Int32} {gs : List (Nat × Nat)} {lo k : Nat} (h : ∀ s, s < 1008 → sv gs k (wk g d gs lo k) s = 0) : ∀ j, 0 < j → ∀ s, wk g d gs lo (k + j) s = 0
  | 0, hj, _ => by omega
  | j + 1, _, s => by
    have hz : ∀ s, s < 1008 → sv gs (k + j) (wk g d gs lo (k + j)) s = 0 := by
      cases j with
      | zero => exact h
      | succ j =>
        intro s _
        unfold sv
        rw [wk_zero h (j + 1) (by omega) s]
        split <;> rfl
    show cP (allR g d (k + j) lo 1 (sv gs (k + j) (wk g d gs lo (k + j)))) s = 0
    refine cP_zero (fun p hp => ?_)
    unfold allR at hp
    obtain ⟨s2, hs2, hps⟩ := List.mem_flatMap.mp hp
    rw [hz s2 (List.mem_range.mp hs2)] at hps
    exact puts_zero (Or.inl rfl) p hps
theorem cC_ways {σ : Mm} {g d : Nat → Int32} {b : Nat} (hb : kFm b) (hg : WFg g) (hd : WFd g d) (hC : FmC σ b g) (hCD : FmD σ b g d) (hok : okC σ.2.2) (hne : σ.2.2 2 ≠ σ.2.2 3) (h1 : FrR (σ.1 32 2) (σ.1 33) (σ.2.1 34)) (h2 : FrR (σ.1 35 2) (σ.1 36) (σ.2.1 37)) {gs : List (Nat × Nat)} (hT : TdC σ 28 gs) (hl : lastA gs ≤ 20) {x : Int32} {lo : Nat} (hlo : ∀ i, i < 5 → (nI i = x ↔ i = lo)) {Φ : Int64 → Mm → Prop}
    (h : ∀ σ2 L1 F1 L2 F2, FrS σ σ2 → okC σ2.2.2 → σ2.2.2 2 ≠ σ2.2.2 3 → FIL g σ2 (σ2.2.2 2) L1 F1 → FIL g σ2 (σ2.2.2 3) L2 F2 → Φ (lN (totW g d gs lo)) σ2) : wp_X7_ways σ b 28 x Φ := by
  refine cC_begin (kd := 1) hb hg hd hC hCD hok hne h1 h2 (by omega) hlo (fun σ1 s1 sc f1 f2 => ?_)
  have hC1 := sc.2.2.2.1
  show wp_X10_packed (σ1.1 b 8) (-1) 0 _
  rw [hC1.2.2.2.1]
  refine cC_packed0 ?_
  have hst := isSt_C hg
  have ec : aC g = cst g (aC g) := by
    have := hg.C
    have := hg.N
    unfold cst
    rw [if_pos (Or.inl (by omega))]
    omega
  rw [ec]
  have hokC := sc.2.2.2.2.2.1
  have hne1 := sc.2.2.2.2.2.2.1
  refine cC_put (v := 1) (op := addO) hg f1 hst (by omega) (Or.inl ⟨rfl, fun _ _ => rfl⟩) (fun u hu => by cases hu) (fun σ2 L2 g1 g2 => ?_)
  have er : σ2.2.2 = σ1.2.2 := g1.2.2
  obtain ⟨p1, p2, p3⟩ := Fr_other hokC.2.2.2 hokC.2.2.1 (Ne.symm hne1) g1
  have s2 := s1.trans (g1.toS hokC.2.2.1)
  have fin : ∀ (v : Nat) (σ3 : Mm) (L : List Nat) (F : Nat → Option Nat) (L' : List Nat) (F' : Nat → Option Nat), FrS σ2 σ3 → okC σ3.2.2 → σ3.2.2 2 ≠ σ3.2.2 3 → FIL g σ3 (σ3.2.2 2) L F → FIL g σ3 (σ3.2.2 3) L' F' → (L.map (fun m => (F m).getD 0)).sum = totW g d gs lo → wp_X2_sum σ3 (σ3.2.2 2) (fun r10 => Φ r10 σ3) := by
    intro v σ3 L F L' F' b1 b2 b3 b4 b5 b6
    refine cC_sum hg b4 ?_
    rw [b6]
    exact h σ3 L F L' F' (s2.trans b1) b2 b3 b4 b5
  have hF0 : ∀ m, (ptF addO (fun _ => none) (aC g) 1 m).getD 0 = wk g d gs lo 0 m := by
    intro m
    show _ = if m = aC g then 1 else 0
    unfold ptF
    by_cases q : m = aC g <;> simp [q]
  refine cC_follow (opn := true) (t := 0) (gs := gs) (Or.inr rfl) (by omega) (fun k L F => L.Nodup ∧ (∀ m, m ∈ L → isSt g m) ∧ (∀ m, m ∈ L ↔ F m ≠ none) ∧ ∀ m, (F m).getD 0 = wk g d gs lo k m) (sc.fr hokC.2.2.1 g1) (hT.of (fun k _ _ => s2.1 k (by omega))) (by omega) (by rw [er]; exact g2) (by rw [er]; exact f2.of p1 p2 p3) ⟨g2.2.2.1, g2.2.2.2.1, g2.2.2.2.2.1, hF0⟩ ?_ ?_ ?_
  · intro k L F hk hI _
    obtain ⟨i1, i2, i3, i4⟩ := hI
    obtain ⟨w1, w2⟩ := filt_w (gs := gs) (k := k) i3 i4
    have hst' : ∀ m, m ∈ L.filter (fitU gs k gs.length) → m < 1008 := fun m hm => (i2 m (List.mem_filter.mp hm).1).1
    rw [allP_opn (by omega), kOp_add (by omega), Nat.zero_add]
    have hall := fun x => allP_allR (g := g) (d := d) (t := k) (lo := lo) (Or.inl rfl) (i1.filter _) hst' w1 w2 x
    refine ⟨okP_add (by rw [(hall 0).2]; exact wk_all hg gs lo (by omega)), fun L2 n1 n2 n3 => ⟨n1, n3, n2, fun m => ?_⟩⟩
    rw [pfF_add, (hall m).1]
    simp
    rfl
  · intro k L F i y hk hI hi hnil hmin σ3 b1 b2 b3 b4 b5
    refine fin 0 σ3 [] _ [] _ b1 b2 b3 b4 b5 ?_
    obtain ⟨i1, i2, i3, i4⟩ := hI
    -- nothing fits: no ways at all
    have hz : ∀ s, s < 1008 → sv gs k (wk g d gs lo k) s = 0 := by
      intro s _
      unfold sv
      by_cases q : fitU gs k gs.length s = true
      · rw [if_pos q, ← i4 s]
        cases hF : F s with
        | none => rfl
        | some v =>
          have hsL : s ∈ L := (i3 s).mpr (by rw [hF]; simp)
          have hq2 : fitU gs k (i + 1) s = true := by
            unfold fitU at q ⊢
            rw [List.take_length] at q
            exact List.all_eq_true.mpr (fun p hp => List.all_eq_true.mp q p (List.mem_of_mem_take hp))
          have : s ∈ L.filter (fitU gs k (i + 1)) := List.mem_filter.mpr ⟨hsL, hq2⟩
          rw [hnil] at this
          cases this
      · rw [if_neg q]
    show 0 = totW g d gs lo
    unfold totW
    symm
    refine sm_zero (fun s hs => ?_)
    rcases Nat.eq_or_lt_of_le hk with e | e
    · rw [← e]; exact hz s hs
    · have := wk_zero hz (lastA gs - k) (by omega) s
      rw [Nat.add_sub_cancel' hk] at this
      unfold sv
      rw [this]
      split <;> rfl
  · intro L F hI _ σ3 b1 b2 b3 b4 b5
    obtain ⟨i1, i2, i3, i4⟩ := hI
    obtain ⟨w1, w2⟩ := filt_w (gs := gs) (k := lastA gs) i3 i4
    refine fin 0 σ3 _ _ [] _ b1 b2 b3 b4 b5 ?_
    rw [sum_list (n := 1008) (i1.filter _) (fun m hm => (i2 m (List.mem_filter.mp hm).1).1)]
    unfold totW
    refine sm_cong (fun s _ => ?_)
    have e := w2 s
    by_cases q : s ∈ L.filter (fitU gs (lastA gs) gs.length)
    · rw [if_pos q]; exact e
    · rw [if_neg q, ← e]
      cases hF : (fun x => if fitU gs (lastA gs) gs.length x then F x else none) s with
      | none => rfl
      | some v => exact absurd ((w1 s).mpr (by rw [hF]; simp)) q
