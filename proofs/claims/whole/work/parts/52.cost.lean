-- ===== the cheapest way, as numbers
theorem kOp0 (u w : Nat) : kOp 0 u w = if w < u then w else u := by
  unfold kOp
  rw [if_pos rfl]
theorem pf_nil (op : Nat → Nat → Nat) (F : Nat → Option Nat) : pfF op F [] = F := rfl
theorem pf_cons (op : Nat → Nat → Nat) (F : Nat → Option Nat) (p : Nat × Nat) (Ps : List (Nat × Nat)) : pfF op F (p :: Ps) = pfF op (ptF op F p.1 p.2) Ps := rfl
/-- a number of a state is one that was put -/
theorem pf_from {x v : Nat} : ∀ {Ps : List (Nat × Nat)} {F : Nat → Option Nat}, pfF (kOp 0) F Ps x = some v → F x = some v ∨ (x, v) ∈ Ps
  | [], F, h => Or.inl h
  | p :: Ps, F, h => by
    rw [pf_cons] at h
    rcases pf_from h with q | q
    · unfold ptF at q
      by_cases e : x = p.1
      · rw [if_pos e] at q
        cases hF : F p.1 with
        | none =>
          rw [hF] at q
          have q' : p.2 = v := Option.some.inj q
          refine Or.inr ?_
          rw [e, ← q']
          exact List.mem_cons_self
        | some u =>
          rw [hF] at q
          have q' : kOp 0 u p.2 = v := Option.some.inj q
          rw [kOp0] at q'
          by_cases hu : p.2 < u
          · rw [if_pos hu] at q'
            refine Or.inr ?_
            rw [e, ← q']
            exact List.mem_cons_self
          · rw [if_neg hu] at q'
            rw [e, ← q']
            exact Or.inl hF
      · rw [if_neg e] at q
        exact Or.inl q
    · exact Or.inr (List.mem_cons_of_mem _ q)
theorem pf_low {x u : Nat} : ∀ {Ps : List (Nat × Nat)} {F : Nat → Option Nat}, F x = some u → ∃ v, pfF (kOp 0) F Ps x = some v ∧ v ≤ u
  | [], F, h => ⟨u, h, Nat.le_refl _⟩
  | p :: Ps, F, h => by
    rw [pf_cons]
    by_cases e : x = p.1
    · have : ptF (kOp 0) F p.1 p.2 x = some (if p.2 < u then p.2 else u) := by
        unfold ptF
        rw [if_pos e, ← e, h]
        show some (kOp 0 u p.2) = _
        rw [kOp0]
      obtain ⟨v, h1, h2⟩ := pf_low (Ps := Ps) this
      refine ⟨v, h1, Nat.le_trans h2 ?_⟩
      split <;> omega
    · have : ptF (kOp 0) F p.1 p.2 x = some u := by
        unfold ptF
        rw [if_neg e, h]
      exact pf_low this
theorem pf_put {p : Nat × Nat} : ∀ {Ps : List (Nat × Nat)} {F : Nat → Option Nat}, p ∈ Ps → ∃ v, pfF (kOp 0) F Ps p.1 = some v ∧ v ≤ p.2
  | [], F, h => absurd h (by simp)
  | q :: Ps, F, h => by
    rw [pf_cons]
    rcases List.mem_cons.mp h with e | e
    · subst e
      cases hF : F p.1 with
      | none =>
        refine pf_low ?_
        unfold ptF
        rw [if_pos rfl, hF]
      | some u =>
        have : ptF (kOp 0) F p.1 p.2 p.1 = some (if p.2 < u then p.2 else u) := by
          unfold ptF
          rw [if_pos rfl, hF]
          show some (kOp 0 u p.2) = _
          rw [kOp0]
        obtain ⟨v, h1, h2⟩ := pf_low (Ps := Ps) this
        refine ⟨v, h1, Nat.le_trans h2 ?_⟩
        split <;> omega
    · exact pf_put e
theorem okP_min {Ps : List (Nat × Nat)} (h : ∀ p, p ∈ Ps → p.2 < 2 ^ 62) : okP (kOp 0) (fun _ => none) Ps := by
  refine ⟨h, fun Q hQ x w hx => ?_⟩
  rcases pf_from hx with q | q
  · cases q
  · exact h _ (hQ.subset q)
theorem puts0 {g d : Nat → Int32} (hg : WFg g) (t : Nat) (opn : Bool) (m u : Nat) (p : Nat × Nat) : p ∈ puts g d t 99 0 opn m u ↔ p = (aft g d m (t + 1), u) ∨ ∃ i, i < aP g ∧ aPlc g i t = m % 8 ∧ p = (aft g d (fedm g m i) (t + 1), u + aCost g i * 8 + (if opn then i + 1 else 0)) := by
  have hP := hg.P
  unfold puts chs fds kW0 kWf
  rw [if_neg (by omega : ¬ (0 = 2)), List.mem_cons, List.mem_map]
  refine or_congr Iff.rfl ⟨fun ⟨i, h1, h2⟩ => ?_, fun ⟨i, h1, h2, h3⟩ => ⟨i, ?_, ?_⟩⟩
  · obtain ⟨h3, h4⟩ := List.mem_filter.mp h1
    have := List.mem_range.mp h3
    have h5 := of_decide_eq_true h4
    refine ⟨i, this, h5.2, ?_⟩
    rw [← h2, if_pos rfl]
  · exact List.mem_filter.mpr ⟨List.mem_range.mpr h1, decide_eq_true ⟨by omega, h2⟩⟩
  · rw [h3, if_pos rfl]
/-- what a way on costs: nobody (0), or person i (i + 1) -/
def wch (g d : Nat → Int32) (t : Nat) (V : Nat → Nat) (m : Nat) : Nat → Nat
  | 0 => cbv (V (aft g d m (t + 1))) 0
  | i + 1 => cbv (V (aft g d (fedm g m i) (t + 1))) (aCost g i)
def wok (g : Nat → Int32) (t m : Nat) (n : Nat) : Nat → Prop
  | 0 => True
  | i + 1 => i < n ∧ aPlc g i t = m % 8
theorem lsO_char {g d : Nat → Int32} (hg : WFg g) {t : Nat} {V : Nat → Nat} (hV : ∀ x, V x ≤ 100000 ∨ V x = 999999) (m : Nat) (n : Nat) : n ≤ aP g → (∀ c, wok g t m n c → lsO g d t V m n ≤ wch g d t V m c) ∧ ∃ c, wok g t m n c ∧ lsO g d t V m n = wch g d t V m c := by
  induction n with
  | zero =>
    intro _
    refine ⟨fun c hc => ?_, 0, trivial, rfl⟩
    cases c with
    | zero => exact Nat.le_refl _
    | succ i => exact absurd hc.1 (Nat.not_lt_zero i)
  | succ n ih =>
    intro hn
    obtain ⟨h1, c0, h2, h3⟩ := ih (by omega)
    have hl := lsO_le (d := d) hg (t := t) hV m n (by omega)
    have hw : ∀ c, wok g t m n c → wok g t m (n + 1) c := fun c hc => by
      cases c with
      | zero => trivial
      | succ i => exact ⟨Nat.lt_succ_of_lt hc.1, hc.2⟩
    unfold lsO
    by_cases hp : aPlc g n t = m % 8
    · rw [if_pos hp]
      have e : cbv (V (aft g d (fedm g m n) (t + 1))) (aCost g n) = wch g d t V m (n + 1) := rfl
      rw [e]
      have hsplit : ∀ c, wok g t m (n + 1) c → wok g t m n c ∨ c = n + 1 := fun c hc => by
        cases c with
        | zero => exact Or.inl trivial
        | succ i =>
          have := hc.1
          by_cases q : i = n
          · exact Or.inr (by rw [q])
          · exact Or.inl ⟨by omega, hc.2⟩
      by_cases hle : lsO g d t V m n ≤ wch g d t V m (n + 1)
      · rw [if_pos hle]
        refine ⟨fun c hc => ?_, c0, hw c0 h2, h3⟩
        rcases hsplit c hc with q | q
        · exact h1 c q
        · rw [q]; exact hle
      · rw [if_neg hle]
        refine ⟨fun c hc => ?_, n + 1, ⟨by omega, hp⟩, rfl⟩
        rcases hsplit c hc with q | q
        · have := h1 c q
          omega
        · rw [q]; exact Nat.le_refl _
    · rw [if_neg hp, if_pos (by omega)]
      refine ⟨fun c hc => ?_, c0, hw c0 h2, h3⟩
      cases c with
      | zero => exact h1 0 trivial
      | succ i =>
        have := hc.1
        have hne : i ≠ n := fun q => hp (q ▸ hc.2)
        exact h1 (i + 1) ⟨by omega, hc.2⟩
def cwt (g : Nat → Int32) : Nat → Nat
  | 0 => 0
  | i + 1 => aCost g i
def csu (g d : Nat → Int32) (t m : Nat) : Nat → Nat
  | 0 => aft g d m (t + 1)
  | i + 1 => aft g d (fedm g m i) (t + 1)
theorem wch_e (g d : Nat → Int32) (t : Nat) (V : Nat → Nat) (m c : Nat) : wch g d t V m c = cbv (V (csu g d t m c)) (cwt g c) := by
  cases c <;> rfl
theorem puts_c {g d : Nat → Int32} (hg : WFg g) (t : Nat) (opn : Bool) (m u : Nat) (p : Nat × Nat) : p ∈ puts g d t 99 0 opn m u ↔ ∃ c, wok g t m (aP g) c ∧ p = (csu g d t m c, u + 8 * cwt g c + (if opn then c else 0)) := by
  rw [puts0 hg]
  constructor
  · rintro (h | ⟨i, h1, h2, h3⟩)
    · refine ⟨0, trivial, ?_⟩
      rw [h]
      show _ = (aft g d m (t + 1), u + 8 * 0 + _)
      cases opn <;> rfl
    · refine ⟨i + 1, ⟨h1, h2⟩, ?_⟩
      rw [h3, Nat.mul_comm (aCost g i) 8]
      rfl
  · rintro ⟨c, h1, h2⟩
    cases c with
    | zero =>
      left
      rw [h2]
      show (aft g d m (t + 1), u + 8 * 0 + _) = _
      cases opn <;> rfl
    | succ i =>
      right
      refine ⟨i, h1.1, h1.2, ?_⟩
      rw [h2, Nat.mul_comm (aCost g i) 8]
      rfl
theorem cbv_lt {v c : Nat} (hc : c ≤ 99) (hv : v ≤ 100000 ∨ v = 999999) : (cbv v c < 999999 ↔ v < 999999) ∧ (v < 999999 → cbv v c = v + c) := by
  unfold cbv
  by_cases h : 999999 ≤ v
  · rw [if_pos h]; omega
  · rw [if_neg h]; omega
theorem cwt_le {g : Nat → Int32} (hg : WFg g) {t m c : Nat} (h : wok g t m (aP g) c) : cwt g c ≤ 99 ∧ c ≤ 5 := by
  have hP := hg.P
  cases c with
  | zero => exact ⟨Nat.zero_le _, by omega⟩
  | succ i =>
    have := h.1
    exact ⟨hg.2.2.2.2.2.2.2.2.2.1 i h.1, by omega⟩
/-- T is the least of the numbers yet to come, W being what it costs from a state on -/
def lbA (L : List Nat) (F : Nat → Option Nat) (W : Nat → Nat) (T : Nat) : Prop := (∀ m v, m ∈ L → F m = some v → W m < 999999 → T ≤ v + 8 * W m) ∧ ∃ m v, m ∈ L ∧ F m = some v ∧ W m < 999999 ∧ T = v + 8 * W m
theorem lbA_puts {Ps : List (Nat × Nat)} {W : Nat → Nat} {T : Nat} (h1 : ∀ p, p ∈ Ps → W p.1 < 999999 → T ≤ p.2 + 8 * W p.1) (h2 : ∃ p, p ∈ Ps ∧ W p.1 < 999999 ∧ T = p.2 + 8 * W p.1) {L2 : List Nat} (hL : ∀ m, m ∈ L2 ↔ pfF (kOp 0) (fun _ => none) Ps m ≠ none) : lbA L2 (pfF (kOp 0) (fun _ => none) Ps) W T := by
  refine ⟨fun m v hm hv hw => ?_, ?_⟩
  · rcases pf_from hv with q | q
    · cases q
    · exact h1 _ q hw
  · obtain ⟨p, hp, hw, hT⟩ := h2
    obtain ⟨v, hv, hle⟩ := pf_put (F := fun _ => none) hp
    refine ⟨p.1, v, (hL p.1).mpr (by rw [hv]; simp), hv, hw, ?_⟩
    rcases pf_from hv with q | q
    · cases q
    · have := h1 _ q hw
      have e : W (p.1, v).1 = W p.1 := rfl
      simp only at this
      omega
theorem allP_mem {g d : Nat → Int32} {t : Nat} {opn : Bool} {L : List Nat} {F : Nat → Option Nat} {p : Nat × Nat} : p ∈ allP g d t 99 0 opn L F ↔ ∃ m, m ∈ L ∧ p ∈ puts g d t 99 0 opn m ((F m).getD 0) := by
  unfold allP
  exact List.mem_flatMap
/-- one minute on, not the first -/
theorem lbA_step {g d : Nat → Int32} (hg : WFg g) {t : Nat} {V W : Nat → Nat} (hV : ∀ x, V x ≤ 100000 ∨ V x = 999999) {L : List Nat} {F : Nat → Option Nat} (hF : ∀ m, m ∈ L → F m ≠ none) (hW : ∀ m, m ∈ L → W m = lsO g d t V m (aP g)) {T : Nat} (h : lbA L F W T) {L2 : List Nat} (hL : ∀ m, m ∈ L2 ↔ pfF (kOp 0) (fun _ => none) (allP g d t 99 0 false L F) m ≠ none) : lbA L2 (pfF (kOp 0) (fun _ => none) (allP g d t 99 0 false L F)) V T := by
  refine lbA_puts (fun p hp hw => ?_) ?_ hL
  · obtain ⟨m, hm, hp⟩ := allP_mem.mp hp
    obtain ⟨c, hc, rfl⟩ := (puts_c hg t false m _ p).mp hp
    obtain ⟨u, hu⟩ := Option.ne_none_iff_exists'.mp (hF m hm)
    obtain ⟨k1, k2⟩ := lsO_char (d := d) hg (t := t) hV m (aP g) (Nat.le_refl _)
    have k3 := k1 c hc
    rw [wch_e] at k3
    have hcw := (cwt_le hg hc).1
    obtain ⟨z1, z2⟩ := cbv_lt hcw (hV (csu g d t m c))
    have hw' : V (csu g d t m c) < 999999 := hw
    have := h.1 m u hm hu (by rw [hW m hm]; have := z1.mpr hw'; omega)
    rw [hW m hm] at this
    have z3 := z2 hw'
    show T ≤ (F m).getD 0 + 8 * cwt g c + (if false = true then c else 0) + 8 * V (csu g d t m c)
    rw [hu]
    simp
    omega
  · obtain ⟨m, u, hm, hu, hw, hT⟩ := h.2
    rw [hW m hm] at hw hT
    obtain ⟨k1, c, hc, k2⟩ := lsO_char (d := d) hg (t := t) hV m (aP g) (Nat.le_refl _)
    rw [wch_e] at k2
    have hcw := (cwt_le hg hc).1
    obtain ⟨z1, z2⟩ := cbv_lt hcw (hV (csu g d t m c))
    rw [k2] at hw hT
    have hw' := z1.mp hw
    rw [z2 hw'] at hT
    refine ⟨_, allP_mem.mpr ⟨m, hm, (puts_c hg t false m _ _).mpr ⟨c, hc, rfl⟩⟩, hw', ?_⟩
    show T = (F m).getD 0 + 8 * cwt g c + (if false = true then c else 0) + 8 * V (csu g d t m c)
    rw [hu]
    simp
    omega
/-- who feeds first on a cheapest way: nobody before anybody, the lower before the higher -/
def fstC (g d : Nat → Int32) (t : Nat) (V : Nat → Nat) (m c : Nat) : Prop := wok g t m (aP g) c ∧ wch g d t V m c = lsO g d t V m (aP g) ∧ ∀ c2, c2 < c → wok g t m (aP g) c2 → wch g d t V m c2 ≠ lsO g d t V m (aP g)
theorem fstC_ex {g d : Nat → Int32} (hg : WFg g) {t : Nat} {V : Nat → Nat} (hV : ∀ x, V x ≤ 100000 ∨ V x = 999999) (m : Nat) : ∃ c, fstC g d t V m c := by
  obtain ⟨k1, c, hc, k2⟩ := lsO_char (d := d) hg (t := t) hV m (aP g) (Nat.le_refl _)
  have key : ∀ n c, c ≤ n → wok g t m (aP g) c → wch g d t V m c = lsO g d t V m (aP g) → ∃ c, fstC g d t V m c := by
    intro n
    induction n with
    | zero =>
      intro c h1 h2 h3
      have : c = 0 := by omega
      subst this
      exact ⟨0, h2, h3, fun c2 q => by omega⟩
    | succ n ih =>
      intro c h1 h2 h3
      by_cases hex : ∃ c2, c2 < c ∧ wok g t m (aP g) c2 ∧ wch g d t V m c2 = lsO g d t V m (aP g)
      · obtain ⟨c2, q1, q2, q3⟩ := hex
        exact ih c2 (by omega) q2 q3
      · exact ⟨c, h2, h3, fun c2 q1 q2 q3 => hex ⟨c2, q1, q2, q3⟩⟩
  exact key c c (Nat.le_refl _) hc k2.symm
theorem lbA_first {g d : Nat → Int32} (hg : WFg g) {t : Nat} {V : Nat → Nat} (hV : ∀ x, V x ≤ 100000 ∨ V x = 999999) {m c : Nat} (hc : fstC g d t V m c) (hfin : lsO g d t V m (aP g) < 999999) {F : Nat → Option Nat} (hF : F m = some 0) {L2 : List Nat} (hL : ∀ x, x ∈ L2 ↔ pfF (kOp 0) (fun _ => none) (allP g d t 99 0 true [m] F) x ≠ none) : lbA L2 (pfF (kOp 0) (fun _ => none) (allP g d t 99 0 true [m] F)) V (8 * lsO g d t V m (aP g) + c) := by
  obtain ⟨hc1, hc2, hc3⟩ := hc
  have hc5 := (cwt_le hg hc1).2
  refine lbA_puts (fun p hp hw => ?_) ?_ hL
  · obtain ⟨m2, hm, hp⟩ := allP_mem.mp hp
    rw [List.mem_singleton.mp hm, hF] at hp
    obtain ⟨c2, hc', rfl⟩ := (puts_c hg t true m _ p).mp hp
    obtain ⟨k1, k2⟩ := lsO_char (d := d) hg (t := t) hV m (aP g) (Nat.le_refl _)
    have k3 := k1 c2 hc'
    have k4 := hc3 c2
    rw [wch_e] at k3 k4
    obtain ⟨hcw, hc25⟩ := cwt_le hg hc'
    obtain ⟨z1, z2⟩ := cbv_lt hcw (hV (csu g d t m c2))
    have hw' : V (csu g d t m c2) < 999999 := hw
    have z3 := z2 hw'
    show 8 * lsO g d t V m (aP g) + c ≤ (some 0).getD 0 + 8 * cwt g c2 + (if true = true then c2 else 0) + 8 * V (csu g d t m c2)
    simp
    by_cases hlt : c2 < c
    · have := k4 hlt hc'
      omega
    · omega
  · rw [wch_e] at hc2
    obtain ⟨hcw, -⟩ := cwt_le hg hc1
    obtain ⟨z1, z2⟩ := cbv_lt hcw (hV (csu g d t m c))
    have hw' := z1.mp (by omega)
    have z3 := z2 hw'
    refine ⟨_, allP_mem.mpr ⟨m, List.mem_singleton.mpr rfl, (puts_c hg t true m _ _).mpr ⟨c, hc1, rfl⟩⟩, hw', ?_⟩
    show _ = (F m).getD 0 + 8 * cwt g c + (if true = true then c else 0) + 8 * V (csu g d t m c)
    rw [hF]
    simp
    omega
/-- whether there is a way on: the same one minute on -/
theorem ways_on {g d : Nat → Int32} (hg : WFg g) {t : Nat} {opn : Bool} {V : Nat → Nat} (hV : ∀ x, V x ≤ 100000 ∨ V x = 999999) {L : List Nat} {F : Nat → Option Nat} {L2 : List Nat} (hL : ∀ m, m ∈ L2 ↔ pfF (kOp 0) (fun _ => none) (allP g d t 99 0 opn L F) m ≠ none) : (∃ x, x ∈ L2 ∧ V x < 999999) ↔ ∃ m, m ∈ L ∧ lsO g d t V m (aP g) < 999999 := by
  constructor
  · rintro ⟨x, hx, hw⟩
    obtain ⟨v, hv⟩ := Option.ne_none_iff_exists'.mp ((hL x).mp hx)
    rcases pf_from hv with q | q
    · cases q
    · obtain ⟨m, hm, hp⟩ := allP_mem.mp q
      obtain ⟨c, hc, he⟩ := (puts_c hg t opn m _ _).mp hp
      obtain ⟨k1, k2⟩ := lsO_char (d := d) hg (t := t) hV m (aP g) (Nat.le_refl _)
      have k3 := k1 c hc
      rw [wch_e] at k3
      obtain ⟨hcw, -⟩ := cwt_le hg hc
      obtain ⟨z1, z2⟩ := cbv_lt hcw (hV (csu g d t m c))
      have ex : x = csu g d t m c := congrArg Prod.fst he
      rw [ex] at hw
      have := z1.mpr hw
      exact ⟨m, hm, by omega⟩
  · rintro ⟨m, hm, hw⟩
    obtain ⟨k1, c, hc, k2⟩ := lsO_char (d := d) hg (t := t) hV m (aP g) (Nat.le_refl _)
    rw [wch_e] at k2
    obtain ⟨hcw, -⟩ := cwt_le hg hc
    obtain ⟨z1, z2⟩ := cbv_lt hcw (hV (csu g d t m c))
    rw [k2] at hw
    obtain ⟨v, hv, -⟩ := pf_put (F := fun _ => none) (allP_mem.mpr ⟨m, hm, (puts_c hg t opn m ((F m).getD 0) _).mpr ⟨c, hc, rfl⟩⟩)
    refine ⟨csu g d t m c, (hL _).mpr ?_, z1.mp hw⟩
    have hv' : pfF (kOp 0) (fun _ => none) (allP g d t 99 0 opn L F) (csu g d t m c) = some v := hv
    rw [hv']; simp
