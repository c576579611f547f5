theorem totW_le {g d : Nat → Int32} (hg : WFg g) {gs : List (Nat × Nat)} (lo : Nat) (hl : lastA gs ≤ 20) : totW g d gs lo < 2 ^ 62 := by
  have h1 := wk_sum (d := d) hg gs lo (lastA gs)
  have h2 := sv_le gs (lastA gs) (wk g d gs lo (lastA gs)) 1008
  have h3 := pow6 hl
  unfold totW
  omega
theorem lo99 : ∀ i, i < 5 → (nI i = -1 ↔ i = 99) := fun i hi => ⟨fun q => absurd q (nI_m1 (by omega)).1, fun q => by omega⟩
/-- what both hold of the sights -/
theorem sights_of {g d : Nat → Int32} {σ τ : Mm} (h : RelG g d σ τ) : ∃ gs : List (Nat × Nat), TdC σ 28 gs ∧ TdM τ 21 13 14 gs ∧ lastA gs ≤ 20 := by
  obtain ⟨hF, hT, hN, hD, hK, hG, hS, hf1, hf2⟩ := h
  have hN8 := hF.1.N
  obtain ⟨gs, l1, l2, l3, l4⟩ := hS.list (by omega) (by omega)
  refine ⟨gs, ⟨l1, l2, fun i y a hi => ?_⟩, ⟨l1, l3, fun i y a hi => ?_⟩, lastA_le (fun i y a hi => (l4 i y a hi).2.1)⟩
  · obtain ⟨a1, a2, a3, a4, a5, a6⟩ := l4 i y a hi
    exact ⟨by omega, by omega, a3, a4⟩
  · obtain ⟨a1, a2, a3, a4, a5, a6⟩ := l4 i y a hi
    exact ⟨by omega, by omega, a5, a6⟩
theorem goals_of {g d : Nat → Int32} {σ τ : Mm} (h : RelG g d σ τ) : ∃ gs : List (Nat × Nat), TdC σ 25 gs ∧ TdM τ 14 7 8 gs ∧ lastA gs ≤ 40 := by
  obtain ⟨hF, hT, hN, hD, hK, hG, hS, hf1, hf2⟩ := h
  have hN8 := hF.1.N
  obtain ⟨gs, l1, l2, l3, l4⟩ := hG.list (by omega) (by omega)
  refine ⟨gs, ⟨l1, l2, fun i y a hi => ?_⟩, ⟨l1, l3, fun i y a hi => ?_⟩, lastA_le (fun i y a hi => (l4 i y a hi).2.1)⟩
  · obtain ⟨a1, a2, a3, a4, a5, a6⟩ := l4 i y a hi
    exact ⟨by omega, by omega, a3, a4⟩
  · obtain ⟨a1, a2, a3, a4, a5, a6⟩ := l4 i y a hi
    exact ⟨by omega, by omega, a5, a6⟩
theorem op_how {σ τ : Mm} (h : Rel σ τ) : wp_X10_how σ (fun r σ2 => wp_X11_how τ (fun r2 τ2 => r = r2 ∧ Rel σ2 τ2)) := by
  obtain ⟨g, d, hR⟩ := h
  obtain ⟨gs, t1, t2, t3⟩ := sights_of hR
  obtain ⟨⟨hg, hd, hok, h01, h23, hC, hCD, hM⟩, -, -, -, -, -, -, hf1, hf2⟩ := id hR
  refine cC_ways hok.1 hg hd hC hCD hok h23 hf1 hf2 t1 t3 lo99 (fun σ2 L1 F1 L2 F2 a1 a2 a3 a4 a5 => ?_)
  exact cM_howBut hg hd hM t2 t3 lo99 (fun τ2 b1 => ⟨rfl, g, d, RelG_S hR a1 a2 a3 a4 a5 b1⟩)
theorem op_sure {σ τ : Mm} (h : Rel σ τ) (x : Int32) : wp_X10_sure σ x (fun r σ2 => wp_X11_sure τ x (fun r2 τ2 => r = r2 ∧ Rel σ2 τ2)) := by
  have h0 := h
  obtain ⟨g, d, hR⟩ := h
  obtain ⟨gs, t1, t2, t3⟩ := sights_of hR
  obtain ⟨⟨hg, hd, hok, h01, h23, hC, hCD, hM⟩, -, -, -, -, -, -, hf1, hf2⟩ := id hR
  have hP := hg.P
  by_cases hx : yIn (aP g) x
  · refine cC_hasPerson hg hC (fun _ => brn_t (by decide) ?_) (fun q => absurd hx q)
    obtain ⟨j, hj, rfl⟩ := id hx
    have hloj : ∀ i, i < 5 → (nI i = nI j ↔ i = j) := fun i hi => nI_eq (by omega) (by omega)
    have b1 := totW_le (d := d) hg 99 t3
    have b2 := totW_le (d := d) hg j t3
    have z1 : lN (totW g d gs 99) = 0 ↔ totW g d gs 99 = 0 := pk_lEQ (b := 0) (by omega) (by omega)
    have z2 : lN (totW g d gs j) = 0 ↔ totW g d gs j = 0 := pk_lEQ (b := 0) (by omega) (by omega)
    have z3 : lN (totW g d gs 99) ≤ 0 ↔ totW g d gs 99 = 0 := by
      have := pk_lLE (a := totW g d gs 99) (b := 0) (by omega) (by omega)
      constructor
      · intro z; have := this.mp z; omega
      · intro z; exact this.mpr (by omega)
    have hmod : ∀ {Φ : Int32 → Mm → Prop}, (∀ τ2 : Mm, τ2.1 = τ.1 → Φ (if totW g d gs 99 ≠ 0 ∧ totW g d gs j = 0 then 1 else 0) τ2) → wp_X11_sure τ (nI j) Φ := by
      intro Φ hΦ
      refine cM_isPerson hg hM (fun _ => brn_t (by decide) ?_) (fun q => absurd hx q)
      refine cM_howBut hg hd hM t2 t3 lo99 (fun τ2 c1 => ?_)
      rw [lg_cmp_le, z3]
      refine ⟨fun c => ?_, fun c => ?_⟩
      · have := hΦ τ2 c1
        rw [if_neg (fun q => q.1 c)] at this
        exact this
      · refine cM_howBut hg hd (hM.of1 c1) (t2.of c1) t3 hloj (fun τ3 c2 => ?_)
        have := hΦ τ3 (c2.trans c1)
        rw [lg_cmp_eq, z2]
        refine ⟨fun c3 => ?_, fun c3 => ?_⟩
        · rw [if_neg (fun q => c3 q.2)] at this; exact this
        · rw [if_pos ⟨c, c3⟩] at this; exact this
    refine cC_ways hok.1 hg hd hC hCD hok h23 hf1 hf2 t1 t3 lo99 (fun σ2 L1 F1 L2 F2 a1 a2 a3 a4 a5 => ?_)
    have hR2 := RelG_S hR a1 a2 a3 a4 a5 (τ2 := τ) rfl
    rw [lg_cmp_eq, z1]
    refine ⟨fun v => v = (if totW g d gs 99 = 0 then 1 else 0), fun v ev => ?_, fun c => by rw [if_neg c], fun c => by rw [if_pos c]⟩
    rw [ev]
    by_cases c : totW g d gs 99 = 0
    · rw [if_pos c]
      refine brn_t (by decide) (hmod (fun τ2 e => ⟨?_, g, d, RelG_S hR a1 a2 a3 a4 a5 e⟩))
      rw [if_neg (fun q => q.1 c)]
    · rw [if_neg c]
      refine brn_f rfl ?_
      obtain ⟨⟨-, -, hok', h01', h23', hC', hCD', hM'⟩, -, -, -, -, -, -, hf1', hf2'⟩ := id hR2
      refine cC_ways hok'.1 hg hd hC' hCD' hok' h23' hf1' hf2' (t1.of (fun k _ _ => a1.1 k (by omega))) t3 hloj (fun σ3 M1 G1 M2 G2 c1 c2 c3 c4 c5 => ?_)
      rw [lg_cmp_eq, z2]
      refine ⟨fun c6 => hmod (fun τ2 e => ⟨?_, g, d, RelG_S hR2 c1 c2 c3 c4 c5 e⟩), fun c6 => hmod (fun τ2 e => ⟨?_, g, d, RelG_S hR2 c1 c2 c3 c4 c5 e⟩)⟩
      · rw [if_neg (fun q => c6 q.2)]
      · rw [if_pos ⟨c, c6⟩]
  · refine cC_hasPerson hg hC (fun q => absurd q hx) (fun _ => brn_f rfl ?_)
    exact cM_isPerson hg hM (fun q => absurd q hx) (fun _ => brn_f rfl ⟨rfl, h0⟩)
-- ===== by chance
def ck (g d : Nat → Int32) (m t : Nat) : Nat → Nat → Nat
  | 0 => fun s => if s = m then 1 else 0
  | k + 1 => fun x => cP (allR g d (t + k) 99 2 (ck g d m t k)) x
theorem ck_s (g d : Nat → Int32) (m t k x : Nat) : ck g d m t (k + 1) x = cP (allR g d (t + k) 99 2 (ck g d m t k)) x := rfl
theorem ck_0 (g d : Nat → Int32) (m t x : Nat) : ck g d m t 0 x = if x = m then 1 else 0 := rfl
theorem ck_sup {g d : Nat → Int32} (hg : WFg g) (hd : WFd g d) {m : Nat} (hm : isSt g m) (t k : Nat) : ∀ s, ck g d m t k s ≠ 0 → isSt g s := by
  induction k with
  | zero =>
    intro s h
    rw [ck_0] at h
    have : s = m := by
      apply Classical.byContradiction
      intro q
      rw [if_neg q] at h
      exact h rfl
    rw [this]
    exact hm
  | succ k ih =>
    intro s h
    rw [ck_s] at h
    exact allR_sup hg hd (Or.inr rfl) ih h
theorem ck_sum {g d : Nat → Int32} (hg : WFg g) {m : Nat} (hm : m < 1008) (t k : Nat) : sm (ck g d m t k) 1008 ≤ 120 ^ k := by
  induction k with
  | zero =>
    have : sm (ck g d m t 0) 1008 = 1 := sm_one hm
    rw [this]
    exact Nat.le_refl _
  | succ k ih =>
    have h3 := allR_sum (d := d) hg (t + k) 99 2 (ck g d m t k) (Or.inr rfl) (fun _ => rfl)
    have h4 := sm_cP 1008 (allR g d (t + k) 99 2 (ck g d m t k))
    have h5 : sm (ck g d m t (k + 1)) 1008 = sm (cP (allR g d (t + k) 99 2 (ck g d m t k))) 1008 := rfl
    rw [h5, Nat.pow_succ]
    simp at h3
    omega
theorem pow120 {k : Nat} (h : k ≤ 6) : 120 ^ k ≤ 2985984000000 ∧ 1 ≤ 120 ^ k := by
  have : (120 : Nat) ^ k ≤ 120 ^ 6 := Nat.pow_le_pow_right (by omega) h
  have e : (120 : Nat) ^ 6 = 2985984000000 := by decide +kernel
  exact ⟨by omega, Nat.one_le_pow _ _ (by omega)⟩
theorem ck_all {g d : Nat → Int32} (hg : WFg g) {m : Nat} (hm : m < 1008) (t : Nat) {k : Nat} (hk : k < 6) : sumP (allR g d (t + k) 99 2 (ck g d m t k)) < 2 ^ 62 := by
  have h1 := ck_sum (d := d) hg hm t k
  have h3 := allR_sum (d := d) hg (t + k) 99 2 (ck g d m t k) (Or.inr rfl) (fun _ => rfl)
  have h4 := pow120 (k := k) (by omega)
  simp at h3
  omega
def upW (g d : Nat → Int32) (m t n y : Nat) : Nat := sm (fun s => if s % 8 = y then ck g d m t n s else 0) 1008
theorem upW_le {g d : Nat → Int32} (hg : WFg g) {m : Nat} (hm : m < 1008) (t : Nat) {n : Nat} (hn : n ≤ 6) (y : Nat) : upW g d m t n y < 2 ^ 62 := by
  have h1 := ck_sum (d := d) hg hm t n
  have h2 : upW g d m t n y ≤ sm (ck g d m t n) 1008 := sm_le (fun s _ => by split <;> omega)
  have h4 := pow120 hn
  omega
theorem cC_weight {σ : Mm} {g d : Nat → Int32} {b : Nat} (hb : kFm b) (hg : WFg g) (hd : WFd g d) (hC : FmC σ b g) (hCD : FmD σ b g d) (hok : okC σ.2.2) (hne : σ.2.2 2 ≠ σ.2.2 3) (h1 : FrR (σ.1 32 2) (σ.1 33) (σ.2.1 34)) (h2 : FrR (σ.1 35 2) (σ.1 36) (σ.2.1 37)) {m t n y : Nat} (hm : isSt g m) (ht : t ≤ 9999) (hn : n ≤ 6) (hy : y < 8) (e1 : σ.1 16 0 = nI t) (e2 : σ.1 16 1 = nI (cst g m)) {Φ : Int64 → Mm → Prop}
    (h : ∀ σ2 L1 F1 L2 F2, FrS σ σ2 → okC σ2.2.2 → σ2.2.2 2 ≠ σ2.2.2 3 → FIL g σ2 (σ2.2.2 2) L1 F1 → FIL g σ2 (σ2.2.2 3) L2 F2 → Φ (lN (upW g d m t n y)) σ2) : wp_X7_weight σ b (nI n) (nI y) Φ := by
  refine cC_begin (kd := 2) hb hg hd hC hCD hok hne h1 h2 (by omega) lo99 (fun σ1 s1 sc f1 f2 => ?_)
  have hokC := sc.2.2.2.2.2.1
  have hne1 := sc.2.2.2.2.2.2.1
  rw [s1.1 16 (by omega), e2]
  refine cC_put (v := 1) (op := addO) hg f1 hm (by omega) (Or.inl ⟨rfl, fun _ _ => rfl⟩) (fun u hu => by cases hu) (fun σ2 L2 g1 g2 => ?_)
  have er : σ2.2.2 = σ1.2.2 := g1.2.2
  obtain ⟨p1, p2, p3⟩ := Fr_other hokC.2.2.2 hokC.2.2.1 (Ne.symm hne1) g1
  have s2 := s1.trans (g1.toS hokC.2.2.1)
  have hF0 : ∀ x, (ptF addO (fun _ => none) m 1 x).getD 0 = ck g d m t 0 x := by
    intro x
    rw [ck_0]
    unfold ptF
    by_cases q : x = m <;> simp [q]
  refine ⟨fun ρ => ∃ L F, FrS σ ρ ∧ okC ρ.2.2 ∧ ρ.2.2 2 ≠ ρ.2.2 3 ∧ FIL g ρ (ρ.2.2 2) L F ∧ FIL g ρ (ρ.2.2 3) [] (fun _ => none) ∧ ∀ x, (F x).getD 0 = ck g d m t n x, fun ρ hρ => ?_, n + 1, ?_⟩
  · obtain ⟨L, F, c1, c2, c3, c4, c5, c6⟩ := hρ
    refine cC_keep hg c4 hy (fun ρ2 d1 d2 => ?_)
    have er2 : ρ2.2.2 = ρ.2.2 := d1.2.2
    obtain ⟨o1, o2, o3⟩ := Fr_other c2.2.2.2 c2.2.2.1 (Ne.symm c3) d1
    have hsum : ((L.filter (fun m => decide (m % 8 = y))).map (fun x => ((fun x => if x % 8 = y then F x else none) x).getD 0)).sum = upW g d m t n y := by
      rw [sum_list (n := 1008) (c4.2.2.1.filter _) (fun x hx => (c4.2.2.2.1 x (List.mem_filter.mp hx).1).1)]
      unfold upW
      refine sm_cong (fun s _ => ?_)
      rw [← c6 s]
      by_cases q : s % 8 = y
      · by_cases q2 : s ∈ L
        · simp [q, q2]
        · have : F s = none := by
            cases hF : F s with
            | none => rfl
            | some v => exact absurd ((c4.2.2.2.2.1 s).mpr (by rw [hF]; simp)) q2
          simp [q, this]
      · simp [q]
    rw [er2]
    refine cC_sum hg d2 ?_
    rw [hsum]
    exact h ρ2 _ _ _ _ (c1.trans (d1.toS c2.2.2.1)) (by rw [er2]; exact c2) (by rw [er2]; exact c3) (by rw [er2]; exact d2) (by rw [er2]; exact c5.of o1 o2 o3)
  · have key : ∀ r k (ρ : Mm) L F opn, k + r = n → FrS σ ρ → SC g d ρ b 2 99 opn → FIL g ρ (ρ.2.2 2) L F → FIL g ρ (ρ.2.2 3) [] (fun _ => none) → (∀ x, (F x).getD 0 = ck g d m t k x) → wp_X7_weight_L22 b (nI n) (fun ρ => ∃ L F, FrS σ ρ ∧ okC ρ.2.2 ∧ ρ.2.2 2 ≠ ρ.2.2 3 ∧ FIL g ρ (ρ.2.2 2) L F ∧ FIL g ρ (ρ.2.2 3) [] (fun _ => none) ∧ ∀ x, (F x).getD 0 = ck g d m t n x) (r + 1) ρ (nI k) := by
      intro r
      induction r with
      | zero =>
        intro k ρ L F opn hk a1 a2 a3 a4 a5
        have e : k = n := by omega
        subst e
        exact br_t (nI_le (Nat.le_refl _) (by omega)) ⟨L, F, a1, a2.2.2.2.2.2.1, a2.2.2.2.2.2.2.1, a3, a4, a5⟩
      | succ r ih =>
        intro k ρ L F opn hk a1 a2 a3 a4 a5
        have en : nI k + 1 = nI (k + 1) := nI_1 k
        unfold wp_X7_weight_L22
        rw [a1.1 16 (by omega), e1, nI_add, en]
        refine br_f (nI_ge (by omega) (by omega)) ?_
        have hall := fun x => allP_allR (g := g) (d := d) (t := t + k) (lo := 99) (Or.inr rfl) a3.2.2.1 (fun m hm => (a3.2.2.2.1 m hm).1) a3.2.2.2.2.1 a5 x
        refine cC_spread a2 a3 a4 (by omega) ?_ (fun ρ2 L2 b1 b2 b3 b4 => ?_)
        · rw [allP_opn (by omega), kOp_add (by omega)]
          exact okP_add (by rw [(hall 0).2]; exact ck_all hg hm.1 t (by omega))
        · rw [allP_opn (by omega), kOp_add (by omega)] at b3
          refine ih (k + 1) ρ2 L2 _ false (by omega) (a1.trans b1) b2 b3 b4 (fun x => ?_)
          rw [pfF_add, (hall x).1, ck_s]
          simp
    exact key n 0 σ2 L2 _ true (by omega) s2 (sc.fr hokC.2.2.1 g1) (by rw [er]; exact g2) (by rw [er]; exact f2.of p1 p2 p3) hF0
theorem lN_e0 {n : Nat} (h : n < 2 ^ 62) : lN n = 0 ↔ n = 0 := pk_lEQ (b := 0) (by omega) (by omega)
theorem gcd_step (a b : Nat) : Nat.gcd a b = Nat.gcd b (a % b) := by
  rw [Nat.gcd_comm a b, Nat.gcd_rec b a, Nat.gcd_comm]
theorem cC_gcd {Φ : Int64 → Prop} : ∀ (n a b i F : Nat), a < 2 ^ 62 → b < 2 ^ n → b < 2 ^ 62 → i + 2 * n + 1 ≤ 200 → 2 * n + 2 ≤ F → Φ (lN (Nat.gcd a b)) → wp_X10_commonDivisor_L9 Φ F (lN a) (lN b) (nI i)
  | 0, a, b, i, F + 1, ha, hb, hb2, hi, hF, h => by
    have : b = 0 := by simpa using hb
    subst this
    unfold wp_X10_commonDivisor_L9
    rw [lg_cmp_eq]
    rw [Nat.gcd_zero_right] at h
    exact br_f (nI_ge (a := i) (b := 200) (by omega) (by omega)) (br_t rfl h)
  | n + 1, a, b, i, F + 2, ha, hb, hb2, hi, hF, h => by
    have st : ∀ (a b i F : Nat), a < 2 ^ 62 → b < 2 ^ 62 → i < 200 → Φ (lN (Nat.gcd a b)) → (b ≠ 0 → wp_X10_commonDivisor_L9 Φ F (lN b) (lN (a % b)) (nI (i + 1))) → wp_X10_commonDivisor_L9 Φ (F + 1) (lN a) (lN b) (nI i) := by
      intro a b i F ha hb hi h1 h2
      unfold wp_X10_commonDivisor_L9
      rw [lg_cmp_eq, lN_e0 hb]
      refine br_f (nI_ge (a := i) (b := 200) (by omega) (by omega)) ⟨fun c => ?_, fun c => ⟨c, fun x ex => ?_⟩⟩
      · rw [c, Nat.gcd_zero_right] at h1; exact h1
      · have en : nI i + 1 = nI (i + 1) := nI_1 i
        rw [ex, pk_lRem (by omega) (by omega) (by omega), en]
        exact h2 c
    refine st a b i (F + 1) ha hb2 (by omega) h (fun hb0 => ?_)
    have hr : a % b < b := Nat.mod_lt _ (by omega)
    have h' : Φ (lN (Nat.gcd b (a % b))) := by rw [← gcd_step]; exact h
    refine st b (a % b) (i + 1) F (by omega) (by omega) (by omega) h' (fun hr0 => ?_)
    have hq : b % (a % b) < a % b := Nat.mod_lt _ (by omega)
    have hle : b % (a % b) ≤ b - a % b := by
      have := Nat.mod_eq_sub_mod (a := b) (b := a % b) (by omega)
      rw [this]
      exact Nat.mod_le _ _
    rw [Nat.pow_succ] at hb
    refine cC_gcd n (a % b) (b % (a % b)) (i + 1 + 1) F (by omega) (by omega) (by omega) (by omega) (by omega) ?_
    rw [← gcd_step]
    exact h'
theorem cM_gcd {K : Int64 → Prop} : ∀ (n a b F : Nat), a < 2 ^ 62 → b < 2 ^ n → b < 2 ^ 62 → 2 * n + 2 ≤ F → K (lN (Nat.gcd a b)) → wp_X11_chance_L135 K F (lN a) (lN b)
  | 0, a, b, F + 1, ha, hb, hb2, hF, h => by
    have : b = 0 := by simpa using hb
    subst this
    unfold wp_X11_chance_L135
    rw [lg_cmp_eq]
    rw [Nat.gcd_zero_right] at h
    exact br_t rfl h
  | n + 1, a, b, F + 2, ha, hb, hb2, hF, h => by
    have st : ∀ (a b F : Nat), a < 2 ^ 62 → b < 2 ^ 62 → K (lN (Nat.gcd a b)) → (b ≠ 0 → wp_X11_chance_L135 K F (lN b) (lN (a % b))) → wp_X11_chance_L135 K (F + 1) (lN a) (lN b) := by
      intro a b F ha hb h1 h2
      unfold wp_X11_chance_L135
      rw [lg_cmp_eq, lN_e0 hb]
      refine ⟨fun c => ?_, fun c => ⟨c, fun x ex => ?_⟩⟩
      · rw [c, Nat.gcd_zero_right] at h1; exact h1
      · rw [ex, pk_lRem (by omega) (by omega) (by omega)]
        exact h2 c
    refine st a b (F + 1) ha hb2 h (fun hb0 => ?_)
    have hr : a % b < b := Nat.mod_lt _ (by omega)
    have h' : K (lN (Nat.gcd b (a % b))) := by rw [← gcd_step]; exact h
    refine st b (a % b) F (by omega) (by omega) h' (fun hr0 => ?_)
    have hq : b % (a % b) < a % b := Nat.mod_lt _ (by omega)
    have hle : b % (a % b) ≤ b - a % b := by
      have := Nat.mod_eq_sub_mod (a := b) (b := a % b) (by omega)
      rw [this]
      exact Nat.mod_le _ _
    rw [Nat.pow_succ] at hb
    refine cM_gcd n (a % b) (b % (a % b)) F (by omega) (by omega) (by omega) (by omega) ?_
    rw [← gcd_step]
    exact h'
theorem op_chance {σ τ : Mm} (h : Rel σ τ) (x y w : Int32) : wp_X10_chance σ x y w (fun r σ2 => wp_X11_chance τ x y w (fun r2 τ2 => r = r2 ∧ Rel σ2 τ2)) := by
  have h0 := h
  obtain ⟨g, d, hR⟩ := h
  obtain ⟨⟨hg, hd, hok, h01, h23, hC, hCD, hM⟩, -, ⟨mi, m, fe, hmi, hm, n1, n2, n3, n4, n5, n6⟩, -, -, -, -, hf1, hf2⟩ := id hR
  have hN := hg.N
  by_cases hx : yIn (aN g) x
  · refine cC_hasYard hg hC (fun _ => br_f (by decide) ?_) (fun q => absurd hx q)
    obtain ⟨a, ha, rfl⟩ := id hx
    by_cases hy : yIn 7 y
    · have hy0 := ((rg_in (hi := 6) (by omega)).mpr hy).1
      refine br_f hy0 (br_f (fun q => ((rg_gt (hi := 6) (by omega) hy0).mp q) hy) ?_)
      obtain ⟨n, hn, rfl⟩ := id hy
      have hpw := pow120 (k := n) (by omega)
      have hup := upW_le (d := d) hg hm.1 mi (n := n) (by omega) a
      generalize hU : upW g d m mi n a = U at hup
      generalize hA : 120 ^ n = A at hpw
      have hG1 : 0 < Nat.gcd U A := Nat.gcd_pos_of_pos_right _ (by omega)
      have hG2 : Nat.gcd U A ≤ A := Nat.gcd_le_right _ (by omega)
      refine cC_isFlag (fun hw => brn_t (by decide) ?_) (fun hw => brn_f rfl ?_)
      · have hmod : ∀ {Φ : Int64 → Mm → Prop}, (w = 0 → ∀ τ2 : Mm, τ2.1 = τ.1 → Φ (lN (U / Nat.gcd U A)) τ2) → (¬ w = 0 → ∀ τ2 : Mm, τ2.1 = τ.1 → Φ (lN (A / Nat.gcd U A)) τ2) → wp_X11_chance τ (nI a) (nI n) w Φ := by
          intro Φ k1 k2
          refine cM_isYard hg hM (fun _ => br_f (by decide) (cM_in1 (lo := 0) (hi := 6) (by omega) (by omega) (by omega) (br_f (by decide) (cM_in01 (fun _ => brn_t (by decide) ?_) (fun q => absurd hw q))))) (fun q => absurd hx q)
          rw [n5]
          refine cM_startWays hm.1 (fun τ2 c1 c2 => ?_)
          refine ⟨fun ρ v => ρ.1 = τ.1 ∧ v = lN A ∧ MW ρ (ck g d m mi n), fun ρ v hρ => ?_, n + 1, ?_⟩
          · obtain ⟨r1, rfl, r3⟩ := hρ
            refine ⟨fun v => v = lN U, fun v ev => ?_, 1009, ?_⟩
            · subst ev
              refine ⟨fun v => v = lN (Nat.gcd U A), fun v ev => ?_, 126, cM_gcd 62 U A 126 (by omega) (by omega) (by omega) (by omega) rfl⟩
              rw [ev, lN_e0 (by omega), pk_lDiv (by omega) (by omega) (by omega), pk_lDiv (by omega) (by omega) (by omega)]
              exact ⟨fun c => ⟨by omega, k2 c ρ r1⟩, fun c => ⟨by omega, k1 c ρ r1⟩⟩
            · have key : ∀ r i, i + r = 1008 → wp_X11_chance_L88 (nI a) ρ (fun v => v = lN U) (r + 1) (lN (sm (fun s => if s % 8 = a then ck g d m mi n s else 0) i)) (nI i) := by
                intro r
                induction r with
                | zero =>
                  intro i hi
                  have e : i = 1008 := by omega
                  subst e
                  exact br_t (by decide) (by rw [← hU]; rfl)
                | succ r ih =>
                  intro i hi
                  have hi' : i < 1008 := by omega
                  have en : nI i + 1 = nI (i + 1) := nI_1 i
                  unfold wp_X11_chance_L88
                  rw [nI_clamp (by omega), en, (r3 i hi').1]
                  refine br_f (n1008 hi') (cM_yardOf (by omega) ?_)
                  rw [nI_eq (by omega) (by omega)]
                  refine ⟨fun v => v = lN (if i % 8 = a then ck g d m mi n i else 0), fun v ev x ex => ?_, fun c => by rw [if_neg c]; rfl, fun c => ⟨b1008 hi', by rw [if_pos c]⟩⟩
                  rw [ex, ev, lN_add]
                  exact ih (i + 1) (by omega)
              exact key 1008 0 (by omega)
          · have key : ∀ r k (ρ : Mm), k + r = n → ρ.1 = τ.1 → MW ρ (ck g d m mi k) → wp_X11_chance_L47 (nI n) (fun ρ v => ρ.1 = τ.1 ∧ v = lN A ∧ MW ρ (ck g d m mi n)) (r + 1) ρ (lN (120 ^ k)) (nI k) := by
              intro r
              induction r with
              | zero =>
                intro k ρ hk b1 b2
                have e : k = n := by omega
                subst e
                exact br_t (nI_le (Nat.le_refl _) (by omega)) ⟨b1, by rw [hA], b2⟩
              | succ r ih =>
                intro k ρ hk b1 b2
                have en : nI k + 1 = nI (k + 1) := nI_1 k
                unfold wp_X11_chance_L47
                rw [b1, n4, nI_add, en]
                refine br_f (nI_ge (by omega) (by omega)) (cM_goOn hg hd (hM.of1 b1) b2 (fun s hs => ck_sup hg hd hm mi k s hs) (by omega) (Or.inr rfl) lo99 (by simp) (ck_all hg hm.1 mi (by omega)) (fun ρ2 c1 c2 => ?_))
                intro x ex
                have e2 : lN (120 ^ k) * 120 = lN (120 ^ (k + 1)) := by rw [Nat.pow_succ]; exact lN_mul _ 120
                rw [ex, e2]
                exact ih (k + 1) ρ2 (by omega) (c1.trans b1) c2
            exact key n 0 τ2 (by omega) c1 c2
        refine cC_weight hok.1 hg hd hC hCD hok h23 hf1 hf2 hm hmi (by omega) (by omega) n1 n2 (fun σ2 L1 F1 L2 F2 a1 a2 a3 a4 a5 => ?_)
        rw [hU]
        refine ⟨fun v => v = lN A, fun v ev => ?_, n + 1, ?_⟩
        · subst ev
          refine ⟨202, cC_gcd 62 A U 0 202 (by omega) (by omega) (by omega) (by omega) (by omega) ?_⟩
          rw [Nat.gcd_comm A U, lg_cmp_ge, lN_e0 (by omega), pk_lDiv (by omega) (by omega) (by omega), pk_lDiv (by omega) (by omega) (by omega)]
          refine br_t ((pk_lLE (a := 1) (by omega) (by omega)).mpr (by omega)) ⟨fun c => ⟨by omega, ?_⟩, fun c => ⟨by omega, ?_⟩⟩
          · exact hmod (fun q => absurd q c) (fun _ τ2 e => ⟨rfl, g, d, RelG_S hR a1 a2 a3 a4 a5 e⟩)
          · exact hmod (fun _ τ2 e => ⟨rfl, g, d, RelG_S hR a1 a2 a3 a4 a5 e⟩) (fun q => absurd c q)
        · have key : ∀ r k, k + r = n → wp_X10_chance_L57 (nI n) (fun v => v = lN A) (r + 1) (lN (120 ^ k)) (nI k) := by
            intro r
            induction r with
            | zero =>
              intro k hk
              have e : k = n := by omega
              subst e
              exact br_t (nI_le (Nat.le_refl _) (by omega)) (by rw [hA])
            | succ r ih =>
              intro k hk
              have en : nI k + 1 = nI (k + 1) := nI_1 k
              unfold wp_X10_chance_L57
              rw [en]
              refine br_f (nI_ge (by omega) (by omega)) (fun x ex => ?_)
              have e2 : lN (120 ^ k) * 120 = lN (120 ^ (k + 1)) := by rw [Nat.pow_succ]; exact lN_mul _ 120
              rw [ex, e2]
              exact ih (k + 1) (by omega)
          exact key n 0 (by omega)
      · exact cM_isYard hg hM (fun _ => br_f (by decide) (cM_in1 (lo := 0) (hi := 6) (by omega) (by omega) (by omega) (br_f (by decide) (cM_in01 (fun q => absurd q hw) (fun _ => brn_f rfl ⟨rfl, h0⟩))))) (fun q => absurd hx q)
    · have hb : wp_X11_chance τ (nI a) y w (fun r2 τ2 => -1 = r2 ∧ Rel σ τ2) := cM_isYard hg hM (fun _ => br_f (by decide) (cM_in0 (hi := 6) (by omega) hy (br_t rfl ⟨rfl, h0⟩))) (fun q => absurd hx q)
      exact ⟨fun _ => hb, fun c => ⟨fun _ => hb, fun c2 => absurd ((rg_gt (hi := 6) (by omega) c).mpr hy) c2⟩⟩
  · refine cC_hasYard hg hC (fun q => absurd q hx) (fun _ => br_t rfl ?_)
    exact cM_isYard hg hM (fun q => absurd q hx) (fun _ => br_t rfl ⟨rfl, h0⟩)
