/-- nothing but the search has changed -/
def FrS (σ σ2 : Mm) : Prop := (∀ k, k < 31 ∨ 37 < k → σ2.1 k = σ.1 k) ∧ (∀ k, k ≠ 34 → k ≠ 37 → σ2.2.1 k = σ.2.1 k) ∧ σ2.2.2 0 = σ.2.2 0 ∧ σ2.2.2 1 = σ.2.2 1
theorem FrS.refl (σ : Mm) : FrS σ σ := ⟨fun _ _ => rfl, fun _ _ _ => rfl, rfl, rfl⟩
theorem FrS.trans {σ σ2 σ3 : Mm} (h1 : FrS σ σ2) (h2 : FrS σ2 σ3) : FrS σ σ3 := ⟨fun k a => (h2.1 k a).trans (h1.1 k a), fun k a c => (h2.2.1 k a c).trans (h1.2.1 k a c), h2.2.2.1.trans h1.2.2.1, h2.2.2.2.trans h1.2.2.2⟩
theorem Fr.toS {q : Nat} {σ σ2 : Mm} (hq : kFr q) (h : Fr q σ σ2) : FrS σ σ2 := by
  have hq' : q = 32 ∨ q = 35 := hq
  refine ⟨fun k a => h.1 k (by omega) (by omega), fun k a c => h.2.1 k (by omega), by rw [h.2.2], by rw [h.2.2]⟩
theorem Fr_other {p q : Nat} {σ σ2 : Mm} (hp : kFr p) (hq : kFr q) (hne : p ≠ q) (h : Fr q σ σ2) : σ2.1 p = σ.1 p ∧ σ2.1 (p + 1) = σ.1 (p + 1) ∧ σ2.2.1 (p + 2) = σ.2.1 (p + 2) := by
  have hq' : q = 32 ∨ q = 35 := hq
  have hp' : p = 32 ∨ p = 35 := hp
  exact ⟨h.1 p (by omega) (by omega), h.1 (p + 1) (by omega) (by omega), h.2.1 (p + 2) (by omega)⟩
def allP (g d : Nat → Int32) (t lo kd : Nat) (opn : Bool) (L : List Nat) (F : Nat → Option Nat) : List (Nat × Nat) := L.flatMap (fun m => puts g d t lo kd opn m ((F m).getD 0))
theorem allP_s (g d : Nat → Int32) (t lo kd : Nat) (opn : Bool) {L : List Nat} (F : Nat → Option Nat) {i m : Nat} (h : L[i]? = some m) : allP g d t lo kd opn (L.take (i + 1)) F = allP g d t lo kd opn (L.take i) F ++ puts g d t lo kd opn m ((F m).getD 0) := by
  unfold allP
  rw [takes h, List.flatMap_append]
  simp
theorem cC_spread {g d : Nat → Int32} {σ : Mm} {b kd lo : Nat} {opn : Bool} (h : SC g d σ b kd lo opn) {L : List Nat} {F : Nat → Option Nat} (hH : FIL g σ (σ.2.2 2) L F) (hN : FIL g σ (σ.2.2 3) [] (fun _ => none)) {t : Nat} (ht : t < 50000) (hok : okP (kOp kd) (fun _ => none) (allP g d t lo kd opn L F)) {Φ : Mm → Prop}
    (hΦ : ∀ σ2 L2, FrS σ σ2 → SC g d σ2 b kd lo false → FIL g σ2 (σ2.2.2 2) L2 (pfF (kOp kd) (fun _ => none) (allP g d t lo kd opn L F)) → FIL g σ2 (σ2.2.2 3) [] (fun _ => none) → Φ σ2) : wp_X7_spread σ b (nI t) Φ := by
  obtain ⟨hg, hd, hb, hC, hCD, hokC, hne, k2, hkd, k3, k4⟩ := id h
  have hl := hH.len hg
  have hqh : kFr (σ.2.2 2) := hokC.2.2.1
  have hqn : kFr (σ.2.2 3) := hokC.2.2.2
  refine ⟨fun ρ => Fr (σ.2.2 3) σ ρ ∧ ∃ L2, FIL g ρ (σ.2.2 3) L2 (pfF (kOp kd) (fun _ => none) (allP g d t lo kd opn L F)), fun ρ hρ => ?_, L.length + 1, ?_⟩
  · obtain ⟨f1, L2, f2⟩ := hρ
    have er : ρ.2.2 = σ.2.2 := f1.2.2
    obtain ⟨o1, o2, o3⟩ := Fr_other hqh hqn hne f1
    have hH' : FIL g ρ (σ.2.2 2) L F := hH.of o1 o2 o3
    rw [er]
    refine cC_clear (g := g) (hH'.toR hg) (fun ρ3 f3 f4 => ?_)
    intro σ6 e6 σ7 e7 σ8 e8
    have er3 : ρ3.2.2 = σ.2.2 := f3.2.2.trans er
    obtain ⟨p1, p2, p3⟩ := Fr_other hqn hqh (Ne.symm hne) f3
    have hN' : FIL g ρ3 (σ.2.2 3) L2 _ := f2.of p1 p2 p3
    have q2 : σ8.2.2 2 = σ.2.2 3 := by rw [e8, e7, e6, er3]; rfl
    have q3 : σ8.2.2 3 = σ.2.2 2 := by rw [e8, e7, e6, er3]; rfl
    have q0 : σ8.2.2 0 = σ.2.2 0 := by rw [e8, e7, e6]; show ρ3.2.2 0 = _; rw [er3]
    have q1 : σ8.2.2 1 = σ.2.2 1 := by rw [e8, e7, e6]; show ρ3.2.2 1 = _; rw [er3]
    have r1 : ∀ k, k ≠ 31 → σ8.1 k = ρ3.1 k := fun k hk => by rw [e8, kwi_ne _ _ _ hk, e7, e6]; rfl
    have r2 : σ8.2.1 = ρ3.2.1 := by rw [e8, e7, e6]; rfl
    have r31 : σ8.1 31 = upd (ρ3.1 31) 4 0 := by rw [e8, kwi_same, e7, e6]; rfl
    have hs3 := (f1.toS hqn).trans (f3.toS hqh)
    have hqh' : σ.2.2 2 = 32 ∨ σ.2.2 2 = 35 := hqh
    have hqn' : σ.2.2 3 = 32 ∨ σ.2.2 3 = 35 := hqn
    have hb' : b = 4 ∨ b = 10 := hb
    have r31' : ρ3.1 31 = σ.1 31 := (f3.1 31 (by omega) (by omega)).trans (f1.1 31 (by omega) (by omega))
    refine hΦ σ8 L2 ⟨fun k a => by rw [r1 k (by omega)]; exact hs3.1 k a, fun k a c => by rw [r2]; exact hs3.2.1 k a c, q0, q1⟩ ⟨hg, hd, hb, hC.of (fun k _ _ => ?_), hCD.of (fun k _ _ => ?_), ?_, by rw [q2, q3]; exact Ne.symm hne, ?_, hkd, ?_, ?_⟩ ?_ ?_
    · rw [r1 k (by omega)]; exact hs3.1 k (by omega)
    · rw [r1 k (by omega)]; exact hs3.1 k (by omega)
    · unfold okC; rw [q0, q1, q2, q3]; exact ⟨hokC.1, hokC.2.1, hqn, hqh⟩
    · rw [r31, r31']; exact k2
    · rw [r31, r31']; exact k3
    · rw [r31]; rfl
    · rw [q2]
      exact hN'.of (r1 _ (by omega)) (r1 _ (by omega)) (by rw [r2])
    · rw [q3]
      exact f4.of (r1 _ (by omega)) (r1 _ (by omega)) (by rw [r2])
  · have key : ∀ r i (ρ : Mm) L1, i + r = L.length → Fr (σ.2.2 3) σ ρ → FIL g ρ (σ.2.2 3) L1 (pfF (kOp kd) (fun _ => none) (allP g d t lo kd opn (L.take i) F)) → wp_X7_spread_L2 b (nI t) (fun ρ => Fr (σ.2.2 3) σ ρ ∧ ∃ L2, FIL g ρ (σ.2.2 3) L2 (pfF (kOp kd) (fun _ => none) (allP g d t lo kd opn L F))) (r + 1) ρ (nI i) := by
      intro r
      induction r with
      | zero =>
        intro i ρ L1 hi a1 a2
        have e : i = L.length := by omega
        subst e
        rw [List.take_length] at a2
        obtain ⟨o1, o2, o3⟩ := Fr_other hqh hqn hne a1
        have hH' : FIL g ρ (σ.2.2 2) L F := hH.of o1 o2 o3
        unfold wp_X7_spread_L2
        rw [a1.2.2]
        exact cC_size hH' (br_t (nI_le (Nat.le_refl _) (by omega)) ⟨a1, L1, a2⟩)
      | succ r ih =>
        intro i ρ L1 hi a1 a2
        have hil : i < L.length := by omega
        have hm : L[i]? = some L[i] := List.getElem?_eq_getElem hil
        generalize L[i] = m at hm
        have hmL : m ∈ L := List.mem_of_getElem? hm
        obtain ⟨u, hu⟩ : ∃ v, F m = some v := by
          cases hF : F m with
          | none => exact absurd hF ((hH.2.2.2.2.1 m).mp hmL)
          | some v => exact ⟨v, rfl⟩
        obtain ⟨o1, o2, o3⟩ := Fr_other hqh hqn hne a1
        have hH' : FIL g ρ (σ.2.2 2) L F := hH.of o1 o2 o3
        unfold wp_X7_spread_L2
        have er : ρ.2.2 = σ.2.2 := a1.2.2
        have e1 : nI i + 1 = nI (i + 1) := nI_1 i
        rw [er, e1]
        refine cC_size hH' (br_f (nI_ge hil (by omega)) (cC_state hg hH' hm (cC_number hg hH' hm hu ?_)))
        have hst := hH.2.2.2.1 m hmL
        have hsp := allP_s g d t lo kd opn F hm
        have hpre : allP g d t lo kd opn (L.take (i + 1)) F <+: allP g d t lo kd opn L F := by
          have : L = L.take (i + 1) ++ L.drop (i + 1) := (List.take_append_drop (i + 1) L).symm
          conv => rhs; rw [this]
          unfold allP
          rw [List.flatMap_append]
          exact List.prefix_append _ _
        have hok1 := okP_pre hok hpre
        rw [hsp] at hok1
        have hok2 := okP_suf hok1
        rw [hu] at hok2 hsp
        have hF3 : FIL g ρ (ρ.2.2 3) L1 (pfF (kOp kd) (fun _ => none) (allP g d t lo kd opn (L.take i) F)) := by rw [er]; exact a2
        refine cC_branch (h.fr hqn a1) hF3 hst ht (hH.2.2.2.2.2.1 m u hu).2 hok2 (fun σ2 L2 f1 f2 => ?_)
        rw [er] at f1 f2
        refine ih (i + 1) σ2 L2 (by omega) (a1.trans f1) ?_
        rw [hsp, pfF_app]
        exact f2
    exact key L.length 0 σ [] (by omega) (Fr.refl _ σ) hN
-- ===== goals and sights, as the component holds them
def TdC (σ : Mm) (b : Nat) (gs : List (Nat × Nat)) : Prop := gs.length ≤ 6 ∧ σ.1 b 2 = nI gs.length ∧ ∀ i y a, gs[i]? = some (y, a) → y < 8 ∧ a ≤ 40 ∧ σ.1 (b + 1) i = nI y ∧ σ.1 (b + 2) i = nI a
theorem TdC.of {σ σ2 : Mm} {b : Nat} {gs : List (Nat × Nat)} (h : TdC σ b gs) (e : ∀ k, b ≤ k → k ≤ b + 2 → σ2.1 k = σ.1 k) : TdC σ2 b gs := by
  unfold TdC at *
  rw [e b (by omega) (by omega), e (b + 1) (by omega) (by omega), e (b + 2) (by omega) (by omega)]
  exact h
/-- the last minute that is told of -/
def lastA (gs : List (Nat × Nat)) : Nat := gs.foldl (fun a p => if a < p.2 then p.2 else a) 0
theorem cC_lastMinute {σ : Mm} {b : Nat} {gs : List (Nat × Nat)} (h : TdC σ b gs) {Φ : Int32 → Prop} (hΦ : Φ (nI (lastA gs))) : wp_X9_lastMinute σ b Φ := by
  obtain ⟨h1, h2, h3⟩ := h
  have key : ∀ r i, i + r = gs.length → lastA (gs.take i) ≤ 40 → wp_X9_lastMinute_L4 b σ Φ (r + 1) (nI (lastA (gs.take i))) (nI i) := by
    intro r
    induction r with
    | zero =>
      intro i hi _
      have e : i = gs.length := by omega
      subst e
      rw [List.take_length]
      exact br_t (by rw [h2]; exact nI_le (Nat.le_refl _) (by omega)) hΦ
    | succ r ih =>
      intro i hi hb
      have hil : i < gs.length := by omega
      have hm : gs[i]? = some gs[i] := List.getElem?_eq_getElem hil
      generalize gs[i] = p at hm
      obtain ⟨y, a⟩ := p
      obtain ⟨y1, a1, e1, e2⟩ := h3 i y a hm
      unfold wp_X9_lastMinute_L4
      have en : nI i + 1 = nI (i + 1) := nI_1 i
      rw [h2, nI_clamp (by omega), e2, en]
      refine br_f (nI_ge hil (by omega)) ⟨⟨nI_pos' (by omega), (nI_ltI (a := i) (b := 6) (by omega) (by omega)).mpr (by omega)⟩, ?_⟩
      intro x ex
      have ht : lastA (gs.take (i + 1)) = if lastA (gs.take i) < a then a else lastA (gs.take i) := by
        unfold lastA
        rw [List.take_add_one, hm, List.foldl_append]
        rfl
      have ih' := ih (i + 1) (by omega) (by rw [ht]; split <;> omega)
      rw [ht] at ih'
      rw [ex]
      by_cases hc : lastA (gs.take i) < a
      · rw [if_pos hc] at ih'
        rw [if_pos (nI_lt hc (by omega))]
        exact ih'
      · rw [if_neg hc] at ih'
        rw [if_neg (nI_nlt (by omega) (by omega))]
        exact ih'
  exact ⟨gs.length + 1, key gs.length 0 (by omega) (Nat.zero_le 40)⟩
/-- does a state fit the first n of the goals, those of minute k -/
def fitU (gs : List (Nat × Nat)) (k n m : Nat) : Bool := (gs.take n).all (fun p => decide (p.2 = k → p.1 = m % 8))
theorem fitU_s {gs : List (Nat × Nat)} {i y a : Nat} (h : gs[i]? = some (y, a)) (k m : Nat) : fitU gs k (i + 1) m = (fitU gs k i m && decide (a = k → y = m % 8)) := by
  unfold fitU
  rw [List.take_add_one, h, List.all_append]
  simp
theorem cC_sieve {g : Nat → Int32} (hg : WFg g) {σ : Mm} {b : Nat} (hb : b = 25 ∨ b = 28) {gs : List (Nat × Nat)} (ht : TdC σ b gs) (hq : kFr (σ.2.2 2)) {L : List Nat} {F : Nat → Option Nat} (hH : FIL g σ (σ.2.2 2) L F) {k : Nat} (hk : k ≤ 40) {Φ : Int32 → Mm → Prop}
    (hA : (∀ i y, gs[i]? = some (y, k) → L.filter (fitU gs k (i + 1)) ≠ []) → ∀ σ2, Fr (σ.2.2 2) σ σ2 → FIL g σ2 (σ.2.2 2) (L.filter (fitU gs k gs.length)) (fun x => if fitU gs k gs.length x then F x else none) → Φ (-4) σ2)
    (hB : ∀ i y, gs[i]? = some (y, k) → L.filter (fitU gs k (i + 1)) = [] → (∀ j y2, j < i → gs[j]? = some (y2, k) → L.filter (fitU gs k (j + 1)) ≠ []) → ∀ σ2, Fr (σ.2.2 2) σ σ2 → FIL g σ2 (σ.2.2 2) [] (fun x => if fitU gs k (i + 1) x then F x else none) → Φ (nI i) σ2) : wp_X7_sieve σ b (nI k) Φ := by
  obtain ⟨h1, h2, h3⟩ := id ht
  have hq' : σ.2.2 2 = 32 ∨ σ.2.2 2 = 35 := hq
  have key : ∀ r i (ρ : Mm), i + r = gs.length → Fr (σ.2.2 2) σ ρ → FIL g ρ (σ.2.2 2) (L.filter (fitU gs k i)) (fun x => if fitU gs k i x then F x else none) → (∀ j y2, j < i → gs[j]? = some (y2, k) → L.filter (fitU gs k (j + 1)) ≠ []) → wp_X7_sieve_L2 b (nI k) Φ (r + 1) ρ (nI i) := by
    intro r
    induction r with
    | zero =>
      intro i ρ hi a1 a2 a3
      have e : i = gs.length := by omega
      subst e
      have htρ := ht.of (σ2 := ρ) (fun k _ _ => a1.1 k (by omega) (by omega))
      unfold wp_X7_sieve_L2 wp_X9_size
      rw [htρ.2.1]
      exact br_t (nI_le (Nat.le_refl _) (by omega)) (hA (fun i y hi => a3 i y (List.getElem?_eq_some_iff.mp hi).1 hi) ρ a1 a2)
    | succ r ih =>
      intro i ρ hi a1 a2 a3
      have htρ := ht.of (σ2 := ρ) (fun k _ _ => a1.1 k (by omega) (by omega))
      have hil : i < gs.length := by omega
      have hm : gs[i]? = some gs[i] := List.getElem?_eq_getElem hil
      generalize gs[i] = p at hm
      obtain ⟨y, a⟩ := p
      obtain ⟨y1, y2, e1, e2⟩ := htρ.2.2 i y a hm
      have hfs := fitU_s hm k
      unfold wp_X7_sieve_L2 wp_X9_size
      have en : nI i + 1 = nI (i + 1) := nI_1 i
      rw [htρ.2.1, en]
      refine br_f (nI_ge hil (by omega)) ?_
      unfold wp_X9_isOf
      rw [htρ.2.1, nI_clamp (by omega), e2]
      have bi : (0 ≤ nI i ∧ nI i < 6) := ⟨nI_pos' (by omega), (nI_ltI (a := i) (b := 6) (by omega) (by omega)).mpr (by omega)⟩
      refine br_f (nI_pos (by omega)) (br_f (nI_ge hil (by omega)) ⟨bi, ?_⟩)
      rw [nI_eq (by omega) (by omega)]
      refine ⟨fun c => ⟨_, fun _ z => z, br_t rfl ?_⟩, fun c => ⟨_, fun _ z => z, br_f (by decide) ?_⟩⟩
      · have ef : ∀ x, fitU gs k (i + 1) x = fitU gs k i x := fun x => by
          rw [hfs x]; simp [c]
        have ef2 : fitU gs k (i + 1) = fitU gs k i := funext ef
        refine ih (i + 1) ρ (by omega) a1 (by rw [ef2]; exact a2) (fun j y3 hj hj2 => ?_)
        rcases Nat.lt_or_ge j i with q | q
        · exact a3 j y3 q hj2
        · have : j = i := by omega
          subst this
          rw [hm] at hj2
          cases hj2
          exact absurd rfl c
      · subst c
        unfold wp_X9_yard
        rw [htρ.2.1, nI_clamp (by omega), e1]
        refine br_f (nI_pos (by omega)) (br_f (nI_ge hil (by omega)) ⟨bi, ?_⟩)
        rw [a1.2.2]
        refine cC_keep hg a2 y1 (fun ρ2 f1 f2 => ?_)
        have ef : ∀ x, fitU gs a (i + 1) x = (fitU gs a i x && decide (x % 8 = y)) := fun x => by
          rw [hfs x]
          congr 1
          simp [eq_comm]
        have eL : List.filter (fun m => decide (m % 8 = y)) (List.filter (fitU gs a i) L) = L.filter (fitU gs a (i + 1)) := by
          rw [List.filter_filter]
          congr 1
          funext x
          rw [ef x, Bool.and_comm]
        have eF : (fun x => if x % 8 = y then (if fitU gs a i x then F x else none) else none) = (fun x => if fitU gs a (i + 1) x then F x else none) := by
          funext x
          rw [ef x]
          by_cases q1 : x % 8 = y <;> by_cases q2 : fitU gs a i x = true <;> simp [q1, q2]
        rw [eL, eF] at f2
        have er : ρ2.2.2 = σ.2.2 := f1.2.2.trans a1.2.2
        rw [er]
        refine cC_size f2 ?_
        have hl2 := f2.len hg
        rw [nI_e0 (by omega)]
        refine ⟨fun c => ih (i + 1) ρ2 (by omega) (a1.trans f1) f2 (fun j y3 hj hj2 => ?_), fun c => ?_⟩
        · rcases Nat.lt_or_ge j i with q | q
          · exact a3 j y3 q hj2
          · have : j = i := by omega
            subst this
            intro z
            rw [z] at c
            exact c rfl
        · have hnil : L.filter (fitU gs a (i + 1)) = [] := List.eq_nil_of_length_eq_zero c
          rw [hnil] at f2
          exact hB i y hm hnil a3 ρ2 (a1.trans f1) f2
  refine ⟨gs.length + 1, key gs.length 0 σ (by omega) (Fr.refl _ σ) ?_ (fun j _ hj => by omega)⟩
  have e0 : ∀ x, fitU gs k 0 x = true := fun x => by unfold fitU; simp
  have : L.filter (fitU gs k 0) = L := List.filter_eq_self.mpr (fun x _ => e0 x)
  rw [this]
  have : (fun x => if fitU gs k 0 x then F x else none) = F := by funext x; rw [e0 x]; rfl
  rw [this]
  exact hH
/-- the following of goals minute by minute, with an invariant I of minute, states and numbers -/
theorem cC_follow {g d : Nat → Int32} {b kd lo : Nat} {opn : Bool} {bt : Nat} (hbt : bt = 25 ∨ bt = 28) {gs : List (Nat × Nat)} {t : Nat} (ht : t ≤ 9999) (I : Nat → List Nat → (Nat → Option Nat) → Prop) {Φ : Int32 → Mm → Prop} {σ : Mm}
    (h : SC g d σ b kd lo opn) (hT : TdC σ bt gs) (hlast : lastA gs ≤ 40) {L0 : List Nat} {F0 : Nat → Option Nat} (hH : FIL g σ (σ.2.2 2) L0 F0) (hN : FIL g σ (σ.2.2 3) [] (fun _ => none)) (hI : I 0 L0 F0)
    (hstep : ∀ k L F, k < lastA gs → I k L F → (∀ i y, gs[i]? = some (y, k) → L.filter (fitU gs k (i + 1)) ≠ []) → okP (kOp kd) (fun _ => none) (allP g d (t + k) lo kd (opn && decide (k = 0)) (L.filter (fitU gs k gs.length)) (fun x => if fitU gs k gs.length x then F x else none)) ∧ ∀ L2, L2.Nodup → (∀ m, m ∈ L2 ↔ pfF (kOp kd) (fun _ => none) (allP g d (t + k) lo kd (opn && decide (k = 0)) (L.filter (fitU gs k gs.length)) (fun x => if fitU gs k gs.length x then F x else none)) m ≠ none) → (∀ m, m ∈ L2 → isSt g m) → I (k + 1) L2 (pfF (kOp kd) (fun _ => none) (allP g d (t + k) lo kd (opn && decide (k = 0)) (L.filter (fitU gs k gs.length)) (fun x => if fitU gs k gs.length x then F x else none))))
    (hbar : ∀ k L F i y, k ≤ lastA gs → I k L F → gs[i]? = some (y, k) → L.filter (fitU gs k (i + 1)) = [] → (∀ j y2, j < i → gs[j]? = some (y2, k) → L.filter (fitU gs k (j + 1)) ≠ []) → ∀ σ2, FrS σ σ2 → okC σ2.2.2 → σ2.2.2 2 ≠ σ2.2.2 3 → FIL g σ2 (σ2.2.2 2) [] (fun x => if fitU gs k (i + 1) x then F x else none) → FIL g σ2 (σ2.2.2 3) [] (fun _ => none) → Φ (nI i) σ2)
    (hend : ∀ L F, I (lastA gs) L F → (∀ i y, gs[i]? = some (y, lastA gs) → L.filter (fitU gs (lastA gs) (i + 1)) ≠ []) → ∀ σ2, FrS σ σ2 → okC σ2.2.2 → σ2.2.2 2 ≠ σ2.2.2 3 → FIL g σ2 (σ2.2.2 2) (L.filter (fitU gs (lastA gs) gs.length)) (fun x => if fitU gs (lastA gs) gs.length x then F x else none) → FIL g σ2 (σ2.2.2 3) [] (fun _ => none) → Φ (-4) σ2) : wp_X7_follow σ b (nI t) bt Φ := by
  have hg := h.1
  refine cC_lastMinute hT ?_
  have key : ∀ r k (ρ : Mm) L F, k + r = lastA gs → FrS σ ρ → SC g d ρ b kd lo (opn && decide (k = 0)) → FIL g ρ (ρ.2.2 2) L F → FIL g ρ (ρ.2.2 3) [] (fun _ => none) → I k L F → wp_X7_follow_L9 b (nI t) bt Φ (nI (lastA gs)) (r + 2) ρ (nI k) := by
    intro r
    induction r with
    | zero =>
      intro k ρ L F hk a1 a2 a3 a4 a5
      have e : k = lastA gs := by omega
      have hTρ := hT.of (σ2 := ρ) (fun k _ _ => a1.1 k (by omega))
      unfold wp_X7_follow_L9
      refine br_f (nI_nlt (by omega) (by omega)) ?_
      have hokC := a2.2.2.2.2.2.1
      have hne := a2.2.2.2.2.2.2.1
      refine cC_sieve hg hbt hTρ hokC.2.2.1 a3 (by omega) (fun hA ρ2 f1 f2 => br_t rfl ?_) (fun i y hi hnil hmin ρ2 f1 f2 => br_f ?_ ?_)
      · refine ⟨_, fun _ z => z, br_t (nI_le (by omega) (by omega)) ?_⟩
        unfold wp_X7_follow_L9
        have en : nI k + 1 = nI (k + 1) := nI_1 k
        rw [en]
        refine br_t (nI_lt (by omega) (by omega)) ?_
        have er : ρ2.2.2 = ρ.2.2 := f1.2.2
        obtain ⟨p1, p2, p3⟩ := Fr_other hokC.2.2.2 hokC.2.2.1 (Ne.symm hne) f1
        subst e
        exact hend L F a5 hA ρ2 (a1.trans (f1.toS hokC.2.2.1)) (by rw [er]; exact hokC) (by rw [er]; exact hne) (by rw [er]; exact f2) (by rw [er]; exact a4.of p1 p2 p3)
      · have := (List.getElem?_eq_some_iff.mp hi).1
        have hT6 := hT.1
        intro q
        have q1 : (nI i).toInt = (-4 : Int32).toInt := by rw [q]
        rw [nI_toInt (by omega)] at q1
        have q2 : (-4 : Int32).toInt = -4 := by decide
        omega
      · have er : ρ2.2.2 = ρ.2.2 := f1.2.2
        obtain ⟨p1, p2, p3⟩ := Fr_other hokC.2.2.2 hokC.2.2.1 (Ne.symm hne) f1
        exact hbar k L F i y (by omega) a5 hi hnil hmin ρ2 (a1.trans (f1.toS hokC.2.2.1)) (by rw [er]; exact hokC) (by rw [er]; exact hne) (by rw [er]; exact f2) (by rw [er]; exact a4.of p1 p2 p3)
    | succ r ih =>
      intro k ρ L F hk a1 a2 a3 a4 a5
      have hTρ := hT.of (σ2 := ρ) (fun k _ _ => a1.1 k (by omega))
      unfold wp_X7_follow_L9
      refine br_f (nI_nlt (by omega) (by omega)) ?_
      have hokC := a2.2.2.2.2.2.1
      have hne := a2.2.2.2.2.2.2.1
      refine cC_sieve hg hbt hTρ hokC.2.2.1 a3 (by omega) (fun hA ρ2 f1 f2 => br_t rfl ?_) (fun i y hi hnil hmin ρ2 f1 f2 => br_f ?_ ?_)
      · obtain ⟨hok, hnext⟩ := hstep k L F (by omega) a5 hA
        have er : ρ2.2.2 = ρ.2.2 := f1.2.2
        obtain ⟨p1, p2, p3⟩ := Fr_other hokC.2.2.2 hokC.2.2.1 (Ne.symm hne) f1
        refine ⟨fun σ7 => wp_X7_follow_L9 b (nI t) bt Φ (nI (lastA gs)) (r + 2) σ7 (nI k + 1), fun _ z => z, br_f (nI_ge (by omega) (by omega)) ?_⟩
        have en : nI k + 1 = nI (k + 1) := nI_1 k
        rw [nI_add, en]
        refine cC_spread (a2.fr hokC.2.2.1 f1) (by rw [er]; exact f2) (by rw [er]; exact a4.of p1 p2 p3) (by omega) hok (fun ρ3 L2 g1 g2 g3 g4 => ?_)
        refine ih (k + 1) ρ3 L2 _ (by omega) ((a1.trans (f1.toS hokC.2.2.1)).trans g1) ?_ g3 g4 (hnext L2 g3.2.2.1 g3.2.2.2.2.1 g3.2.2.2.1)
        have : (opn && decide (k + 1 = 0)) = false := by simp
        rw [this]
        exact g2
      · have := (List.getElem?_eq_some_iff.mp hi).1
        have hT6 := hT.1
        intro q
        have q1 : (nI i).toInt = (-4 : Int32).toInt := by rw [q]
        rw [nI_toInt (by omega)] at q1
        have q2 : (-4 : Int32).toInt = -4 := by decide
        omega
      · have er : ρ2.2.2 = ρ.2.2 := f1.2.2
        obtain ⟨p1, p2, p3⟩ := Fr_other hokC.2.2.2 hokC.2.2.1 (Ne.symm hne) f1
        exact hbar k L F i y (by omega) a5 hi hnil hmin ρ2 (a1.trans (f1.toS hokC.2.2.1)) (by rw [er]; exact hokC) (by rw [er]; exact hne) (by rw [er]; exact f2) (by rw [er]; exact a4.of p1 p2 p3)
  refine ⟨lastA gs + 2, key (lastA gs) 0 σ L0 F0 (by omega) (FrS.refl σ) ?_ hH hN hI⟩
  have : (opn && decide (0 = 0)) = opn := by simp
  rw [this]
  exact h
/-- the search begins -/
theorem cC_begin {g d : Nat → Int32} {σ : Mm} {b : Nat} (hb : kFm b) (hg : WFg g) (hd : WFd g d) (hC : FmC σ b g) (hCD : FmD σ b g d) (hok : okC σ.2.2) (hne : σ.2.2 2 ≠ σ.2.2 3) (h1 : FrR (σ.1 32 2) (σ.1 33) (σ.2.1 34)) (h2 : FrR (σ.1 35 2) (σ.1 36) (σ.2.1 37)) {kd lo : Nat} {lo32 : Int32} (hkd : kd ≤ 2) (hlo : ∀ i, i < 5 → (nI i = lo32 ↔ i = lo)) {Φ : Mm → Prop}
    (hΦ : ∀ σ2, FrS σ σ2 → SC g d σ2 b kd lo true → FIL g σ2 (σ2.2.2 2) [] (fun _ => none) → FIL g σ2 (σ2.2.2 3) [] (fun _ => none) → Φ σ2) : wp_X7_begin σ (nI kd) lo32 Φ := by
  intro σ1 e1 σ2 e2 σ3 e3
  have hrow : ∀ k, k ≠ 31 → σ3.1 k = σ.1 k := fun k hk => by rw [e3, kwi_ne _ _ _ hk, e2, kwi_ne _ _ _ hk, e1, kwi_ne _ _ _ hk]
  have hr2 : σ3.2 = σ.2 := by rw [e3, e2, e1]; rfl
  have h31 : σ3.1 31 = upd (upd (upd (σ.1 31) 2 (nI kd)) 3 lo32) 4 1 := by rw [e3, kwi_same, e2, kwi_same, e1, kwi_same]
  have hq2 : kFr (σ.2.2 2) := hok.2.2.1
  have hq3 : kFr (σ.2.2 3) := hok.2.2.2
  have hq2' : σ.2.2 2 = 32 ∨ σ.2.2 2 = 35 := hq2
  have hq3' : σ.2.2 3 = 32 ∨ σ.2.2 3 = 35 := hq3
  have hb' : b = 4 ∨ b = 10 := hb
  have hF : ∀ q, kFr q → FrR (σ3.1 q 2) (σ3.1 (q + 1)) (σ3.2.1 (q + 2)) := by
    intro q hq
    rw [hr2]
    rcases hq with rfl | rfl
    · rw [hrow 32 (by decide), hrow (32 + 1) (by decide)]; exact h1
    · rw [hrow 35 (by decide), hrow (35 + 1) (by decide)]; exact h2
  have er3 : σ3.2.2 = σ.2.2 := by rw [hr2]
  rw [er3]
  refine cC_clear (g := g) (hF _ hq2) (fun σ5 f1 f2 => ?_)
  have er5 : σ5.2.2 = σ.2.2 := f1.2.2.trans er3
  rw [er5]
  obtain ⟨p1, p2, p3⟩ := Fr_other hq3 hq2 (Ne.symm hne) f1
  have hF3 := hF _ hq3
  rw [← p1, ← p2, ← p3] at hF3
  refine cC_clear (g := g) hF3 (fun σ7 f3 f4 => ?_)
  have er7 : σ7.2.2 = σ.2.2 := f3.2.2.trans er5
  obtain ⟨o1, o2, o3⟩ := Fr_other hq2 hq3 hne f3
  have hs := (f1.toS hq2).trans (f3.toS hq3)
  have r31 : σ7.1 31 = σ3.1 31 := (f3.1 31 (by omega) (by omega)).trans (f1.1 31 (by omega) (by omega))
  refine hΦ σ7 ⟨fun k a => (hs.1 k a).trans (hrow k (by omega)), fun k a c => by rw [hs.2.1 k a c, hr2], by rw [er7], by rw [er7]⟩ ⟨hg, hd, hb, hC.of (fun k _ _ => (hs.1 k (by omega)).trans (hrow k (by omega))), hCD.of (fun k _ _ => (hs.1 k (by omega)).trans (hrow k (by omega))), by rw [er7]; exact hok, by rw [er7]; exact hne, ?_, hkd, ?_, ?_⟩ ?_ ?_
  · rw [r31, h31]; rfl
  · rw [r31, h31]; exact hlo
  · rw [r31, h31]; rfl
  · rw [er7]; exact f2.of o1 o2 o3
  · rw [er7]; exact f4
