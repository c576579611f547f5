-- ===== the game, as such
def gmv (s k i : Nat) : Bool := decide ((s / 2 ^ i % 2 = 1) ↔ (k % 2 = 0))
/-- the ways on in round k: nobody (0), or person i (i + 1) of those whose turn it is -/
def gok (g : Nat → Int32) (t s k m n : Nat) : Nat → Prop
  | 0 => True
  | i + 1 => i < n ∧ gmv s k i ∧ aPlc g i (t + k) = m % 8
theorem gok_s {g : Nat → Int32} {t s k m n c : Nat} : gok g t s k m (n + 1) c ↔ gok g t s k m n c ∨ (c = n + 1 ∧ gmv s k n ∧ aPlc g n (t + k) = m % 8) := by
  cases c with
  | zero => exact ⟨fun _ => Or.inl trivial, fun _ => trivial⟩
  | succ i =>
    show (i < n + 1 ∧ gmv s k i ∧ aPlc g i (t + k) = m % 8) ↔ (i < n ∧ gmv s k i ∧ aPlc g i (t + k) = m % 8) ∨ _
    constructor
    · rintro ⟨h1, h2, h3⟩
      by_cases e : i = n
      · subst e; exact Or.inr ⟨rfl, h2, h3⟩
      · exact Or.inl ⟨by omega, h2, h3⟩
    · rintro (⟨h1, h2, h3⟩ | ⟨h1, h2, h3⟩)
      · exact ⟨by omega, h2, h3⟩
      · have : i = n := by omega
        subst this
        exact ⟨by omega, h2, h3⟩
theorem gok_le {g : Nat → Int32} {t s k m n c : Nat} (h : gok g t s k m n c) : c ≤ n := by
  cases c with
  | zero => exact Nat.zero_le _
  | succ i => exact h.1
theorem csu_st {g d : Nat → Int32} (hg : WFg g) (hd : WFd g d) {t s k m c : Nat} (hm : isSt g m) (h : gok g t s k m (aP g) c) : isSt g (csu g d (t + k) m c) := by
  cases c with
  | zero => exact isSt_aft hg hd hm
  | succ i => exact isSt_aft hg hd (isSt_fed hg hm h.1)
/-- does the side win from m, r rounds ahead of the end of n -/
def gwn (g d : Nat → Int32) (t s n y : Nat) : Nat → Nat → Prop
  | 0 => fun m => m % 8 = y
  | r + 1 => fun m => if (n - (r + 1)) % 2 = 0 then ∃ c, gok g t s (n - (r + 1)) m (aP g) c ∧ gwn g d t s n y r (csu g d (t + (n - (r + 1))) m c) else ∀ c, gok g t s (n - (r + 1)) m (aP g) c → gwn g d t s n y r (csu g d (t + (n - (r + 1))) m c)
/-- the same, seen from round k -/
def gwk (g d : Nat → Int32) (t s n y k m : Nat) : Prop := gwn g d t s n y (n - k) m
theorem gwk_end (g d : Nat → Int32) (t s n y m : Nat) : gwk g d t s n y n m ↔ m % 8 = y := by
  unfold gwk
  rw [Nat.sub_self]
  exact Iff.rfl
theorem gwk_step {g d : Nat → Int32} {t s n y k m : Nat} (hk : k < n) : gwk g d t s n y k m ↔ if k % 2 = 0 then ∃ c, gok g t s k m (aP g) c ∧ gwk g d t s n y (k + 1) (csu g d (t + k) m c) else ∀ c, gok g t s k m (aP g) c → gwk g d t s n y (k + 1) (csu g d (t + k) m c) := by
  obtain ⟨r, hr⟩ : ∃ r, n - k = r + 1 := ⟨n - k - 1, by omega⟩
  have e1 : n - (r + 1) = k := by omega
  have e2 : n - (k + 1) = r := by omega
  unfold gwk
  rw [hr, e2]
  show (if (n - (r + 1)) % 2 = 0 then _ else _) ↔ _
  rw [e1]
/-- the states that can come about -/
def grc (g d : Nat → Int32) (t s m0 : Nat) : Nat → Nat → Prop
  | 0 => fun x => x = m0
  | k + 1 => fun x => ∃ m, grc g d t s m0 k m ∧ ∃ c, gok g t s k m (aP g) c ∧ x = csu g d (t + k) m c
theorem grc_st {g d : Nat → Int32} (hg : WFg g) (hd : WFd g d) {t s m0 : Nat} (hm0 : isSt g m0) : ∀ k x, grc g d t s m0 k x → isSt g x
  | 0, x, h => by
    have : x = m0 := h
    rw [this]; exact hm0
  | k + 1, x, h => by
    obtain ⟨m, h1, c, h2, h3⟩ := h
    rw [h3]
    exact csu_st hg hd (grc_st hg hd hm0 k m h1) h2
/-- what the contest stands on -/
def GC (g d : Nat → Int32) (σ : Mm) (b : Nat) : Prop := WFg g ∧ WFd g d ∧ kFm b ∧ FmC σ b g ∧ FmD σ b g d
theorem GC.fr {g d : Nat → Int32} {σ σ2 : Mm} {b : Nat} (h : GC g d σ b) (hf : Fr40 σ σ2) : GC g d σ2 b := by
  obtain ⟨a1, a2, a3, a4, a5⟩ := h
  have hb : 4 ≤ b ∧ b ≤ 10 := by rcases a3 with q | q <;> omega
  exact ⟨a1, a2, a3, a4.of (fun k _ _ => hf.1 k (by omega)), a5.of (fun k _ _ => hf.1 k (by omega))⟩
def HM (g : Nat → Int32) (x : Int32) (s k : Nat) : Prop := ∀ i, i < aP g → ((x >>> (nI i &&& 31)) &&& 1) = if gmv s k i then 1 else 0
theorem HM_t {g : Nat → Int32} {x : Int32} {s k i : Nat} (h : HM g x s k) (hi : i < aP g) : ((x >>> (nI i &&& 31)) &&& 1) = 0 ↔ ¬ gmv s k i := by
  rw [h i hi]
  by_cases q : gmv s k i
  · rw [if_pos q]
    exact ⟨fun z => absurd z (by decide), fun z => absurd q z⟩
  · rw [if_neg q]
    exact ⟨fun _ => q, fun _ => rfl⟩
theorem cC_addNext {g d : Nat → Int32} {σ : Mm} {b : Nat} (h : GC g d σ b) {t s k m : Nat} {x : Int32} (hx : HM g x s k) (ht : t ≤ 9999) (hk : k < 12) (hm : isSt g m) {Φ : Mm → Prop}
    (hΦ : ∀ σ2, Fr40 σ σ2 → (∀ k2 s2, s2 < 960 → (RB σ2 k2 s2 = true ↔ RB σ k2 s2 = true ∨ (k2 = k + 1 ∧ ∃ c, gok g t s k m (aP g) c ∧ s2 = cst g (csu g d (t + k) m c)))) → Φ σ2) : wp_X0_addNext σ b (nI (cst g m)) (nI k) (nI (t + k)) x Φ := by
  obtain ⟨hg, hd, hb, hC, hCD⟩ := id h
  have hP := hg.P
  have e1 : nI (t + k) + 1 = nI (t + k + 1) := nI_1 _
  have e2 : nI k + 1 = nI (k + 1) := nI_1 _
  unfold wp_X0_addNext
  rw [e1, e2]
  refine cC_onward hg hd hC hCD hm (by omega) ?_
  have hst := isSt_aft (t := t + k + 1) hg hd hm
  refine cC_addR (by omega) (cst_lt hg hst).2 (fun σ2 f1 f2 => ?_)
  have key : ∀ r i (ρ : Mm), i + r = aP g → Fr40 σ ρ → (∀ k2 s2, s2 < 960 → (RB ρ k2 s2 = true ↔ RB σ k2 s2 = true ∨ (k2 = k + 1 ∧ ∃ c, gok g t s k m i c ∧ s2 = cst g (csu g d (t + k) m c)))) → wp_X0_addNext_L22 b (nI (cst g m)) (nI k) (nI (t + k)) x Φ (r + 1) ρ (nI i) := by
    intro r
    induction r with
    | zero =>
      intro i ρ hi a1 a2
      have e : i = aP g := by omega
      subst e
      unfold wp_X0_addNext_L22 wp_X1_persons
      rw [(h.fr a1).2.2.2.1.2.1]
      exact br_t (nI_le (Nat.le_refl _) (by omega)) (hΦ ρ a1 a2)
    | succ r ih =>
      intro i ρ hi a1 a2
      obtain ⟨-, -, -, hC', hCD'⟩ := h.fr a1
      have en : nI i + 1 = nI (i + 1) := nI_1 i
      unfold wp_X0_addNext_L22 wp_X1_persons
      rw [hC'.2.1, en, e1, e2, HM_t hx (by omega)]
      refine br_f (nI_ge (by omega) (by omega)) ⟨fun ρ2 => wp_X0_addNext_L22 b (nI (cst g m)) (nI k) (nI (t + k)) x Φ (r + 1) ρ2 (nI (i + 1)), fun _ z => z, ?_⟩
      have skip : ¬ (gmv s k i ∧ aPlc g i (t + k) = m % 8) → wp_X0_addNext_L22 b (nI (cst g m)) (nI k) (nI (t + k)) x Φ (r + 1) ρ (nI (i + 1)) := by
        intro hno
        refine ih (i + 1) ρ (by omega) a1 (fun k2 s2 hs2 => ?_)
        rw [a2 k2 s2 hs2]
        refine or_congr Iff.rfl (and_congr Iff.rfl (exists_congr (fun c => and_congr ?_ Iff.rfl)))
        rw [gok_s]
        exact ⟨fun z => Or.inl z, fun z => z.elim id (fun q => absurd q.2 hno)⟩
      refine ⟨fun c => skip (fun q => c q.1), fun c => cC_canFeed hg hC' hm (by omega) (by omega) ?_⟩
      have c' : gmv s k i := Classical.byContradiction c
      by_cases hp : aPlc g i (t + k) = m % 8
      · rw [if_pos hp]
        have hfs := isSt_fed hg hm (i := i) (by omega)
        refine br_f (by decide) (cC_fedState hg hm (by omega) (cC_onward hg hd hC' hCD' hfs (by omega) ?_))
        have hst2 := isSt_aft (t := t + k + 1) hg hd hfs
        refine cC_addR (by omega) (cst_lt hg hst2).2 (fun ρ2 g1 g2 => ih (i + 1) ρ2 (by omega) (a1.trans g1) (fun k2 s2 hs2 => ?_))
        rw [g2 k2 s2 hs2, Bool.or_eq_true, a2 k2 s2 hs2, decide_eq_true_iff]
        constructor
        · rintro ((q | ⟨q1, c2, q2, q3⟩) | ⟨q1, q2⟩)
          · exact Or.inl q
          · exact Or.inr ⟨q1, c2, gok_s.mpr (Or.inl q2), q3⟩
          · exact Or.inr ⟨q1, i + 1, gok_s.mpr (Or.inr ⟨rfl, c', hp⟩), q2⟩
        · rintro (q | ⟨q1, c2, q2, q3⟩)
          · exact Or.inl (Or.inl q)
          · rcases gok_s.mp q2 with z | ⟨z, -⟩
            · exact Or.inl (Or.inr ⟨q1, c2, z, q3⟩)
            · subst z
              exact Or.inr ⟨q1, q3⟩
      · rw [if_neg hp]
        exact br_t rfl (skip (fun q => hp q.2))
  refine ⟨aP g + 1, key (aP g) 0 σ2 (by omega) f1 (fun k2 s2 hs2 => ?_)⟩
  rw [f2 k2 s2 hs2, Bool.or_eq_true, decide_eq_true_iff]
  refine or_congr Iff.rfl (and_congr Iff.rfl ?_)
  constructor
  · intro q; exact ⟨0, trivial, q⟩
  · rintro ⟨c, q1, q2⟩
    cases c with
    | zero => exact q2
    | succ i => exact absurd q1.1 (Nat.not_lt_zero i)
def nst (g : Nat → Int32) : Nat := (if aF g = 0 then 1 else aF g) * 48
theorem cC_states {g : Nat → Int32} (hg : WFg g) {σ : Mm} {b : Nat} (hC : FmC σ b g) {Φ : Int32 → Prop} (h : Φ (nI (nst g))) : wp_X1_states σ b Φ := by
  have hF := hg.F
  unfold wp_X1_states
  rw [hC.2.2.1]
  have e : (if nI (aF g) < 1 then (1 : Int32) else nI (aF g)) = nI (if aF g = 0 then 1 else aF g) := by
    have q : nI (aF g) < 1 ↔ aF g < 1 := nI_ltI (b := 1) (by omega) (by omega)
    by_cases z : aF g = 0
    · rw [if_pos (q.mpr (by omega)), if_pos z]; rfl
    · rw [if_neg (fun y => by have := q.mp y; omega), if_neg z]
  rw [e]
  have e2 : nI (if aF g = 0 then 1 else aF g) * 6 = nI ((if aF g = 0 then 1 else aF g) * 6) := pk_mul _ 6
  have e3 : nI ((if aF g = 0 then 1 else aF g) * 6) * 8 = nI ((if aF g = 0 then 1 else aF g) * 6 * 8) := pk_mul _ 8
  rw [e2, e3, Nat.mul_assoc]
  exact h
theorem nst_le {g : Nat → Int32} (hg : WFg g) : nst g ≤ 960 := by
  have hF := hg.F
  unfold nst
  split <;> omega
/-- the set of round k is just the states of p -/
def RS (g : Nat → Int32) (σ : Mm) (k : Nat) (p : Nat → Prop) : Prop := ∀ s, s < 960 → (RB σ k s = true ↔ ∃ m, p m ∧ s = cst g m)
theorem cC_goForth {g d : Nat → Int32} {σ : Mm} {b : Nat} (h : GC g d σ b) {t s k : Nat} {x : Int32} (hx : HM g x s k) (ht : t ≤ 9999) (hk : k < 12) {p : Nat → Prop} (hp : ∀ m, p m → isSt g m) (hR : RS g σ k p) (hR2 : RS g σ (k + 1) (fun _ => False)) {Φ : Mm → Prop}
    (hΦ : ∀ σ2, Fr40 σ σ2 → (∀ k2, k2 ≠ k + 1 → ∀ s2, s2 < 960 → RB σ2 k2 s2 = RB σ k2 s2) → RS g σ2 (k + 1) (fun y => ∃ m, p m ∧ ∃ c, gok g t s k m (aP g) c ∧ y = csu g d (t + k) m c) → Φ σ2) : wp_X0_goForth σ b (nI k) (nI (t + k)) x Φ := by
  have hg := h.1
  have hn := nst_le hg
  have key : ∀ r i (ρ : Mm), i + r = nst g → Fr40 σ ρ → (∀ k2, k2 ≠ k + 1 → ∀ s2, s2 < 960 → RB ρ k2 s2 = RB σ k2 s2) → RS g ρ (k + 1) (fun y => ∃ m, p m ∧ cst g m < i ∧ ∃ c, gok g t s k m (aP g) c ∧ y = csu g d (t + k) m c) → wp_X0_goForth_L3 b (nI k) (nI (t + k)) x Φ (r + 1) ρ (nI i) := by
    intro r
    induction r with
    | zero =>
      intro i ρ hi a1 a2 a3
      have e : i = nst g := by omega
      subst e
      refine cC_states hg (h.fr a1).2.2.2.1 (br_t (nI_le (Nat.le_refl _) (by omega)) (hΦ ρ a1 a2 (fun s2 hs2 => ?_)))
      rw [a3 s2 hs2]
      constructor
      · rintro ⟨y, ⟨m, q1, q2, q3⟩, q4⟩
        exact ⟨y, ⟨m, q1, q3⟩, q4⟩
      · rintro ⟨y, ⟨m, q1, q3⟩, q4⟩
        exact ⟨y, ⟨m, q1, (cst_lt hg (hp m q1)).1, q3⟩, q4⟩
    | succ r ih =>
      intro i ρ hi a1 a2 a3
      have en : nI i + 1 = nI (i + 1) := nI_1 i
      unfold wp_X0_goForth_L3
      rw [en]
      refine cC_states hg (h.fr a1).2.2.2.1 (br_f (nI_ge (by omega) (by omega)) (cC_hasR (by omega) (by omega) ?_))
      refine ⟨fun ρ2 => wp_X0_goForth_L3 b (nI k) (nI (t + k)) x Φ (r + 1) ρ2 (nI (i + 1)), fun _ z => z, ?_⟩
      have hh := hR i (by omega)
      rw [← a2 k (by omega) i (by omega)] at hh
      cases hq : RB ρ k i with
      | false =>
        refine br_t rfl (ih (i + 1) ρ (by omega) a1 a2 (fun s2 hs2 => ?_))
        rw [a3 s2 hs2]
        constructor
        · rintro ⟨y, ⟨m, q1, q2, q3⟩, q4⟩
          exact ⟨y, ⟨m, q1, by omega, q3⟩, q4⟩
        · rintro ⟨y, ⟨m, q1, q2, q3⟩, q4⟩
          refine ⟨y, ⟨m, q1, ?_, q3⟩, q4⟩
          have : cst g m ≠ i := fun z => by
            have := hh.mpr ⟨m, q1, z.symm⟩
            rw [hq] at this
            cases this
          omega
      | true =>
        obtain ⟨m, hm1, hm2⟩ := hh.mp hq
        have hmst := hp m hm1
        refine br_f (by decide) ?_
        rw [hm2]
        refine cC_addNext (h.fr a1) hx ht hk hmst (fun ρ2 f1 f2 => ?_)
        rw [← hm2]
        refine ih (i + 1) ρ2 (by omega) (a1.trans f1) (fun k2 hk2 s2 hs2 => ?_) (fun s2 hs2 => ?_)
        · rw [← a2 k2 hk2 s2 hs2]
          have := f2 k2 s2 hs2
          cases hb : RB ρ k2 s2 with
          | true => exact this.mpr (Or.inl hb)
          | false =>
            cases hb2 : RB ρ2 k2 s2 with
            | false => rfl
            | true =>
              rcases this.mp hb2 with z | z
              · rw [hb] at z; cases z
              · exact absurd z.1 hk2
        · rw [f2 (k + 1) s2 hs2, a3 s2 hs2]
          constructor
          · rintro (⟨y, ⟨m2, q1, q2, q3⟩, q4⟩ | ⟨-, c, q1, q2⟩)
            · exact ⟨y, ⟨m2, q1, by omega, q3⟩, q4⟩
            · exact ⟨_, ⟨m, hm1, by omega, c, q1, rfl⟩, q2⟩
          · rintro ⟨y, ⟨m2, q1, q2, c, q3, q5⟩, q4⟩
            rcases Nat.lt_or_ge (cst g m2) i with z | z
            · exact Or.inl ⟨y, ⟨m2, q1, z, c, q3, q5⟩, q4⟩
            · have e : m2 = m := cst_inj (hp m2 q1) hmst (by omega)
              subst e
              exact Or.inr ⟨rfl, c, q3, by rw [q4, q5]⟩
  refine ⟨nst g + 1, key (nst g) 0 σ (by omega) (Fr40.refl σ) (fun _ _ _ _ => rfl) (fun s2 hs2 => ?_)⟩
  rw [hR2 s2 hs2]
  constructor
  · rintro ⟨m, q, -⟩; exact absurd q (fun z => z)
  · rintro ⟨y, ⟨m, q1, q2, q3⟩, q4⟩; omega
theorem cC_leave {g d : Nat → Int32} {σ : Mm} {b : Nat} (h : GC g d σ b) {k y : Nat} (hk : k ≤ 12) (hy : y < 8) {p : Nat → Prop} (hp : ∀ m, p m → isSt g m) (hR : RS g σ k p) {Φ : Mm → Prop}
    (hΦ : ∀ σ2, Fr40 σ σ2 → (∀ k2, k2 ≠ k → ∀ s2, s2 < 960 → RB σ2 k2 s2 = RB σ k2 s2) → RS g σ2 k (fun m => p m ∧ m % 8 = y) → Φ σ2) : wp_X0_leaveThoseAt σ b (nI k) (nI y) Φ := by
  have hg := h.1
  have hn := nst_le hg
  have key : ∀ r i (ρ : Mm), i + r = nst g → Fr40 σ ρ → (∀ k2, k2 ≠ k → ∀ s2, s2 < 960 → RB ρ k2 s2 = RB σ k2 s2) → (∀ s2, s2 < 960 → (RB ρ k s2 = true ↔ RB σ k s2 = true ∧ (s2 < i → s2 % 8 = y))) → wp_X0_leaveThoseAt_L3 b (nI k) (nI y) Φ (r + 1) ρ (nI i) := by
    intro r
    induction r with
    | zero =>
      intro i ρ hi a1 a2 a3
      have e : i = nst g := by omega
      subst e
      refine cC_states hg (h.fr a1).2.2.2.1 (br_t (nI_le (Nat.le_refl _) (by omega)) (hΦ ρ a1 a2 (fun s2 hs2 => ?_)))
      rw [a3 s2 hs2, hR s2 hs2]
      constructor
      · rintro ⟨⟨m, q1, q2⟩, q3⟩
        have := (cst_lt hg (hp m q1)).1
        have h8 := (cst_parts hg (hp m q1)).1
        refine ⟨m, ⟨q1, ?_⟩, q2⟩
        rw [← h8, ← q2]
        exact q3 (by rw [q2]; exact this)
      · rintro ⟨m, ⟨q1, q2⟩, q3⟩
        refine ⟨⟨m, q1, q3⟩, fun _ => ?_⟩
        rw [q3, (cst_parts hg (hp m q1)).1]
        exact q2
    | succ r ih =>
      intro i ρ hi a1 a2 a3
      have en : nI i + 1 = nI (i + 1) := nI_1 i
      unfold wp_X0_leaveThoseAt_L3
      rw [en]
      refine cC_states hg (h.fr a1).2.2.2.1 (br_f (nI_ge (by omega) (by omega)) (cC_yardOf (by omega) ?_))
      rw [nI_eq (by omega) (by omega)]
      refine ⟨fun ρ2 => wp_X0_leaveThoseAt_L3 b (nI k) (nI y) Φ (r + 1) ρ2 (nI (i + 1)), fun _ z => z, fun c => ih (i + 1) ρ (by omega) a1 a2 (fun s2 hs2 => ?_), fun c => cC_removeR hk (by omega) (fun ρ2 f1 f2 => ih (i + 1) ρ2 (by omega) (a1.trans f1) (fun k2 hk2 s2 hs2 => ?_) (fun s2 hs2 => ?_))⟩
      · rw [a3 s2 hs2]
        refine and_congr Iff.rfl ⟨fun q z => ?_, fun q z => q (by omega)⟩
        by_cases e : s2 = i
        · subst e; exact c
        · exact q (by omega)
      · rw [f2 k2 s2 hs2, a2 k2 hk2 s2 hs2]
        simp [hk2]
      · rw [f2 k s2 hs2, Bool.and_eq_true, a3 s2 hs2]
        by_cases e : s2 = i
        · subst e
          simp
          intro _ q
          exact absurd q c
        · simp [e]
          intro _
          exact ⟨fun q z => q (by omega), fun q z => q (by omega)⟩
  exact ⟨nst g + 1, key (nst g) 0 σ (by omega) (Fr40.refl σ) (fun _ _ _ _ => rfl) (fun s2 hs2 => ⟨fun q => ⟨q, fun z => by omega⟩, fun q => q.1⟩)⟩
