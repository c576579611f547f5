-- ===== the text, sign by sign: 256 is its end
def tI (n : Nat) : Int32 := if n < 256 then nI n else -1
theorem tI_end : tI 256 = -1 := rfl
theorem tI_lt {n : Nat} (h : n < 256) : tI n = nI n := if_pos h
theorem tI_eq {n c : Nat} (hc : c < 256) : tI n = nI c ↔ n = c := by
  unfold tI
  by_cases h : n < 256
  · rw [if_pos h]; exact nI_eq (by omega) (by omega)
  · rw [if_neg h]
    constructor
    · intro q; exact absurd q.symm (nI_m1 (by omega)).1
    · intro q; omega
theorem b255 (x : Int32) : ∃ n, n < 256 ∧ (x &&& 255) = nI n := by
  refine ⟨x.toBitVec.toNat % 256, Nat.mod_lt _ (by omega), ?_⟩
  apply Int32.toBitVec_inj.mp
  have h1 : (x &&& 255).toBitVec = x.toBitVec &&& 255#32 := rfl
  have h2 : (nI (x.toBitVec.toNat % 256)).toBitVec = BitVec.ofNat 32 (x.toBitVec.toNat % 256) := rfl
  rw [h1, h2]
  apply BitVec.eq_of_toNat_eq
  rw [BitVec.toNat_and, BitVec.toNat_ofNat, BitVec.toNat_ofNat]
  have h3 : (255 % 2 ^ 32 : Nat) = 2 ^ 8 - 1 := by decide
  rw [h3, Nat.and_two_pow_sub_one_eq_mod]
  have : x.toBitVec.toNat % 2 ^ 8 < 256 := Nat.mod_lt _ (by decide)
  have e : (2 : Nat) ^ 8 = 256 := by decide
  rw [e] at this ⊢
  omega
def TX (row : Nat → Int32) (len : Int32) (L : Nat) (T : Nat → Nat) : Prop := L ≤ 300 ∧ len = nI L ∧ (∀ p, p < L → T p < 256 ∧ (row p &&& 255) = nI (T p)) ∧ ∀ p, L ≤ p → T p = 256
theorem TX_ex {c c2 : Int32} {r x : Nat → Int32} (h : TxR c r c2 x) : ∃ L T, TX r c L T ∧ TX x c2 L T := by
  obtain ⟨L, h1, h2, h3, h4⟩ := h
  refine ⟨L, fun p => if p < L then (b255 (r p)).choose else 256, ⟨h1, h2, fun p hp => ?_, fun p hp => ?_⟩, ⟨h1, h3, fun p hp => ?_, fun p hp => ?_⟩⟩
  · have := (b255 (r p)).choose_spec
    dsimp only
    rw [if_pos hp]
    exact this
  · dsimp only
    rw [if_neg (by omega)]
  · have := (b255 (r p)).choose_spec
    dsimp only
    rw [if_pos hp, ← h4 p hp]
    exact this
  · dsimp only
    rw [if_neg (by omega)]
theorem TX.le {r : Nat → Int32} {c : Int32} {L : Nat} {T : Nat → Nat} (h : TX r c L T) (p : Nat) : T p ≤ 256 := by
  rcases Nat.lt_or_ge p L with q | q
  · have := (h.2.2.1 p q).1; omega
  · have := h.2.2.2 p q; omega
theorem TX.in {r : Nat → Int32} {c : Int32} {L : Nat} {T : Nat → Nat} (h : TX r c L T) {p : Nat} (hp : T p < 256) : p < L := by
  rcases Nat.lt_or_ge p L with q | q
  · exact q
  · have := h.2.2.2 p q; omega
theorem cC_byteAt {σ : Mm} {L : Nat} {T : Nat → Nat} (h : TX (σ.1 2) (σ.1 1 1) L T) {p : Nat} (hp : p < 10000) {Φ : Int32 → Prop} (hΦ : Φ (tI (T p))) : wp_X8_byteAt σ (nI p) Φ := by
  obtain ⟨h1, h2, h3, h4⟩ := h
  unfold wp_X8_byteAt
  rw [h2]
  refine br_f (nI_pos (by omega)) ?_
  rcases Nat.lt_or_ge p L with q | q
  · refine br_f (nI_ge q (by omega)) ⟨⟨nI_pos' (by omega), (nI_ltI (b := 300) (by omega) (by omega)).mpr (by omega)⟩, ?_⟩
    rw [nI_clamp (by omega), (h3 p q).2, ← tI_lt (h3 p q).1]
    exact hΦ
  · rw [h4 p q] at hΦ
    exact br_t (nI_le q (by omega)) hΦ
theorem cM_here {τ : Mm} {L : Nat} {T : Nat → Nat} (h : TX (τ.1 3) (τ.1 0 3) L T) {p : Nat} (hp : p < 10000) (h4 : τ.1 0 4 = nI p) {Φ : Int32 → Prop} (hΦ : Φ (tI (T p))) : wp_X11_here τ Φ := by
  obtain ⟨h1, h2, h3, h5⟩ := h
  unfold wp_X11_here
  rw [h2, h4]
  rcases Nat.lt_or_ge p L with q | q
  · refine br_f (nI_ge q (by omega)) ⟨⟨nI_pos' (by omega), (nI_ltI (b := 300) (by omega) (by omega)).mpr (by omega)⟩, ?_⟩
    rw [nI_clamp (by omega), (h3 p q).2, ← tI_lt (h3 p q).1]
    exact hΦ
  · rw [h5 p q] at hΦ
    exact br_t (nI_le q (by omega)) hΦ
def dg (n : Nat) : Bool := decide (48 ≤ n ∧ n ≤ 57)
theorem dg_t {n : Nat} (h : dg n = true) : 48 ≤ n ∧ n ≤ 57 := of_decide_eq_true h
theorem dg_f {n : Nat} (h : dg n = false) : ¬ (48 ≤ n ∧ n ≤ 57) := of_decide_eq_false h
/-- what the next sign of the reader is -/
theorem tI_lt48 {n : Nat} (hn : n ≤ 256) : (tI n < 48 ↔ n < 48 ∨ n = 256) ∧ (57 < tI n ↔ 57 < n ∧ n ≠ 256) := by
  unfold tI
  by_cases h : n < 256
  · rw [if_pos h]
    have h1 : nI n < 48 ↔ n < 48 := nI_ltI (b := 48) (by omega) (by omega)
    have h2 : 57 < nI n ↔ 57 < n := nI_ltI (a := 57) (by omega) (by omega)
    rw [h1, h2]; omega
  · rw [if_neg h]
    have : n = 256 := by omega
    subst this
    exact ⟨⟨fun _ => Or.inr rfl, fun _ => by decide⟩, ⟨fun q => absurd q (by decide), fun q => absurd rfl q.2⟩⟩
theorem cC_figure {σ : Mm} {L : Nat} {T : Nat → Nat} (h : TX (σ.1 2) (σ.1 1 1) L T) {p : Nat} (hp : p < 10000) (h3 : σ.1 3 1 = nI p) {Φ : Int32 → Prop} (h1 : dg (T p) = true → Φ (nI (T p - 48))) (h0 : dg (T p) = false → Φ (-1)) : wp_X5_figureHere σ Φ := by
  unfold wp_X5_figureHere
  rw [h3]
  refine cC_byteAt h hp ?_
  obtain ⟨q1, q2⟩ := tI_lt48 (h.le p)
  rw [q1, q2]
  refine ⟨fun c => h0 (decide_eq_false (by omega)), fun c => ⟨fun c2 => h0 (decide_eq_false (by omega)), fun c2 => ?_⟩⟩
  have hle := h.le p
  rw [tI_lt (by omega)]
  have e : nI (T p) - 48 = nI (T p - 48) := pk_sub (b := 48) (by omega)
  rw [e]
  exact h1 (decide_eq_true (by omega))
/-- how many figures, and their number -/
def nq (T : Nat → Nat) (p : Nat) : Nat := if dg (T p) then (if dg (T (p + 1)) then 2 else 1) else 0
def nv (T : Nat → Nat) (p : Nat) : Nat := if dg (T p) then (if dg (T (p + 1)) then (T p - 48) * 10 + (T (p + 1) - 48) else T p - 48) else 0
theorem nv_le (T : Nat → Nat) (p : Nat) : nv T p ≤ 99 := by
  unfold nv
  split
  · rename_i h1
    have := dg_t h1
    split
    · rename_i h2
      have := dg_t h2
      omega
    · omega
  · omega
theorem nq_le (T : Nat → Nat) (p : Nat) : nq T p ≤ 2 := by
  unfold nq
  split
  · split <;> omega
  · omega
/-- nothing but the reader's place has changed -/
def FrD3 (σ σ2 : Mm) : Prop := (∀ k, k ≠ 3 → σ2.1 k = σ.1 k) ∧ σ2.2 = σ.2
theorem FrD3.refl (σ : Mm) : FrD3 σ σ := ⟨fun _ _ => rfl, rfl⟩
theorem FrD3.trans {σ σ2 σ3 : Mm} (h1 : FrD3 σ σ2) (h2 : FrD3 σ2 σ3) : FrD3 σ σ3 := ⟨fun k a => (h2.1 k a).trans (h1.1 k a), h2.2.trans h1.2⟩
theorem FrD3.kw (σ : Mm) (v : Int32) : FrD3 σ (kwi σ 3 1 v) := ⟨fun k a => kwi_ne _ _ _ a, rfl⟩
theorem TX.fr3 {σ σ2 : Mm} {L : Nat} {T : Nat → Nat} (h : TX (σ.1 2) (σ.1 1 1) L T) (f : FrD3 σ σ2) : TX (σ2.1 2) (σ2.1 1 1) L T := by
  rw [f.1 1 (by decide), f.1 2 (by decide)]; exact h
theorem cC_readNumber {σ : Mm} {L : Nat} {T : Nat → Nat} (h : TX (σ.1 2) (σ.1 1 1) L T) {p : Nat} (hp : p < 9000) (h3 : σ.1 3 1 = nI p) {Φ : Int32 → Mm → Prop} (h0 : nq T p = 0 → Φ (-1) σ) (h1 : nq T p ≠ 0 → ∀ σ2, FrD3 σ σ2 → σ2.1 3 1 = nI (p + nq T p) → Φ (nI (nv T p)) σ2) : wp_X5_readNumber σ Φ := by
  refine cC_figure h (by omega) h3 (fun d1 => ?_) (fun d1 => ?_)
  · refine br_t (nI_pos' (by have := dg_t d1; omega)) (fun σ3 e3 => ?_)
    have e1 : nI p + 1 = nI (p + 1) := nI_1 p
    rw [h3, e1] at e3
    have f3 : FrD3 σ σ3 := by rw [e3]; exact FrD3.kw _ _
    have g3 : σ3.1 3 1 = nI (p + 1) := by rw [e3, kwi_same]; exact upd_at _ _ _
    refine cC_figure (h.fr3 f3) (by omega) g3 (fun d2 => ?_) (fun d2 => ?_)
    · refine br_t (nI_pos' (by have := dg_t d2; omega)) (fun σ6 e6 => ?_)
      have e2 : nI (p + 1) + 1 = nI (p + 2) := nI_1 (p + 1)
      rw [g3, e2] at e6
      have hq : nq T p = 2 := by unfold nq; rw [d1, d2]; rfl
      have hv : nv T p = (T p - 48) * 10 + (T (p + 1) - 48) := by unfold nv; rw [d1, d2]; rfl
      have em : nI (T p - 48) * 10 = nI ((T p - 48) * 10) := pk_mul _ 10
      rw [em, nI_add, ← hv]
      refine h1 (by omega) σ6 (f3.trans (by rw [e6]; exact FrD3.kw _ _)) ?_
      rw [e6, kwi_same, hq]; exact upd_at _ _ _
    · have hq : nq T p = 1 := by unfold nq; rw [d1, d2]; rfl
      have hv : nv T p = T p - 48 := by unfold nv; rw [d1, d2]; rfl
      refine br_f (by decide) ?_
      rw [← hv]
      exact h1 (by omega) σ3 f3 (by rw [hq]; exact g3)
  · have hq : nq T p = 0 := by unfold nq; rw [d1]; rfl
    exact br_f (by decide) (h0 hq)
theorem cC_takes {σ : Mm} {L : Nat} {T : Nat → Nat} (h : TX (σ.1 2) (σ.1 1 1) L T) {p c : Nat} (hp : p < 9000) (hc : c < 256) (h3 : σ.1 3 1 = nI p) {Φ : Int32 → Mm → Prop} (h0 : T p ≠ c → Φ 0 σ) (h1 : T p = c → ∀ σ2, FrD3 σ σ2 → σ2.1 3 1 = nI (p + 1) → Φ 1 σ2) : wp_X5_takes σ (nI c) Φ := by
  unfold wp_X5_takes
  rw [h3]
  refine cC_byteAt h (by omega) ?_
  rw [tI_eq hc]
  have e1 : nI p + 1 = nI (p + 1) := nI_1 p
  rw [e1]
  exact ⟨fun q σ3 e3 => h1 q σ3 (by rw [e3]; exact FrD3.kw _ _) (by rw [e3, kwi_same]; exact upd_at _ _ _), h0⟩
-- ===== the model's reader
def wI (w : Bool) : Int32 := if w then 1 else 0
theorem wI_0 (w : Bool) : wI w = 0 ↔ w = false := by cases w <;> decide
theorem kbit_w (w : Bool) : kbit (wI w) := by
  cases w
  · exact kbit_0
  · exact kbit_1
/-- nothing but the model's reader has changed: its place, whether it is wrong -/
def FrM4 (τ τ2 : Mm) : Prop := (∀ k, k ≠ 0 → τ2.1 k = τ.1 k) ∧ ∀ j, j ≠ 4 → j ≠ 5 → τ2.1 0 j = τ.1 0 j
theorem FrM4.refl (τ : Mm) : FrM4 τ τ := ⟨fun _ _ => rfl, fun _ _ _ => rfl⟩
theorem FrM4.trans {σ σ2 σ3 : Mm} (h1 : FrM4 σ σ2) (h2 : FrM4 σ2 σ3) : FrM4 σ σ3 := ⟨fun k a => (h2.1 k a).trans (h1.1 k a), fun j a b => (h2.2 j a b).trans (h1.2 j a b)⟩
theorem FrM4.k4 (τ : Mm) (v : Int32) : FrM4 τ (kwi τ 0 4 v) := ⟨fun k a => kwi_ne _ _ _ a, fun j a b => by rw [kwi_same]; exact pk_un a⟩
theorem FrM4.k5 (τ : Mm) (v : Int32) : FrM4 τ (kwi τ 0 5 v) := ⟨fun k a => kwi_ne _ _ _ a, fun j a b => by rw [kwi_same]; exact pk_un b⟩
theorem TX.fr4 {τ τ2 : Mm} {L : Nat} {T : Nat → Nat} (h : TX (τ.1 3) (τ.1 0 3) L T) (f : FrM4 τ τ2) : TX (τ2.1 3) (τ2.1 0 3) L T := by
  rw [f.1 3 (by decide), f.2 3 (by decide) (by decide)]; exact h
def PM (τ : Mm) (p : Nat) (w : Bool) : Prop := τ.1 0 4 = nI p ∧ τ.1 0 5 = wI w
theorem cM_due {τ : Mm} {L : Nat} {T : Nat → Nat} (h : TX (τ.1 3) (τ.1 0 3) L T) {p c : Nat} {w : Bool} (hp : p < 9000) (hc : c < 256) (hq : PM τ p w) {Φ : Mm → Prop} (hΦ : ∀ τ2, FrM4 τ τ2 → PM τ2 (p + 1) (w || decide (T p ≠ c)) → Φ τ2) : wp_X11_due τ (nI c) Φ := by
  obtain ⟨h4, h5⟩ := hq
  unfold wp_X11_due
  rw [h5, wI_0]
  refine ⟨fun v => v = wI (w || decide (T p ≠ c)), fun v ev => ?_, (w || decide (T p ≠ c)) = true, fun q => by rw [q]; rfl, fun q => ?_, fun q => cM_here h (by omega) h4 ?_⟩
  · subst ev
    refine ⟨kbit_w _, fun σ2 e2 σ3 e3 => ?_⟩
    have e1 : nI p + 1 = nI (p + 1) := nI_1 p
    have g4 : σ2.1 0 4 = nI p := by rw [e2, kwi_same, pk_un (by decide)]; exact h4
    rw [g4, e1] at e3
    refine hΦ σ3 ((by rw [e2]; exact FrM4.k5 _ _ : FrM4 τ σ2).trans (by rw [e3]; exact FrM4.k4 _ _)) ⟨by rw [e3, kwi_same]; exact upd_at _ _ _, ?_⟩
    rw [e3, kwi_same, pk_un (by decide), e2, kwi_same]
    exact upd_at _ _ _
  · cases w
    · exact absurd rfl q
    · rfl
  · rw [tI_eq hc]
    subst q
    exact ⟨fun z => by simp [z]; rfl, fun z => by simp [z]⟩
theorem cM_inq {x lo hi : Nat} (hx : x < 2 ^ 31) (hl : lo < 2 ^ 31) (h3 : hi < 2 ^ 31) {Φ : Int32 → Prop} (h1 : lo ≤ x ∧ x ≤ hi → Φ 1) (h0 : ¬ (lo ≤ x ∧ x ≤ hi) → Φ 0) : wp_X11_in (nI x) (nI lo) (nI hi) Φ := by
  unfold wp_X11_in
  have e1 : nI x < nI lo ↔ x < lo := nI_ltI hx hl
  have e2 : nI x ≤ nI hi ↔ x ≤ hi := nI_leI hx h3
  have e3 : nI hi < nI x ↔ hi < x := nI_ltI h3 hx
  simp only [e1, e2, e3]
  by_cases q1 : x < lo
  · have := h0 (by omega)
    grind
  · by_cases q2 : x ≤ hi
    · have := h1 (by omega)
      grind
    · have := h0 (by omega)
      grind
theorem cM_tin {n lo hi : Nat} (hn : n ≤ 256) (hl : lo < 256) (h3 : hi < 256) {Φ : Int32 → Prop} (h1 : lo ≤ n ∧ n ≤ hi → Φ 1) (h0 : ¬ (lo ≤ n ∧ n ≤ hi) → Φ 0) : wp_X11_in (tI n) (nI lo) (nI hi) Φ := by
  rcases Nat.lt_or_ge n 256 with q | q
  · rw [tI_lt q]
    exact cM_inq (by omega) (by omega) (by omega) h1 h0
  · have : n = 256 := by omega
    subst this
    have hx := h0 (by omega)
    rw [tI_end]
    unfold wp_X11_in
    have e1 : (-1 : Int32) < nI lo := by
      rw [fa_lt_, nI_toInt (by omega)]
      have : (-1 : Int32).toInt = -1 := by decide
      omega
    grind
/-- the model reads a number -/
theorem cM_number {τ : Mm} {L : Nat} {T : Nat → Nat} (h : TX (τ.1 3) (τ.1 0 3) L T) {p lo hi : Nat} {w : Bool} (hp : p < 9000) (hlo : lo < 1000) (hhi : hi < 1000) (hq : PM τ p w) {Φ : Int32 → Mm → Prop} (hΦ : ∀ τ2, FrM4 τ τ2 → PM τ2 (p + nq T p) (w || decide (nq T p = 0 ∨ ¬ (lo ≤ nv T p ∧ nv T p ≤ hi))) → Φ (nI (nv T p)) τ2) : wp_X11_number τ (nI lo) (nI hi) Φ := by
  obtain ⟨h4, h5⟩ := hq
  have hv := nv_le T p
  have hqq := nq_le T p
  refine ⟨fun ρ x3 x4 => FrM4 τ ρ ∧ ρ.1 0 4 = nI (p + nq T p) ∧ ρ.1 0 5 = wI w ∧ x3 = nI (nv T p) ∧ x4 = nI (nq T p), fun ρ x3 x4 hρ => ?_, 3, ?_⟩
  · obtain ⟨a1, a2, a3, rfl, rfl⟩ := hρ
    rw [a3, wI_0, nI_e0 (by omega)]
    refine ⟨fun v => v = wI (w || decide (nq T p = 0 ∨ ¬ (lo ≤ nv T p ∧ nv T p ≤ hi))), fun v ev => ?_, (w || decide (nq T p = 0 ∨ ¬ (lo ≤ nv T p ∧ nv T p ≤ hi))) = true, fun q => by rw [q]; rfl, fun q => ?_, fun q => ⟨fun z => ?_, fun z => cM_inq (by omega) (by omega) (by omega) (fun y => brn_t (by decide) ?_) (fun y => brn_f rfl ?_)⟩⟩
    · subst ev
      refine ⟨kbit_w _, fun σ5 e5' => hΦ σ5 (a1.trans (by rw [e5']; exact FrM4.k5 _ _)) ⟨?_, ?_⟩⟩
      · rw [e5', kwi_same, pk_un (by decide)]; exact a2
      · rw [e5', kwi_same]; exact upd_at _ _ _
    · cases w
      · exact absurd rfl q
      · rfl
    · simp [z]
    · subst q
      simp [z, y]
      rfl
    · subst q
      have : decide (nq T p = 0 ∨ ¬ (lo ≤ nv T p ∧ nv T p ≤ hi)) = true := decide_eq_true (Or.inr y)
      rw [this]; rfl
  · have hle0 := h.le p
    have hle1 := h.le (p + 1)
    have d1 : ∀ v : Nat, (48 ≤ v ∧ v ≤ 57) ↔ dg v = true := fun v => (decide_eq_true_iff).symm
    refine br_f (by decide) (cM_here h (by omega) h4 (cM_tin (lo := 48) (hi := 57) hle0 (by omega) (by omega) (fun c => br_f (by decide) (cM_here h (by omega) h4 ?_)) (fun c => br_t rfl ?_)))
    · have c1 := (d1 _).mp c
      intro x3 ex3 σ18 e18
      rw [tI_lt (by omega)] at ex3
      have ev : ((10 : Int32) * 0 + nI (T p)) - 48 = nI (T p - 48) := by
        have : (10 : Int32) * 0 + nI (T p) = nI (0 + T p) := nI_add 0 (T p)
        rw [this, Nat.zero_add]
        exact pk_sub (b := 48) (by omega)
      rw [ev] at ex3
      have e1 : nI p + 1 = nI (p + 1) := nI_1 p
      rw [h4, e1] at e18
      have f1 : FrM4 τ σ18 := by rw [e18]; exact FrM4.k4 _ _
      have g4 : σ18.1 0 4 = nI (p + 1) := by rw [e18, kwi_same]; exact upd_at _ _ _
      have g5 : σ18.1 0 5 = wI w := by rw [e18, kwi_same, pk_un (by decide)]; exact h5
      refine br_f (by decide) (cM_here (h.fr4 f1) (by omega) g4 (cM_tin (lo := 48) (hi := 57) hle1 (by omega) (by omega) (fun c' => br_f (by decide) (cM_here (h.fr4 f1) (by omega) g4 ?_)) (fun c' => br_t rfl ?_)))
      · have c2 := (d1 _).mp c'
        intro x3' ex3' σ19 e19
        have hqv : nq T p = 2 := by unfold nq; rw [c1, c2]; rfl
        have hvv : nv T p = (T p - 48) * 10 + (T (p + 1) - 48) := by unfold nv; rw [c1, c2]; rfl
        rw [tI_lt (by omega), ex3] at ex3'
        have ev' : ((10 : Int32) * nI (T p - 48) + nI (T (p + 1))) - 48 = nI (nv T p) := by
          have q1 : (10 : Int32) * nI (T p - 48) = nI (10 * (T p - 48)) := pk_mul 10 _
          rw [q1, nI_add]
          have q2 : nI (10 * (T p - 48) + T (p + 1)) - 48 = nI (10 * (T p - 48) + T (p + 1) - 48) := pk_sub (b := 48) (by omega)
          rw [q2, hvv]
          congr 1
          omega
        rw [ev'] at ex3'
        have e2 : nI (p + 1) + 1 = nI (p + 2) := nI_1 (p + 1)
        rw [g4, e2] at e19
        refine br_t (by decide) ⟨f1.trans (by rw [e19]; exact FrM4.k4 _ _), ?_, ?_, ex3', ?_⟩
        · rw [e19, kwi_same, hqv]; exact upd_at _ _ _
        · rw [e19, kwi_same, pk_un (by decide)]; exact g5
        · rw [hqv]; rfl
      · have c2 : dg (T (p + 1)) = false := by
          cases hh : dg (T (p + 1))
          · rfl
          · exact absurd ((d1 _).mpr hh) c'
        have hqv : nq T p = 1 := by unfold nq; rw [c1, c2]; rfl
        have hvv : nv T p = T p - 48 := by unfold nv; rw [c1, c2]; rfl
        exact ⟨f1, by rw [hqv]; exact g4, g5, by rw [ex3, hvv], by rw [hqv]; rfl⟩
    · have c2 : dg (T p) = false := by
        cases hh : dg (T p)
        · rfl
        · exact absurd ((d1 _).mpr hh) c
      have hqv : nq T p = 0 := by unfold nq; rw [c2]; rfl
      have hvv : nv T p = 0 := by unfold nv; rw [c2]; rfl
      exact ⟨FrM4.refl τ, by rw [hqv]; exact h4, h5, by rw [hvv]; rfl, by rw [hqv]; rfl⟩
