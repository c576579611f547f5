def Mom (g : Nat → Int32) (x y z u v w : Int32) : Prop := ∃ mi m fe : Nat, mi ≤ 9999 ∧ isSt g m ∧ x = nI mi ∧ y = nI (cst g m) ∧ z = nI fe ∧ u = nI mi ∧ v = nI m ∧ w = nI fe
def NwR (g : Nat → Int32) (a x : Nat → Int32) : Prop := Mom g (a 0) (a 1) (a 2) (x 0) (x 1) (x 2)
def MsR (g : Nat → Int32) (mx : Nat) (c : Int32) (r1 r2 r3 : Nat → Int32) (c2 : Int32) (x : Nat → Int32) : Prop := ∃ k, k ≤ mx ∧ c = nI k ∧ c2 = nI k ∧ ∀ j, j < k → Mom g (r1 j) (r2 j) (r3 j) (x (3 * j)) (x (3 * j + 1)) (x (3 * j + 2))
def TdR (n mx : Nat) (c : Int32) (ry rm : Nat → Int32) (c2 : Int32) (xy xm : Nat → Int32) : Prop := ∃ k, k ≤ 6 ∧ c = nI k ∧ c2 = nI k ∧ ∀ j, j < k → ∃ y a, y < n ∧ a ≤ mx ∧ ry j = nI y ∧ rm j = nI a ∧ xy j = nI y ∧ xm j = nI a
def TxR (c : Int32) (r : Nat → Int32) (c2 : Int32) (x : Nat → Int32) : Prop := ∃ L, L ≤ 300 ∧ c = nI L ∧ c2 = nI L ∧ ∀ j, j < L → r j = x j
def FrR (c : Int32) (st : Nat → Int32) (nu : Nat → Int64) : Prop := ∃ k, k ≤ 960 ∧ c = nI k ∧ (∀ i, i < k → ∃ s, s < 960 ∧ st i = nI s) ∧ ∀ s, s < 960 → nu s ≠ -1 → ∃ i, i < k ∧ st i = nI s
/-- the farm's part of the relation -/
def FP (g d : Nat → Int32) (σ τ : Mm) : Prop := WFg g ∧ WFd g d ∧ okC σ.2.2 ∧ σ.2.2 0 ≠ σ.2.2 1 ∧ σ.2.2 2 ≠ σ.2.2 3 ∧ FmC σ (σ.2.2 0) g ∧ FmD σ (σ.2.2 0) g d ∧ FmM τ g d
def RelG (g d : Nat → Int32) (σ τ : Mm) : Prop := FP g d σ τ ∧ TxR (σ.1 1 1) (σ.1 2) (τ.1 0 3) (τ.1 3) ∧ NwR g (σ.1 16) (τ.1 4) ∧ MsR g 8 (σ.1 17 3) (σ.1 18) (σ.1 19) (σ.1 20) (τ.1 0 9) (τ.1 5) ∧ MsR g 2 (σ.1 21 3) (σ.1 22) (σ.1 23) (σ.1 24) (τ.1 0 11) (τ.1 6) ∧ TdR (aN g) 40 (σ.1 25 2) (σ.1 26) (σ.1 27) (τ.1 0 14) (τ.1 7) (τ.1 8) ∧ TdR (aN g) 20 (σ.1 28 2) (σ.1 29) (σ.1 30) (τ.1 0 21) (τ.1 13) (τ.1 14) ∧ FrR (σ.1 32 2) (σ.1 33) (σ.2.1 34) ∧ FrR (σ.1 35 2) (σ.1 36) (σ.2.1 37)
def Rel (σ τ : Mm) : Prop := ∃ g d, RelG g d σ τ
theorem FmC.of {σ σ2 : Mm} {b : Nat} {g : Nat → Int32} (h : FmC σ b g) (e : ∀ k, b ≤ k → k ≤ b + 5 → σ2.1 k = σ.1 k) : FmC σ2 b g := by
  unfold FmC at *
  rw [e b (by omega) (by omega), e (b + 3) (by omega) (by omega), e (b + 4) (by omega) (by omega), e (b + 5) (by omega) (by omega)]
  exact h
theorem FmD.of {σ σ2 : Mm} {b : Nat} {g d : Nat → Int32} (h : FmD σ b g d) (e : ∀ k, b ≤ k → k ≤ b + 5 → σ2.1 k = σ.1 k) : FmD σ2 b g d := by
  unfold FmD at *
  rw [e (b + 1) (by omega) (by omega), e (b + 2) (by omega) (by omega)]
  exact h
theorem FmM.of {τ τ2 : Mm} {g d : Nat → Int32} (h : FmM τ g d) (e1 : τ2.1 1 = τ.1 1) (e2 : τ2.1 2 = τ.1 2) : FmM τ2 g d := by
  unfold FmM at *
  rw [e1, e2]
  exact h
theorem FP.of {g d : Nat → Int32} {σ σ2 τ τ2 : Mm} (h : FP g d σ τ) (er : σ2.2.2 = σ.2.2) (e : ∀ k, 4 ≤ k → k ≤ 15 → σ2.1 k = σ.1 k) (e1 : τ2.1 1 = τ.1 1) (e2 : τ2.1 2 = τ.1 2) : FP g d σ2 τ2 := by
  obtain ⟨a1, a2, a3, a4, a5, a6, a7, a8⟩ := h
  have hb : 4 ≤ σ.2.2 0 ∧ σ.2.2 0 ≤ 10 := by rcases a3.1 with q | q <;> omega
  unfold FP
  rw [er]
  exact ⟨a1, a2, a3, a4, a5, a6.of (fun k h1 h2 => e k (by omega) (by omega)), a7.of (fun k h1 h2 => e k (by omega) (by omega)), a8.of e1 e2⟩
theorem FP_kwi {g d : Nat → Int32} {σ τ : Mm} (h : FP g d σ τ) {k j : Nat} {v : Int32} (hk : k < 4 ∨ 15 < k) : FP g d (kwi σ k j v) τ := h.of rfl (fun i h1 h2 => kwi_ne σ j v (by omega)) rfl rfl
theorem FP_kwiM {g d : Nat → Int32} {σ τ : Mm} (h : FP g d σ τ) {k j : Nat} {v : Int32} (hk : k ≠ 1 ∧ k ≠ 2) : FP g d σ (kwi τ k j v) := h.of rfl (fun i h1 h2 => rfl) (kwi_ne τ j v (fun e => hk.1 e.symm)) (kwi_ne τ j v (fun e => hk.2 e.symm))
/-- an int that is one of the first n numbers -/
def yIn (n : Nat) (x : Int32) : Prop := ∃ j, j < n ∧ x = nI j
theorem yIn_not {n : Nat} {x : Int32} (hn : n < 2 ^ 31) (h : ¬ yIn n x) : x < 0 ∨ nI n ≤ x := by
  rcases pk_ix x hn with q | q | q
  · exact Or.inl q
  · exact Or.inr q
  · exact absurd q h
theorem cM_in1 {x lo hi : Nat} {Φ : Int32 → Prop} (h1 : lo ≤ x) (h2 : x ≤ hi) (h3 : hi < 2 ^ 31) (h : Φ 1) : wp_X11_in (nI x) (nI lo) (nI hi) Φ := by
  simp (disch := omega) only [wp_X11_in, nI_ltI]
  exact br_f (by omega) (br_f (by omega) h)
theorem cM_in0 {hi : Nat} {x : Int32} {Φ : Int32 → Prop} (h3 : hi + 1 < 2 ^ 31) (hx : ¬ yIn (hi + 1) x) (h : Φ 0) : wp_X11_in x 0 (nI hi) Φ := by
  rcases yIn_not h3 hx with q | q
  · exact br_t q h
  · refine ⟨fun _ => h, fun _ => br_t ?_ h⟩
    have h1 := (fa_le_ _ _).mp q
    rw [nI_toInt h3] at h1
    apply (fa_lt_ _ _).mpr
    rw [nI_toInt (by omega)]
    omega
theorem cM_isYard {τ : Mm} {g d : Nat → Int32} (hw : WFg g) (hf : FmM τ g d) {x : Int32} {Φ : Int32 → Prop} (h1 : yIn (aN g) x → Φ 1) (h0 : ¬ yIn (aN g) x → Φ 0) : wp_X11_isYard τ x Φ := by
  have hN := hw.N
  unfold wp_X11_isYard
  have e : τ.1 1 0 - 1 = nI (aN g - 1) := by
    rw [hf.1 0 (by omega)]
    exact ksub1 (a := aN g) (by omega)
  rw [e]
  by_cases hy : yIn (aN g) x
  · obtain ⟨j, hj, rfl⟩ := id hy
    exact cM_in1 (lo := 0) (by omega) (by omega) (by omega) ⟨kbit_1, h1 hy⟩
  · exact cM_in0 (by omega) (by rw [Nat.sub_add_cancel (by omega)]; exact hy) ⟨kbit_0, h0 hy⟩
theorem cM_isPerson {τ : Mm} {g d : Nat → Int32} (hw : WFg g) (hf : FmM τ g d) {x : Int32} {Φ : Int32 → Prop} (h1 : yIn (aP g) x → Φ 1) (h0 : ¬ yIn (aP g) x → Φ 0) : wp_X11_isPerson τ x Φ := by
  have hN := hw.P
  unfold wp_X11_isPerson
  have e : τ.1 1 1 - 1 = nI (aP g - 1) := by
    rw [hf.1 1 (by omega)]
    exact ksub1 (a := aP g) (by omega)
  rw [e]
  by_cases hy : yIn (aP g) x
  · obtain ⟨j, hj, rfl⟩ := id hy
    exact cM_in1 (lo := 0) (by omega) (by omega) (by omega) ⟨kbit_1, h1 hy⟩
  · exact cM_in0 (by omega) (by rw [Nat.sub_add_cancel (by omega)]; exact hy) ⟨kbit_0, h0 hy⟩
theorem cC_hasYard {σ : Mm} {b : Nat} {g : Nat → Int32} (hw : WFg g) (hf : FmC σ b g) {x : Int32} {Φ : Int32 → Prop} (h1 : yIn (aN g) x → Φ 1) (h0 : ¬ yIn (aN g) x → Φ 0) : wp_X1_hasYard σ b x Φ := by
  have hN := hw.N
  unfold wp_X1_hasYard
  rw [hf.1]
  by_cases hy : yIn (aN g) x
  · obtain ⟨j, hj, rfl⟩ := id hy
    exact br_f (nI_pos (by omega)) (br_f (nI_ge hj (by omega)) (h1 hy))
  · have h := h0 hy
    rcases yIn_not (by omega) hy with q | q
    · exact br_t q h
    · exact ⟨fun _ => h, fun _ => br_t q h⟩
theorem cC_hasPerson {σ : Mm} {b : Nat} {g : Nat → Int32} (hw : WFg g) (hf : FmC σ b g) {x : Int32} {Φ : Int32 → Prop} (h1 : yIn (aP g) x → Φ 1) (h0 : ¬ yIn (aP g) x → Φ 0) : wp_X1_hasPerson σ b x Φ := by
  have hN := hw.P
  unfold wp_X1_hasPerson
  rw [hf.2.1]
  by_cases hy : yIn (aP g) x
  · obtain ⟨j, hj, rfl⟩ := id hy
    exact br_f (nI_pos (by omega)) (br_f (nI_ge hj (by omega)) (h1 hy))
  · have h := h0 hy
    rcases yIn_not (by omega) hy with q | q
    · exact br_t q h
    · exact ⟨fun _ => h, fun _ => br_t q h⟩
-- a range that the component tests by hand: 0 .. hi
theorem rg_in {x : Int32} {hi : Nat} (h3 : hi + 1 < 2 ^ 31) : (¬ x < 0 ∧ x ≤ nI hi) ↔ yIn (hi + 1) x := by
  constructor
  · rintro ⟨a, b⟩
    obtain ⟨j, hj, e⟩ := nI_of2 (M := nI hi) (nI_toInt (by omega)) a b
    exact ⟨j, by omega, e⟩
  · rintro ⟨j, hj, rfl⟩
    exact ⟨nI_pos (by omega), nI_le (by omega) (by omega)⟩
