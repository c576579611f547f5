-- ===== distances
def fwF (o : Nat) (E : Nat → Nat → Nat) : Nat → Nat → Nat := fun a b => if E a b ≤ E a o + E o b then E a b else E a o + E o b
def fw (E : Nat → Nat → Nat) : Nat → Nat → Nat → Nat
  | 0 => E
  | o + 1 => fwF o (fw E o)
/-- the lanes alone -/
def dI (g : Nat → Int32) : Nat → Nat → Nat := fun a b => if a = b then 0 else if aLane g a b then 1 else 999999
def dI99 (g : Nat → Int32) : Nat → Nat → Nat := fun a b => if a = b then 0 else if aLane g a b then 1 else 99
theorem fwF_le (o : Nat) (E : Nat → Nat → Nat) (a b : Nat) : fwF o E a b ≤ E a b ∧ fwF o E a b ≤ E a o + E o b ∧ (fwF o E a b = E a b ∨ fwF o E a b = E a o + E o b) := by
  unfold fwF
  split
  · exact ⟨Nat.le_refl _, by assumption, Or.inl rfl⟩
  · exact ⟨by omega, Nat.le_refl _, Or.inr rfl⟩
theorem fw_clamp (g : Nat → Int32) : ∀ o a b, fw (dI99 g) o a b = if fw (dI g) o a b < 99 then fw (dI g) o a b else 99
  | 0, a, b => by
    show dI99 g a b = if dI g a b < 99 then dI g a b else 99
    unfold dI99 dI
    by_cases h : a = b
    · rw [if_pos h, if_pos h]; rfl
    · rw [if_neg h, if_neg h]
      cases aLane g a b <;> rfl
  | o + 1, a, b => by
    show fwF o (fw (dI99 g) o) a b = _
    have e : fw (dI g) (o + 1) a b = fwF o (fw (dI g) o) a b := rfl
    rw [e]
    unfold fwF
    rw [fw_clamp g o a b, fw_clamp g o a o, fw_clamp g o o b]
    generalize fw (dI g) o a b = x
    generalize fw (dI g) o a o = y
    generalize fw (dI g) o o b = z
    (repeat' split) <;> omega
/-- a walk of n lanes -/
def Wk (g : Nat → Int32) : Nat → Nat → Nat → Prop
  | 0, a, b => a = b
  | n + 1, a, b => ∃ x, x < 8 ∧ aLane g a x = true ∧ Wk g n x b
theorem Wk_cat {g : Nat → Int32} : ∀ {n k a x b}, Wk g n a x → Wk g k x b → Wk g (n + k) a b
  | 0, k, a, x, b, h1, h2 => by
    have : a = x := h1
    rw [this, Nat.zero_add]; exact h2
  | n + 1, k, a, x, b, h1, h2 => by
    obtain ⟨y, y1, y2, y3⟩ := h1
    have e : n + 1 + k = (n + k) + 1 := by omega
    rw [e]
    exact ⟨y, y1, y2, Wk_cat y3 h2⟩
/-- what is so of the distances, o yards gone over -/
def FWI (g : Nat → Int32) (o : Nat) (E : Nat → Nat → Nat) : Prop :=
  (∀ a, a < 8 → E a a = 0) ∧ (∀ a b, a < 8 → b < 8 → E a b ≤ 999999 ∧ (E a b < 999999 → Wk g (E a b) a b)) ∧
  (∀ a b, a < 8 → b < 8 → aLane g a b = true → E a b ≤ 1) ∧ ∀ a b x, a < 8 → b < 8 → x < o → E a b ≤ E a x + E x b
theorem FWI_0 (g : Nat → Int32) : FWI g 0 (dI g) := by
  unfold dI
  refine ⟨fun a _ => if_pos rfl, fun a b ha hb => ?_, fun a b _ _ hl => ?_, fun a b x _ _ hx => by omega⟩
  · dsimp only
    by_cases h : a = b
    · rw [if_pos h]; exact ⟨by omega, fun _ => h⟩
    · rw [if_neg h]
      cases hl : aLane g a b with
      | true => exact ⟨by decide, fun _ => ⟨b, hb, hl, rfl⟩⟩
      | false => exact ⟨by decide, fun q => absurd q (by decide)⟩
  · dsimp only
    by_cases h : a = b
    · rw [if_pos h]; omega
    · rw [if_neg h, hl]; decide
theorem FWI_s {g : Nat → Int32} {o : Nat} (ho : o < 8) {E : Nat → Nat → Nat} (h : FWI g o E) : FWI g (o + 1) (fwF o E) := by
  obtain ⟨h1, h2, h3, h4⟩ := h
  refine ⟨fun a ha => ?_, fun a b ha hb => ?_, fun a b ha hb hl => ?_, fun a b x ha hb hx => ?_⟩
  · have := (fwF_le o E a a).1
    have := h1 a ha
    omega
  · obtain ⟨k1, k2, k3⟩ := fwF_le o E a b
    have e1 := h2 a b ha hb
    refine ⟨by omega, fun hlt => ?_⟩
    rcases k3 with k | k
    · rw [k] at hlt ⊢; exact e1.2 hlt
    · rw [k] at hlt ⊢
      exact Wk_cat ((h2 a o ha ho).2 (by omega)) ((h2 o b ho hb).2 (by omega))
  · have := (fwF_le o E a b).1
    have := h3 a b ha hb hl
    omega
  · obtain ⟨k1, k2, k3⟩ := fwF_le o E a b
    obtain ⟨m1, m2, m3⟩ := fwF_le o E a x
    obtain ⟨n1, n2, n3⟩ := fwF_le o E x b
    have ho0 := h1 o ho
    by_cases e : x = o
    · subst e
      rcases m3 with m | m <;> rcases n3 with n | n <;> omega
    · have hx' : x < o := by omega
      have t1 := h4 a b x ha hb hx'
      have t2 := h4 a o x ha ho hx'
      have t3 := h4 o b x ho hb hx'
      rcases m3 with m | m <;> rcases n3 with n | n <;> omega
theorem FWI_n (g : Nat → Int32) : ∀ o, o ≤ 8 → FWI g o (fw (dI g) o)
  | 0, _ => FWI_0 g
  | o + 1, h => FWI_s (by omega) (FWI_n g o (by omega))
/-- the distances of a farm, as a row -/
def dR (g : Nat → Int32) : Nat → Int32 := fun k => nI (fw (dI g) 8 (k / 8) (k % 8))
theorem dR_v {g : Nat → Int32} {a b : Nat} (ha : a < 8) (hb : b < 8) : aD (dR g) a b = fw (dI g) 8 a b ∧ fw (dI g) 8 a b ≤ 999999 := by
  have h := ((FWI_n g 8 (Nat.le_refl _)).2.1 a b ha hb).1
  refine ⟨?_, h⟩
  unfold aD gN dR
  have e1 : (8 * a + b) / 8 = a := by omega
  have e2 : (8 * a + b) % 8 = b := by omega
  rw [e1, e2, nI_clamp (by omega)]
theorem WFd_dR {g : Nat → Int32} (hg : ∀ a b, a < 8 → b < 8 → aLane g a b = true → a ≠ b) : WFd g (dR g) := by
  have hI := FWI_n g 8 (Nat.le_refl _)
  obtain ⟨h1, h2, h3, h4⟩ := hI
  generalize hE : fw (dI g) 8 = E at h1 h2 h3 h4
  have hv : ∀ a b, a < 8 → b < 8 → aD (dR g) a b = E a b := fun a b ha hb => by rw [(dR_v ha hb).1, hE]
  have hcomp : ∀ n a b, a < 8 → b < 8 → Wk g n a b → E a b ≤ n := by
    intro n
    induction n with
    | zero =>
      intro a b ha hb h
      have : a = b := h
      rw [this, h1 b hb]; omega
    | succ n ih =>
      intro a b ha hb h
      obtain ⟨x, x1, x2, x3⟩ := h
      have := ih x b x1 hb x3
      have := h3 a x ha x1 x2
      have := h4 a b x ha hb x1
      omega
  have hnear : ∀ a b, a < 8 → b < 8 → 0 < E a b → E a b < 999999 → ∃ y, y < 8 ∧ aLane g a y = true ∧ E y b = E a b - 1 := by
    intro a b ha hb q1 q2
    have hw := (h2 a b ha hb).2 q2
    obtain ⟨n, hn⟩ : ∃ n, E a b = n + 1 := ⟨E a b - 1, by omega⟩
    rw [hn] at hw
    obtain ⟨x, x1, x2, x3⟩ := hw
    have := hcomp n x b x1 hb x3
    have := h3 a x ha x1 x2
    have := h4 a b x ha hb x1
    exact ⟨x, x1, x2, by omega⟩
  have hlist : ∀ n a b, a < 8 → b < 8 → E a b = n → n < 999999 → ∃ L : List Nat, L.length = n + 1 ∧ L.Nodup ∧ ∀ y, y ∈ L → y < 8 ∧ E y b ≤ n := by
    intro n
    induction n with
    | zero =>
      intro a b ha hb e _
      exact ⟨[a], rfl, by simp, fun y hy => by rw [List.mem_singleton.mp hy]; exact ⟨ha, by omega⟩⟩
    | succ n ih =>
      intro a b ha hb e q
      obtain ⟨y, y1, y2, y3⟩ := hnear a b ha hb (by omega) (by omega)
      obtain ⟨L, l1, l2, l3⟩ := ih y b y1 hb (by omega) (by omega)
      refine ⟨a :: L, by rw [List.length_cons, l1], List.nodup_cons.mpr ⟨fun z => ?_, l2⟩, fun z hz => ?_⟩
      · have := (l3 a z).2
        omega
      · rcases List.mem_cons.mp hz with r | r
        · rw [r]; exact ⟨ha, by omega⟩
        · have := l3 z r
          exact ⟨this.1, by omega⟩
  have h8 : ∀ a b, a < 8 → b < 8 → E a b < 8 ∨ E a b = 999999 := by
    intro a b ha hb
    have := (h2 a b ha hb).1
    rcases Nat.lt_or_ge (E a b) 999999 with q | q
    · left
      obtain ⟨L, l1, l2, l3⟩ := hlist (E a b) a b ha hb rfl q
      have := ndp_len 8 L l2 (fun x hx => (l3 x hx).1)
      omega
    · right; omega
  refine ⟨fun k hk => ?_, fun a ha => ?_, fun a b ha hb => ?_, fun a b ha hb q1 q2 => ?_, fun a b ha hb => ?_⟩
  · unfold gN dR
    have := (dR_v (g := g) (a := k / 8) (b := k % 8) (by omega) (by omega)).2
    rw [nI_clamp (by omega)]
  · rw [hv a a ha ha]; exact h1 a ha
  · rw [hv a b ha hb]; exact h8 a b ha hb
  · rw [hv a b ha hb] at q1 q2 ⊢
    obtain ⟨y, y1, y2, y3⟩ := hnear a b ha hb q1 (by omega)
    exact ⟨y, y1, y2, by rw [hv y b y1 hb]; exact y3⟩
  · rw [hv a b ha hb]
    constructor
    · intro hl
      have := h3 a b ha hb hl
      rcases Nat.eq_zero_or_pos (E a b) with z | z
      · exfalso
        have hw := (h2 a b ha hb).2 (by omega)
        rw [z] at hw
        exact hg a b ha hb hl hw
      · omega
    · intro e
      have hw := (h2 a b ha hb).2 (by omega)
      rw [e] at hw
      obtain ⟨x, x1, x2, x3⟩ := hw
      have : x = b := x3
      rw [← this]; exact x2
/-- one entry after another: what a round over o has done up to (f, t) -/
def midM (o : Nat) (E : Nat → Nat → Nat) (f t : Nat) : Nat → Nat → Nat := fun a b => if a < f ∨ (a = f ∧ b < t) then fwF o E a b else E a b
theorem mid_o {o : Nat} {E : Nat → Nat → Nat} (h0 : E o o = 0) (f t a : Nat) : midM o E f t a o = E a o ∧ midM o E f t o a = E o a := by
  unfold midM fwF
  refine ⟨?_, ?_⟩
  · split
    · rw [h0, Nat.add_zero, if_pos (Nat.le_refl _)]
    · rfl
  · split
    · rw [h0, Nat.zero_add, if_pos (Nat.le_refl _)]
    · rfl
theorem fw_00 (E : Nat → Nat → Nat) (h : ∀ a, a < 8 → E a a = 0) : ∀ o a, a < 8 → fw E o a a = 0
  | 0, a, ha => h a ha
  | o + 1, a, ha => by
    show fwF o (fw E o) a a = 0
    have := (fwF_le o (fw E o) a a).1
    have := fw_00 E h o a ha
    omega
theorem fw_le (E : Nat → Nat → Nat) (a b : Nat) : ∀ o, fw E o a b ≤ E a b
  | 0 => Nat.le_refl _
  | o + 1 => by
    show fwF o (fw E o) a b ≤ E a b
    have := (fwF_le o (fw E o) a b).1
    have := fw_le E a b o
    omega
/-- a row of 64 that holds a matrix -/
def Mx (r : Nat → Int32) (M : Nat → Nat → Nat) : Prop := ∀ a b, a < 8 → b < 8 → r (8 * a + b) = nI (M a b)
theorem Mx_set {r : Nat → Int32} {o : Nat} {E : Nat → Nat → Nat} {f t : Nat} (hf : f < 8) (ht : t < 8) (h : Mx r (midM o E f t)) {v : Nat} (hv : v = fwF o E f t) : Mx (upd r (8 * f + t) (nI v)) (midM o E f (t + 1)) := by
  intro a b ha hb
  by_cases e : a = f ∧ b = t
  · obtain ⟨e1, e2⟩ := e
    subst e1 e2
    rw [upd_at, hv]
    unfold midM
    rw [if_pos (Or.inr ⟨rfl, by omega⟩)]
  · rw [pk_un (by omega), h a b ha hb]
    unfold midM
    by_cases q : a < f ∨ (a = f ∧ b < t)
    · rw [if_pos q, if_pos (by omega)]
    · rw [if_neg q, if_neg (by omega)]
theorem Mx_same {r : Nat → Int32} {o : Nat} {E : Nat → Nat → Nat} {f t : Nat} (h : Mx r (midM o E f t)) (hv : E f t = fwF o E f t) : Mx r (midM o E f (t + 1)) := by
  intro a b ha hb
  rw [h a b ha hb]
  unfold midM
  by_cases e : a = f ∧ b = t
  · obtain ⟨e1, e2⟩ := e
    subst e1 e2
    rw [if_neg (by omega), if_pos (Or.inr ⟨rfl, by omega⟩), hv]
  · by_cases q : a < f ∨ (a = f ∧ b < t)
    · rw [if_pos q, if_pos (by omega)]
    · rw [if_neg q, if_neg (by omega)]
theorem Mx_row {r : Nat → Int32} {o : Nat} {E : Nat → Nat → Nat} {f : Nat} (h : Mx r (midM o E f 8)) : Mx r (midM o E (f + 1) 0) := by
  intro a b ha hb
  rw [h a b ha hb]
  unfold midM
  by_cases q : a < f ∨ (a = f ∧ b < 8)
  · rw [if_pos q, if_pos (by omega)]
  · rw [if_neg q, if_neg (by omega)]
theorem Mx_all {r : Nat → Int32} {o : Nat} {E : Nat → Nat → Nat} (h : Mx r (midM o E 8 0)) : Mx r (fwF o E) := by
  intro a b ha hb
  rw [h a b ha hb]
  unfold midM
  rw [if_pos (Or.inl ha)]
theorem Mx_start {r : Nat → Int32} {o : Nat} {E : Nat → Nat → Nat} (h : Mx r E) : Mx r (midM o E 0 0) := by
  intro a b ha hb
  rw [h a b ha hb]
  unfold midM
  rw [if_neg (by omega)]
