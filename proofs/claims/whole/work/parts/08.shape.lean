def kFm (b : Nat) : Prop := b = 4 ∨ b = 10
def kMs (b : Nat) : Prop := b = 17 ∨ b = 21
def kTd (b : Nat) : Prop := b = 25 ∨ b = 28
def kFr (b : Nat) : Prop := b = 32 ∨ b = 35
def flX0 (X : KX) (ri : Nat → Int32) (rr : Nat → Nat) (k : Nat) : List Value := [.ref (X.2.1 39)]
def flX1 (X : KX) (ri : Nat → Int32) (rr : Nat → Nat) (k : Nat) : List Value := [.ref (X.2.1 (k + 1)), .ref (X.2.1 (k + 2)), .ref (X.2.1 (k + 3)), .ref (X.2.1 (k + 4)), .ref (X.2.1 (k + 5)), .int (ri 5), .int (ri 6), .int (ri 7), .int (ri 8), .int (ri 9)]
def flX2 (X : KX) (ri : Nat → Int32) (rr : Nat → Nat) (k : Nat) : List Value := [.ref (X.2.1 (k + 1)), .ref (X.2.1 (k + 2)), .int (ri 2)]
def flX3 (X : KX) (ri : Nat → Int32) (rr : Nat → Nat) (k : Nat) : List Value := [.int (ri 0), .int (ri 1), .int (ri 2)]
def flX4 (X : KX) (ri : Nat → Int32) (rr : Nat → Nat) (k : Nat) : List Value := [.ref (X.2.1 (k + 1)), .ref (X.2.1 (k + 2)), .ref (X.2.1 (k + 3)), .int (ri 3)]
def flX5 (X : KX) (ri : Nat → Int32) (rr : Nat → Nat) (k : Nat) : List Value := [.ref (X.2.1 1), .int (ri 1)]
def flX6 (X : KX) (ri : Nat → Int32) (rr : Nat → Nat) (k : Nat) : List Value := [.ref (X.2.1 40)]
def flX7 (X : KX) (ri : Nat → Int32) (rr : Nat → Nat) (k : Nat) : List Value := [.ref (X.2.1 (rr 2)), .ref (X.2.1 (rr 3)), .int (ri 2), .int (ri 3), .int (ri 4)]
def flX8 (X : KX) (ri : Nat → Int32) (rr : Nat → Nat) (k : Nat) : List Value := [.ref (X.2.1 2), .int (ri 1)]
def flX9 (X : KX) (ri : Nat → Int32) (rr : Nat → Nat) (k : Nat) : List Value := [.ref (X.2.1 (k + 1)), .ref (X.2.1 (k + 2)), .int (ri 2)]
def flX10 (X : KX) (ri : Nat → Int32) (rr : Nat → Nat) (k : Nat) : List Value := [.ref (X.2.1 1), .ref (X.2.1 3), .ref (X.2.1 (rr 0)), .ref (X.2.1 (rr 1)), .ref (X.2.1 16), .ref (X.2.1 17), .ref (X.2.1 21), .ref (X.2.1 25), .ref (X.2.1 28), .ref (X.2.1 31), .ref (X.2.1 38)]
def flX11 (X : KX) (ri : Nat → Int32) (rr : Nat → Nat) (k : Nat) : List Value := [.ref (X.2.1 1), .ref (X.2.1 2), .ref (X.2.1 3), .int (ri 3), .int (ri 4), .int (ri 5), .int (ri 6), .ref (X.2.1 4), .ref (X.2.1 5), .int (ri 9), .ref (X.2.1 6), .int (ri 11), .ref (X.2.1 7), .ref (X.2.1 8), .int (ri 14), .ref (X.2.1 9), .ref (X.2.1 10), .ref (X.2.1 11), .ref (X.2.1 12), .ref (X.2.1 13), .ref (X.2.1 14), .int (ri 21), .ref (X.2.1 15), .ref (X.2.1 16)]
def cfC (X : KX) (ri : Nat → Int32) (rl : Nat → Int64) (rr : Nat → Nat) (k : Nat) : va_E := match k with
  | 0 => .inr (10, flX10 X ri rr 0)
  | 1 => .inr (8, flX8 X ri rr 1)
  | 2 => .inl (X.2.2.1, 300, .inl ri)
  | 3 => .inr (5, flX5 X ri rr 3)
  | 4 => .inr (1, flX1 X ri rr 4)
  | 5 => .inl (X.2.2.2.1, 64, .inl ri)
  | 6 => .inl (X.2.2.2.1, 64, .inl ri)
  | 7 => .inl (X.2.2.2.1, 5, .inl ri)
  | 8 => .inl (X.2.2.2.1, 60, .inl ri)
  | 9 => .inl (X.2.2.2.1, 5, .inl ri)
  | 10 => .inr (1, flX1 X ri rr 10)
  | 11 => .inl (X.2.2.2.1, 64, .inl ri)
  | 12 => .inl (X.2.2.2.1, 64, .inl ri)
  | 13 => .inl (X.2.2.2.1, 5, .inl ri)
  | 14 => .inl (X.2.2.2.1, 60, .inl ri)
  | 15 => .inl (X.2.2.2.1, 5, .inl ri)
  | 16 => .inr (3, flX3 X ri rr 16)
  | 17 => .inr (4, flX4 X ri rr 17)
  | 18 => .inl (X.2.2.2.1, 8, .inl ri)
  | 19 => .inl (X.2.2.2.1, 8, .inl ri)
  | 20 => .inl (X.2.2.2.1, 8, .inl ri)
  | 21 => .inr (4, flX4 X ri rr 21)
  | 22 => .inl (X.2.2.2.1, 8, .inl ri)
  | 23 => .inl (X.2.2.2.1, 8, .inl ri)
  | 24 => .inl (X.2.2.2.1, 8, .inl ri)
  | 25 => .inr (9, flX9 X ri rr 25)
  | 26 => .inl (X.2.2.2.1, 6, .inl ri)
  | 27 => .inl (X.2.2.2.1, 6, .inl ri)
  | 28 => .inr (9, flX9 X ri rr 28)
  | 29 => .inl (X.2.2.2.1, 6, .inl ri)
  | 30 => .inl (X.2.2.2.1, 6, .inl ri)
  | 31 => .inr (7, flX7 X ri rr 31)
  | 32 => .inr (2, flX2 X ri rr 32)
  | 33 => .inl (X.2.2.2.1, 960, .inl ri)
  | 34 => .inl (X.2.2.2.2.1, 960, .inr (.inl rl))
  | 35 => .inr (2, flX2 X ri rr 35)
  | 36 => .inl (X.2.2.2.1, 960, .inl ri)
  | 37 => .inl (X.2.2.2.2.1, 960, .inr (.inl rl))
  | 38 => .inr (0, flX0 X ri rr 38)
  | 39 => .inr (6, flX6 X ri rr 39)
  | 40 => .inl (X.2.2.2.1, 390, .inl ri)
  | _ => .inr (0, [])
def cfM (X : KX) (ri : Nat → Int32) (rl : Nat → Int64) (rr : Nat → Nat) (k : Nat) : va_E := match k with
  | 0 => .inr (11, flX11 X ri rr 0)
  | 1 => .inl (X.2.2.2.1, 164, .inl ri)
  | 2 => .inl (X.2.2.2.1, 64, .inl ri)
  | 3 => .inl (X.2.2.1, 300, .inl ri)
  | 4 => .inl (X.2.2.2.1, 3, .inl ri)
  | 5 => .inl (X.2.2.2.1, 24, .inl ri)
  | 6 => .inl (X.2.2.2.1, 6, .inl ri)
  | 7 => .inl (X.2.2.2.1, 6, .inl ri)
  | 8 => .inl (X.2.2.2.1, 6, .inl ri)
  | 9 => .inl (X.2.2.2.1, 1008, .inl ri)
  | 10 => .inl (X.2.2.2.1, 1008, .inl ri)
  | 11 => .inl (X.2.2.2.2.2, 1008, .inl ri)
  | 12 => .inl (X.2.2.2.2.2, 1008, .inl ri)
  | 13 => .inl (X.2.2.2.1, 6, .inl ri)
  | 14 => .inl (X.2.2.2.1, 6, .inl ri)
  | 15 => .inl (X.2.2.2.2.1, 1008, .inr (.inl rl))
  | 16 => .inl (X.2.2.2.2.1, 1008, .inr (.inl rl))
  | _ => .inr (0, [])
def okC (rr : Nat → Nat) : Prop := kFm (rr 0) ∧ kFm (rr 1) ∧ kFr (rr 2) ∧ kFr (rr 3)
abbrev kZC : KD := (41, cfC, okC)
abbrev kZM : KD := (17, cfM, fun _ => True)
theorem kOC_0 {X : KX} : kIsO kZC X 0 10 flX10 := ⟨by decide, fun _ _ _ => rfl⟩
theorem kOC_1 {X : KX} : kIsO kZC X 1 8 flX8 := ⟨by decide, fun _ _ _ => rfl⟩
theorem kBC_2 {X : KX} : kIsB kZC X 2 300 := ⟨by decide, fun _ _ _ => rfl⟩
theorem kOC_3 {X : KX} : kIsO kZC X 3 5 flX5 := ⟨by decide, fun _ _ _ => rfl⟩
theorem kIC_5 {X : KX} : kIsI kZC X 5 64 := ⟨by decide, fun _ _ _ => rfl⟩
theorem kIC_6 {X : KX} : kIsI kZC X 6 64 := ⟨by decide, fun _ _ _ => rfl⟩
theorem kIC_7 {X : KX} : kIsI kZC X 7 5 := ⟨by decide, fun _ _ _ => rfl⟩
theorem kIC_8 {X : KX} : kIsI kZC X 8 60 := ⟨by decide, fun _ _ _ => rfl⟩
theorem kIC_9 {X : KX} : kIsI kZC X 9 5 := ⟨by decide, fun _ _ _ => rfl⟩
theorem kIC_11 {X : KX} : kIsI kZC X 11 64 := ⟨by decide, fun _ _ _ => rfl⟩
theorem kIC_12 {X : KX} : kIsI kZC X 12 64 := ⟨by decide, fun _ _ _ => rfl⟩
theorem kIC_13 {X : KX} : kIsI kZC X 13 5 := ⟨by decide, fun _ _ _ => rfl⟩
theorem kIC_14 {X : KX} : kIsI kZC X 14 60 := ⟨by decide, fun _ _ _ => rfl⟩
theorem kIC_15 {X : KX} : kIsI kZC X 15 5 := ⟨by decide, fun _ _ _ => rfl⟩
theorem kOC_16 {X : KX} : kIsO kZC X 16 3 flX3 := ⟨by decide, fun _ _ _ => rfl⟩
theorem kIC_18 {X : KX} : kIsI kZC X 18 8 := ⟨by decide, fun _ _ _ => rfl⟩
theorem kIC_19 {X : KX} : kIsI kZC X 19 8 := ⟨by decide, fun _ _ _ => rfl⟩
theorem kIC_20 {X : KX} : kIsI kZC X 20 8 := ⟨by decide, fun _ _ _ => rfl⟩
theorem kIC_22 {X : KX} : kIsI kZC X 22 8 := ⟨by decide, fun _ _ _ => rfl⟩
theorem kIC_23 {X : KX} : kIsI kZC X 23 8 := ⟨by decide, fun _ _ _ => rfl⟩
theorem kIC_24 {X : KX} : kIsI kZC X 24 8 := ⟨by decide, fun _ _ _ => rfl⟩
theorem kIC_26 {X : KX} : kIsI kZC X 26 6 := ⟨by decide, fun _ _ _ => rfl⟩
theorem kIC_27 {X : KX} : kIsI kZC X 27 6 := ⟨by decide, fun _ _ _ => rfl⟩
theorem kIC_29 {X : KX} : kIsI kZC X 29 6 := ⟨by decide, fun _ _ _ => rfl⟩
theorem kIC_30 {X : KX} : kIsI kZC X 30 6 := ⟨by decide, fun _ _ _ => rfl⟩
theorem kOC_31 {X : KX} : kIsO kZC X 31 7 flX7 := ⟨by decide, fun _ _ _ => rfl⟩
theorem kIC_33 {X : KX} : kIsI kZC X 33 960 := ⟨by decide, fun _ _ _ => rfl⟩
theorem kJC_34 {X : KX} : kIsJ kZC X 34 960 := ⟨by decide, fun _ _ _ => rfl⟩
theorem kIC_36 {X : KX} : kIsI kZC X 36 960 := ⟨by decide, fun _ _ _ => rfl⟩
theorem kJC_37 {X : KX} : kIsJ kZC X 37 960 := ⟨by decide, fun _ _ _ => rfl⟩
theorem kOC_38 {X : KX} : kIsO kZC X 38 0 flX0 := ⟨by decide, fun _ _ _ => rfl⟩
theorem kOC_39 {X : KX} : kIsO kZC X 39 6 flX6 := ⟨by decide, fun _ _ _ => rfl⟩
theorem kIC_40 {X : KX} : kIsI kZC X 40 390 := ⟨by decide, fun _ _ _ => rfl⟩
theorem kOM_0 {X : KX} : kIsO kZM X 0 11 flX11 := ⟨by decide, fun _ _ _ => rfl⟩
theorem kIM_1 {X : KX} : kIsI kZM X 1 164 := ⟨by decide, fun _ _ _ => rfl⟩
theorem kIM_2 {X : KX} : kIsI kZM X 2 64 := ⟨by decide, fun _ _ _ => rfl⟩
theorem kBM_3 {X : KX} : kIsB kZM X 3 300 := ⟨by decide, fun _ _ _ => rfl⟩
theorem kIM_4 {X : KX} : kIsI kZM X 4 3 := ⟨by decide, fun _ _ _ => rfl⟩
theorem kIM_5 {X : KX} : kIsI kZM X 5 24 := ⟨by decide, fun _ _ _ => rfl⟩
theorem kIM_6 {X : KX} : kIsI kZM X 6 6 := ⟨by decide, fun _ _ _ => rfl⟩
theorem kIM_7 {X : KX} : kIsI kZM X 7 6 := ⟨by decide, fun _ _ _ => rfl⟩
theorem kIM_8 {X : KX} : kIsI kZM X 8 6 := ⟨by decide, fun _ _ _ => rfl⟩
theorem kIM_9 {X : KX} : kIsI kZM X 9 1008 := ⟨by decide, fun _ _ _ => rfl⟩
theorem kIM_10 {X : KX} : kIsI kZM X 10 1008 := ⟨by decide, fun _ _ _ => rfl⟩
theorem kZM_11 {X : KX} : kIsZ kZM X 11 1008 := ⟨by decide, fun _ _ _ => rfl⟩
theorem kZM_12 {X : KX} : kIsZ kZM X 12 1008 := ⟨by decide, fun _ _ _ => rfl⟩
theorem kIM_13 {X : KX} : kIsI kZM X 13 6 := ⟨by decide, fun _ _ _ => rfl⟩
theorem kIM_14 {X : KX} : kIsI kZM X 14 6 := ⟨by decide, fun _ _ _ => rfl⟩
theorem kJM_15 {X : KX} : kIsJ kZM X 15 1008 := ⟨by decide, fun _ _ _ => rfl⟩
theorem kJM_16 {X : KX} : kIsJ kZM X 16 1008 := ⟨by decide, fun _ _ _ => rfl⟩
theorem kO_X1 {X : KX} {b : Nat} (h : kFm b) : kIsO kZC X b 1 flX1 := by
  rcases h with rfl | rfl
  · exact ⟨by decide, fun _ _ _ => rfl⟩
  · exact ⟨by decide, fun _ _ _ => rfl⟩
theorem kA_X1_0 {X : KX} {b : Nat} (h : kFm b) : kIsI kZC X (b + 1) 64 := by
  rcases h with rfl | rfl
  · exact ⟨by decide, fun _ _ _ => rfl⟩
  · exact ⟨by decide, fun _ _ _ => rfl⟩
theorem kA_X1_1 {X : KX} {b : Nat} (h : kFm b) : kIsI kZC X (b + 2) 64 := by
  rcases h with rfl | rfl
  · exact ⟨by decide, fun _ _ _ => rfl⟩
  · exact ⟨by decide, fun _ _ _ => rfl⟩
theorem kA_X1_2 {X : KX} {b : Nat} (h : kFm b) : kIsI kZC X (b + 3) 5 := by
  rcases h with rfl | rfl
  · exact ⟨by decide, fun _ _ _ => rfl⟩
  · exact ⟨by decide, fun _ _ _ => rfl⟩
theorem kA_X1_3 {X : KX} {b : Nat} (h : kFm b) : kIsI kZC X (b + 4) 60 := by
  rcases h with rfl | rfl
  · exact ⟨by decide, fun _ _ _ => rfl⟩
  · exact ⟨by decide, fun _ _ _ => rfl⟩
theorem kA_X1_4 {X : KX} {b : Nat} (h : kFm b) : kIsI kZC X (b + 5) 5 := by
  rcases h with rfl | rfl
  · exact ⟨by decide, fun _ _ _ => rfl⟩
  · exact ⟨by decide, fun _ _ _ => rfl⟩
theorem kO_X4 {X : KX} {b : Nat} (h : kMs b) : kIsO kZC X b 4 flX4 := by
  rcases h with rfl | rfl
  · exact ⟨by decide, fun _ _ _ => rfl⟩
  · exact ⟨by decide, fun _ _ _ => rfl⟩
theorem kA_X4_0 {X : KX} {b : Nat} (h : kMs b) : kIsI kZC X (b + 1) 8 := by
  rcases h with rfl | rfl
  · exact ⟨by decide, fun _ _ _ => rfl⟩
  · exact ⟨by decide, fun _ _ _ => rfl⟩
theorem kA_X4_1 {X : KX} {b : Nat} (h : kMs b) : kIsI kZC X (b + 2) 8 := by
  rcases h with rfl | rfl
  · exact ⟨by decide, fun _ _ _ => rfl⟩
  · exact ⟨by decide, fun _ _ _ => rfl⟩
theorem kA_X4_2 {X : KX} {b : Nat} (h : kMs b) : kIsI kZC X (b + 3) 8 := by
  rcases h with rfl | rfl
  · exact ⟨by decide, fun _ _ _ => rfl⟩
  · exact ⟨by decide, fun _ _ _ => rfl⟩
theorem kO_X9 {X : KX} {b : Nat} (h : kTd b) : kIsO kZC X b 9 flX9 := by
  rcases h with rfl | rfl
  · exact ⟨by decide, fun _ _ _ => rfl⟩
  · exact ⟨by decide, fun _ _ _ => rfl⟩
theorem kA_X9_0 {X : KX} {b : Nat} (h : kTd b) : kIsI kZC X (b + 1) 6 := by
  rcases h with rfl | rfl
  · exact ⟨by decide, fun _ _ _ => rfl⟩
  · exact ⟨by decide, fun _ _ _ => rfl⟩
theorem kA_X9_1 {X : KX} {b : Nat} (h : kTd b) : kIsI kZC X (b + 2) 6 := by
  rcases h with rfl | rfl
  · exact ⟨by decide, fun _ _ _ => rfl⟩
  · exact ⟨by decide, fun _ _ _ => rfl⟩
theorem kO_X2 {X : KX} {b : Nat} (h : kFr b) : kIsO kZC X b 2 flX2 := by
  rcases h with rfl | rfl
  · exact ⟨by decide, fun _ _ _ => rfl⟩
  · exact ⟨by decide, fun _ _ _ => rfl⟩
theorem kA_X2_0 {X : KX} {b : Nat} (h : kFr b) : kIsI kZC X (b + 1) 960 := by
  rcases h with rfl | rfl
  · exact ⟨by decide, fun _ _ _ => rfl⟩
  · exact ⟨by decide, fun _ _ _ => rfl⟩
theorem kA_X2_1 {X : KX} {b : Nat} (h : kFr b) : kIsJ kZC X (b + 2) 960 := by
  rcases h with rfl | rfl
  · exact ⟨by decide, fun _ _ _ => rfl⟩
  · exact ⟨by decide, fun _ _ _ => rfl⟩
theorem cfC_rr {X : KX} {ri : Nat → Int32} {rl : Nat → Int64} {rr r2 : Nat → Nat} {q : Nat} (h0 : q = 0 → rr 0 = r2 0 ∧ rr 1 = r2 1) (h1 : q = 31 → rr 2 = r2 2 ∧ rr 3 = r2 3) : cfC X ri rl rr q = cfC X ri rl r2 q := by
  by_cases e0 : q = 0
  · subst e0
    obtain ⟨a, b⟩ := h0 rfl
    simp only [cfC, flX10, a, b]
  · by_cases e1 : q = 31
    · subst e1
      obtain ⟨a, b⟩ := h1 rfl
      simp only [cfC, flX7, a, b]
    · unfold cfC
      split <;> first | rfl | exact absurd rfl e0 | exact absurd rfl e1
theorem kwr_at (σ : Mm) (i v : Nat) : (kwr σ i v).2.2 i = v := if_pos rfl
theorem kwr_ne (σ : Mm) {i j : Nat} (v : Nat) (h : j ≠ i) : (kwr σ i v).2.2 j = σ.2.2 j := if_neg h
theorem okC_0 {σ : Mm} {v : Nat} (h : okC σ.2.2) (hv : kFm v) : okC (kwr σ 0 v).2.2 := ⟨hv, h.2.1, h.2.2.1, h.2.2.2⟩
theorem okC_1 {σ : Mm} {v : Nat} (h : okC σ.2.2) (hv : kFm v) : okC (kwr σ 1 v).2.2 := ⟨h.1, hv, h.2.2.1, h.2.2.2⟩
theorem okC_2 {σ : Mm} {v : Nat} (h : okC σ.2.2) (hv : kFr v) : okC (kwr σ 2 v).2.2 := ⟨h.1, h.2.1, hv, h.2.2.2⟩
theorem okC_3 {σ : Mm} {v : Nat} (h : okC σ.2.2) (hv : kFr v) : okC (kwr σ 3 v).2.2 := ⟨h.1, h.2.1, h.2.2.1, hv⟩
theorem rsC_0 {X : KX} {σ : Mm} {v : Nat} : ∀ q, q ≠ 0 → cfC X (σ.1 q) (σ.2.1 q) (kwr σ 0 v).2.2 q = cfC X (σ.1 q) (σ.2.1 q) σ.2.2 q := fun q hq => cfC_rr (fun h => absurd h hq) (fun _ => ⟨rfl, rfl⟩)
theorem rsC_1 {X : KX} {σ : Mm} {v : Nat} : ∀ q, q ≠ 0 → cfC X (σ.1 q) (σ.2.1 q) (kwr σ 1 v).2.2 q = cfC X (σ.1 q) (σ.2.1 q) σ.2.2 q := fun q hq => cfC_rr (fun h => absurd h hq) (fun _ => ⟨rfl, rfl⟩)
theorem rsC_2 {X : KX} {σ : Mm} {v : Nat} : ∀ q, q ≠ 31 → cfC X (σ.1 q) (σ.2.1 q) (kwr σ 2 v).2.2 q = cfC X (σ.1 q) (σ.2.1 q) σ.2.2 q := fun q hq => cfC_rr (fun _ => ⟨rfl, rfl⟩) (fun h => absurd h hq)
theorem rsC_3 {X : KX} {σ : Mm} {v : Nat} : ∀ q, q ≠ 31 → cfC X (σ.1 q) (σ.2.1 q) (kwr σ 3 v).2.2 q = cfC X (σ.1 q) (σ.2.1 q) σ.2.2 q := fun q hq => cfC_rr (fun _ => ⟨rfl, rfl⟩) (fun h => absurd h hq)
/-- a boolean's number -/
def kbit (v : Int32) : Prop := v = 0 ∨ v = 1
theorem kbit_n {v : Int32} (h : kbit v) : narrow .boolean (.int v) = .int v := by rcases h with rfl | rfl <;> rfl
theorem kbit_f {v : Int32} (h : kbit v) : fits .boolean (.int v) = true := by rcases h with rfl | rfl <;> rfl
theorem kbit_0 : kbit 0 := Or.inl rfl
theorem kbit_1 : kbit 1 := Or.inr rfl
