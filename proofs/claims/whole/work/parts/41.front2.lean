theorem takes {L : List Nat} {i m : Nat} (h : L[i]? = some m) : L.take (i + 1) = L.take i ++ [m] := by
  rw [List.take_add_one, h]
  rfl
theorem cC_keep {g : Nat → Int32} (hg : WFg g) {σ : Mm} {b : Nat} {L : List Nat} {F : Nat → Option Nat} (h : FIL g σ b L F) {y : Nat} (hy : y < 8) {Φ : Mm → Prop} (hΦ : ∀ σ2, Fr b σ σ2 → FIL g σ2 b (L.filter (fun m => m % 8 = y)) (fun x => if x % 8 = y then F x else none) → Φ σ2) : wp_X2_keepThoseAt σ b (nI y) Φ := by
  have hl := h.len hg
  obtain ⟨h1, h2, h3, h4, h5, h6, h7⟩ := id h
  have key : ∀ (K : Mm → Int32 → Prop) (hK : ∀ ρ : Mm, Fr b σ ρ → ρ.1 b = σ.1 b → (∀ j m, (L.filter (fun m => m % 8 = y))[j]? = some m → ρ.1 (b + 1) j = nI (cst g m)) → (∀ s, s < 960 → ((∃ m, m ∈ L ∧ ¬ m % 8 = y ∧ cst g m = s) → ρ.2.1 (b + 2) s = -1) ∧ ((¬ ∃ m, m ∈ L ∧ ¬ m % 8 = y ∧ cst g m = s) → ρ.2.1 (b + 2) s = σ.2.1 (b + 2) s)) → K ρ (nI (L.filter (fun m => m % 8 = y)).length)) (r i : Nat) (ρ : Mm), i + r = L.length → Fr b σ ρ → ρ.1 b = σ.1 b → (∀ j m, ((L.take i).filter (fun m => m % 8 = y))[j]? = some m → ρ.1 (b + 1) j = nI (cst g m)) → (∀ j, i ≤ j → ρ.1 (b + 1) j = σ.1 (b + 1) j) → (∀ s, s < 960 → ((∃ m, m ∈ L.take i ∧ ¬ m % 8 = y ∧ cst g m = s) → ρ.2.1 (b + 2) s = -1) ∧ ((¬ ∃ m, m ∈ L.take i ∧ ¬ m % 8 = y ∧ cst g m = s) → ρ.2.1 (b + 2) s = σ.2.1 (b + 2) s)) → wp_X2_keepThoseAt_L4 b (nI y) K (r + 1) ρ (nI ((L.take i).filter (fun m => m % 8 = y)).length) (nI i) := by
    intro K hK r
    induction r with
    | zero =>
      intro i ρ hi a1 a2 a3 a4 a5
      have e : i = L.length := by omega
      subst e
      rw [List.take_length] at *
      refine br_t ?_ (hK ρ a1 a2 a3 a5)
      rw [a2, h1]; exact nI_le (Nat.le_refl _) (by omega)
    | succ r ih =>
      intro i ρ hi a1 a2 a3 a4 a5
      have hil : i < L.length := by omega
      have hm : L[i]? = some L[i] := List.getElem?_eq_getElem hil
      generalize L[i] = m at hm
      have hmL : m ∈ L := List.mem_of_getElem? hm
      have hst := h4 m hmL
      have hc := (cst_lt hg hst).2
      have hT : ((L.take i).filter (fun m => m % 8 = y)).length ≤ i := by
        have := List.length_filter_le (fun m => decide (m % 8 = y)) (L.take i)
        rw [List.length_take] at this
        omega
      have hread : ρ.1 (b + 1) i = nI (cst g m) := by rw [a4 i (Nat.le_refl _)]; exact h2 i m hm
      have e1 : nI i + 1 = nI (i + 1) := nI_1 i
      unfold wp_X2_keepThoseAt_L4
      rw [a2, h1, nI_clamp (by omega), hread, e1]
      refine br_f (nI_ge hil (by omega)) ⟨⟨nI_pos' (by omega), (nI_ltI (a := i) (b := 960) (by omega) (by omega)).mpr (by omega)⟩, ?_⟩
      intro x ex
      subst ex
      refine cC_yardOf (by omega) ?_
      rw [(cst_parts hg hst).1]
      refine ⟨_, fun _ _ z => z, ?_⟩
      rw [nI_eq (by omega) (by omega)]
      have ht := takes hm
      have hin : (0 ≤ nI (cst g m) ∧ nI (cst g m) < 960) := ⟨nI_pos' (by omega), (nI_ltI (a := cst g m) (b := 960) (by omega) (by omega)).mpr hc⟩
      refine ⟨fun c => ⟨hin, fun σ14 e14 => ?_⟩, fun c => ⟨⟨nI_pos' (by omega), (nI_ltI (b := 960) (by omega) (by omega)).mpr (by omega)⟩, fun σ16 e16 => ?_⟩⟩
      · rw [nI_clamp (by omega)] at e14
        subst e14
        have ef : (L.take (i + 1)).filter (fun m => m % 8 = y) = (L.take i).filter (fun m => m % 8 = y) := by
          rw [ht, List.filter_append]
          simp [c]
        have := ih (i + 1) (kwl ρ (b + 2) (cst g m) (-1)) (by omega) ⟨a1.1, fun j q => by rw [kwl_ne _ _ _ q]; exact a1.2.1 j q, a1.2.2⟩ a2 (by rw [ef]; exact a3) (fun j q => a4 j (by omega)) (fun s hs => ?_)
        · rw [ef] at this
          exact this
        · rw [kwl_same, ht]
          by_cases es : s = cst g m
          · subst es
            refine ⟨fun _ => pk_uLs, fun q => absurd ⟨m, by simp, c, rfl⟩ q⟩
          · rw [pk_uLn es]
            refine ⟨fun ⟨m2, q1, q2, q3⟩ => (a5 s hs).1 ⟨m2, ?_, q2, q3⟩, fun q => (a5 s hs).2 (fun ⟨m2, q1, q2, q3⟩ => q ⟨m2, List.mem_append_left _ q1, q2, q3⟩)⟩
            rcases List.mem_append.mp q1 with z | z
            · exact z
            · rw [List.mem_singleton.mp z] at q3
              exact absurd q3.symm es
      · rw [nI_clamp (by omega)] at e16
        subst e16
        have ef : (L.take (i + 1)).filter (fun m => m % 8 = y) = (L.take i).filter (fun m => m % 8 = y) ++ [m] := by
          rw [ht, List.filter_append]
          simp [c]
        have el : nI ((L.take i).filter (fun m => m % 8 = y)).length + 1 = nI ((L.take (i + 1)).filter (fun m => m % 8 = y)).length := by
          rw [ef, List.length_append]
          exact nI_1 _
        rw [el]
        refine ih (i + 1) _ (by omega) ⟨fun j q1 q2 => by rw [kwi_ne _ _ _ q2]; exact a1.1 j q1 q2, a1.2.1, a1.2.2⟩ (by rw [kwi_ne _ _ _ (by omega : b ≠ b + 1)]; exact a2) (fun j m2 hj => ?_) (fun j q => ?_) (fun s hs => ?_)
        · rw [kwi_same]
          rw [ef] at hj
          rcases Nat.lt_or_ge j ((L.take i).filter (fun m => m % 8 = y)).length with q | q
          · rw [upd_lt q]
            rw [List.getElem?_append_left q] at hj
            exact a3 j m2 hj
          · rw [List.getElem?_append_right q] at hj
            have hz : j - ((L.take i).filter (fun m => m % 8 = y)).length < 1 := (List.getElem?_eq_some_iff.mp hj).1
            have hj' : j = ((L.take i).filter (fun m => m % 8 = y)).length := by omega
            subst hj'
            rw [Nat.sub_self] at hj
            cases hj
            exact upd_at _ _ _
        · rw [kwi_same, pk_un (by omega)]
          exact a4 j (by omega)
        · rw [kwi_21, ht]
          refine ⟨fun ⟨m2, q1, q2, q3⟩ => (a5 s hs).1 ⟨m2, ?_, q2, q3⟩, fun q => (a5 s hs).2 (fun ⟨m2, q1, q2, q3⟩ => q ⟨m2, List.mem_append_left _ q1, q2, q3⟩)⟩
          rcases List.mem_append.mp q1 with z | z
          · exact z
          · rw [List.mem_singleton.mp z] at q2
            exact absurd c q2
  refine ⟨fun ρ v => ∃ σ2, σ2 = kwi ρ b 2 v ∧ Φ σ2, fun ρ v e ρ3 e3 => by obtain ⟨σ2, e2, hh⟩ := e; rw [e3, ← e2]; exact hh, L.length + 1, ?_⟩
  refine key _ (fun ρ r1 r2 r3 r4 => ⟨_, rfl, hΦ _ ⟨fun j q1 q2 => by rw [kwi_ne _ _ _ q1]; exact r1.1 j q1 q2, r1.2.1, r1.2.2⟩ ⟨?_, ?_, h3.filter _, fun m q => h4 m (List.mem_filter.mp q).1, ?_, ?_, ?_⟩⟩) L.length 0 σ (by omega) (Fr.refl b σ) rfl (fun j m q => by simp at q) (fun _ _ => rfl) (fun s hs => ⟨fun ⟨m, q, _⟩ => by simp at q, fun _ => rfl⟩)
  · rw [kwi_same, upd_at]
  · intro i m hi
    rw [kwi_ne _ _ _ (by omega : b + 1 ≠ b)]
    exact r3 i m hi
  · intro m
    rw [List.mem_filter]
    by_cases e : m % 8 = y
    · simp only [e, decide_true, and_true, if_true]
      exact h5 m
    · simp [e]
  · intro m v hv
    dsimp only at hv
    by_cases e : m % 8 = y
    · rw [if_pos e] at hv
      have hmL : m ∈ L := (h5 m).mpr (by rw [hv]; simp)
      rw [kwi_21, (r4 (cst g m) (cst_lt hg (h4 m hmL)).2).2 (fun ⟨m2, q1, q2, q3⟩ => q2 (cst_inj (h4 m2 q1) (h4 m hmL) q3 ▸ e))]
      exact h6 m v hv
    · rw [if_neg e] at hv
      cases hv
  · intro s hs hne
    rw [kwi_21]
    by_cases hx : ∃ m, m ∈ L ∧ ¬ m % 8 = y ∧ cst g m = s
    · exact (r4 s hs).1 hx
    · rw [(r4 s hs).2 hx]
      refine h7 s hs (fun m hmL e => ?_)
      by_cases e2 : m % 8 = y
      · exact hne m (List.mem_filter.mpr ⟨hmL, by simp [e2]⟩) e
      · exact hx ⟨m, hmL, e2, e⟩
theorem cC_size {g : Nat → Int32} {σ : Mm} {b : Nat} {L : List Nat} {F : Nat → Option Nat} (h : FIL g σ b L F) {Φ : Int32 → Prop} (hΦ : Φ (nI L.length)) : wp_X2_size σ b Φ := by
  unfold wp_X2_size
  rw [h.1]
  exact hΦ
theorem cC_state {g : Nat → Int32} (hg : WFg g) {σ : Mm} {b : Nat} {L : List Nat} {F : Nat → Option Nat} (h : FIL g σ b L F) {i m : Nat} (hi : L[i]? = some m) {Φ : Int32 → Prop} (hΦ : Φ (nI (cst g m))) : wp_X2_state σ b (nI i) Φ := by
  have hl := h.len hg
  have hil := (List.getElem?_eq_some_iff.mp hi).1
  unfold wp_X2_state
  rw [h.1, nI_clamp (by omega), h.2.1 i m hi]
  exact br_f (nI_pos (by omega)) (br_f (nI_ge hil (by omega)) ⟨⟨nI_pos' (by omega), (nI_ltI (a := i) (b := 960) (by omega) (by omega)).mpr (by omega)⟩, hΦ⟩)
theorem cC_number {g : Nat → Int32} (hg : WFg g) {σ : Mm} {b : Nat} {L : List Nat} {F : Nat → Option Nat} (h : FIL g σ b L F) {i m v : Nat} (hi : L[i]? = some m) (hF : F m = some v) {Φ : Int64 → Prop} (hΦ : Φ (lN v)) : wp_X2_number σ b (nI i) Φ := by
  have hl := h.len hg
  have hil := (List.getElem?_eq_some_iff.mp hi).1
  have hc := (cst_lt hg (h.2.2.2.1 m (List.mem_of_getElem? hi))).2
  unfold wp_X2_number
  rw [h.1, nI_clamp (by omega), h.2.1 i m hi, nI_clamp (by omega), (h.2.2.2.2.2.1 m v hF).1]
  exact br_f (nI_pos (by omega)) (br_f (nI_ge hil (by omega)) ⟨⟨nI_pos' (by omega), (nI_ltI (a := i) (b := 960) (by omega) (by omega)).mpr (by omega)⟩, ⟨nI_pos' (by omega), (nI_ltI (b := 960) (by omega) (by omega)).mpr (by omega)⟩, hΦ⟩)
theorem cC_sum {g : Nat → Int32} (hg : WFg g) {σ : Mm} {b : Nat} {L : List Nat} {F : Nat → Option Nat} (h : FIL g σ b L F) {Φ : Int64 → Prop} (hΦ : Φ (lN (L.map (fun m => (F m).getD 0)).sum)) : wp_X2_sum σ b Φ := by
  have hl := h.len hg
  have key : ∀ r i, i + r = L.length → wp_X2_sum_L4 b σ Φ (r + 1) (lN ((L.take i).map (fun m => (F m).getD 0)).sum) (nI i) := by
    intro r
    induction r with
    | zero =>
      intro i hi
      have e : i = L.length := by omega
      subst e
      rw [List.take_length]
      refine br_t ?_ hΦ
      rw [h.1]; exact nI_le (Nat.le_refl _) (by omega)
    | succ r ih =>
      intro i hi
      have hil : i < L.length := by omega
      have hm : L[i]? = some L[i] := List.getElem?_eq_getElem hil
      generalize L[i] = m at hm
      have hmL : m ∈ L := List.mem_of_getElem? hm
      have hc := (cst_lt hg (h.2.2.2.1 m hmL)).2
      obtain ⟨v, hv⟩ : ∃ v, F m = some v := by
        cases hF : F m with
        | none => exact absurd hF ((h.2.2.2.2.1 m).mp hmL)
        | some v => exact ⟨v, rfl⟩
      have e1 : nI i + 1 = nI (i + 1) := nI_1 i
      unfold wp_X2_sum_L4
      rw [h.1, nI_clamp (by omega), h.2.1 i m hm, nI_clamp (by omega), (h.2.2.2.2.2.1 m v hv).1, e1]
      refine br_f (nI_ge hil (by omega)) ⟨⟨nI_pos' (by omega), (nI_ltI (a := i) (b := 960) (by omega) (by omega)).mpr (by omega)⟩, ⟨nI_pos' (by omega), (nI_ltI (b := 960) (by omega) (by omega)).mpr (by omega)⟩, ?_⟩
      intro x ex
      have := ih (i + 1) (by omega)
      rw [takes hm, List.map_append, List.sum_append] at this
      rw [ex, lN_add]
      simpa [hv] using this
  exact ⟨L.length + 1, key L.length 0 (by omega)⟩
theorem cC_least {g : Nat → Int32} (hg : WFg g) {σ : Mm} {b : Nat} {L : List Nat} {F : Nat → Option Nat} (h : FIL g σ b L F) {v : Nat} (h1 : ∃ m, m ∈ L ∧ F m = some v) (h2 : ∀ m u, m ∈ L → F m = some u → v ≤ u) {Φ : Int64 → Prop} (hΦ : Φ (lN v)) : wp_X2_least σ b Φ := by
  have hl := h.len hg
  have nm1 : ∀ w, w < 2 ^ 62 → ¬ lN w = -1 := by
    intro w hw q
    have : (lN w).toInt = (-1 : Int64).toInt := by rw [q]
    rw [pk_lT (by omega)] at this
    have h2 : (-1 : Int64).toInt = -1 := by decide
    omega
  have key : ∀ r i (a : Int64), i + r = L.length → ((i = 0 ∧ a = -1) ∨ ∃ w, a = lN w ∧ w < 2 ^ 62 ∧ (∃ m, m ∈ L.take i ∧ F m = some w) ∧ ∀ m u, m ∈ L.take i → F m = some u → w ≤ u) → wp_X2_least_L6 b σ Φ (r + 1) a (nI i) := by
    intro r
    induction r with
    | zero =>
      intro i a hi ha
      have e : i = L.length := by omega
      subst e
      refine br_t (by rw [h.1]; exact nI_le (Nat.le_refl _) (by omega)) ?_
      rw [List.take_length] at ha
      rcases ha with ⟨q, -⟩ | ⟨w, rfl, -, ⟨m, q1, q2⟩, q3⟩
      · obtain ⟨m, hm, -⟩ := h1
        have : L = [] := List.eq_nil_of_length_eq_zero q
        rw [this] at hm
        cases hm
      · obtain ⟨m2, p1, p2⟩ := h1
        have : w = v := Nat.le_antisymm (q3 m2 v p1 p2) (h2 m w q1 q2)
        rw [this]
        exact hΦ
    | succ r ih =>
      intro i a hi ha
      have hil : i < L.length := by omega
      have hm : L[i]? = some L[i] := List.getElem?_eq_getElem hil
      generalize L[i] = m at hm
      have hmL : m ∈ L := List.mem_of_getElem? hm
      have hc := (cst_lt hg (h.2.2.2.1 m hmL)).2
      obtain ⟨u, hu⟩ : ∃ v, F m = some v := by
        cases hF : F m with
        | none => exact absurd hF ((h.2.2.2.2.1 m).mp hmL)
        | some v => exact ⟨v, rfl⟩
      have hu2 := h.2.2.2.2.2.1 m u hu
      have e1 : nI i + 1 = nI (i + 1) := nI_1 i
      unfold wp_X2_least_L6
      rw [h.1, nI_clamp (by omega), h.2.1 i m hm, nI_clamp (by omega), hu2.1, e1, lg_cmp_eq, lg_cmp_ge]
      have b1 : (0 ≤ nI i ∧ nI i < 960) := ⟨nI_pos' (by omega), (nI_ltI (a := i) (b := 960) (by omega) (by omega)).mpr (by omega)⟩
      have b2 : (0 ≤ nI (cst g m) ∧ nI (cst g m) < 960) := ⟨nI_pos' (by omega), (nI_ltI (b := 960) (by omega) (by omega)).mpr (by omega)⟩
      refine br_f (nI_ge hil (by omega)) ⟨_, fun _ z => z, ?_⟩
      have ht := takes hm
      refine ⟨wp_X2_least_L6 b σ Φ (r + 1) (lN u) (nI (i + 1)), fun z => ⟨b1, b2, fun x ex => by rw [ex]; exact z⟩, ?_⟩
      rcases ha with ⟨rfl, rfl⟩ | ⟨w, rfl, hw, ⟨m3, q1, q2⟩, q3⟩
      · refine br_t rfl (ih 1 _ (by omega) (Or.inr ⟨u, rfl, hu2.2, ⟨m, by rw [ht]; simp, hu⟩, fun m2 u2 p1 p2 => ?_⟩))
        rw [ht] at p1
        simp at p1
        rw [p1, hu] at p2
        cases p2
        exact Nat.le_refl _
      · refine br_f (nm1 w hw) ⟨b1, b2, fun c => ?_, fun c => ?_⟩
        · have c' : w ≤ u := (pk_lLE (by omega) (by omega)).mp c
          refine ih (i + 1) _ (by omega) (Or.inr ⟨w, rfl, hw, ⟨m3, by rw [ht]; exact List.mem_append_left _ q1, q2⟩, fun m2 u2 p1 p2 => ?_⟩)
          rw [ht] at p1
          rcases List.mem_append.mp p1 with z | z
          · exact q3 m2 u2 z p2
          · rw [List.mem_singleton.mp z, hu] at p2
            cases p2
            exact c'
        · have c' : ¬ w ≤ u := fun z => c ((pk_lLE (by omega) (by omega)).mpr z)
          refine ih (i + 1) _ (by omega) (Or.inr ⟨u, rfl, hu2.2, ⟨m, by rw [ht]; simp, hu⟩, fun m2 u2 p1 p2 => ?_⟩)
          rw [ht] at p1
          rcases List.mem_append.mp p1 with z | z
          · have := q3 m2 u2 z p2
            omega
          · rw [List.mem_singleton.mp z, hu] at p2
            cases p2
            exact Nat.le_refl _
  exact ⟨L.length + 1, key L.length 0 (-1) (by omega) (Or.inl ⟨rfl, rfl⟩)⟩
