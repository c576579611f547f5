theorem ndp_len : ∀ (n : Nat) (L : List Nat), L.Nodup → (∀ x, x ∈ L → x < n) → L.length ≤ n
  | 0, L, _, h => by
    cases L with
    | nil => exact Nat.le_refl 0
    | cons a l => exact absurd (h a List.mem_cons_self) (Nat.not_lt_zero a)
  | n + 1, L, hn, h => by
    by_cases hm : n ∈ L
    · have h1 := ndp_len n (L.erase n) (hn.erase n) (fun x hx => by
        have hx2 := (hn.mem_erase_iff).mp hx
        have := h x hx2.2
        omega)
      rw [List.length_erase_of_mem hm] at h1
      omega
    · have := ndp_len n L hn (fun x hx => by
        have h2 := h x hx
        have : x ≠ n := fun e => hm (e ▸ hx)
        omega)
      omega
/-- a front: the states L, in their order, and the number of each -/
def FIL (g : Nat → Int32) (σ : Mm) (b : Nat) (L : List Nat) (F : Nat → Option Nat) : Prop :=
  σ.1 b 2 = nI L.length ∧ (∀ i m, L[i]? = some m → σ.1 (b + 1) i = nI (cst g m)) ∧ L.Nodup ∧ (∀ m, m ∈ L → isSt g m) ∧ (∀ m, m ∈ L ↔ F m ≠ none) ∧
  (∀ m v, F m = some v → σ.2.1 (b + 2) (cst g m) = lN v ∧ v < 2 ^ 62) ∧ ∀ s, s < 960 → (∀ m, m ∈ L → cst g m ≠ s) → σ.2.1 (b + 2) s = -1
/-- nothing but the front b has changed -/
def Fr (b : Nat) (σ σ2 : Mm) : Prop := (∀ k, k ≠ b → k ≠ b + 1 → σ2.1 k = σ.1 k) ∧ (∀ k, k ≠ b + 2 → σ2.2.1 k = σ.2.1 k) ∧ σ2.2.2 = σ.2.2
theorem Fr.refl (b : Nat) (σ : Mm) : Fr b σ σ := ⟨fun _ _ _ => rfl, fun _ _ => rfl, rfl⟩
theorem Fr.trans {b : Nat} {σ σ2 σ3 : Mm} (h1 : Fr b σ σ2) (h2 : Fr b σ2 σ3) : Fr b σ σ3 := ⟨fun k a c => (h2.1 k a c).trans (h1.1 k a c), fun k a => (h2.2.1 k a).trans (h1.2.1 k a), h2.2.2.trans h1.2.2⟩
theorem FIL.len {g : Nat → Int32} (hg : WFg g) {σ : Mm} {b : Nat} {L : List Nat} {F : Nat → Option Nat} (h : FIL g σ b L F) : L.length ≤ 960 := by
  obtain ⟨h1, h2, h3, h4, h5, h6, h7⟩ := h
  have hn : (L.map (cst g)).Nodup := by
    rw [List.nodup_iff_pairwise_ne, List.pairwise_map]
    rw [List.nodup_iff_pairwise_ne] at h3
    exact h3.imp_of_mem (fun ha hb hab e => hab (cst_inj (h4 _ ha) (h4 _ hb) e))
  have := ndp_len 960 _ hn (fun x hx => by
    obtain ⟨m, hm, rfl⟩ := List.mem_map.mp hx
    exact (cst_lt hg (h4 m hm)).2)
  rw [List.length_map] at this
  exact this
theorem FIL.toR {g : Nat → Int32} (hg : WFg g) {σ : Mm} {b : Nat} {L : List Nat} {F : Nat → Option Nat} (h : FIL g σ b L F) : FrR (σ.1 b 2) (σ.1 (b + 1)) (σ.2.1 (b + 2)) := by
  have hl := h.len hg
  obtain ⟨h1, h2, h3, h4, h5, h6, h7⟩ := h
  refine ⟨L.length, hl, h1, fun i hi => ?_, fun s hs hne => ?_⟩
  · have e : L[i]? = some L[i] := List.getElem?_eq_getElem hi
    exact ⟨cst g L[i], (cst_lt hg (h4 _ (List.getElem_mem hi))).2, h2 i _ e⟩
  · apply Classical.byContradiction
    intro hno
    apply hne
    apply h7 s hs
    intro m hm e
    obtain ⟨i, hi⟩ := List.getElem?_of_mem hm
    exact hno ⟨i, (List.getElem?_eq_some_iff.mp hi).1, by rw [h2 i m hi, e]⟩
theorem FIL.of {g : Nat → Int32} {σ σ2 : Mm} {b : Nat} {L : List Nat} {F : Nat → Option Nat} (h : FIL g σ b L F) (e1 : σ2.1 b = σ.1 b) (e2 : σ2.1 (b + 1) = σ.1 (b + 1)) (e3 : σ2.2.1 (b + 2) = σ.2.1 (b + 2)) : FIL g σ2 b L F := by
  unfold FIL at *
  rw [e1, e2, e3]
  exact h
theorem kwl_1 (σ : Mm) (k j : Nat) (v : Int64) : (kwl σ k j v).1 = σ.1 := rfl
theorem kwi_21 (σ : Mm) (k j : Nat) (v : Int32) : (kwi σ k j v).2 = σ.2 := rfl
theorem kwl_22 (σ : Mm) (k j : Nat) (v : Int64) : (kwl σ k j v).2.2 = σ.2.2 := rfl
/-- a front is cleared -/
theorem cC_clear {g : Nat → Int32} {σ : Mm} {b : Nat} (h : FrR (σ.1 b 2) (σ.1 (b + 1)) (σ.2.1 (b + 2))) {Φ : Mm → Prop} (hΦ : ∀ σ2, Fr b σ σ2 → FIL g σ2 b [] (fun _ => none) → Φ σ2) : wp_X2_clear σ b Φ := by
  obtain ⟨k, hk, h1, h2, h3⟩ := h
  refine ⟨fun ρ => Fr b σ ρ ∧ ∀ s, s < 960 → ρ.2.1 (b + 2) s = -1, fun ρ hρ ρ2 e2 => ?_, k + 1, ?_⟩
  · subst e2
    refine hΦ _ ⟨fun j a c => ?_, hρ.1.2.1, hρ.1.2.2⟩ ⟨?_, fun i m q => by simp at q, List.nodup_nil, fun m q => by simp at q, fun m => by simp, fun m v q => by simp at q, fun s hs _ => hρ.2 s hs⟩
    · rw [kwi_ne _ _ _ a]; exact hρ.1.1 j a c
    · rw [kwi_same]; rfl
  · have key : ∀ r i (ρ : Mm), i + r = k → (Fr b σ ρ ∧ ρ.1 = σ.1 ∧ ∀ s, s < 960 → ρ.2.1 (b + 2) s ≠ -1 → ∃ j, i ≤ j ∧ j < k ∧ σ.1 (b + 1) j = nI s) → wp_X2_clear_L2 b (fun ρ => Fr b σ ρ ∧ ∀ s, s < 960 → ρ.2.1 (b + 2) s = -1) (r + 1) ρ (nI i) := by
      intro r
      induction r with
      | zero =>
        intro i ρ hi hρ
        have : i = k := by omega
        subst this
        refine br_t ?_ ⟨hρ.1, fun s hs => ?_⟩
        · rw [hρ.2.1, h1]; exact nI_le (Nat.le_refl _) (by omega)
        · apply Classical.byContradiction
          intro q
          obtain ⟨j, a, c, -⟩ := hρ.2.2 s hs q
          omega
      | succ r ih =>
        intro i ρ hi hρ
        obtain ⟨s, hs, es⟩ := h2 i (by omega)
        obtain ⟨ρ1, ρ2, ρ3⟩ := hρ
        unfold wp_X2_clear_L2
        rw [ρ2, h1]
        simp (disch := omega) only [kI, nI_ltI, nI_leI, nI_eq, nI_clamp, krem, pk_div, pk_mul, nI_add, forall_eq, es]
        refine br_f (by omega) ⟨by omega, by omega, ?_⟩
        refine ih (i + 1) _ (by omega) ⟨⟨ρ1.1, fun j a => ?_, ρ1.2.2⟩, ρ2, fun s2 hs2 hne => ?_⟩
        · rw [kwl_ne _ _ _ a]; exact ρ1.2.1 j a
        · rw [kwl_same] at hne
          by_cases e : s2 = s
          · subst e
            exact absurd pk_uLs hne
          · rw [pk_uLn e] at hne
            obtain ⟨j, a1, a2, a3⟩ := ρ3 s2 hs2 hne
            refine ⟨j, ?_, a2, a3⟩
            rcases Nat.lt_or_ge i j with q | q
            · omega
            · have : j = i := by omega
              subst this
              rw [es, nI_eq (by omega) (by omega)] at a3
              exact absurd a3.symm e
    refine key k 0 σ (by omega) ⟨Fr.refl b σ, rfl, fun s hs hne => ?_⟩
    obtain ⟨j, a1, a2⟩ := h3 s hs hne
    exact ⟨j, by omega, a1, a2⟩
/-- a number is put for a state -/
def ptF (op : Nat → Nat → Nat) (F : Nat → Option Nat) (m v : Nat) : Nat → Option Nat := fun x => if x = m then some (match F m with | none => v | some u => op u v) else F x
theorem cC_put {g : Nat → Int32} (hg : WFg g) {σ : Mm} {b : Nat} {L : List Nat} {F : Nat → Option Nat} (h : FIL g σ b L F) {m v : Nat} (hm : isSt g m) (hv : v < 2 ^ 62) {le : Int32} {op : Nat → Nat → Nat} (hop : (le = 0 ∧ ∀ u w, op u w = u + w) ∨ (¬ le = 0 ∧ ∀ u w, op u w = if w < u then w else u)) (hb : ∀ u, F m = some u → op u v < 2 ^ 62) {Φ : Mm → Prop} (hΦ : ∀ σ2 L2, Fr b σ σ2 → FIL g σ2 b L2 (ptF op F m v) → Φ σ2) : wp_X2_put σ b (nI (cst g m)) (lN v) le Φ := by
  have hl := h.len hg
  obtain ⟨h1, h2, h3, h4, h5, h6, h7⟩ := id h
  have hc := (cst_lt hg hm).2
  have hcl := nI_clamp (n := cst g m) (by omega)
  have hin : (0 ≤ nI (cst g m) ∧ nI (cst g m) < 960) := ⟨nI_pos' (by omega), (nI_ltI (a := cst g m) (b := 960) (by omega) (by omega)).mpr hc⟩
  refine br_f (nI_pos (by omega)) (br_t hin.2 ⟨hin, ?_⟩)
  rw [hcl, lg_cmp_eq]
  cases hF : F m with
  | none =>
    have hnm : m ∉ L := fun q => ((h5 m).mp q) hF
    have habs : σ.2.1 (b + 2) (cst g m) = -1 := h7 _ hc (fun m2 hm2 e => hnm (cst_inj (h4 m2 hm2) hm e ▸ hm2))
    have hlt : L.length < 960 := by
      have hn : ((L ++ [m]).map (cst g)).Nodup := by
        have h3' : (L ++ [m]).Nodup := by
          rw [List.nodup_append]
          exact ⟨h3, by simp, fun a ha b hb e => by simp at hb; subst hb; exact hnm (e ▸ ha)⟩
        rw [List.nodup_iff_pairwise_ne, List.pairwise_map]
        rw [List.nodup_iff_pairwise_ne] at h3'
        have hst : ∀ x, x ∈ L ++ [m] → isSt g x := fun x hx => by
          rcases List.mem_append.mp hx with q | q
          · exact h4 x q
          · rw [List.mem_singleton.mp q]; exact hm
        exact h3'.imp_of_mem (fun ha hb hab e => hab (cst_inj (hst _ ha) (hst _ hb) e))
      have := ndp_len 960 _ hn (fun x hx => by
        obtain ⟨m2, hm2, rfl⟩ := List.mem_map.mp hx
        rcases List.mem_append.mp hm2 with q | q
        · exact (cst_lt hg (h4 m2 q)).2
        · rw [List.mem_singleton.mp q]; exact hc)
      rw [List.length_map, List.length_append] at this
      have h2 : L.length + 1 ≤ 960 := this
      omega
    refine br_t habs ?_
    have e1 : ∀ w, (kwi σ (b + 1) L.length w).1 b 2 = nI L.length := fun w => by rw [kwi_ne _ _ _ (by omega : b ≠ b + 1)]; exact h1
    rw [h1]
    simp (disch := omega) only [kI, nI_ltI, nI_leI, nI_eq, nI_clamp, krem, pk_div, pk_mul, nI_add, forall_eq]
    refine br_f (by omega) ⟨by omega, by omega, ?_⟩
    rw [kwl_1, e1, nI_add]
    refine hΦ _ (L ++ [m]) ⟨fun j a c => ?_, fun j a => ?_, rfl⟩ ⟨?_, ?_, ?_, ?_, ?_, ?_, ?_⟩
    · rw [kwi_ne _ _ _ a, kwl_1, kwi_ne _ _ _ c]
    · rw [kwi_21, kwl_ne _ _ _ a]; rfl
    · rw [kwi_same, upd_at, List.length_append]; rfl
    · intro i m2 hi
      rw [kwi_ne _ _ _ (by omega : b + 1 ≠ b), kwl_1, kwi_same]
      rcases Nat.lt_or_ge i L.length with q | q
      · rw [upd_lt q]
        rw [List.getElem?_append_left q] at hi
        exact h2 i m2 hi
      · rw [List.getElem?_append_right q] at hi
        have : i - L.length < 1 := (List.getElem?_eq_some_iff.mp hi).1
        have hi' : i = L.length := by omega
        subst hi'
        rw [Nat.sub_self] at hi
        cases hi
        exact upd_at _ _ _
    · rw [List.nodup_append]
      exact ⟨h3, by simp, fun a ha b hb e => by simp at hb; subst hb; exact hnm (e ▸ ha)⟩
    · intro x hx
      rcases List.mem_append.mp hx with q | q
      · exact h4 x q
      · rw [List.mem_singleton.mp q]; exact hm
    · intro x
      unfold ptF
      rw [List.mem_append, List.mem_singleton, h5 x]
      by_cases e : x = m
      · simp [e]
      · simp [e]
    · intro x u hx
      unfold ptF at hx
      rw [kwi_21, kwl_same]
      by_cases e : x = m
      · subst e
        rw [if_pos rfl, hF] at hx
        cases hx
        exact ⟨pk_uLs, hv⟩
      · rw [if_neg e] at hx
        have hxL : x ∈ L := (h5 x).mpr (by rw [hx]; simp)
        rw [pk_uLn (fun q => e (cst_inj (h4 x hxL) hm q))]
        exact h6 x u hx
    · intro s hs hne
      rw [kwi_21, kwl_same, pk_uLn (fun q => hne m (by simp) q.symm)]
      exact h7 s hs (fun m2 hm2 => hne m2 (by simp [hm2]))
  | some u =>
    obtain ⟨hu, hu2⟩ := h6 m u hF
    have hmL : m ∈ L := (h5 m).mpr (by rw [hF]; simp)
    have hne : ¬ σ.2.1 (b + 2) (cst g m) = -1 := by
      rw [hu]
      intro q
      have : (lN u).toInt = (-1 : Int64).toInt := by rw [q]
      rw [pk_lT (by omega)] at this
      have h2 : (-1 : Int64).toInt = -1 := by decide
      omega
    refine br_f hne ?_
    have hbu := hb u hF
    refine ⟨fun w => w = lN (op u v), fun w ew => ⟨hin, fun σ9 e9 => ?_⟩, ?_⟩
    · subst ew e9
      refine hΦ _ L ⟨fun _ _ _ => rfl, fun j a => by rw [kwl_ne _ _ _ a], rfl⟩ ⟨h1, h2, h3, h4, ?_, ?_, ?_⟩
      · intro x
        unfold ptF
        by_cases e : x = m
        · subst e; simp [hmL]
        · rw [if_neg e]; exact h5 x
      · intro x w hx
        unfold ptF at hx
        rw [kwl_same]
        by_cases e : x = m
        · subst e
          rw [if_pos rfl, hF] at hx
          cases hx
          exact ⟨pk_uLs, hbu⟩
        · rw [if_neg e] at hx
          have hxL : x ∈ L := (h5 x).mpr (by rw [hx]; simp)
          rw [pk_uLn (fun q => e (cst_inj (h4 x hxL) hm q))]
          exact h6 x w hx
      · intro s hs hn
        rw [kwl_same, pk_uLn (fun q => hn m hmL q.symm)]
        exact h7 s hs hn
    · rw [hu]
      rcases hop with ⟨hle, ho⟩ | ⟨hle, ho⟩
      · refine br_t hle ⟨hin, ?_⟩
        rw [ho, lN_add]
      · refine br_f hle ⟨hin, ?_⟩
        rw [ho]
        by_cases hq : v < u
        · rw [if_pos hq, if_pos ((pk_lLT (by omega) (by omega)).mpr hq)]
        · rw [if_neg hq, if_neg (fun z => hq ((pk_lLT (by omega) (by omega)).mp z))]
