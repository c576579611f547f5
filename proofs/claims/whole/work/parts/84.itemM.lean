/-- nothing but the model's reader and its draft have changed -/
def FrM (τ τ2 : Mm) : Prop := (∀ k, k ≠ 0 → k ≠ 1 → τ2.1 k = τ.1 k) ∧ (∀ j, j ≠ 4 → j ≠ 5 → j ≠ 6 → τ2.1 0 j = τ.1 0 j) ∧ ∀ j, j < 82 → τ2.1 1 j = τ.1 1 j
theorem FrM.refl (τ : Mm) : FrM τ τ := ⟨fun _ _ _ => rfl, fun _ _ _ _ => rfl, fun _ _ => rfl⟩
theorem FrM.trans {σ σ2 σ3 : Mm} (h1 : FrM σ σ2) (h2 : FrM σ2 σ3) : FrM σ σ3 := ⟨fun k a b => (h2.1 k a b).trans (h1.1 k a b), fun j a b c => (h2.2.1 j a b c).trans (h1.2.1 j a b c), fun j a => (h2.2.2 j a).trans (h1.2.2 j a)⟩
theorem FrM4.toM {σ σ2 : Mm} (h : FrM4 σ σ2) : FrM σ σ2 := ⟨fun k a _ => h.1 k a, fun j a b _ => h.2 j a b, fun j _ => by rw [h.1 1 (by decide)]⟩
theorem FrM.k1 (τ : Mm) {j : Nat} (hj : 82 ≤ j) (v : Int32) : FrM τ (kwi τ 1 j v) := ⟨fun k _ b => kwi_ne _ _ _ b, fun q _ _ _ => by rw [kwi_ne _ _ _ (by decide)], fun q hq => by rw [kwi_same]; exact pk_un (by omega)⟩
theorem FrM.k6 (τ : Mm) (v : Int32) : FrM τ (kwi τ 0 6 v) := ⟨fun k a _ => kwi_ne _ _ _ a, fun q _ _ c => by rw [kwi_same]; exact pk_un c, fun q _ => by rw [kwi_ne _ _ _ (by decide)]⟩
theorem TX.frM {τ τ2 : Mm} {L : Nat} {T : Nat → Nat} (h : TX (τ.1 3) (τ.1 0 3) L T) (f : FrM τ τ2) : TX (τ2.1 3) (τ2.1 0 3) L T := by
  rw [f.1 3 (by decide) (by decide), f.2.1 3 (by decide) (by decide) (by decide)]; exact h
theorem DM.fr4 {τ τ2 : Mm} {g : Nat → Int32} {hl : Bool} (h : DM τ g hl) (f : FrM4 τ τ2) : DM τ2 g hl := by
  unfold DM at *
  rw [f.1 1 (by decide), f.2 6 (by decide) (by decide)]; exact h
theorem PM.k1 {τ : Mm} {p j : Nat} {w : Bool} {v : Int32} (h : PM τ p w) : PM (kwi τ 1 j v) p w := by
  unfold PM at *
  rw [kwi_ne _ _ _ (by decide)]; exact h
theorem PM.k6 {τ : Mm} {p : Nat} {w : Bool} {v : Int32} (h : PM τ p w) : PM (kwi τ 0 6 v) p w := by
  unfold PM at *
  rw [kwi_same, pk_un (by decide), pk_un (by decide)]; exact h
theorem PM.k5 {τ : Mm} {p : Nat} {w w2 : Bool} (h : PM τ p w) : PM (kwi τ 0 5 (wI w2)) p w2 := by
  unfold PM at *
  rw [kwi_same, pk_un (by decide), upd_at]; exact ⟨h.1, rfl⟩
theorem DM.k1 {τ : Mm} {g : Nat → Int32} {hl : Bool} (h : DM τ g hl) (j : Nat) (v : Int32) : DM (kwi τ 1 (82 + j) v) (upd g j v) hl := by
  refine ⟨fun k hk => ?_, by rw [kwi_ne _ _ _ (by decide)]; exact h.2⟩
  rw [kwi_same]
  exact DM_kw h.1 j v k hk
theorem DM.k5 {τ : Mm} {g : Nat → Int32} {hl : Bool} (h : DM τ g hl) (v : Int32) : DM (kwi τ 0 5 v) g hl := h.fr4 (FrM4.k5 _ _)
theorem DM.k6 {τ : Mm} {g : Nat → Int32} {hl : Bool} (h : DM τ g hl) (hl2 : Bool) : DM (kwi τ 0 6 (wI hl2)) g hl2 := by
  refine ⟨fun k hk => ?_, ?_⟩
  · rw [kwi_ne _ _ _ (by decide)]; exact h.1 k hk
  · rw [kwi_same]; exact upd_at _ _ _
theorem or_tab : ∀ x, x < 256 → ∀ c, c < 8 → (nI x ||| (1 <<< (nI c &&& 31))) = nI (x ||| 2 ^ c) := by decide +kernel
theorem cM_link {τ : Mm} {g : Nat → Int32} {hl : Bool} (h : DM τ g hl) (hD : Drf g hl) {a c : Nat} (ha : a < 8) (hc : c < 8) (hac : a ≠ c) {p : Nat} {w : Bool} (hq : PM τ p w) {Φ : Mm → Prop} (hΦ : ∀ τ2, FrM τ τ2 → PM τ2 p w → DM τ2 (gl g a c) hl → Φ τ2) : wp_X11_link τ 82 (nI a) (nI c) Φ := by
  have h1 := hD.1
  have h6 := hD.2.2.2.2.2.1
  unfold wp_X11_link
  have i1 : (82 : Int32) + 4 + nI a = nI (82 + (4 + a)) := by
    have : (82 : Int32) + 4 = nI 86 := by decide
    rw [this, nI_add]; congr 1; omega
  have i2 : (82 : Int32) + 4 + nI c = nI (82 + (4 + c)) := by
    have : (82 : Int32) + 4 = nI 86 := by decide
    rw [this, nI_add]; congr 1; omega
  rw [i1, i2, nI_clamp (by omega), nI_clamp (by omega), h.1 (4 + a) (by omega), h1 (4 + a) (by omega), or_tab _ (h6 a ha) c hc]
  have b1 : (0 ≤ nI (82 + (4 + a)) ∧ nI (82 + (4 + a)) < 164) := ⟨nI_pos' (by omega), (nI_ltI (b := 164) (by omega) (by omega)).mpr (by omega)⟩
  have b2 : (0 ≤ nI (82 + (4 + c)) ∧ nI (82 + (4 + c)) < 164) := ⟨nI_pos' (by omega), (nI_ltI (b := 164) (by omega) (by omega)).mpr (by omega)⟩
  refine ⟨b1, b1, fun σ3 e3 => ⟨b2, b2, fun σ6 e6 => ?_⟩⟩
  have r3 : σ3.1 1 (82 + (4 + c)) = nI (gN g (4 + c)) := by
    rw [e3, kwi_same, pk_un (by omega), h.1 (4 + c) (by omega)]; exact h1 (4 + c) (by omega)
  rw [r3, or_tab _ (h6 c hc) a ha] at e6
  subst e6 e3
  exact hΦ _ ((FrM.k1 _ (by omega) _).trans (FrM.k1 _ (by omega) _)) hq.k1.k1 ((h.k1 (4 + a) _).k1 (4 + c) _)
/-- what may follow an item's inside: the end of it -/
def endI (T : Nat → Nat) (τ : Mm) (q : Nat) (w : Bool) (Φ : Mm → Prop) : Prop := ∀ τ2, FrM4 τ τ2 → PM τ2 (q + 1) (w || decide (T q ≠ 59)) → Φ τ2
theorem dcf {P : Prop} [Decidable P] (h : P) : (false || decide (¬ P)) = false := by simp [h]
theorem cM_readWay {τ : Mm} {L : Nat} {T : Nat → Nat} (h : TX (τ.1 3) (τ.1 0 3) L T) {p : Nat} (hp : p < 8000) {g : Nat → Int32} {hl : Bool} (hq : PM τ (p + 1) false) (hM : DM τ g hl) (hD : Drf g hl) {Φ : Mm → Prop}
    (hΦ : ∀ τ2, FrM τ τ2 → PM τ2 (p + 1 + wn T 12 (p + 1)) (decide (¬ (1 ≤ aP g ∧ 0 < wn T 12 (p + 1)))) → (1 ≤ aP g ∧ 0 < wn T 12 (p + 1) → DM τ2 (gw g (wn T 12 (p + 1)) T (p + 1)) hl) → Φ τ2) : wp_X11_readWay τ Φ := by
  have hP5 := hD.2.2.1
  have hw12 := wn_le T 12 (p + 1)
  have hwin := wn_in T 12 (p + 1)
  have e83 : τ.1 1 83 = nI (aP g) := by
    have : τ.1 1 (82 + 1) = g 1 := hM.1 1 (by omega)
    rw [show (83 : Nat) = 82 + 1 from rfl, this]; exact hD.1 1 (by omega)
  intro x1 ex1
  rw [e83] at ex1
  have hx : (1 ≤ aP g ∧ x1 = nI (aP g - 1)) ∨ (aP g = 0 ∧ x1 = -1) := by
    rcases Nat.eq_zero_or_pos (aP g) with z | z
    · right
      rw [z] at ex1
      exact ⟨z, by rw [ex1]; decide⟩
    · left
      exact ⟨z, by rw [ex1]; exact ksub1 z⟩
  let I : Nat → Mm → Prop := fun i ρ => FrM τ ρ ∧ PM ρ (p + 1 + i) false ∧ ρ.1 0 6 = wI hl ∧ (1 ≤ aP g → (∀ j, j < i → ρ.1 1 (104 + 12 * (aP g - 1) + j) = nI (T (p + 1 + j) - 48)) ∧ ∀ k, k < 82 → ¬ (22 + 12 * (aP g - 1) ≤ k ∧ k < 22 + 12 * (aP g - 1) + i) → ρ.1 1 (82 + k) = g k)
  refine ⟨fun ρ x => x = nI (wn T 12 (p + 1)) ∧ I (wn T 12 (p + 1)) ρ, fun ρ x hρ => ?_, 13, ?_⟩
  · obtain ⟨rfl, i1, i2, i3, i4⟩ := hρ
    rw [i2.2, wI_0, nI_e0 (by omega)]
    have hx0 : x1 < 0 ↔ ¬ 1 ≤ aP g := by
      rcases hx with ⟨z1, z2⟩ | ⟨z1, z2⟩
      · rw [z2]; exact ⟨fun q => absurd q (nI_pos (by omega)), fun q => absurd z1 q⟩
      · rw [z2]; exact ⟨fun _ => by omega, fun _ => by decide⟩
    have hx1 : 0 ≤ x1 ↔ 1 ≤ aP g := by
      rcases hx with ⟨z1, z2⟩ | ⟨z1, z2⟩
      · rw [z2]; exact ⟨fun _ => z1, fun _ => nI_pos' (by omega)⟩
      · rw [z2]; exact ⟨fun q => absurd q (by decide), fun q => by omega⟩
    refine ⟨fun v => v = wI (decide (¬ (1 ≤ aP g ∧ 0 < wn T 12 (p + 1)))), fun v ev => ?_, ¬ (1 ≤ aP g ∧ 0 < wn T 12 (p + 1)), fun q => by rw [decide_eq_true q]; rfl, fun q => absurd rfl q, fun _ => ⟨fun z y => by omega, fun z => ?_⟩⟩
    · subst ev
      refine ⟨kbit_w _, fun σ5 e5 => ?_⟩
      rw [hx0]
      have F5 : FrM4 ρ σ5 := by rw [e5]; exact FrM4.k5 _ _
      have P5 : PM σ5 (p + 1 + wn T 12 (p + 1)) (decide (¬ (1 ≤ aP g ∧ 0 < wn T 12 (p + 1)))) := by rw [e5]; exact i2.k5
      refine ⟨fun c => hΦ σ5 (i1.trans F5.toM) P5 (fun q => absurd q.1 c), fun c => ?_⟩
      have hP1 : 1 ≤ aP g := Classical.byContradiction c
      rcases hx with ⟨z1, z2⟩ | ⟨z1, z2⟩
      · have ei : (99 : Int32) + x1 = nI (82 + (17 + (aP g - 1))) := by
          rw [z2]
          have : (99 : Int32) + nI (aP g - 1) = nI (99 + (aP g - 1)) := nI_add 99 _
          rw [this]; congr 1; omega
        rw [ei, nI_clamp (by omega)]
        refine ⟨⟨nI_pos' (by omega), (nI_ltI (b := 164) (by omega) (by omega)).mpr (by omega)⟩, fun σ7 e7 => ?_⟩
        subst e7
        refine hΦ _ (i1.trans (F5.toM.trans (FrM.k1 _ (by omega) _))) P5.k1 (fun q => ⟨fun k hk => ?_, ?_⟩)
        · obtain ⟨j1, j2⟩ := i4 hP1
          rw [kwi_same]
          unfold gw
          by_cases k1 : k = 17 + (aP g - 1)
          · rw [if_pos k1, k1]; exact upd_at _ _ _
          · rw [if_neg k1, pk_un (by omega), F5.1 1 (by decide)]
            by_cases k2 : 22 + 12 * (aP g - 1) ≤ k ∧ k < 22 + 12 * (aP g - 1) + wn T 12 (p + 1)
            · rw [if_pos k2]
              have := j1 (k - (22 + 12 * (aP g - 1))) (by omega)
              have e9 : 104 + 12 * (aP g - 1) + (k - (22 + 12 * (aP g - 1))) = 82 + k := by omega
              rw [e9] at this
              exact this
            · rw [if_neg k2]; exact j2 k hk k2
        · rw [kwi_ne _ _ _ (by decide), F5.2 6 (by decide) (by decide)]; exact i3
      · omega
    · rw [hx1]
      refine ⟨fun c => ?_, fun c y => c y.1⟩
      have : decide (¬ (1 ≤ aP g ∧ 0 < wn T 12 (p + 1))) = false := decide_eq_false (fun y => y ⟨c, by omega⟩)
      rw [this]; rfl
  · have key : ∀ r i (ρ : Mm), i + r = 12 → i ≤ wn T 12 (p + 1) → wn T r (p + 1 + i) + i = wn T 12 (p + 1) → I i ρ → wp_X11_readWay_L12 x1 (fun ρ x => x = nI (wn T 12 (p + 1)) ∧ I (wn T 12 (p + 1)) ρ) (r + 1) ρ (nI i) := by
      intro r
      induction r with
      | zero =>
        intro i ρ hir hle hw hI
        have e : i = 12 := by omega
        subst e
        have : wn T 12 (p + 1) = 12 := by omega
        exact br_t (by decide) ⟨by rw [this], by rw [this]; exact hI⟩
      | succ r ih =>
        intro i ρ hir hle hw hI
        obtain ⟨i1, i2, i3, i4⟩ := id hI
        have hT := h.frM i1
        have en : nI i + 1 = nI (i + 1) := nI_1 i
        have hwr : wn T (r + 1) (p + 1 + i) = if 48 ≤ T (p + 1 + i) ∧ T (p + 1 + i) ≤ 55 then wn T r (p + 1 + i + 1) + 1 else 0 := rfl
        unfold wp_X11_readWay_L12
        rw [en]
        refine br_f (nI_ge (a := i) (b := 12) (by omega) (by omega)) (cM_here hT (by omega) i2.1 (cM_tin (lo := 48) (hi := 55) (hT.le _) (by omega) (by omega) (fun c => br_f (by decide) ?_) (fun c => br_t rfl ?_)))
        · rw [if_pos c] at hwr
          have ep : p + 1 + (i + 1) = p + 1 + i + 1 := by omega
          have fin : ∀ ρ2 : Mm, FrM ρ ρ2 → PM ρ2 (p + 1 + i) false → ρ2.1 0 6 = wI hl → (1 ≤ aP g → (∀ j, j < i + 1 → ρ2.1 1 (104 + 12 * (aP g - 1) + j) = nI (T (p + 1 + j) - 48)) ∧ ∀ k, k < 82 → ¬ (22 + 12 * (aP g - 1) ≤ k ∧ k < 22 + 12 * (aP g - 1) + (i + 1)) → ρ2.1 1 (82 + k) = g k) → ∀ σ15 : Mm, σ15 = kwi ρ2 0 4 ((ρ2.1 0 4) + 1) → wp_X11_readWay_L12 x1 (fun ρ x => x = nI (wn T 12 (p + 1)) ∧ I (wn T 12 (p + 1)) ρ) (r + 1) σ15 (nI (i + 1)) := by
            intro ρ2 f1 f2 f3 f4 σ15 e15
            have e4 : nI (p + 1 + i) + 1 = nI (p + 1 + (i + 1)) := nI_1 (p + 1 + i)
            rw [f2.1, e4] at e15
            have F : FrM4 ρ2 σ15 := by rw [e15]; exact FrM4.k4 _ _
            refine ih (i + 1) σ15 (by omega) (by omega) (by rw [ep]; omega) ⟨i1.trans (f1.trans F.toM), ⟨?_, ?_⟩, ?_, ?_⟩
            · rw [e15, kwi_same]; exact upd_at _ _ _
            · rw [e15, kwi_same, pk_un (by decide)]; exact f2.2
            · rw [F.2 6 (by decide) (by decide)]; exact f3
            · rw [F.1 1 (by decide)]; exact f4
          refine ⟨fun ρ2 => ∀ σ15 : Mm, σ15 = kwi ρ2 0 4 ((ρ2.1 0 4) + 1) → wp_X11_readWay_L12 x1 (fun ρ x => x = nI (wn T 12 (p + 1)) ∧ I (wn T 12 (p + 1)) ρ) (r + 1) σ15 (nI (i + 1)), fun _ z => z, ?_⟩
          rcases hx with ⟨z1, z2⟩ | ⟨z1, z2⟩
          · subst z2
            refine br_f (nI_pos (by omega)) (cM_here hT (by omega) i2.1 ?_)
            have em : (104 + (12 * nI (aP g - 1)) : Int32) + nI i = nI (82 + (22 + 12 * (aP g - 1) + i)) := by
              have q1 : (12 : Int32) * nI (aP g - 1) = nI (12 * (aP g - 1)) := pk_mul 12 _
              have q2 : (104 : Int32) + nI (12 * (aP g - 1)) = nI (104 + 12 * (aP g - 1)) := nI_add 104 _
              rw [q1, q2, nI_add]; congr 1; omega
            rw [em, nI_clamp (by omega), tI_lt (by omega)]
            have es : nI (T (p + 1 + i)) - 48 = nI (T (p + 1 + i) - 48) := pk_sub (b := 48) (by omega)
            rw [es]
            refine ⟨⟨nI_pos' (by omega), (nI_ltI (b := 164) (by omega) (by omega)).mpr (by omega)⟩, fun σ19 e19 => ?_⟩
            subst e19
            refine fin _ (FrM.k1 _ (by omega) _) i2.k1 (by rw [kwi_ne _ _ _ (by decide)]; exact i3) (fun hP1 => ⟨fun j hj => ?_, fun k hk hkn => ?_⟩)
            · rw [kwi_same]
              by_cases q : j = i
              · subst q
                have : 104 + 12 * (aP g - 1) + j = 82 + (22 + 12 * (aP g - 1) + j) := by omega
                rw [this]; exact upd_at _ _ _
              · rw [pk_un (by omega)]; exact (i4 hP1).1 j (by omega)
            · rw [kwi_same, pk_un (by omega)]
              exact (i4 hP1).2 k hk (by omega)
          · subst z2
            exact br_t (by decide) (fin ρ (FrM.refl ρ) i2 i3 (fun hP1 => by omega))
        · rw [if_neg c] at hwr
          have : wn T 12 (p + 1) = i := by omega
          rw [this]
          exact ⟨rfl, hI⟩
    refine key 12 0 τ (by omega) (by omega) (by rw [Nat.add_zero, Nat.add_zero]) ⟨FrM.refl τ, hq, hM.2, fun _ => ⟨fun j hj => absurd hj (Nat.not_lt_zero j), fun k hk _ => hM.1 k hk⟩⟩
theorem cM_readItem {τ : Mm} {L : Nat} {T : Nat → Nat} (h : TX (τ.1 3) (τ.1 0 3) L T) {p : Nat} (hp : p < 8000) {g : Nat → Int32} {hl : Bool} (hq : PM τ p false) (hM : DM τ g hl) (hD : Drf g hl) {Φ : Mm → Prop}
    (h1 : ∀ p2 g2 hl2, itm T g hl p = some (p2, g2, hl2) → ∀ τ2, FrM τ τ2 → PM τ2 p2 false → DM τ2 g2 hl2 → Φ τ2) (h0 : itm T g hl p = none → ∀ τ2, FrM τ τ2 → τ2.1 0 5 = 1 → Φ τ2) : wp_X11_readItem τ Φ := by
  unfold wp_X11_readItem
  have e1 : nI p + 1 = nI (p + 1) := nI_1 p
  rw [hq.1, e1]
  refine cM_here h (by omega) hq.1 (fun σ3 e3 w4 ew4 => ?_)
  have f3 : FrM4 τ σ3 := by rw [e3]; exact FrM4.k4 _ _
  have P3 : PM σ3 (p + 1) false := ⟨by rw [e3, kwi_same]; exact upd_at _ _ _, by rw [e3, kwi_same, pk_un (by decide)]; exact hq.2⟩
  have M3 := hM.fr4 f3
  have T3 := h.fr4 f3
  have t : ∀ c, c < 256 → (tI (T p) = nI c ↔ T p = c) := fun c hc => tI_eq hc
  have t108 : tI (T p) = 108 ↔ T p = 108 := t 108 (by omega)
  have t119 : tI (T p) = 119 ↔ T p = 119 := t 119 (by omega)
  have t99 : tI (T p) = 99 ↔ T p = 99 := t 99 (by omega)
  have t102 : tI (T p) = 102 ↔ T p = 102 := t 102 (by omega)
  have t112 : tI (T p) = 112 ↔ T p = 112 := t 112 (by omega)
  have t121 : tI (T p) = 121 ↔ T p = 121 := t 121 (by omega)
  have q1le := nq_le T (p + 1)
  have hv := nv_le T (p + 1)
  have hw12 := wn_le T 12 (p + 1)
  -- the end of an item, by what stands ahead of it
  refine ⟨fun ρ => ∃ q w, q < 8500 ∧ FrM τ ρ ∧ PM ρ q w ∧ ((w = false ∧ T q = 59) → ∃ g2 hl2, itm T g hl p = some (q + 1, g2, hl2) ∧ DM ρ g2 hl2) ∧ (¬ (w = false ∧ T q = 59) → itm T g hl p = none), fun ρ hρ => ?_, ?_⟩
  · obtain ⟨q, w, q0, q1, q2, q3, q4⟩ := hρ
    refine cM_due (c := 59) (h.frM q1) (by omega) (by omega) q2 (fun τ2 f2 p2 => ?_)
    by_cases c : w = false ∧ T q = 59
    · obtain ⟨g2, hl2, r1, r2⟩ := q3 c
      refine h1 _ _ _ r1 τ2 (q1.trans f2.toM) ?_ (r2.fr4 f2)
      rw [c.1, c.2] at p2
      exact p2
    · refine h0 (q4 c) τ2 (q1.trans f2.toM) ?_
      rw [p2.2]
      have : (w || decide (T q ≠ 59)) = true := by
        cases w
        · have : T q ≠ 59 := fun z => c ⟨rfl, z⟩
          simp [this]
        · rfl
      rw [this]; rfl
  · rw [ew4, t99, t102, t108, t112, t119, t121]
    have ep : p + 1 + nq T (p + 1) + 1 = p + 2 + nq T (p + 1) := by omega
    refine ⟨fun k => ?_, fun k => ⟨fun k2 => ?_, fun k2 => ⟨fun k3 => ?_, fun k3 => ⟨fun k4 => ?_, fun k4 => ⟨fun k5 => ?_, fun k5 => ⟨fun k6 => ?_, fun k6 => ?_⟩⟩⟩⟩⟩⟩
    · -- c
      have hi := itm_n (by omega : T p ≠ 108) (by omega : T p ≠ 119) g hl
      rw [if_neg (by omega : ¬ T p = 121), if_neg (by omega : ¬ T p = 112), if_neg (by omega : ¬ T p = 102), if_pos k] at hi
      refine cM_number (lo := 0) (hi := 7) T3 (by omega) (by omega) (by omega) P3 (fun σ7 f7 p7 σ9 e9 => ?_)
      subst e9
      refine ⟨_, _, by omega, f3.toM.trans (f7.toM.trans (FrM.k1 _ (by omega) _)), p7.k1, fun c => ?_, fun c => ?_⟩
      · obtain ⟨c1, c2⟩ := c
        rw [Bool.false_or] at c1
        have c3 := of_decide_eq_false c1
        refine ⟨gc g (nv T (p + 1)), hl, ?_, (M3.fr4 f7).k1 3 _⟩
        rw [hi, if_pos ⟨by omega, c2⟩, if_pos (by omega), ep]
      · rw [hi]
        by_cases c5 : nq T (p + 1) ≠ 0 ∧ T (p + 1 + nq T (p + 1)) = 59
        · rw [if_pos c5, if_neg (fun c6 => c ⟨by rw [Bool.false_or]; exact decide_eq_false (by omega), c5.2⟩)]
        · rw [if_neg c5]
    · -- f
      have hi := itm_n (by omega : T p ≠ 108) (by omega : T p ≠ 119) g hl
      rw [if_neg (by omega : ¬ T p = 121), if_neg (by omega : ¬ T p = 112), if_pos k2] at hi
      refine cM_number (lo := 0) (hi := 20) T3 (by omega) (by omega) (by omega) P3 (fun σ7 f7 p7 σ9 e9 => ?_)
      subst e9
      refine ⟨_, _, by omega, f3.toM.trans (f7.toM.trans (FrM.k1 _ (by omega) _)), p7.k1, fun c => ?_, fun c => ?_⟩
      · obtain ⟨c1, c2⟩ := c
        rw [Bool.false_or] at c1
        have c3 := of_decide_eq_false c1
        refine ⟨gf g (nv T (p + 1)), hl, ?_, (M3.fr4 f7).k1 2 _⟩
        rw [hi, if_pos ⟨by omega, c2⟩, if_pos (by omega), ep]
      · rw [hi]
        by_cases c5 : nq T (p + 1) ≠ 0 ∧ T (p + 1 + nq T (p + 1)) = 59
        · rw [if_pos c5, if_neg (fun c6 => c ⟨by rw [Bool.false_or]; exact decide_eq_false (by omega), c5.2⟩)]
        · rw [if_neg c5]
    · -- l
      have hi := itm_l k3 g hl
      have hN := hD.2.1
      have e82 : ∀ ρ : Mm, DM ρ g hl → ρ.1 1 82 - 1 = nI (aN g - 1) := fun ρ hρ => by
        have : ρ.1 1 (82 + 0) = g 0 := hρ.1 0 (by omega)
        rw [show (82 : Nat) = 82 + 0 from rfl, this, hD.1 0 (by omega)]
        exact ksub1 (by have := hN.1; unfold aN at this; omega)
      have q2le := nq_le T (p + 2 + nq T (p + 1))
      have hv2 := nv_le T (p + 2 + nq T (p + 1))
      rw [e82 _ M3]
      refine cM_number (lo := 0) T3 (by omega) (by omega) (by omega) P3 (fun σ13 f13 p13 => ?_)
      have M13 := M3.fr4 f13
      refine cM_due (c := 44) (T3.fr4 f13) (by omega) (by omega) p13 (fun σ15 f15 p15 => ?_)
      have M15 := M13.fr4 f15
      rw [e82 _ M15]
      rw [ep] at p15
      refine cM_number (lo := 0) ((T3.fr4 f13).fr4 f15) (by omega) (by omega) (by omega) p15 (fun σ16 f16 p16 => ?_)
      have M16 := M15.fr4 f16
      have F16 : FrM4 τ σ16 := f3.trans (f13.trans (f15.trans f16))
      -- all that was asked so far
      generalize hw : (((false || decide (nq T (p + 1) = 0 ∨ ¬ (0 ≤ nv T (p + 1) ∧ nv T (p + 1) ≤ aN g - 1))) || decide (T (p + 1 + nq T (p + 1)) ≠ 44)) || decide (nq T (p + 2 + nq T (p + 1)) = 0 ∨ ¬ (0 ≤ nv T (p + 2 + nq T (p + 1)) ∧ nv T (p + 2 + nq T (p + 1)) ≤ aN g - 1))) = w at p16
      have hw2 : w = false ↔ nq T (p + 1) ≠ 0 ∧ nv T (p + 1) < aN g ∧ T (p + 1 + nq T (p + 1)) = 44 ∧ nq T (p + 2 + nq T (p + 1)) ≠ 0 ∧ nv T (p + 2 + nq T (p + 1)) < aN g := by
        rw [← hw]
        simp only [Bool.false_or, Bool.or_eq_false_iff, decide_eq_false_iff_not]
        omega
      have hv12 : nI (nv T (p + 1)) = nI (nv T (p + 2 + nq T (p + 1))) ↔ nv T (p + 1) = nv T (p + 2 + nq T (p + 1)) := nI_eq (by omega) (by omega)
      rw [p16.2, wI_0, hv12]
      refine ⟨fun v => v = wI (w || decide (nv T (p + 1) = nv T (p + 2 + nq T (p + 1)))), fun v ev => ?_, (w || decide (nv T (p + 1) = nv T (p + 2 + nq T (p + 1)))) = true, fun z => by rw [z]; rfl, fun z => ?_, fun z => ⟨fun y => ?_, fun y => by simp [y]⟩⟩
      · subst ev
        refine ⟨kbit_w _, fun σ19 e19 σ20 e20 => ?_⟩
        subst e20 e19
        have P20 := (p16.k5 (w2 := (w || decide (nv T (p + 1) = nv T (p + 2 + nq T (p + 1)))))).k6 (v := 1)
        have M20 : DM _ g true := ((M16.k5 (wI (w || decide (nv T (p + 1) = nv T (p + 2 + nq T (p + 1)))))).k6 true)
        have F20 := (F16.toM.trans (FrM4.k5 σ16 (wI (w || decide (nv T (p + 1) = nv T (p + 2 + nq T (p + 1)))))).toM).trans (FrM.k6 _ 1)
        rw [P20.2, wI_0]
        refine ⟨fun z => ?_, fun z => ?_⟩
        · refine ⟨_, _, by omega, F20, P20, fun c => absurd c.1 z, fun c => ?_⟩
          rw [hi, if_neg (fun y => z ?_)]
          have h1' := hw2.mpr ⟨y.1, y.2.2.2.2.1, y.2.1, y.2.2.1, y.2.2.2.2.2.1⟩
          rw [h1']
          simp [y.2.2.2.2.2.2]
        · obtain ⟨z1, z2⟩ := Bool.or_eq_false_iff.mp z
          obtain ⟨y1, y2, y3, y4, y5⟩ := hw2.mp z1
          have y6 := of_decide_eq_false z2
          have hDt : Drf g true := ⟨hD.1, hD.2.1, hD.2.2.1, hD.2.2.2.1, hD.2.2.2.2.1, hD.2.2.2.2.2.1, hD.2.2.2.2.2.2.1, hD.2.2.2.2.2.2.2.1, hD.2.2.2.2.2.2.2.2.1, hD.2.2.2.2.2.2.2.2.2.1, fun q => by cases q⟩
          refine cM_link M20 hDt (by omega) (by omega) y6 P20 (fun σ21 f21 p21 m21 => ?_)
          refine ⟨_, _, by omega, F20.trans f21, p21, fun c => ⟨_, _, ?_, m21⟩, fun c => ?_⟩
          · rw [hi, if_pos ⟨y1, y3, y4, c.2, y2, y5, y6⟩]
            congr 2
            omega
          · rw [hi, if_neg (fun y => c ⟨z, y.2.2.2.1⟩)]
      · cases w
        · exact absurd rfl z
        · rfl
      · subst z
        have : decide (nv T (p + 1) = nv T (p + 2 + nq T (p + 1))) = false := decide_eq_false y
        rw [this]; rfl
    · -- p
      have hi := itm_n (by omega : T p ≠ 108) (by omega : T p ≠ 119) g hl
      rw [if_neg (by omega : ¬ T p = 121), if_pos k4] at hi
      have hP5 := hD.2.2.1
      refine cM_number (lo := 0) (hi := 99) T3 (by omega) (by omega) (by omega) P3 (fun σ7 f7 p7 => ?_)
      have M7 := M3.fr4 f7
      have e83 : ∀ ρ : Mm, DM ρ g hl → ρ.1 1 83 = nI (aP g) := fun ρ hρ => by
        have : ρ.1 1 (82 + 1) = g 1 := hρ.1 1 (by omega)
        rw [show (83 : Nat) = 82 + 1 from rfl, this]; exact hD.1 1 (by omega)
      generalize hw : (false || decide (nq T (p + 1) = 0 ∨ ¬ (0 ≤ nv T (p + 1) ∧ nv T (p + 1) ≤ 99))) = w at p7
      have hw2 : w = false ↔ nq T (p + 1) ≠ 0 := by
        rw [← hw]
        simp only [Bool.false_or, decide_eq_false_iff_not]
        omega
      have e5 : nI (aP g) = 5 ↔ aP g = 5 := nI_eq (b := 5) (by omega) (by omega)
      rw [p7.2, wI_0, e83 _ M7, e5]
      refine ⟨fun v => v = wI (w || decide (aP g = 5)), fun v ev => ?_, (w || decide (aP g = 5)) = true, fun z => by rw [z]; rfl, fun z => ?_, fun z => ⟨fun y => ?_, fun y => by simp [y]⟩⟩
      · subst ev
        refine ⟨kbit_w _, fun σ25 e25 => ?_⟩
        have P25 : PM σ25 (p + 1 + nq T (p + 1)) (w || decide (aP g = 5)) := by rw [e25]; exact p7.k5
        have M25 : DM σ25 g hl := by rw [e25]; exact M7.k5 _
        have F25 : FrM τ σ25 := f3.toM.trans (f7.toM.trans (by rw [e25]; exact (FrM4.k5 _ _).toM))
        rw [P25.2, wI_0, e83 _ M25]
        refine ⟨fun z => ⟨_, _, by omega, F25, P25, fun c => absurd c.1 z, fun c => ?_⟩, fun z x6 ex6 => ?_⟩
        · rw [hi]
          by_cases c5 : nq T (p + 1) ≠ 0 ∧ T (p + 1 + nq T (p + 1)) = 59
          · rw [if_pos c5, if_neg (fun c6 => z ?_)]
            rw [hw2.mpr c5.1]
            have : decide (aP g = 5) = false := decide_eq_false (by omega)
            rw [this]; rfl
          · rw [if_neg c5]
        · obtain ⟨z1, z2⟩ := Bool.or_eq_false_iff.mp z
          have z3 := of_decide_eq_false z2
          have z4 := hw2.mp z1
          have i1 : (94 : Int32) + nI (aP g) = nI (82 + (12 + aP g)) := by
            have : (94 : Int32) + nI (aP g) = nI (94 + aP g) := nI_add 94 _
            rw [this]; congr 1; omega
          have i2 : (99 : Int32) + nI (aP g) = nI (82 + (17 + aP g)) := by
            have : (99 : Int32) + nI (aP g) = nI (99 + aP g) := nI_add 99 _
            rw [this]; congr 1; omega
          have i3 : (104 : Int32) + 12 * nI (aP g) = nI (82 + (22 + 12 * aP g)) := by
            have q1 : (12 : Int32) * nI (aP g) = nI (12 * aP g) := pk_mul 12 _
            have : (104 : Int32) + nI (12 * aP g) = nI (104 + 12 * aP g) := nI_add 104 _
            rw [q1, this]; congr 1; omega
          rw [ex6, i1, i2, i3, nI_clamp (by omega), nI_clamp (by omega), nI_clamp (by omega)]
          refine ⟨⟨nI_pos' (by omega), (nI_ltI (b := 164) (by omega) (by omega)).mpr (by omega)⟩, fun σ28 e28 => ⟨⟨nI_pos' (by omega), (nI_ltI (b := 164) (by omega) (by omega)).mpr (by omega)⟩, fun σ30 e30 => ⟨⟨nI_pos' (by omega), (nI_ltI (b := 164) (by omega) (by omega)).mpr (by omega)⟩, fun σ32 e32 σ33 e33 => ?_⟩⟩⟩
          have M32 : DM σ32 (upd (upd (upd g (12 + aP g) (nI (nv T (p + 1)))) (17 + aP g) (nI 1)) (22 + 12 * aP g) (nI 0)) hl := by
            rw [e32, e30, e28]
            exact ((M25.k1 (12 + aP g) _).k1 (17 + aP g) _).k1 (22 + 12 * aP g) _
          have e832 : σ32.1 1 83 = nI (aP g) := by
            have : σ32.1 1 (82 + 1) = _ := M32.1 1 (by omega)
            rw [show (83 : Nat) = 82 + 1 from rfl, this, pk_un (by omega), pk_un (by omega), pk_un (by omega)]
            exact hD.1 1 (by omega)
          have en : nI (aP g) + 1 = nI (aP g + 1) := nI_1 _
          rw [e832, en] at e33
          refine ⟨p + 1 + nq T (p + 1), (w || decide (aP g = 5)), by omega, ?_, ?_, fun c => ⟨gp g (nv T (p + 1)), hl, ?_, ?_⟩, fun c => ?_⟩
          · rw [e33, e32, e30, e28]
            exact F25.trans ((FrM.k1 _ (by omega) _).trans ((FrM.k1 _ (by omega) _).trans ((FrM.k1 _ (by omega) _).trans (FrM.k1 _ (by omega) _))))
          · rw [e33, e32, e30, e28]
            exact P25.k1.k1.k1.k1
          · rw [hi, if_pos ⟨z4, c.2⟩, if_pos (by omega), ep]
          · rw [e33]
            exact M32.k1 1 _
          · rw [hi]
            by_cases c5 : nq T (p + 1) ≠ 0 ∧ T (p + 1 + nq T (p + 1)) = 59
            · exact absurd ⟨z, c5.2⟩ c
            · rw [if_neg c5]
      · cases w
        · exact absurd rfl z
        · rfl
      · subst z
        have : decide (aP g = 5) = false := decide_eq_false y
        rw [this]; rfl
    · -- w
      have hi := itm_w k5 g hl
      refine cM_readWay T3 hp P3 M3 hD (fun σ7 f7 p7 m7 => ?_)
      refine ⟨_, _, by omega, f3.toM.trans f7, p7, fun c => ?_, fun c => ?_⟩
      · have c1 : 1 ≤ aP g ∧ 0 < wn T 12 (p + 1) := by
          have := of_decide_eq_false c.1
          exact Classical.byContradiction this
        refine ⟨_, _, ?_, m7 c1⟩
        rw [hi, if_pos ⟨c1.1, c1.2, c.2⟩]
        congr 2
        omega
      · rw [hi, if_neg (fun y => c ⟨decide_eq_false (fun z => z ⟨y.1, y.2.1⟩), y.2.2⟩)]
    · -- y
      have hi := itm_n (by omega : T p ≠ 108) (by omega : T p ≠ 119) g hl
      rw [if_pos k6] at hi
      refine cM_number (lo := 2) (hi := 8) T3 (by omega) (by omega) (by omega) P3 (fun σ7 f7 p7 => ?_)
      have M7 := M3.fr4 f7
      generalize hw : (false || decide (nq T (p + 1) = 0 ∨ ¬ (2 ≤ nv T (p + 1) ∧ nv T (p + 1) ≤ 8))) = w at p7
      have hw2 : w = false ↔ nq T (p + 1) ≠ 0 ∧ 2 ≤ nv T (p + 1) ∧ nv T (p + 1) ≤ 8 := by
        rw [← hw]
        simp only [Bool.false_or, decide_eq_false_iff_not]
        omega
      rw [p7.2, wI_0, M7.2, wI_0]
      refine ⟨fun v => v = wI (w || hl), fun v ev => ?_, (w || hl) = true, fun z => by rw [z]; rfl, fun z => ?_, fun z => ⟨fun y => ?_, fun y => ?_⟩⟩
      · subst ev
        refine ⟨kbit_w _, fun σ25 e25 σ39 e39 => ?_⟩
        subst e39
        have P25 : PM σ25 (p + 1 + nq T (p + 1)) (w || hl) := by rw [e25]; exact p7.k5
        have M25 : DM σ25 g hl := by rw [e25]; exact M7.k5 _
        have F25 : FrM τ σ25 := f3.toM.trans (f7.toM.trans (by rw [e25]; exact (FrM4.k5 _ _).toM))
        refine ⟨_, _, by omega, F25.trans (FrM.k1 _ (by omega) _), P25.k1, fun c => ⟨gy g (nv T (p + 1)), hl, ?_, M25.k1 0 _⟩, fun c => ?_⟩
        · obtain ⟨z1, z2⟩ := Bool.or_eq_false_iff.mp c.1
          obtain ⟨y1, y2⟩ := hw2.mp z1
          rw [hi, if_pos ⟨y1, c.2⟩, if_pos ⟨y2, z2⟩, ep]
        · rw [hi]
          by_cases c5 : nq T (p + 1) ≠ 0 ∧ T (p + 1 + nq T (p + 1)) = 59
          · rw [if_pos c5, if_neg (fun c6 => c ⟨?_, c5.2⟩)]
            rw [hw2.mpr ⟨c5.1, c6.1⟩, c6.2]; rfl
          · rw [if_neg c5]
      · cases w
        · exact absurd rfl z
        · rfl
      · subst z y; rfl
      · cases hl
        · exact absurd rfl y
        · simp
    · -- nothing that is known
      have hi := itm_n (by omega : T p ≠ 108) (by omega : T p ≠ 119) g hl
      intro σ40 e40
      have P40 : PM σ40 (p + 1) true := by
        rw [e40]
        exact P3.k5 (w2 := true)
      have F40 : FrM τ σ40 := f3.toM.trans (by rw [e40]; exact (FrM4.k5 _ _).toM)
      refine ⟨p + 1, true, by omega, F40, P40, ?_, ?_⟩
      · rintro ⟨c1, -⟩
        cases c1
      · intro _
        rw [hi, if_neg k6, if_neg k4, if_neg k2, if_neg k]
        split <;> rfl
