def drX (z k : Nat) : Nat := 7919 * z + 6151 * k + 1
def drw (z k : Nat) : Nat := (drX z k * drX z k) % 65521
theorem drX_sq {z k : Nat} (hz : z ≤ 9999) (hk : k ≤ 400) : drX z k < 2 ^ 31 ∧ drX z k * drX z k < 2 ^ 62 := by
  have h : drX z k ≤ 82000000 := by unfold drX; omega
  have h2 := Nat.mul_le_mul h h
  exact ⟨by omega, by omega⟩
theorem cC_drawn {z k P : Nat} (hz : z ≤ 9999) (hk : k ≤ 400) (hP : 1 ≤ P ∧ P ≤ 5) {Φ : Int32 → Prop} (h0 : drw z k / 8 % 2 = 0 → Φ (-1)) (h1 : drw z k / 8 % 2 ≠ 0 → Φ (nI (drw z k % P))) : wp_X10_drawnFeeder (nI z) (nI k) (nI P) Φ := by
  obtain ⟨hX, hX2⟩ := drX_sq hz hk
  have hd : drw z k < 65521 := Nat.mod_lt _ (by omega)
  intro x3 e3
  have e3' : x3 = lN (drX z k) := by
    rw [e3, nI_l (by omega), nI_l (by omega), kL, kL, kL, lN_mul, lN_mul, lN_add, lN_add]
    rfl
  rw [e3']
  intro x5 e5
  have e5' : x5 = lN (drw z k) := by
    rw [e5, lN_mul]
    have : lN (drX z k * drX z k) / 65521 = lN (drX z k * drX z k / 65521) := pk_lDiv (b := 65521) (by omega) (by omega) (by omega)
    rw [this]
    have : lN (drX z k * drX z k / 65521) * 65521 = lN (drX z k * drX z k / 65521 * 65521) := lN_mul _ 65521
    rw [this, kremL]
    rfl
  rw [e5', lg_cmp_eq, nI_l (by omega)]
  generalize drw z k = D at *
  have q1 : lN D / 8 = lN (D / 8) := pk_lDiv (b := 8) (by omega) (by omega) (by omega)
  have q2 : lN (D / 8) / 2 = lN (D / 8 / 2) := pk_lDiv (b := 2) (by omega) (by omega) (by omega)
  have q3 : lN (D / 8 / 2) * 2 = lN (D / 8 / 2 * 2) := lN_mul _ 2
  have q4 : lN D / lN P = lN (D / P) := pk_lDiv (by omega) (by omega) (by omega)
  rw [q1, q2, q3, kremL, q4, lN_mul, kremL, lN_i]
  have q5 : lN (D / 8 % 2) = 0 ↔ D / 8 % 2 = 0 := pk_lEQ (b := 0) (by omega) (by omega)
  have q6 : lN P = 0 ↔ P = 0 := pk_lEQ (b := 0) (by omega) (by omega)
  rw [q5, q6]
  refine br_f (fun q => ?_) ⟨fun c => ⟨by omega, h1 c⟩, fun c => h0 c⟩
  have := (nI_ltI (a := P) (b := 1) (by omega) (by omega)).mp q
  omega
/-- a year's states and how often it was fed -/
def yrs (g d : Nat → Int32) (z : Nat) : Nat → Nat × Nat
  | 0 => (aC g, 0)
  | k + 1 => if drw z k / 8 % 2 ≠ 0 ∧ aPlc g (drw z k % aP g) k = (yrs g d z k).1 % 8 then (aft g d (fedm g (yrs g d z k).1 (drw z k % aP g)) (k + 1), (yrs g d z k).2 + 1) else (aft g d (yrs g d z k).1 (k + 1), (yrs g d z k).2)
theorem isSt_C {g : Nat → Int32} (hg : WFg g) : isSt g (aC g) := by
  have := hg.C
  have := hg.N
  unfold isSt
  omega
theorem isSt_yrs {g d : Nat → Int32} (hg : WFg g) (hd : WFd g d) (z : Nat) : ∀ k, isSt g (yrs g d z k).1
  | 0 => isSt_C hg
  | k + 1 => by
    have ih := isSt_yrs hg hd z k
    have hP := hg.P
    unfold yrs
    split
    · exact isSt_aft hg hd (isSt_fed hg ih (Nat.mod_lt _ (by omega)))
    · exact isSt_aft hg hd ih
theorem cC_year_L {σ : Mm} {g d : Nat → Int32} (hg : WFg g) (hd : WFd g d) (hC : FmC σ (σ.2.2 0) g) (hCD : FmD σ (σ.2.2 0) g d) {z n : Nat} (hz : z ≤ 9999) (hn : n ≤ 400) {K : Int32 → Int32 → Prop} (hK : K (nI (cst g (yrs g d z n).1)) (nI (yrs g d z n).2)) : ∀ r k, k + r = n → wp_X10_year_L47 (nI z) (nI n) σ K (r + 1) (nI (cst g (yrs g d z k).1)) (nI (yrs g d z k).2) (nI k) := by
  have hP := hg.P
  intro r
  induction r with
  | zero =>
    intro k hk
    have : k = n := by omega
    subst this
    exact br_t (nI_le (Nat.le_refl _) (by omega)) hK
  | succ r ih =>
    intro k hk
    refine br_f (nI_ge (by omega) (by omega)) ?_
    have hst := isSt_yrs hg hd z k
    have hi : drw z k % aP g < aP g := Nat.mod_lt _ (by omega)
    have ih' := ih (k + 1) (by omega)
    unfold wp_X1_persons
    rw [hC.2.1]
    dsimp only
    have e1 : nI k + 1 = nI (k + 1) := nI_1 k
    refine cC_drawn hz (by omega) hP (fun q => ?_) (fun q => ?_)
    · refine ⟨_, fun _ _ z => z, br_t rfl ?_⟩
      rw [e1]
      refine cC_onward hg hd hC hCD hst (by omega) ?_
      unfold yrs at ih'
      rw [if_neg (by omega)] at ih'
      exact ih'
    · refine ⟨_, fun _ _ z => z, br_f (nI_m1 (by omega)).1 ?_⟩
      refine cC_canFeed hg hC hst hi (by omega) ?_
      by_cases hp : aPlc g (drw z k % aP g) k = (yrs g d z k).1 % 8
      · rw [if_pos hp]
        refine br_f (by decide) (cC_fedState hg hst hi ?_)
        rw [e1]
        refine cC_onward hg hd hC hCD (isSt_fed hg hst hi) (by omega) ?_
        unfold yrs at ih'
        rw [if_pos ⟨q, hp⟩] at ih'
        have e2 : nI (yrs g d z k).2 + 1 = nI ((yrs g d z k).2 + 1) := nI_1 _
        rw [e2]
        exact ih'
      · rw [if_neg hp]
        refine br_t rfl ?_
        rw [e1]
        refine cC_onward hg hd hC hCD hst (by omega) ?_
        unfold yrs at ih'
        rw [if_neg (fun q => hp q.2)] at ih'
        exact ih'
theorem cM_year_L {τ : Mm} {g d : Nat → Int32} (hg : WFg g) (hd : WFd g d) (hM : FmM τ g d) {z n : Nat} (hz : z ≤ 9999) (hn : n ≤ 400) {K : Int32 → Int32 → Prop} (hK : K (nI (yrs g d z n).1) (nI (yrs g d z n).2)) : ∀ r k, k + r = n → wp_X11_year_L47 (nI z) (nI n) τ K (r + 1) (nI (yrs g d z k).1) (nI (yrs g d z k).2) (nI k) := by
  have hP := hg.P
  have q0 : τ.1 1 1 = nI (aP g) := hM.1 1 (by omega)
  intro r
  induction r with
  | zero =>
    intro k hk
    have : k = n := by omega
    subst this
    exact br_t (nI_le (Nat.le_refl _) (by omega)) hK
  | succ r ih =>
    intro k hk
    refine br_f (nI_ge (by omega) (by omega)) ?_
    have hst := isSt_yrs hg hd z k
    have hi : drw z k % aP g < aP g := Nat.mod_lt _ (by omega)
    have ih' := ih (k + 1) (by omega)
    obtain ⟨hX, hX2⟩ := drX_sq (k := k) hz (by omega)
    have hdw : drw z k < 65521 := Nat.mod_lt _ (by omega)
    have e1 : nI k + 1 = nI (k + 1) := nI_1 k
    intro x7 e7
    have e7' : x7 = lN (drX z k) := by
      rw [e7, nI_l (by omega), nI_l (by omega), kL, kL, kL, lN_mul, lN_mul, lN_add, lN_add]
      rfl
    rw [e7']
    intro x9 e9
    have e9' : x9 = nI (drw z k) := by
      rw [e9, lN_mul]
      have : lN (drX z k * drX z k) / 65521 = lN (drX z k * drX z k / 65521) := pk_lDiv (b := 65521) (by omega) (by omega) (by omega)
      rw [this]
      have : lN (drX z k * drX z k / 65521) * 65521 = lN (drX z k * drX z k / 65521 * 65521) := lN_mul _ 65521
      rw [this, kremL, lN_i]
      rfl
    rw [e9', q0]
    refine ⟨nI_ne0 (by omega) (by omega), ?_⟩
    intro x10 e10
    rw [pk_rem (by omega) (by omega) (by omega)] at e10
    rw [e10]
    refine cM_mayFeed hg hM hst.1 hi (by omega) ?_
    have q1 : nI (drw z k) / 8 = nI (drw z k / 8) := pk_div (d := 8) (by omega) (by omega) (by omega)
    have q2 : nI (drw z k / 8) / 2 = nI (drw z k / 8 / 2) := pk_div (d := 2) (by omega) (by omega) (by omega)
    have q3 : nI (drw z k / 8 / 2) * 2 = nI (drw z k / 8 / 2 * 2) := pk_mul _ 2
    have q5 : nI (drw z k / 8 % 2) = 1 ↔ drw z k / 8 % 2 = 1 := nI_eq (b := 1) (by omega) (by omega)
    have e2 : nI (yrs g d z k).2 + 1 = nI ((yrs g d z k).2 + 1) := nI_1 _
    rw [q1, q2, q3, krem, q5, e2, e1]
    refine ⟨_, fun _ _ z => z, ?_⟩
    by_cases hp : aPlc g (drw z k % aP g) k = (yrs g d z k).1 % 8
    · rw [if_pos hp]
      refine br_f (by decide) ⟨fun c => ?_, fun c => ?_⟩
      · refine cM_after hg hd hM hst (by omega) ?_
        unfold yrs at ih'
        rw [if_neg (by omega)] at ih'
        exact ih'
      · refine cM_fedBy hg hM hst.1 hi (cM_after hg hd hM (isSt_fed hg hst hi) (by omega) ?_)
        unfold yrs at ih'
        rw [if_pos ⟨by omega, hp⟩] at ih'
        exact ih'
    · rw [if_neg hp]
      refine br_t rfl (cM_after hg hd hM hst (by omega) ?_)
      unfold yrs at ih'
      rw [if_neg (fun q => hp q.2)] at ih'
      exact ih'
theorem op_year {σ τ : Mm} (h : Rel σ τ) (x y w : Int32) : wp_X10_year σ x y w (fun r => wp_X11_year τ x y w (fun r2 => r = r2)) := by
  obtain ⟨g, d, ⟨hg, hd, -, -, -, hC, hCD, hM⟩, -⟩ := h
  by_cases hx : yIn 10000 x
  · have hx0 := ((rg_in (hi := 9999) (by omega)).mpr hx).1
    refine br_f hx0 (br_f (fun q => ((rg_gt (hi := 9999) (by omega) hx0).mp q) hx) ?_)
    obtain ⟨z, hz, rfl⟩ := id hx
    by_cases hy : ∃ j, 1 ≤ j ∧ j ≤ 400 ∧ y = nI j
    · have hy0 := (rg1_in (hi := 400) (by omega)).mpr hy
      refine br_f hy0.1 (br_f (Int32.not_lt.mpr hy0.2) ?_)
      obtain ⟨n, hn1, hn2, rfl⟩ := id hy
      have hin : ∀ {Φ : Int32 → Prop}, wp_X11_in w 0 1 Φ → wp_X11_in (nI z) 0 9999 (fun r2 => ((r2 = 0 → False) ∧ (¬ (r2 = 0) → wp_X11_in (nI n) 1 400 (fun r4 => ((r4 = 0 → False) ∧ (¬ (r4 = 0) → wp_X11_in w 0 1 Φ)))))) := fun h => cM_in1 (lo := 0) (hi := 9999) (by omega) (by omega) (by omega) (br_f (by decide) (cM_in1 (lo := 1) (hi := 400) (by omega) (by omega) (by omega) (br_f (by decide) h)))
      have hst := isSt_yrs hg hd z n
      have hlt := cst_lt hg hst
      refine cC_isFlag (fun hw => brn_t (by decide) ?_) (fun hw => brn_f rfl ?_)
      · have hmod : ∀ {Φ : Int32 → Prop}, (w = 0 → Φ (nI (yrs g d z n).2)) → (¬ w = 0 → Φ (nI ((yrs g d z n).1 % 8))) → wp_X11_year τ (nI z) (nI n) w Φ := by
          intro Φ a1 a2
          refine cM_in1 (lo := 0) (hi := 9999) (by omega) (by omega) (by omega) (br_f (by decide) (cM_in1 (lo := 1) (hi := 400) (by omega) (by omega) (by omega) (br_f (by decide) (cM_in01 (fun _ => brn_t (by decide) ?_) (fun q => absurd hw q)))))
          intro x4 e4
          have q3 : τ.1 1 3 = nI (aC g) := hM.1 3 (by omega)
          rw [e4, q3]
          refine ⟨fun a b => a = nI (yrs g d z n).1 ∧ b = nI (yrs g d z n).2, fun a b e => ?_, n + 1, cM_year_L hg hd hM (by omega) hn2 ⟨rfl, rfl⟩ n 0 (by omega)⟩
          rw [e.1, e.2]
          have := hst.1
          exact ⟨fun c => cM_yardOf (by omega) (a2 c), a1⟩
        show wp_X10_packed (σ.1 (σ.2.2 0) 8) (-1) 0 _
        rw [hC.2.2.2.1]
        refine cC_packed0 ?_
        have ec : aC g = cst g (yrs g d z 0).1 := by
          have := hg.C
          have := hg.N
          show aC g = cst g (aC g)
          unfold cst
          rw [if_pos (Or.inl (by omega))]
          omega
        rw [ec]
        refine ⟨fun a b => a = nI (cst g (yrs g d z n).1) ∧ b = nI (yrs g d z n).2, fun a b e => ?_, n + 1, cC_year_L hg hd hC hCD (by omega) hn2 ⟨rfl, rfl⟩ n 0 (by omega)⟩
        rw [e.1, e.2]
        refine ⟨fun c => cC_yardOf (by omega) ?_, fun c => hmod (fun _ => rfl) (fun q => absurd c q)⟩
        rw [(cst_parts hg hst).1]
        exact hmod (fun q => absurd q c) (fun _ => rfl)
      · exact cM_in1 (lo := 0) (hi := 9999) (by omega) (by omega) (by omega) (br_f (by decide) (cM_in1 (lo := 1) (hi := 400) (by omega) (by omega) (by omega) (br_f (by decide) (cM_in01 (fun q => absurd q hw) (fun _ => brn_f rfl rfl)))))
    · have hb : wp_X11_year τ (nI z) y w (fun r2 => -1 = r2) := cM_in1 (lo := 0) (hi := 9999) (by omega) (by omega) (by omega) (br_f (by decide) (cM_in1' (hi := 400) (by omega) (fun q => absurd q hy) (fun _ => br_t rfl rfl)))
      refine ⟨fun _ => hb, fun c => ⟨fun _ => hb, fun c2 => absurd ((rg1_in (hi := 400) (by omega)).mp ⟨c, Int32.not_lt.mp c2⟩) hy⟩⟩
  · have hb : wp_X11_year τ x y w (fun r2 => -1 = r2) := cM_in0 (hi := 9999) (by omega) hx (br_t rfl rfl)
    exact ⟨fun _ => hb, fun c => ⟨fun _ => hb, fun c2 => absurd ((rg_gt (hi := 9999) (by omega) c).mpr hx) c2⟩⟩
