def FrQ (τ τ2 : Mm) : Prop := ∀ k, k < 9 ∨ 12 < k → τ2.1 k = τ.1 k
theorem FrP.toQ {τ τ2 : Mm} (h : FrP τ τ2) : FrQ τ τ2 := fun k hk => h k (by omega) (by omega)
/-- the relation when nothing but the search and the model's rows of costs and wins have changed -/
theorem RelG_Q {g d : Nat → Int32} {σ σ2 τ τ2 : Mm} (h : RelG g d σ τ) (hs : FrS σ σ2) (hok : okC σ2.2.2) (hne : σ2.2.2 2 ≠ σ2.2.2 3) {L1 L2 : List Nat} {F1 F2 : Nat → Option Nat} (f1 : FIL g σ2 (σ2.2.2 2) L1 F1) (f2 : FIL g σ2 (σ2.2.2 3) L2 F2) (hτ : FrQ τ τ2) : RelG g d σ2 τ2 := by
  have h1 := RelG_S (τ2 := τ) h hs hok hne f1 f2 rfl
  obtain ⟨⟨a1, a2, a3, a4, a5, a6, a7, a8⟩, hT, hN, hD, hK, hG, hS, hf1, hf2⟩ := h1
  refine ⟨⟨a1, a2, a3, a4, a5, a6, a7, a8.of (hτ 1 (by omega)) (hτ 2 (by omega))⟩, ?_, ?_, ?_, ?_, ?_, ?_, hf1, hf2⟩
  · rw [hτ 0 (by omega), hτ 3 (by omega)]; exact hT
  · rw [hτ 4 (by omega)]; exact hN
  · rw [hτ 0 (by omega), hτ 5 (by omega)]; exact hD
  · rw [hτ 0 (by omega), hτ 6 (by omega)]; exact hK
  · rw [hτ 0 (by omega), hτ 7 (by omega), hτ 8 (by omega)]; exact hG
  · rw [hτ 0 (by omega), hτ 13 (by omega), hτ 14 (by omega)]; exact hS
theorem upB_anti {gs : List (Nat × Nat)} {a b : Nat} (h1 : upB gs a b = true) (h2 : upB gs b a = true) : a = b := by
  unfold upB at h1 h2
  have := of_decide_eq_true h1
  have := of_decide_eq_true h2
  omega
theorem lastG_ex {gs : List (Nat × Nat)} (h : gs ≠ []) : ∃ G, G < gs.length ∧ ∀ j, j < gs.length → upB gs j G = true := by
  have key : ∀ n, 0 < n → ∃ G, G < n ∧ ∀ j, j < n → upB gs j G = true := by
    intro n
    induction n with
    | zero => intro q; omega
    | succ n ih =>
      intro _
      have hself : upB gs n n = true := by unfold upB; simp
      rcases Nat.eq_zero_or_pos n with e | e
      · subst e
        exact ⟨0, by omega, fun j hj => by have : j = 0 := by omega
                                           subst this; exact hself⟩
      · obtain ⟨G, h1, h2⟩ := ih e
        cases hu : upB gs n G with
        | true =>
          refine ⟨G, by omega, fun j hj => ?_⟩
          rcases Nat.lt_or_ge j n with q | q
          · exact h2 j q
          · have : j = n := by omega
            subst this; exact hu
        | false =>
          refine ⟨n, by omega, fun j hj => ?_⟩
          rcases Nat.lt_or_ge j n with q | q
          · have h3 := h2 j q
            unfold upB at h3 hu ⊢
            have a1 := of_decide_eq_true h3
            have a2 := of_decide_eq_false hu
            exact decide_eq_true (by omega)
          · have : j = n := by omega
            subst this; exact hself
  exact key gs.length (List.length_pos_iff.mpr h)
def lstV (L : List Nat) (F : Nat → Option Nat) (T : Nat) : Prop := (∃ m, m ∈ L ∧ F m = some T) ∧ ∀ m u, m ∈ L → F m = some u → T ≤ u
theorem cC_cheapest {σ : Mm} {g d : Nat → Int32} {b : Nat} (hb : kFm b) (hg : WFg g) (hd : WFd g d) (hC : FmC σ b g) (hCD : FmD σ b g d) (hok : okC σ.2.2) (hne : σ.2.2 2 ≠ σ.2.2 3) (h1 : FrR (σ.1 32 2) (σ.1 33) (σ.2.1 34)) (h2 : FrR (σ.1 35 2) (σ.1 36) (σ.2.1 37)) {gs : List (Nat × Nat)} (hT : TdC σ 25 gs) (hl : lastA gs ≤ 40) {m0 t : Nat} (hm0 : isSt g m0) (ht : t ≤ 9999) (e1 : σ.1 16 0 = nI t) (e2 : σ.1 16 1 = nI (cst g m0)) {Φ : Int32 → Mm → Prop}
    (hnil : gs = [] → ∀ σ2 L1 F1 L2 F2, FrS σ σ2 → okC σ2.2.2 → σ2.2.2 2 ≠ σ2.2.2 3 → FIL g σ2 (σ2.2.2 2) L1 F1 → FIL g σ2 (σ2.2.2 3) L2 F2 → lstV L1 F1 0 → Φ (-4) σ2)
    (hbar : ∀ i, i < gs.length → 999999 ≤ gV g d gs t m0 i → (∀ j, j < gs.length → 999999 ≤ gV g d gs t m0 j → upB gs i j = true) → (∀ G, G < gs.length → (∀ j, j < gs.length → upB gs j G = true) → 999999 ≤ gV g d gs t m0 G) → ∀ σ2 L1 F1 L2 F2, FrS σ σ2 → okC σ2.2.2 → σ2.2.2 2 ≠ σ2.2.2 3 → FIL g σ2 (σ2.2.2 2) L1 F1 → FIL g σ2 (σ2.2.2 3) L2 F2 → Φ (nI i) σ2)
    (hend : ∀ G c T, G < gs.length → (∀ j, j < gs.length → upB gs j G = true) → (∀ j, j < gs.length → gV g d gs t m0 j < 999999) → (gAt gs G = 0 → T = 0) → (gAt gs G ≠ 0 → fstC g d t (gW g d gs t G 1) m0 c ∧ T = 8 * gV g d gs t m0 G + c) → ∀ σ2 L1 F1 L2 F2, FrS σ σ2 → okC σ2.2.2 → σ2.2.2 2 ≠ σ2.2.2 3 → FIL g σ2 (σ2.2.2 2) L1 F1 → FIL g σ2 (σ2.2.2 3) L2 F2 → lstV L1 F1 T → Φ (-4) σ2) : wp_X7_cheapest σ b 25 Φ := by
  refine cC_begin (kd := 0) hb hg hd hC hCD hok hne h1 h2 (by omega) lo99 (fun σ1 s1 sc f1 f2 => ?_)
  have hokC := sc.2.2.2.2.2.1
  have hne1 := sc.2.2.2.2.2.2.1
  rw [s1.1 16 (by omega), e2]
  refine cC_put (v := 0) (op := kOp 0) hg f1 hm0 (by omega) (Or.inr ⟨by decide, fun u w => kOp0 u w⟩) (fun u hu => by cases hu) (fun σ2 L2 g1 g2 => ?_)
  have er : σ2.2.2 = σ1.2.2 := g1.2.2
  obtain ⟨p1, p2, p3⟩ := Fr_other hokC.2.2.2 hokC.2.2.1 (Ne.symm hne1) g1
  have s2 := s1.trans (g1.toS hokC.2.2.1)
  rw [s2.1 16 (by omega), e1]
  have hFx : ∀ x, ptF (kOp 0) (fun _ => none) m0 0 x = if x = m0 then some 0 else none := fun x => by unfold ptF; rfl
  have hL2 : L2 = [m0] := by
    have hm : ∀ x, x ∈ L2 ↔ x = m0 := fun x => by
      rw [g2.2.2.2.2.1 x, hFx x]
      by_cases q : x = m0 <;> simp [q]
    have hnd := g2.2.2.1
    cases L2 with
    | nil => exact absurd ((hm m0).mpr rfl) (by simp)
    | cons a l =>
      have ha := (hm a).mp List.mem_cons_self
      cases l with
      | nil => rw [ha]
      | cons a2 l2 =>
        have ha2 := (hm a2).mp (by simp)
        rw [ha, ha2] at hnd
        simp at hnd
  by_cases hgs : gs = []
  · -- no goals
    have hlz : lastA gs = 0 := by rw [hgs]; rfl
    refine cC_follow (opn := true) (gs := gs) (Or.inl rfl) ht (fun k L F => L = [m0] ∧ F m0 = some 0) (sc.fr hokC.2.2.1 g1) (hT.of (fun k _ _ => s2.1 k (by omega))) hl (by rw [er]; exact g2) (by rw [er]; exact f2.of p1 p2 p3) ⟨hL2, by rw [hFx]; simp⟩ ?_ ?_ ?_
    · intro k L F hk; omega
    · intro k L F i y _ _ hi; rw [hgs] at hi; simp at hi
    · intro L F hI _ σ3 b1 b2 b3 b4 b5
      refine hnil hgs σ3 _ _ _ _ (s2.trans b1) b2 b3 b4 b5 ⟨⟨m0, ?_, ?_⟩, fun m u _ _ => Nat.zero_le _⟩
      · rw [hI.1, hgs]; unfold fitU; simp
      · show (if fitU gs (lastA gs) gs.length m0 = true then F m0 else none) = some 0
        have : fitU gs (lastA gs) gs.length m0 = true := by rw [hgs]; unfold fitU; simp
        rw [if_pos this]; exact hI.2
  · obtain ⟨Gl, hGl, hup⟩ := lastG_ex hgs
    have hlG := lastA_G hGl hup
    obtain ⟨c, hc⟩ := fstC_ex (d := d) hg (t := t) (gW_B (d := d) hg gs t Gl 1 (by omega)) m0
    refine cC_follow (opn := true) (gs := gs) (Or.inl rfl) ht (ChI g d gs t m0 Gl c) (sc.fr hokC.2.2.1 g1) (hT.of (fun k _ _ => s2.1 k (by omega))) hl (by rw [er]; exact g2) (by rw [er]; exact f2.of p1 p2 p3) ?_ ?_ ?_ ?_
    · refine ⟨by rw [hL2]; simp, g2.2.2.2.2.1, g2.2.2.2.1, fun m v hv => ?_, fun _ => ⟨hL2, by rw [hFx]; simp⟩, fun q => by omega, fun G hG _ => ?_, fun G _ q => by omega⟩
      · rw [hFx] at hv
        by_cases q : m = m0
        · rw [if_pos q] at hv; cases hv; omega
        · rw [if_neg q] at hv; cases hv
      · rw [hL2]
        constructor
        · rintro ⟨m, hm, hw⟩
          rw [List.mem_singleton.mp hm] at hw
          exact hw
        · intro hw
          exact ⟨m0, by simp, hw⟩
    · intro k L F hk hI hnb
      exact hI.step hg hd hGl hup hl (fun _ => hc) hk hnb
    · intro k L F i y hk hI hi hnil' hmin σ3 b1 b2 b3 b4 b5
      have hil := (List.getElem?_eq_some_iff.mp hi).1
      have hat : gAt gs i = k := by
        have h5 := gs_at hil
        rw [hi] at h5
        exact (congrArg Prod.snd (Option.some.inj h5)).symm
      have hfn := filt_nil hnil'
      have hVi : 999999 ≤ gV g d gs t m0 i := by
        apply Classical.byContradiction
        intro q
        obtain ⟨m, hm, hw⟩ := (hI.br i hil (by omega)).mpr (by omega)
        subst hat
        rw [gW_end hil (hI.st m hm), hfn m hm] at hw
        simp at hw
      refine hbar i hil hVi (fun j hj hVj => ?_) (fun G hG hupG => ?_) σ3 _ _ _ _ (s2.trans b1) b2 b3 b4 b5
      · unfold upB
        refine decide_eq_true ?_
        have hj1 : ¬ gAt gs j < k := fun q => by have := hI.dn j hj q; omega
        by_cases hj2 : gAt gs j = k ∧ j < i
        · obtain ⟨m, hm, hw⟩ := filt_ne (hmin j (gYd gs j) hj2.2 (by rw [gs_at hj, hj2.1]))
          have : gV g d gs t m0 j < 999999 := (hI.br j hj (by omega)).mp ⟨m, hm, by
            have e := hj2.1
            subst e
            rw [gW_end hj (hI.st m hm), hw]
            simp⟩
          omega
        · omega
      · apply Classical.byContradiction
        intro q
        have hGlast := lastA_G hG hupG
        obtain ⟨m, hm, hw⟩ := (hI.br G hG (by omega)).mpr (by omega)
        have hff := hfn m hm
        rcases Nat.lt_or_ge k (gAt gs G) with z | z
        · rw [gW_step z (hI.st m hm)] at hw
          cases hft : fitU gs k gs.length m with
          | true =>
            have := fitU_mono (n2 := i + 1) (by omega) hft
            rw [this] at hff
            cases hff
          | false => rw [hft] at hw; simp at hw
        · have hk2 : k = gAt gs G := by omega
          have h5 := hupG i hil
          unfold upB at h5
          have h6 := of_decide_eq_true h5
          subst hk2
          rw [gW_end hG (hI.st m hm)] at hw
          cases hft : fitU gs (gAt gs G) (G + 1) m with
          | true =>
            have := fitU_mono (n2 := i + 1) (by omega) hft
            rw [this] at hff
            cases hff
          | false => rw [hft] at hw; simp at hw
    · intro L F hI hnb σ3 b1 b2 b3 b4 b5
      have hall : ∀ j, j < gs.length → gV g d gs t m0 j < 999999 := fun j hj => by
        have := gAt_le hj
        rcases Nat.lt_or_ge (gAt gs j) (lastA gs) with q | q
        · exact hI.dn j hj q
        · exact hI.fin hnb hj (by omega)
      have hfin := hall Gl hGl
      have hWl : ∀ m, m ∈ L → gW g d gs t Gl (lastA gs) m = if fitU gs (lastA gs) gs.length m then 0 else 999999 := fun m hm => by
        rw [hlG, gW_end hGl (hI.st m hm)]
        have : ftU gs Gl (gAt gs Gl) gs.length m = fitU gs (gAt gs Gl) gs.length m := ftU_all hup _ m
        rw [ftU_eq hGl m] at this
        rw [this]
      have hmem : ∀ m, m ∈ L.filter (fitU gs (lastA gs) gs.length) ↔ m ∈ L ∧ fitU gs (lastA gs) gs.length m = true := fun m => List.mem_filter
      rcases Nat.eq_zero_or_pos (lastA gs) with q | q
      · obtain ⟨z1, z2⟩ := hI.z q
        refine hend Gl c 0 hGl hup hall (fun _ => rfl) (fun q2 => by omega) σ3 _ _ _ _ (s2.trans b1) b2 b3 b4 b5 ⟨⟨m0, ?_, ?_⟩, fun m u _ _ => Nat.zero_le _⟩
        · obtain ⟨m, hm, hw⟩ := filt_ne (nonbar hnb hI.ne)
          rw [z1] at hm
          rw [List.mem_singleton.mp hm] at hw
          exact (hmem m0).mpr ⟨by rw [z1]; simp, hw⟩
        · obtain ⟨m, hm, hw⟩ := filt_ne (nonbar hnb hI.ne)
          rw [z1] at hm
          rw [List.mem_singleton.mp hm] at hw
          show (if fitU gs (lastA gs) gs.length m0 = true then F m0 else none) = some 0
          rw [if_pos hw]; exact z2
      · obtain ⟨l1, m, v, l2, l3, l4, l5⟩ := hI.lb q hfin
        refine hend Gl c _ hGl hup hall (fun q2 => by omega) (fun _ => ⟨hc, rfl⟩) σ3 _ _ _ _ (s2.trans b1) b2 b3 b4 b5 ⟨⟨m, ?_, ?_⟩, fun m u hm hu => ?_⟩
        · rw [hWl m l2] at l4
          cases hft : fitU gs (lastA gs) gs.length m with
          | true => exact (hmem m).mpr ⟨l2, hft⟩
          | false => rw [hft] at l4; simp at l4
        · show (if fitU gs (lastA gs) gs.length m = true then F m else none) = some _
          rw [hWl m l2] at l4 l5
          cases hft : fitU gs (lastA gs) gs.length m with
          | true =>
            rw [hft] at l5
            simp at l5
            rw [l5]
            simp [l3]
          | false => rw [hft] at l4; simp at l4
        · obtain ⟨z1, z2⟩ := (hmem m).mp hm
          have hu' : F m = some u := by
            have : (if fitU gs (lastA gs) gs.length m = true then F m else none) = some u := hu
            rw [if_pos z2] at this
            exact this
          have := l1 m u z1 hu' (by rw [hWl m z1, z2]; simp)
          rw [hWl m z1, z2] at this
          simp at this
          exact this
theorem gV_eq (g d : Nat → Int32) (gs : List (Nat × Nat)) (t m0 G : Nat) : Vf g d t (fun k m => ftU gs G k gs.length m) (gAt gs G) (gAt gs G) m0 = gV g d gs t m0 G := rfl
theorem gV_B {g d : Nat → Int32} (hg : WFg g) {gs : List (Nat × Nat)} (t m0 : Nat) {G : Nat} (hl : lastA gs ≤ 40) (hG : G < gs.length) : gV g d gs t m0 G ≤ 100000 ∨ gV g d gs t m0 G = 999999 := Vf_B hg t _ _ (by have := gAt_le hG; omega) m0
theorem lN_div8 {T : Nat} (h : T < 1000000) : (lN T / 8).toInt32 = nI (T / 8) := by
  have : lN T / lN 8 = lN (T / 8) := pk_lDiv (by omega) (by omega) (by omega)
  show (lN T / lN 8).toInt32 = _
  rw [this]
  exact lN_i _
theorem op_price {σ τ : Mm} (h : Rel σ τ) : wp_X10_price σ (fun r σ2 => wp_X11_price τ (fun r2 τ2 => r = r2 ∧ Rel σ2 τ2)) := by
  obtain ⟨g, d, hR⟩ := h
  obtain ⟨gs, t1, t2, t3⟩ := goals_of hR
  obtain ⟨⟨hg, hd, hok, h01, h23, hC, hCD, hM⟩, -, ⟨mi, m, fe, hmi, hm, n1, n2, n3, n4, n5, n6⟩, -, -, -, -, hf1, hf2⟩ := id hR
  have h6 := t2.1
  refine cC_cheapest hok.1 hg hd hC hCD hok h23 hf1 hf2 t1 t3 hm hmi n1 n2 (fun hnil σ2 L1 F1 L2 F2 a1 a2 a3 a4 a5 a6 => brn_f rfl ?_) (fun i hi hV hmin hG σ2 L1 F1 L2 F2 a1 a2 a3 a4 a5 => brn_t ?_ ?_) (fun G c T hG hup hall hT0 hT1 σ2 L1 F1 L2 F2 a1 a2 a3 a4 a5 a6 => brn_f rfl ?_)
  · refine cC_least hg a4 a6.1 a6.2 (cM_lastGoal t2 (fun _ => br_f (by decide) (br_t (by decide) ⟨rfl, g, d, RelG_S hR a1 a2 a3 a4 a5 rfl⟩)) (fun G hG _ => ?_))
    rw [hnil] at hG
    exact absurd hG (Nat.not_lt_zero G)
  · intro q
    have q1 : (nI i).toInt = (-4 : Int32).toInt := by rw [q]
    rw [nI_toInt (by omega)] at q1
    have q2 : (-4 : Int32).toInt = -4 := by decide
    omega
  · refine cM_lastGoal t2 (fun q => ?_) (fun G hGl hup => ?_)
    · rw [q] at hi; exact absurd hi (Nat.not_lt_zero i)
    · refine cM_priceTo hg hd hM t2 hGl hm hmi n4 n5 (fun τ2 b1 b2 => ?_)
      rw [gV_eq]
      have := hG G hGl hup
      have := gV_B (d := d) hg mi m t3 hGl
      rw [FAR_lt (by omega)]
      exact br_f (by omega) ⟨rfl, g, d, RelG_Q hR a1 a2 a3 a4 a5 b1.toQ⟩
  · refine cC_least hg a4 a6.1 a6.2 (cM_lastGoal t2 (fun q => ?_) (fun G2 hG2 hup2 => ?_))
    · rw [q] at hG; exact absurd hG (Nat.not_lt_zero G)
    · have eG : G2 = G := upB_anti (hup G2 hG2) (hup2 G hG)
      subst eG
      refine cM_priceTo hg hd hM t2 hG hm hmi n4 n5 (fun τ2 b1 b2 => ?_)
      rw [gV_eq]
      have hv := hall G2 hG
      have hB := gV_B (d := d) hg mi m t3 hG
      rw [FAR_lt (by omega)]
      refine br_t hv ⟨?_, g, d, RelG_Q hR a1 a2 a3 a4 a5 b1.toQ⟩
      by_cases hz : gAt gs G2 = 0
      · rw [hT0 hz]
        have : gV g d gs mi m G2 = 0 := by
          unfold gV at hv ⊢
          rw [hz, Vf_0] at hv ⊢
          by_cases q : (stB g m && gft gs G2 0 m) = true
          · rw [if_pos q]
          · rw [if_neg q] at hv; omega
        rw [this]
        rfl
      · obtain ⟨c1, c2⟩ := hT1 hz
        have hc5 := (cwt_le hg c1.1).2
        have := lN_div8 (T := T) (by omega)
        rw [this]
        congr 1
        omega
