theorem RS_keep {g : Nat → Int32} {σ σ2 : Mm} {k : Nat} {p : Nat → Prop} (h : RS g σ k p) (e : ∀ s, s < 960 → RB σ2 k s = RB σ k s) : RS g σ2 k p := fun s hs => by rw [e s hs]; exact h s hs
theorem RS_cong {g : Nat → Int32} {σ : Mm} {k : Nat} {p q : Nat → Prop} (h : RS g σ k p) (e : ∀ m, p m ↔ q m) : RS g σ k q := fun s hs => by
  rw [h s hs]
  exact exists_congr (fun m => and_congr (e m) Iff.rfl)
theorem cC_opening {g d : Nat → Int32} {σ : Mm} {b : Nat} (h : GC g d σ b) {t s n y m0 : Nat} (hs : s < 2 ^ aP g) (ht : t ≤ 9999) (hn1 : 1 ≤ n) (hn : n ≤ 12) (hy : y < 8) (hm0 : isSt g m0) (e1 : σ.1 16 0 = nI t) (e2 : σ.1 16 1 = nI (cst g m0)) {Φ : Int32 → Mm → Prop}
    (h1 : ∀ c, gok g t s 0 m0 (aP g) c → gwk g d t s n y 1 (csu g d (t + 0) m0 c) → (∀ c2, c2 < c → gok g t s 0 m0 (aP g) c2 → ¬ gwk g d t s n y 1 (csu g d (t + 0) m0 c2)) → ∀ σ2, Fr40 σ σ2 → Φ (genc c) σ2)
    (h2 : (∀ c, gok g t s 0 m0 (aP g) c → ¬ gwk g d t s n y 1 (csu g d (t + 0) m0 c)) → ∀ σ2, Fr40 σ σ2 → Φ (-2) σ2) : wp_X0_opening σ b (nI n) (nI y) (nI s) Φ := by
  have hg := h.1
  have hd := h.2.1
  have hc0 := (cst_lt hg hm0).2
  refine cC_clearR (fun σ1 f1 r1 => ?_)
  rw [f1.1 16 (by decide), e2]
  refine cC_addR (k := 0) (by omega) hc0 (fun σ2 f2 r2 => ?_)
  have F2 := f1.trans f2
  have hgrc := fun k => grc_st (t := t) (s := s) hg hd hm0 k
  -- forth
  refine ⟨fun ρ => Fr40 σ ρ ∧ ∀ j, j ≤ n → RS g ρ j (grc g d t s m0 j), fun ρ hρ => ?_, n + 1, ?_⟩
  · obtain ⟨a1, a2⟩ := hρ
    refine cC_leave (h.fr a1) hn hy (hgrc n) (a2 n (Nat.le_refl _)) (fun ρ2 b1 b2 b3 => ?_)
    intro x6 ex6
    have e6 : nI n - 1 = nI (n - 1) := ksub1 hn1
    rw [ex6, e6]
    refine ⟨fun ρ => Fr40 σ ρ ∧ RS g ρ 1 (fun m => grc g d t s m0 1 m ∧ gwk g d t s n y 1 m), fun ρ hρ => ?_, n, ?_⟩
    · obtain ⟨c1, c2⟩ := hρ
      rw [c1.1 16 (by decide), e1, e2]
      have hx : HM g (nI s) s 0 := fun i hi => by
        have hP := hg.P
        have h32 := pow2P hP.2
        rw [kbitI (by omega) (by omega)]
        unfold gmv
        by_cases q : s / 2 ^ i % 2 = 1
        · simp [q]; rfl
        · have : s / 2 ^ i % 2 = 0 := by omega
          simp [this]; rfl
      refine cC_choice (t := t) (k := 0) (win := true) (W := gwk g d t s n y 1) (h.fr c1) hx ht (by omega) hm0 (fun c hc => ?_) (fun c q1 q2 q3 => h1 c q1 (q2.mpr rfl) (fun c2 z1 z2 z3 => q3 c2 z1 z2 ⟨fun _ => rfl, fun _ => z3⟩) ρ c1) (fun q => h2 (fun c z1 z2 => q c z1 ⟨fun _ => rfl, fun _ => z2⟩) ρ c1)
      have hst := csu_st hg hd hm0 hc
      rw [c2 _ (cst_lt hg hst).2]
      constructor
      · rintro ⟨m, ⟨q1, q2⟩, q3⟩
        rw [cst_inj hst (hgrc 1 m q1) q3]
        exact q2
      · intro q
        exact ⟨_, ⟨⟨m0, rfl, c, hc, rfl⟩, q⟩, rfl⟩
    · -- back
      have key : ∀ k (ρ : Mm), k < n → Fr40 σ ρ → (∀ j, j ≤ k → RS g ρ j (grc g d t s m0 j)) → RS g ρ (k + 1) (fun m => grc g d t s m0 (k + 1) m ∧ gwk g d t s n y (k + 1) m) → wp_X0_opening_L69 b (nI s) (fun ρ => Fr40 σ ρ ∧ RS g ρ 1 (fun m => grc g d t s m0 1 m ∧ gwk g d t s n y 1 m)) (k + 1) ρ (nI k) := by
        intro k
        induction k with
        | zero =>
          intro ρ hk c1 c2 c3
          exact br_t (by decide) ⟨c1, c3⟩
        | succ k ih =>
          intro ρ hk c1 c2 c3
          have em : nI (k + 1) + -1 = nI k := pk_m1 k
          have et : nI t + nI (k + 1) = nI (t + (k + 1)) := nI_add t (k + 1)
          unfold wp_X0_opening_L69
          rw [em, c1.1 16 (by decide), e1, et]
          refine br_f (fun q => ?_) (cC_movers (h.fr c1) hs (by omega) (fun x hx => ?_))
          · have := (nI_leI (a := k + 1) (b := 0) (by omega) (by omega)).mp q
            omega
          · refine cC_goBack (h.fr c1) hx ht (by omega) (hgrc (k + 1)) (c2 (k + 1) (Nat.le_refl _)) (W := gwk g d t s n y (k + 1 + 1)) (fun m hm c hc => ?_) (fun ρ2 d1 d2 d3 => ?_)
            · have hst := csu_st hg hd (hgrc (k + 1) m hm) hc
              rw [c3 _ (cst_lt hg hst).2]
              constructor
              · rintro ⟨m2, ⟨q1, q2⟩, q3⟩
                rw [cst_inj hst (hgrc (k + 1 + 1) m2 q1) q3]
                exact q2
              · intro q
                exact ⟨_, ⟨⟨m, hm, c, hc, rfl⟩, q⟩, rfl⟩
            · refine ih ρ2 (by omega) (c1.trans d1) (fun j hj => RS_keep (c2 j (by omega)) (d2 j (by omega))) (RS_cong d3 (fun m => and_congr Iff.rfl ?_))
              exact (gwk_G hk).symm
      obtain ⟨l, rfl⟩ : ∃ l, n = l + 1 := ⟨n - 1, by omega⟩
      refine key l ρ2 (by omega) (a1.trans b1) (fun j hj => RS_keep (a2 j (by omega)) (b2 j (by omega))) (RS_cong b3 (fun m => and_congr Iff.rfl (gwk_end g d t s (l + 1) y m).symm))
  · have key : ∀ r k (ρ : Mm), k + r = n → Fr40 σ ρ → (∀ j, j ≤ k → RS g ρ j (grc g d t s m0 j)) → (∀ j, k < j → j ≤ 12 → RS g ρ j (fun _ => False)) → wp_X0_opening_L22 b (nI n) (nI s) (fun ρ => Fr40 σ ρ ∧ ∀ j, j ≤ n → RS g ρ j (grc g d t s m0 j)) (r + 1) ρ (nI k) := by
      intro r
      induction r with
      | zero =>
        intro k ρ hk c1 c2 c3
        have e : k = n := by omega
        subst e
        exact br_t (nI_le (Nat.le_refl _) (by omega)) ⟨c1, c2⟩
      | succ r ih =>
        intro k ρ hk c1 c2 c3
        have en : nI k + 1 = nI (k + 1) := nI_1 k
        have et : nI t + nI k = nI (t + k) := nI_add t k
        unfold wp_X0_opening_L22
        rw [en, c1.1 16 (by decide), e1, et]
        refine br_f (nI_ge (by omega) (by omega)) (cC_movers (h.fr c1) hs (by omega) (fun x hx => ?_))
        refine cC_goForth (h.fr c1) hx ht (by omega) (hgrc k) (c2 k (Nat.le_refl _)) (c3 (k + 1) (by omega) (by omega)) (fun ρ2 d1 d2 d3 => ?_)
        refine ih (k + 1) ρ2 (by omega) (c1.trans d1) (fun j hj => ?_) (fun j hj hj2 => RS_keep (c3 j (by omega) hj2) (d2 j (by omega)))
        rcases Nat.lt_or_ge j (k + 1) with q | q
        · exact RS_keep (c2 j (by omega)) (d2 j (by omega))
        · have : j = k + 1 := by omega
          subst this
          exact d3
    refine key n 0 σ2 (by omega) F2 (fun j hj => ?_) (fun j hj hj2 => fun s2 hs2 => ?_)
    · have : j = 0 := by omega
      subst this
      intro s2 hs2
      rw [r2 0 s2 hs2, r1 0 s2 (by omega) hs2]
      simp
      exact ⟨fun q => ⟨m0, rfl, q⟩, fun ⟨m, q1, q2⟩ => by rw [q2, q1]⟩
    · rw [r2 j s2 hs2, r1 j s2 hj2 hs2]
      have : j ≠ 0 := by omega
      simp [this]
-- ===== the model's game
def MG (g : Nat → Int32) (τ : Mm) (W : Nat → Prop) : Prop := ∀ m, isSt g m → (W m → τ.1 11 m = 1) ∧ (¬ W m → τ.1 11 m = 0)
def FrW (τ τ2 : Mm) : Prop := ∀ k, k ≠ 11 → k ≠ 12 → τ2.1 k = τ.1 k
theorem FrW.toQ {τ τ2 : Mm} (h : FrW τ τ2) : FrQ τ τ2 := fun k hk => h k (by omega) (by omega)
theorem cM_wonN {τ : Mm} {g d : Nat → Int32} (hg : WFg g) (hd : WFd g d) (hM : FmM τ g d) {W : Nat → Prop} (hW : MG g τ W) {t k m : Nat} (hm : isSt g m) (ht : t ≤ 9999) (hk : k ≤ 100) (h4 : τ.1 4 0 = nI t) {Φ : Int32 → Prop} (h1 : W (csu g d (t + k) m 0) → Φ 1) (h0 : ¬ W (csu g d (t + k) m 0) → Φ 0) : wp_X11_isWonBy τ (nI m) (nI k) (-1) Φ := by
  refine ⟨fun v => v = nI m, fun v ev => ?_, br_f (by decide) rfl⟩
  have e1 : nI t + nI k + 1 = nI (t + k + 1) := by rw [nI_add]; exact nI_1 _
  rw [ev, h4, e1]
  refine cM_after hg hd hM hm (by omega) ?_
  have hst := isSt_aft (t := t + k + 1) hg hd hm
  have hat := hst.1
  obtain ⟨w1, w0⟩ := hW _ hst
  rw [nI_clamp (by omega)]
  refine ⟨b1008 hat, ?_⟩
  by_cases q : W (aft g d m (t + k + 1))
  · rw [w1 q]; exact ⟨kbit_1, h1 q⟩
  · rw [w0 q]; exact ⟨kbit_0, h0 q⟩
theorem cM_wonI {τ : Mm} {g d : Nat → Int32} (hg : WFg g) (hd : WFd g d) (hM : FmM τ g d) {W : Nat → Prop} (hW : MG g τ W) {t k m i : Nat} (hm : isSt g m) (hi : i < aP g) (ht : t ≤ 9999) (hk : k ≤ 100) (h4 : τ.1 4 0 = nI t) {Φ : Int32 → Prop} (h1 : W (csu g d (t + k) m (i + 1)) → Φ 1) (h0 : ¬ W (csu g d (t + k) m (i + 1)) → Φ 0) : wp_X11_isWonBy τ (nI m) (nI k) (nI i) Φ := by
  have hP := hg.P
  have hfs := isSt_fed hg hm hi
  refine ⟨fun v => v = nI (fedm g m i), fun v ev => ?_, br_t (nI_pos' (by omega)) (cM_fedBy hg hM hm.1 hi rfl)⟩
  have e1 : nI t + nI k + 1 = nI (t + k + 1) := by rw [nI_add]; exact nI_1 _
  rw [ev, h4, e1]
  refine cM_after hg hd hM hfs (by omega) ?_
  have hst := isSt_aft (t := t + k + 1) hg hd hfs
  have hat := hst.1
  obtain ⟨w1, w0⟩ := hW _ hst
  rw [nI_clamp (by omega)]
  refine ⟨b1008 hat, ?_⟩
  by_cases q : W (aft g d (fedm g m i) (t + k + 1))
  · rw [w1 q]; exact ⟨kbit_1, h1 q⟩
  · rw [w0 q]; exact ⟨kbit_0, h0 q⟩
theorem cM_canWin {τ : Mm} {g d : Nat → Int32} (hg : WFg g) (hd : WFd g d) (hM : FmM τ g d) {W : Nat → Prop} (hW : MG g τ W) {t k m s : Nat} (hm : isSt g m) (hs : s < 2 ^ aP g) (ht : t ≤ 9999) (hk : k ≤ 100) (h4 : τ.1 4 0 = nI t) {Φ : Int32 → Prop} (h1 : gG g d t s k W m → Φ 1) (h0 : ¬ gG g d t s k W m → Φ 0) : wp_X11_canWin τ (nI m) (nI k) (nI s) Φ := by
  have hP := hg.P
  have h32 := pow2P hP.2
  have q1 : τ.1 1 1 = nI (aP g) := hM.1 1 (by omega)
  -- what is so of the first n persons
  let G := fun n => if k % 2 = 0 then ∃ c, gok g t s k m n c ∧ W (csu g d (t + k) m c) else ∀ c, gok g t s k m n c → W (csu g d (t + k) m c)
  have hG : ∀ n, G n = if k % 2 = 0 then ∃ c, gok g t s k m n c ∧ W (csu g d (t + k) m c) else ∀ c, gok g t s k m n c → W (csu g d (t + k) m c) := fun n => rfl
  have skip : ∀ n, ¬ (gmv s k n ∧ aPlc g n (t + k) = m % 8) → (G (n + 1) ↔ G n) := by
    intro n hno
    have : ∀ c, gok g t s k m (n + 1) c ↔ gok g t s k m n c := fun c => by
      rw [gok_s]
      exact ⟨fun z => z.elim id (fun q => absurd q.2 hno), fun z => Or.inl z⟩
    rw [hG, hG]
    simp only [this]
  have takeE : ∀ n, k % 2 = 0 → gmv s k n → aPlc g n (t + k) = m % 8 → (G (n + 1) ↔ G n ∨ W (csu g d (t + k) m (n + 1))) := by
    intro n ho a1 a2
    rw [hG, hG, if_pos ho, if_pos ho]
    constructor
    · rintro ⟨c, c1, c2⟩
      rcases gok_s.mp c1 with z | ⟨z, -⟩
      · exact Or.inl ⟨c, z, c2⟩
      · subst z; exact Or.inr c2
    · rintro (⟨c, c1, c2⟩ | c2)
      · exact ⟨c, gok_s.mpr (Or.inl c1), c2⟩
      · exact ⟨n + 1, gok_s.mpr (Or.inr ⟨rfl, a1, a2⟩), c2⟩
  have takeO : ∀ n, ¬ k % 2 = 0 → gmv s k n → aPlc g n (t + k) = m % 8 → (G (n + 1) ↔ G n ∧ W (csu g d (t + k) m (n + 1))) := by
    intro n ho a1 a2
    rw [hG, hG, if_neg ho, if_neg ho]
    constructor
    · intro z
      exact ⟨fun c c1 => z c (gok_s.mpr (Or.inl c1)), z _ (gok_s.mpr (Or.inr ⟨rfl, a1, a2⟩))⟩
    · rintro ⟨z1, z2⟩ c c1
      rcases gok_s.mp c1 with z | ⟨z, -⟩
      · exact z1 c z
      · subst z; exact z2
  have key : ∀ (v1 : Int32) (hv : v1 = if decide (k % 2 = 0) then 1 else 0) (r i : Nat) (x5 : Int32), i + r = aP g → ((x5 = 1 ∧ G i) ∨ (x5 = 0 ∧ ¬ G i)) → wp_X11_canWin_L25 (nI m) (nI k) (nI s) τ Φ v1 (r + 1) x5 (nI i) := by
    intro v1 hv r
    induction r with
    | zero =>
      intro i x5 hi hx
      have e : i = aP g := by omega
      subst e
      unfold wp_X11_canWin_L25
      rw [q1]
      refine br_t (nI_le (Nat.le_refl _) (by omega)) ?_
      rcases hx with ⟨rfl, z⟩ | ⟨rfl, z⟩
      · exact ⟨kbit_1, h1 z⟩
      · exact ⟨kbit_0, h0 z⟩
    | succ r ih =>
      intro i x5 hi hx
      have en : nI i + 1 = nI (i + 1) := nI_1 i
      unfold wp_X11_canWin_L25
      rw [q1, en]
      refine br_f (nI_ge (by omega) (by omega)) ⟨fun v => v = v1, fun v ev => ?_, fun c => by rw [c], fun c => ?_⟩
      · rw [ev]
        refine ⟨fun v => wp_X11_canWin_L25 (nI m) (nI k) (nI s) τ Φ v1 (r + 1) v (nI (i + 1)), fun _ z => z, ?_⟩
        have hbit : ((nI s >>> (nI i &&& 31)) &&& 1) = v1 ↔ gmv s k i = true := by
          have hgm : gmv s k i = true ↔ ((s / 2 ^ i % 2 = 1) ↔ (k % 2 = 0)) := by unfold gmv; exact decide_eq_true_iff
          rw [kbitI (by omega) (by omega), hv, hgm]
          by_cases ho : k % 2 = 0
          · rw [decide_eq_true ho]
            have := nI_eq (a := s / 2 ^ i % 2) (b := 1) (by omega) (by omega)
            show nI (s / 2 ^ i % 2) = nI 1 ↔ _
            rw [this]
            omega
          · rw [decide_eq_false ho]
            have := nI_eq (a := s / 2 ^ i % 2) (b := 0) (by omega) (by omega)
            show nI (s / 2 ^ i % 2) = nI 0 ↔ _
            rw [this]
            omega
        rw [hbit, h4, nI_add]
        have sk : ¬ (gmv s k i ∧ aPlc g i (t + k) = m % 8) → wp_X11_canWin_L25 (nI m) (nI k) (nI s) τ Φ v1 (r + 1) x5 (nI (i + 1)) := fun hno => ih (i + 1) x5 (by omega) (by rw [skip i hno]; exact hx)
        refine ⟨fun c => sk (fun q => c q.1), fun c => cM_mayFeed hg hM hm.1 (by omega) (by omega) ?_⟩
        by_cases hp : aPlc g i (t + k) = m % 8
        · rw [if_pos hp]
          refine br_f (by decide) ⟨fun v => wp_X11_canWin_L25 (nI m) (nI k) (nI s) τ Φ v1 (r + 1) v (nI (i + 1)), fun _ z => z, ?_⟩
          by_cases ho : k % 2 = 0
          · have hT := takeE i ho c hp
            rw [decide_eq_true ho] at hv
            refine br_f (by rw [hv]; decide) ⟨G (i + 1), fun z => ih (i + 1) 1 (by omega) (Or.inl ⟨rfl, z⟩), ?_⟩
            rcases hx with ⟨rfl, z⟩ | ⟨rfl, z⟩
            · exact brn_t (by decide) (hT.mpr (Or.inl z))
            · refine brn_f rfl (cM_wonI hg hd hM hW hm (by omega) ht hk h4 (fun w => br_f (by decide) (hT.mpr (Or.inr w))) (fun w => br_t rfl (ih (i + 1) 0 (by omega) (Or.inr ⟨rfl, fun y => (hT.mp y).elim z w⟩))))
          · have hT := takeO i ho c hp
            rw [decide_eq_false ho] at hv
            refine br_t (by rw [hv]; rfl) ⟨¬ G (i + 1), fun z => ih (i + 1) 0 (by omega) (Or.inr ⟨rfl, z⟩), ?_⟩
            rcases hx with ⟨rfl, z⟩ | ⟨rfl, z⟩
            · refine br_f (by decide) (cM_wonI hg hd hM hW hm (by omega) ht hk h4 (fun w => br_f (by decide) (ih (i + 1) 1 (by omega) (Or.inl ⟨rfl, hT.mpr ⟨z, w⟩⟩))) (fun w => br_t rfl (fun y => w (hT.mp y).2)))
            · exact br_t rfl (fun y => z (hT.mp y).1)
        · rw [if_neg hp]
          exact br_t rfl (sk (fun q => hp q.2))
      · rw [hv] at c ⊢
        by_cases ho : k % 2 = 0
        · rw [decide_eq_true ho]; rfl
        · rw [decide_eq_false ho] at c; exact absurd rfl c
  have h0G : G 0 ↔ W (csu g d (t + k) m 0) := by
    rw [hG]
    have : ∀ c, gok g t s k m 0 c ↔ c = 0 := fun c => by
      cases c with
      | zero => exact ⟨fun _ => rfl, fun _ => trivial⟩
      | succ i => exact ⟨fun z => absurd z.1 (Nat.not_lt_zero i), fun z => by omega⟩
    simp only [this]
    by_cases ho : k % 2 = 0
    · rw [if_pos ho]; simp
    · rw [if_neg ho]; simp
  refine ⟨fun v => v = if decide (k % 2 = 0) then 1 else 0, fun v ev => ?_, ?_⟩
  · refine cM_wonN hg hd hM hW hm ht hk h4 (fun z => ⟨aP g + 1, key v ev (aP g) 0 1 (by omega) (Or.inl ⟨rfl, h0G.mpr z⟩)⟩) (fun z => ⟨aP g + 1, key v ev (aP g) 0 0 (by omega) (Or.inr ⟨rfl, fun y => z (h0G.mp y)⟩)⟩)
  · rw [nI_mod2 (by omega)]
    exact ⟨fun c => by rw [decide_eq_false c]; rfl, fun c => by rw [decide_eq_true c]; rfl⟩
