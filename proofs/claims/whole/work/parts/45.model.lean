def MW (τ : Mm) (w : Nat → Nat) : Prop := ∀ s, s < 1008 → τ.2.1 15 s = lN (w s) ∧ w s < 2 ^ 62
theorem b1008 {i : Nat} (h : i < 1008) : (0 ≤ nI i ∧ nI i < 1008) := ⟨nI_pos' (by omega), (nI_ltI (a := i) (b := 1008) (by omega) (by omega)).mpr h⟩
theorem n1008 {i : Nat} (h : i < 1008) : ¬ ((1008 : Int32) ≤ nI i) := nI_ge (b := 1008) h (by omega)
theorem cM_startWays {τ : Mm} {m : Nat} (hm : m < 1008) {Φ : Mm → Prop} (h : ∀ τ2 : Mm, τ2.1 = τ.1 → MW τ2 (fun s => if s = m then 1 else 0) → Φ τ2) : wp_X11_startWays τ (nI m) Φ := by
  have key : ∀ r i (ρ : Mm), i + r = 1008 → ρ.1 = τ.1 → (∀ s, s < i → ρ.2.1 15 s = lN (if s = m then 1 else 0)) → wp_X11_startWays_L2 (nI m) Φ (r + 1) ρ (nI i) := by
    intro r
    induction r with
    | zero =>
      intro i ρ hi a1 a2
      have e : i = 1008 := by omega
      subst e
      exact br_t (by decide) (h ρ a1 (fun s hs => ⟨a2 s hs, by dsimp only; split <;> omega⟩))
    | succ r ih =>
      intro i ρ hi a1 a2
      have hi' : i < 1008 := by omega
      have en : nI i + 1 = nI (i + 1) := nI_1 i
      unfold wp_X11_startWays_L2
      rw [nI_clamp (by omega), en, nI_eq (by omega) (by omega)]
      refine br_f (n1008 hi') ⟨fun v => v = lN (if i = m then 1 else 0), fun v ev => ⟨b1008 hi', fun ρ2 e2 => ?_⟩, fun c => by rw [if_neg c]; rfl, fun c => by rw [if_pos c]; rfl⟩
      subst ev e2
      refine ih (i + 1) _ (by omega) a1 (fun s hs => ?_)
      rw [kwl_same]
      by_cases e : s = i
      · subst e; exact pk_uLs
      · rw [pk_uLn e]; exact a2 s (by omega)
  exact ⟨1009, key 1008 0 τ (by omega) rfl (fun s hs => by omega)⟩
/-- sights, as the model holds them -/
def TdM (τ : Mm) (c ry ra : Nat) (gs : List (Nat × Nat)) : Prop := gs.length ≤ 6 ∧ τ.1 0 c = nI gs.length ∧ ∀ i y a, gs[i]? = some (y, a) → y < 8 ∧ a ≤ 40 ∧ τ.1 ry i = nI y ∧ τ.1 ra i = nI a
theorem TdM.of {τ τ2 : Mm} {c ry ra : Nat} {gs : List (Nat × Nat)} (h : TdM τ c ry ra gs) (e : τ2.1 = τ.1) : TdM τ2 c ry ra gs := by
  unfold TdM at *
  rw [e]
  exact h
theorem cM_bar {τ : Mm} {gs : List (Nat × Nat)} (ht : TdM τ 21 13 14 gs) {w : Nat → Nat} (hw : MW τ w) {k : Nat} (hk : k ≤ 40) {Φ : Mm → Prop} (h : ∀ τ2 : Mm, τ2.1 = τ.1 → MW τ2 (fun s => if fitU gs k gs.length s then w s else 0) → Φ τ2) : wp_X11_bar τ (nI k) Φ := by
  have inner : ∀ (K : Mm → Prop) (q : Nat) (y a : Nat), gs[q]? = some (y, a) → ∀ (ρ0 : Mm), ρ0.1 = τ.1 → MW ρ0 (fun s => if fitU gs k q s then w s else 0) → (∀ ρ2 : Mm, ρ2.1 = τ.1 → MW ρ2 (fun s => if fitU gs k (q + 1) s then w s else 0) → K ρ2) → ∀ r i (ρ : Mm), i + r = 1008 → ρ.1 = τ.1 → (∀ s, s < 1008 → ρ.2.1 15 s = lN (if fitU gs k (if s < i then q + 1 else q) s then w s else 0)) → wp_X11_bar_L12 (nI k) (nI q) K (r + 1) ρ (nI i) := by
    intro K q y a hq ρ0 _ _ hK r
    obtain ⟨y1, y2, e1, e2⟩ := ht.2.2 q y a hq
    have hql := (List.getElem?_eq_some_iff.mp hq).1
    have h6 := ht.1
    have hfs := fitU_s hq k
    induction r with
    | zero =>
      intro i ρ hi a1 a2
      have e : i = 1008 := by omega
      subst e
      refine br_t (by decide) (hK ρ a1 (fun s hs => ⟨?_, ?_⟩))
      · rw [a2 s hs, if_pos hs]
      · have := (hw s hs).2
        show (if fitU gs k (q + 1) s = true then w s else 0) < 2 ^ 62
        split <;> omega
    | succ r ih =>
      intro i ρ hi a1 a2
      have hi' : i < 1008 := by omega
      have en : nI i + 1 = nI (i + 1) := nI_1 i
      have b6 : (0 ≤ nI q ∧ nI q < 6) := ⟨nI_pos' (by omega), (nI_ltI (a := q) (b := 6) (by omega) (by omega)).mpr (by omega)⟩
      have hcur := a2 i hi'
      rw [if_neg (Nat.lt_irrefl i)] at hcur
      have next : ∀ v, v = lN (if fitU gs k (q + 1) i then w i else 0) → wp_X11_bar_L12 (nI k) (nI q) K (r + 1) (kwl ρ 15 i v) (nI (i + 1)) := by
        intro v ev
        subst ev
        refine ih (i + 1) _ (by omega) a1 (fun s hs => ?_)
        rw [kwl_same]
        by_cases e : s = i
        · subst e
          have : s < s + 1 := by omega
          rw [pk_uLs]
          simp only [this, if_true]
        · rw [pk_uLn e, a2 s hs]
          have : (s < i + 1) = (s < i) := propext (by omega)
          simp only [this]
      unfold wp_X11_bar_L12
      rw [nI_clamp (by omega), nI_clamp (by omega), en, a1, e1, e2, hcur]
      refine br_f (n1008 hi') ⟨b6, fun v => wp_X11_bar_L12 (nI k) (nI q) K (r + 1) (kwl ρ 15 i v) (nI (i + 1)), fun v hv => ⟨b1008 hi', fun ρ2 e2 => by rw [e2]; exact hv⟩, ?_⟩
      refine ⟨decide (a = k → y = i % 8) = true, fun hd => ⟨b1008 hi', next _ ?_⟩, fun c => ?_, fun c => ?_⟩
      · rw [hfs i, hd, Bool.and_true]
      · have c' : ¬ a = k := fun z => c (by rw [z])
        simp [c']
      · have c' : a = k := (nI_eq (by omega) (by omega)).mp c
        refine cM_yardOf (by omega) ⟨b6, fun c2 => ?_, fun c2 => next _ ?_⟩
        · have := (nI_eq (by omega) (by omega)).mp c2
          simp [this]
        · have c2' : ¬ (y = i % 8) := fun z => c2 (by rw [z])
          rw [hfs i]
          have : decide (a = k → y = i % 8) = false := by simp [c', c2']
          rw [this, Bool.and_false]
          rfl
  have key : ∀ r q (ρ : Mm), q + r = gs.length → ρ.1 = τ.1 → MW ρ (fun s => if fitU gs k q s then w s else 0) → wp_X11_bar_L2 (nI k) Φ (r + 1) ρ (nI q) := by
    have h6 := ht.1
    intro r
    induction r with
    | zero =>
      intro q ρ hq a1 a2
      have e : q = gs.length := by omega
      subst e
      unfold wp_X11_bar_L2
      rw [a1, ht.2.1]
      exact br_t (nI_le (Nat.le_refl _) (by omega)) (h ρ a1 a2)
    | succ r ih =>
      intro q ρ hq a1 a2
      have hql : q < gs.length := by omega
      have hm : gs[q]? = some gs[q] := List.getElem?_eq_getElem hql
      generalize gs[q] = p at hm
      obtain ⟨y, a⟩ := p
      have en : nI q + 1 = nI (q + 1) := nI_1 q
      unfold wp_X11_bar_L2
      rw [a1, ht.2.1, en]
      refine br_f (nI_ge hql (by omega)) ⟨fun ρ2 => wp_X11_bar_L2 (nI k) Φ (r + 1) ρ2 (nI (q + 1)), fun _ z => z, 1009, ?_⟩
      refine inner _ q y a hm ρ a1 a2 (fun ρ2 b1 b2 => ih (q + 1) ρ2 (by omega) b1 b2) 1008 0 ρ (by omega) a1 (fun s hs => ?_)
      rw [if_neg (Nat.not_lt_zero s)]
      exact (a2 s hs).1
  refine ⟨gs.length + 1, key gs.length 0 τ (by omega) rfl (fun s hs => ?_)⟩
  have e0 : fitU gs k 0 s = true := by unfold fitU; simp
  show τ.2.1 15 s = lN (if fitU gs k 0 s then w s else 0) ∧ _
  simp only [e0, if_true]
  exact hw s hs
theorem FmM.of1 {τ τ2 : Mm} {g d : Nat → Int32} (h : FmM τ g d) (e : τ2.1 = τ.1) : FmM τ2 g d := h.of (by rw [e]) (by rw [e])
/-- a minute of ways -/
theorem cM_goOn {τ : Mm} {g d : Nat → Int32} (hg : WFg g) (hd : WFd g d) (hM : FmM τ g d) {w : Nat → Nat} (hw : MW τ w) (hsup : ∀ s, w s ≠ 0 → isSt g s) {t lo kd : Nat} (ht : t < 50000) (hkd : kd = 1 ∨ kd = 2) {x2 x3 : Int32} (hlo : ∀ i, i < 5 → (nI i = x2 ↔ i = lo)) (hx3 : x3 = if kd = 2 then 1 else 0) (hB : sumP (allR g d t lo kd w) < 2 ^ 62) {Φ : Mm → Prop} (h : ∀ τ2 : Mm, τ2.1 = τ.1 → MW τ2 (fun x => cP (allR g d t lo kd w) x) → Φ τ2) : wp_X11_goOn τ (nI t) x2 x3 Φ := by
  have hP := hg.P
  have q1 : ∀ ρ : Mm, ρ.1 = τ.1 → ρ.1 1 1 = nI (aP g) := fun ρ e => by rw [e]; exact hM.1 1 (by omega)
  have e1 : nI t + 1 = nI (t + 1) := nI_1 t
  -- what has been put when the states below s are through
  have hadd : ∀ (ρ : Mm) (f : Nat → Nat) (x v : Nat), x < 1008 → (∀ y, y < 1008 → ρ.2.1 16 y = lN (f y)) → ∀ y, y < 1008 → (kwl ρ 16 x (ρ.2.1 16 x + lN v)).2.1 16 y = lN (f y + (if x = y then v else 0)) := by
    intro ρ f x v hx hf y hy
    rw [kwl_same]
    by_cases e : y = x
    · subst e
      rw [pk_uLs, hf y hy, lN_add, if_pos rfl]
    · rw [pk_uLn e, hf y hy, if_neg (Ne.symm e), Nat.add_zero]
  refine ⟨fun ρ => ρ.1 = τ.1 ∧ ρ.2.1 15 = τ.2.1 15 ∧ ∀ y, y < 1008 → ρ.2.1 16 y = lN 0, fun ρ hρ => ?_, 1009, ?_⟩
  · refine ⟨fun ρ => ρ.1 = τ.1 ∧ ∀ y, y < 1008 → ρ.2.1 16 y = lN (cP (allR g d t lo kd w) y), fun ρ2 hρ2 => ?_, 1009, ?_⟩
    · -- the copy
      have key : ∀ r i (μ : Mm), i + r = 1008 → μ.1 = τ.1 → μ.2.1 16 = ρ2.2.1 16 → (∀ s, s < i → μ.2.1 15 s = lN (cP (allR g d t lo kd w) s)) → wp_X11_goOn_L231 Φ (r + 1) μ (nI i) := by
        intro r
        induction r with
        | zero =>
          intro i μ hi a1 a2 a3
          have e : i = 1008 := by omega
          subst e
          refine br_t (by decide) (h μ a1 (fun s hs => ⟨a3 s hs, ?_⟩))
          have := cP_le s (allR g d t lo kd w)
          show cP (allR g d t lo kd w) s < 2 ^ 62
          omega
        | succ r ih =>
          intro i μ hi a1 a2 a3
          have hi' : i < 1008 := by omega
          have en : nI i + 1 = nI (i + 1) := nI_1 i
          unfold wp_X11_goOn_L231
          rw [nI_clamp (by omega), en]
          refine br_f (n1008 hi') ⟨b1008 hi', b1008 hi', fun ρ3 e3 => ?_⟩
          subst e3
          refine ih (i + 1) _ (by omega) a1 ?_ (fun s hs => ?_)
          · rw [kwl_ne _ _ _ (by decide)]; exact a2
          · rw [kwl_same]
            by_cases e : s = i
            · subst e
              rw [pk_uLs, a2]; exact hρ2.2 s hi'
            · rw [pk_uLn e]; exact a3 s (by omega)
      exact ⟨1009, key 1008 0 ρ2 (by omega) hρ2.1 rfl (fun s hs => by omega)⟩
    · -- the states
      have key : ∀ r s (μ : Mm), s + r = 1008 → μ.1 = τ.1 → μ.2.1 15 = τ.2.1 15 → (∀ y, y < 1008 → μ.2.1 16 y = lN (cP ((List.range s).flatMap (fun s => puts g d t lo kd false s (w s))) y)) → wp_X11_goOn_L28 (nI t) x2 x3 (fun ρ => ρ.1 = τ.1 ∧ ∀ y, y < 1008 → ρ.2.1 16 y = lN (cP (allR g d t lo kd w) y)) (r + 1) μ (nI s) := by
        intro r
        induction r with
        | zero =>
          intro s μ hs a1 a2 a3
          have e : s = 1008 := by omega
          subst e
          exact br_t (by decide) ⟨a1, a3⟩
        | succ r ih =>
          intro s μ hs a1 a2 a3
          have hs' : s < 1008 := by omega
          have en : nI s + 1 = nI (s + 1) := nI_1 s
          have hws := hw s hs'
          have hMμ := hM.of1 a1
          have hstep : ∀ (μ2 : Mm), μ2.1 = τ.1 → μ2.2.1 15 = τ.2.1 15 → (∀ y, y < 1008 → μ2.2.1 16 y = lN (cP ((List.range s).flatMap (fun s => puts g d t lo kd false s (w s))) y + cP (puts g d t lo kd false s (w s)) y)) → wp_X11_goOn_L28 (nI t) x2 x3 (fun ρ => ρ.1 = τ.1 ∧ ∀ y, y < 1008 → ρ.2.1 16 y = lN (cP (allR g d t lo kd w) y)) (r + 1) μ2 (nI (s + 1)) := by
            intro μ2 b1 b2 b3
            refine ih (s + 1) μ2 (by omega) b1 b2 (fun y hy => ?_)
            rw [b3 y hy, List.range_succ, List.flatMap_append, cP_app]
            simp
          unfold wp_X11_goOn_L28
          rw [nI_clamp (by omega), en, a2, hws.1, lg_cmp_le]
          refine br_f (n1008 hs') ⟨b1008 hs', fun μ2 => wp_X11_goOn_L28 (nI t) x2 x3 (fun ρ => ρ.1 = τ.1 ∧ ∀ y, y < 1008 → ρ.2.1 16 y = lN (cP (allR g d t lo kd w) y)) (r + 1) μ2 (nI (s + 1)), fun _ z => z, ?_⟩
          have hle : lN (w s) ≤ 0 ↔ w s = 0 := by
            have := pk_lLE (a := w s) (b := 0) (by omega) (by omega)
            constructor
            · intro z; have := this.mp z; omega
            · intro z; exact this.mpr (by omega)
          rw [hle]
          refine ⟨fun c => hstep μ a1 a2 (fun y hy => ?_), fun c => ?_⟩
          · rw [a3 y hy, c, cP_zero (puts_zero hkd), Nat.add_zero]
          · have hst := hsup s c
            have hnf := nfd_le hg t s
            refine ⟨fun v => v = nI (nfd g t s), fun v ev => ?_, aP g + 1, ?_⟩
            · subst ev
              rw [e1]
              refine cM_after hg hd hMμ hst (by omega) ?_
              have hat := (isSt_aft (t := t + 1) hg hd hst).1
              refine ⟨b1008 hat, b1008 hs', fun v => v = nI (if kd = 2 then (if nfd g t s = 0 then 120 else 60) else 1), fun v ev => ⟨b1008 hat, fun μ2 e2 => ?_⟩, ?_⟩
              · subst ev
                rw [nI_clamp (by omega), nI_l (by split <;> (try split) <;> omega), lN_mul] at e2
                have hw0 : w s * (if kd = 2 then (if nfd g t s = 0 then 120 else 60) else 1) = kW0 kd (if kd = 2 then nfd g t s else 0) (w s) := by
                  unfold kW0
                  rcases hkd with rfl | rfl
                  · simp
                  · simp only [if_true]
                    split <;> rfl
                rw [hw0] at e2
                -- the persons
                have pk : ∀ r2 i (ν : Mm), i + r2 = aP g → ν.1 = τ.1 → ν.2.1 15 = τ.2.1 15 → (∀ y, y < 1008 → ν.2.1 16 y = lN (cP ((List.range s).flatMap (fun s => puts g d t lo kd false s (w s))) y + cP (chs g d t lo s (kW0 kd (if kd = 2 then nfd g t s else 0) (w s)) (kWf g kd (if kd = 2 then nfd g t s else 0) false (w s)) i) y)) → wp_X11_goOn_L142 (nI t) x2 x3 (nI s) (fun μ2 => wp_X11_goOn_L28 (nI t) x2 x3 (fun ρ => ρ.1 = τ.1 ∧ ∀ y, y < 1008 → ρ.2.1 16 y = lN (cP (allR g d t lo kd w) y)) (r + 1) μ2 (nI (s + 1))) (nI (nfd g t s)) (r2 + 1) ν (nI i) := by
                  intro r2
                  induction r2 with
                  | zero =>
                    intro i ν hi b1 b2 b3
                    have e : i = aP g := by omega
                    subst e
                    unfold wp_X11_goOn_L142
                    rw [q1 ν b1]
                    exact br_t (nI_le (Nat.le_refl _) (by omega)) (hstep ν b1 b2 b3)
                  | succ r2 ih2 =>
                    intro i ν hi b1 b2 b3
                    have hMν := hM.of1 b1
                    have en2 : nI i + 1 = nI (i + 1) := nI_1 i
                    have hcs := chs_s g d t lo s (kW0 kd (if kd = 2 then nfd g t s else 0) (w s)) (kWf g kd (if kd = 2 then nfd g t s else 0) false (w s)) i
                    have skip : ¬ (i ≠ lo ∧ aPlc g i t = s % 8) → wp_X11_goOn_L142 (nI t) x2 x3 (nI s) (fun μ2 => wp_X11_goOn_L28 (nI t) x2 x3 (fun ρ => ρ.1 = τ.1 ∧ ∀ y, y < 1008 → ρ.2.1 16 y = lN (cP (allR g d t lo kd w) y)) (r + 1) μ2 (nI (s + 1))) (nI (nfd g t s)) (r2 + 1) ν (nI (i + 1)) := by
                      intro hno
                      refine ih2 (i + 1) ν (by omega) b1 b2 (fun y hy => ?_)
                      rw [hcs, if_neg hno, List.append_nil]
                      exact b3 y hy
                    unfold wp_X11_goOn_L142
                    rw [q1 ν b1, en2, hlo i (by omega), b2, nI_clamp (by omega), hws.1]
                    refine br_f (nI_ge (by omega) (by omega)) ⟨fun ν2 => wp_X11_goOn_L142 (nI t) x2 x3 (nI s) (fun μ2 => wp_X11_goOn_L28 (nI t) x2 x3 (fun ρ => ρ.1 = τ.1 ∧ ∀ y, y < 1008 → ρ.2.1 16 y = lN (cP (allR g d t lo kd w) y)) (r + 1) μ2 (nI (s + 1))) (nI (nfd g t s)) (r2 + 1) ν2 (nI (i + 1)), fun _ z => z, fun c2 => skip (fun q => q.1 c2), fun c2 => ?_⟩
                    refine cM_mayFeed hg hMν hst.1 (by omega) (by omega) ?_
                    by_cases hp : aPlc g i t = s % 8
                    · rw [if_pos hp]
                      refine br_f (by decide) (cM_fedBy hg hMν hst.1 (by omega) ?_)
                      have hfs := isSt_fed hg hst (i := i) (by omega)
                      rw [e1]
                      refine cM_after hg hd hMν hfs (by omega) ?_
                      have hat2 := (isSt_aft (t := t + 1) hg hd hfs).1
                      have hnf1 : kd = 2 → nfd g t s ≠ 0 := by
                        intro _ hz
                        have h0 : fds g t 99 s (aP g) = [] := List.eq_nil_of_length_eq_zero hz
                        have : i ∈ fds g t 99 s (aP g) := List.mem_filter.mpr ⟨List.mem_range.mpr (by omega), by simp [hp]; omega⟩
                        rw [h0] at this
                        cases this
                      have hdv : 60 / nfd g t s ≤ 60 := Nat.div_le_self _ _
                      refine ⟨b1008 hat2, b1008 hs', fun v => v = nI (if kd = 2 then 60 / nfd g t s else 1), fun v ev => ⟨b1008 hat2, fun ν2 f2 => ?_⟩, ?_⟩
                      · subst ev
                        rw [nI_clamp (by omega), nI_l (by split <;> omega), lN_mul] at f2
                        have hwf : w s * (if kd = 2 then 60 / nfd g t s else 1) = kWf g kd (if kd = 2 then nfd g t s else 0) false (w s) i := by
                          unfold kWf
                          rcases hkd with rfl | rfl
                          · simp
                          · simp [hnf1 rfl]
                        rw [hwf] at f2
                        subst f2
                        refine ih2 (i + 1) _ (by omega) b1 (by rw [kwl_ne _ _ _ (by decide)]; exact b2) (fun y hy => ?_)
                        have hcond : i ≠ lo ∧ aPlc g i t = s % 8 := ⟨c2, hp⟩
                        rw [hadd ν _ _ _ hat2 b3 y hy, hcs, if_pos hcond, cP_app, cP_cons]
                        congr 1
                        show _ = _ + (_ + ((if aft g d (fedm g s i) (t + 1) = y then kWf g kd (if kd = 2 then nfd g t s else 0) false (w s) i else 0) + 0))
                        omega
                      · rw [hx3]
                        rcases hkd with rfl | rfl
                        · exact br_t (by decide) (by simp; rfl)
                        · refine br_f (by decide) ⟨fun q => hnf1 rfl ((nI_e0 (by omega)).mp q), ?_⟩
                          have := hnf1 rfl
                          simp only [if_true]
                          exact pk_div (a := 60) (by omega) (by omega) (by omega)
                    · rw [if_neg hp]
                      exact br_t rfl (skip (fun q => hp q.2))
                subst e2
                refine ⟨aP g + 1, pk (aP g) 0 _ (by omega) a1 (by rw [kwl_ne _ _ _ (by decide)]; exact a2) (fun y hy => ?_)⟩
                rw [hadd μ _ _ _ hat a3 y hy]
                congr 1
              · rw [hx3]
                rcases hkd with rfl | rfl
                · refine brn_f (by decide) (by simp; rfl)
                · refine brn_t (by decide) ?_
                  rw [nI_e0 (by omega)]
                  refine ⟨fun c => ?_, fun c => ?_⟩
                  · simp [c]; rfl
                  · simp [c]; rfl
            · -- how many are there
              have ck : ∀ r2 i, i + r2 = aP g → wp_X11_goOn_L54 (nI t) μ (nI s) (fun v => v = nI (nfd g t s)) (r2 + 1) (nI (fds g t 99 s i).length) (nI i) := by
                intro r2
                induction r2 with
                | zero =>
                  intro i hi
                  have e : i = aP g := by omega
                  subst e
                  unfold wp_X11_goOn_L54
                  rw [q1 μ a1]
                  exact br_t (nI_le (Nat.le_refl _) (by omega)) rfl
                | succ r2 ih2 =>
                  intro i hi
                  have en2 : nI i + 1 = nI (i + 1) := nI_1 i
                  have ih' := ih2 (i + 1) (by omega)
                  rw [fds_s, List.length_append] at ih'
                  unfold wp_X11_goOn_L54
                  rw [q1 μ a1, en2]
                  refine br_f (nI_ge (by omega) (by omega)) (cM_mayFeed hg hMμ hst.1 (by omega) (by omega) ⟨_, fun _ z => z, ?_⟩)
                  by_cases hp : aPlc g i t = s % 8
                  · rw [if_pos ⟨by omega, hp⟩] at ih'
                    rw [if_pos hp]
                    refine br_f (by decide) (fun x ex => ?_)
                    have e2 : nI (fds g t 99 s i).length + 1 = nI ((fds g t 99 s i).length + 1) := nI_1 _
                    rw [ex, e2]
                    exact ih'
                  · rw [if_neg (fun q => hp q.2)] at ih'
                    rw [if_neg hp]
                    refine br_t rfl (fun x ex => ?_)
                    have e2 : nI (fds g t 99 s i).length + 0 = nI ((fds g t 99 s i).length + 0) := nI_add _ 0
                    rw [ex, e2]
                    exact ih'
              exact ck (aP g) 0 (by omega)
      exact key 1008 0 ρ (by omega) hρ.1 hρ.2.1 hρ.2.2
  · have key : ∀ r i (ρ : Mm), i + r = 1008 → ρ.1 = τ.1 → ρ.2.1 15 = τ.2.1 15 → (∀ s, s < i → ρ.2.1 16 s = lN 0) → wp_X11_goOn_L3 (fun ρ => ρ.1 = τ.1 ∧ ρ.2.1 15 = τ.2.1 15 ∧ ∀ y, y < 1008 → ρ.2.1 16 y = lN 0) (r + 1) ρ (nI i) := by
      intro r
      induction r with
      | zero =>
        intro i ρ hi a1 a2 a3
        have e : i = 1008 := by omega
        subst e
        exact br_t (by decide) ⟨a1, a2, a3⟩
      | succ r ih =>
        intro i ρ hi a1 a2 a3
        have hi' : i < 1008 := by omega
        have en : nI i + 1 = nI (i + 1) := nI_1 i
        unfold wp_X11_goOn_L3
        rw [nI_clamp (by omega), en]
        refine br_f (n1008 hi') ⟨b1008 hi', fun ρ3 e3 => ?_⟩
        subst e3
        refine ih (i + 1) _ (by omega) a1 (by rw [kwl_ne _ _ _ (by decide)]; exact a2) (fun s hs => ?_)
        rw [kwl_same]
        by_cases e : s = i
        · subst e; exact pk_uLs
        · rw [pk_uLn e]; exact a3 s (by omega)
    exact key 1008 0 τ (by omega) rfl rfl (fun s hs => by omega)
