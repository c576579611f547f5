theorem le_lastA {gs : List (Nat × Nat)} {p : Nat × Nat} (h : p ∈ gs) : p.2 ≤ lastA gs := by
  have key : ∀ (l : List (Nat × Nat)) (b : Nat), b ≤ l.foldl (fun a p => if a < p.2 then p.2 else a) b ∧ ∀ q, q ∈ l → q.2 ≤ l.foldl (fun a p => if a < p.2 then p.2 else a) b := by
    intro l
    induction l with
    | nil => intro b; exact ⟨Nat.le_refl _, fun q hq => absurd hq (by simp)⟩
    | cons r l ih =>
      intro b
      rw [List.foldl_cons]
      obtain ⟨h1, h2⟩ := ih (if b < r.2 then r.2 else b)
      have hb : b ≤ (if b < r.2 then r.2 else b) ∧ r.2 ≤ (if b < r.2 then r.2 else b) := by split <;> omega
      refine ⟨by omega, fun q hq => ?_⟩
      rcases List.mem_cons.mp hq with e | e
      · rw [e]; omega
      · exact h2 q e
  exact (key gs 0).2 p h
theorem gAt_le {gs : List (Nat × Nat)} {j : Nat} (h : j < gs.length) : gAt gs j ≤ lastA gs := le_lastA (List.mem_of_getElem? (gs_at h))
theorem lastA_G {gs : List (Nat × Nat)} {G : Nat} (hG : G < gs.length) (hup : ∀ j, j < gs.length → upB gs j G = true) : lastA gs = gAt gs G := by
  have h1 := gAt_le hG
  have h2 : lastA gs ≤ gAt gs G := lastA_le (fun i y a hi => by
    have hl := (List.getElem?_eq_some_iff.mp hi).1
    have h3 := hup i hl
    unfold upB at h3
    have h4 := of_decide_eq_true h3
    have h5 := gs_at hl
    rw [hi] at h5
    have : a = gAt gs i := congrArg Prod.snd (Option.some.inj h5)
    omega)
  omega
theorem ftU_lt {gs : List (Nat × Nat)} {G k : Nat} (h : k < gAt gs G) (m : Nat) : ftU gs G k gs.length m = fitU gs k gs.length m := by
  have key : ∀ n, n ≤ gs.length → ftU gs G k n m = fitU gs k n m := by
    intro n
    induction n with
    | zero => intro _; unfold ftU fitU; simp
    | succ n ih =>
      intro hn
      rw [ftU_s, fitU_s (gs_at (by omega)), ih (by omega)]
      congr 1
      by_cases e : gAt gs n = k
      · have : upB gs n G = true := by unfold upB; exact decide_eq_true (Or.inl (by omega))
        simp [this]
      · simp [e]
  exact key gs.length (Nat.le_refl _)
theorem ftU_eq {gs : List (Nat × Nat)} {G : Nat} (hG : G < gs.length) (m : Nat) : ftU gs G (gAt gs G) gs.length m = fitU gs (gAt gs G) (G + 1) m := by
  have key : ∀ n, n ≤ gs.length → ftU gs G (gAt gs G) n m = fitU gs (gAt gs G) (if n ≤ G + 1 then n else G + 1) m := by
    intro n
    induction n with
    | zero => intro _; unfold ftU fitU; simp
    | succ n ih =>
      intro hn
      rw [ftU_s, ih (by omega)]
      by_cases h1 : n ≤ G
      · rw [if_pos (by omega), if_pos (by omega), fitU_s (gs_at (by omega))]
        congr 1
        by_cases e : gAt gs n = gAt gs G
        · have : upB gs n G = true := by unfold upB; exact decide_eq_true (Or.inr ⟨e, h1⟩)
          simp [this]
        · simp [e]
      · have e2 : (if n ≤ G + 1 then n else G + 1) = G + 1 := by split <;> omega
        rw [e2, if_neg (by omega)]
        have : upB gs n G = false ∨ gAt gs n ≠ gAt gs G := by
          by_cases e : gAt gs n = gAt gs G
          · left; unfold upB; exact decide_eq_false (by omega)
          · exact Or.inr e
        rcases this with q | q
        · simp [q]
        · simp [q]
  have := key gs.length (Nat.le_refl _)
  rw [this]
  congr 1
  split <;> omega
theorem fitU_mono {gs : List (Nat × Nat)} {k n n2 m : Nat} (h : n2 ≤ n) (hf : fitU gs k n m = true) : fitU gs k n2 m = true := by
  unfold fitU at *
  rw [List.all_eq_true] at *
  intro p hp
  refine hf p ?_
  have : gs.take n2 = (gs.take n).take n2 := by rw [List.take_take]; congr 1; omega
  rw [this] at hp
  exact List.mem_of_mem_take hp
theorem nonbar {gs : List (Nat × Nat)} {k : Nat} {L : List Nat} (h : ∀ i y, gs[i]? = some (y, k) → L.filter (fitU gs k (i + 1)) ≠ []) (hL : L ≠ []) : L.filter (fitU gs k gs.length) ≠ [] := by
  have key : ∀ n, n ≤ gs.length → L.filter (fitU gs k n) ≠ [] := by
    intro n
    induction n with
    | zero =>
      intro _
      have : L.filter (fitU gs k 0) = L := List.filter_eq_self.mpr (fun x _ => by unfold fitU; simp)
      rw [this]; exact hL
    | succ n ih =>
      intro hn
      by_cases e : gAt gs n = k
      · exact h n (gYd gs n) (by rw [gs_at (by omega), e])
      · have : fitU gs k (n + 1) = fitU gs k n := funext (fun m => by rw [fitU_s (gs_at (by omega))]; simp [e])
        rw [this]; exact ih (by omega)
  exact key gs.length (Nat.le_refl _)
theorem filt_ne {L : List Nat} {p : Nat → Bool} (h : L.filter p ≠ []) : ∃ m, m ∈ L ∧ p m = true := by
  obtain ⟨m, hm⟩ := List.exists_mem_of_ne_nil _ h
  exact ⟨m, List.mem_filter.mp hm⟩
theorem filt_nil {L : List Nat} {p : Nat → Bool} (h : L.filter p = []) : ∀ m, m ∈ L → p m = false := by
  intro m hm
  cases hp : p m
  · rfl
  · have : m ∈ L.filter p := List.mem_filter.mpr ⟨hm, hp⟩
    rw [h] at this
    exact absurd this (by simp)
def gft (gs : List (Nat × Nat)) (G : Nat) : Nat → Nat → Bool := fun k m => ftU gs G k gs.length m
/-- what it costs up to goal G -/
def gV (g d : Nat → Int32) (gs : List (Nat × Nat)) (t m0 G : Nat) : Nat := Vf g d t (gft gs G) (gAt gs G) (gAt gs G) m0
/-- the same from minute k on -/
def gW (g d : Nat → Int32) (gs : List (Nat × Nat)) (t G k m : Nat) : Nat := Vf g d t (gft gs G) (gAt gs G) (gAt gs G - k) m
theorem gW_step {g d : Nat → Int32} {gs : List (Nat × Nat)} {t G k m : Nat} (hk : k < gAt gs G) (hm : isSt g m) : gW g d gs t G k m = if fitU gs k gs.length m then lsO g d (t + k) (gW g d gs t G (k + 1)) m (aP g) else 999999 := by
  obtain ⟨n, hn⟩ : ∃ n, gAt gs G - k = n + 1 := ⟨gAt gs G - k - 1, by omega⟩
  have e1 : gAt gs G - (n + 1) = k := by omega
  have e2 : gW g d gs t G (k + 1) = Vf g d t (gft gs G) (gAt gs G) n := by
    unfold gW
    have : gAt gs G - (k + 1) = n := by omega
    rw [this]
  unfold gW at e2 ⊢
  rw [hn, Vf_s, e1, e2, stB_iff.mpr hm]
  have : gft gs G k m = fitU gs k gs.length m := ftU_lt hk m
  rw [this]
  rfl
theorem gW_end {g d : Nat → Int32} {gs : List (Nat × Nat)} {t G m : Nat} (hG : G < gs.length) (hm : isSt g m) : gW g d gs t G (gAt gs G) m = if fitU gs (gAt gs G) (G + 1) m then 0 else 999999 := by
  unfold gW
  rw [Nat.sub_self, Vf_0, stB_iff.mpr hm]
  have : gft gs G (gAt gs G) m = fitU gs (gAt gs G) (G + 1) m := ftU_eq hG m
  rw [this]
  rfl
theorem gW_B {g d : Nat → Int32} (hg : WFg g) (gs : List (Nat × Nat)) (t G k : Nat) (h : gAt gs G ≤ 40) : ∀ x, gW g d gs t G k x ≤ 100000 ∨ gW g d gs t G k x = 999999 := Vf_B hg t (gft gs G) (gAt gs G) (by omega)
def ChI (g d : Nat → Int32) (gs : List (Nat × Nat)) (t m0 Gl c k : Nat) (L : List Nat) (F : Nat → Option Nat) : Prop :=
  (L ≠ []) ∧
  (∀ m, m ∈ L ↔ F m ≠ none) ∧
  (∀ m, m ∈ L → isSt g m) ∧
  (∀ m v, F m = some v → v ≤ 800 * k) ∧
  (k = 0 → L = [m0] ∧ F m0 = some 0) ∧
  (0 < k → gV g d gs t m0 Gl < 999999 → lbA L F (gW g d gs t Gl k) (8 * gV g d gs t m0 Gl + c)) ∧
  (∀ G, G < gs.length → k ≤ gAt gs G → ((∃ m, m ∈ L ∧ gW g d gs t G k m < 999999) ↔ gV g d gs t m0 G < 999999)) ∧
  (∀ G, G < gs.length → gAt gs G < k → gV g d gs t m0 G < 999999)
theorem ChI.ne {g d : Nat → Int32} {gs : List (Nat × Nat)} {t m0 Gl c k : Nat} {L : List Nat} {F : Nat → Option Nat} (h : ChI g d gs t m0 Gl c k L F) : L ≠ [] := h.1
theorem ChI.mm {g d : Nat → Int32} {gs : List (Nat × Nat)} {t m0 Gl c k : Nat} {L : List Nat} {F : Nat → Option Nat} (h : ChI g d gs t m0 Gl c k L F) : ∀ m, m ∈ L ↔ F m ≠ none := h.2.1
theorem ChI.st {g d : Nat → Int32} {gs : List (Nat × Nat)} {t m0 Gl c k : Nat} {L : List Nat} {F : Nat → Option Nat} (h : ChI g d gs t m0 Gl c k L F) : ∀ m, m ∈ L → isSt g m := h.2.2.1
theorem ChI.bd {g d : Nat → Int32} {gs : List (Nat × Nat)} {t m0 Gl c k : Nat} {L : List Nat} {F : Nat → Option Nat} (h : ChI g d gs t m0 Gl c k L F) : ∀ m v, F m = some v → v ≤ 800 * k := h.2.2.2.1
theorem ChI.z {g d : Nat → Int32} {gs : List (Nat × Nat)} {t m0 Gl c k : Nat} {L : List Nat} {F : Nat → Option Nat} (h : ChI g d gs t m0 Gl c k L F) : k = 0 → L = [m0] ∧ F m0 = some 0 := h.2.2.2.2.1
theorem ChI.lb {g d : Nat → Int32} {gs : List (Nat × Nat)} {t m0 Gl c k : Nat} {L : List Nat} {F : Nat → Option Nat} (h : ChI g d gs t m0 Gl c k L F) : 0 < k → gV g d gs t m0 Gl < 999999 → lbA L F (gW g d gs t Gl k) (8 * gV g d gs t m0 Gl + c) := h.2.2.2.2.2.1
theorem ChI.br {g d : Nat → Int32} {gs : List (Nat × Nat)} {t m0 Gl c k : Nat} {L : List Nat} {F : Nat → Option Nat} (h : ChI g d gs t m0 Gl c k L F) : ∀ G, G < gs.length → k ≤ gAt gs G → ((∃ m, m ∈ L ∧ gW g d gs t G k m < 999999) ↔ gV g d gs t m0 G < 999999) := h.2.2.2.2.2.2.1
theorem ChI.dn {g d : Nat → Int32} {gs : List (Nat × Nat)} {t m0 Gl c k : Nat} {L : List Nat} {F : Nat → Option Nat} (h : ChI g d gs t m0 Gl c k L F) : ∀ G, G < gs.length → gAt gs G < k → gV g d gs t m0 G < 999999 := h.2.2.2.2.2.2.2
theorem ChI.fin {g d : Nat → Int32} {gs : List (Nat × Nat)} {t m0 Gl c k : Nat} {L : List Nat} {F : Nat → Option Nat} (h : ChI g d gs t m0 Gl c k L F) (hnb : ∀ i y, gs[i]? = some (y, k) → L.filter (fitU gs k (i + 1)) ≠ []) {G : Nat} (hG : G < gs.length) (hk : gAt gs G = k) : gV g d gs t m0 G < 999999 := by
  obtain ⟨m, h1, h2⟩ := filt_ne (hnb G (gYd gs G) (by rw [gs_at hG, hk]))
  refine (h.br G hG (by omega)).mp ⟨m, h1, ?_⟩
  subst hk
  rw [gW_end hG (h.st m h1), h2]
  simp
theorem ChI.step {g d : Nat → Int32} (hg : WFg g) (hd : WFd g d) {gs : List (Nat × Nat)} {t m0 Gl c k : Nat} {L : List Nat} {F : Nat → Option Nat} (hGl : Gl < gs.length) (hup : ∀ j, j < gs.length → upB gs j Gl = true) (hl : lastA gs ≤ 40) (hc : 0 < lastA gs → fstC g d t (gW g d gs t Gl 1) m0 c) (hk : k < lastA gs) (h : ChI g d gs t m0 Gl c k L F) (hnb : ∀ i y, gs[i]? = some (y, k) → L.filter (fitU gs k (i + 1)) ≠ []) :
    okP (kOp 0) (fun _ => none) (allP g d (t + k) 99 0 (true && decide (k = 0)) (L.filter (fitU gs k gs.length)) (fun x => if fitU gs k gs.length x then F x else none)) ∧ ∀ L2, L2.Nodup → (∀ m, m ∈ L2 ↔ pfF (kOp 0) (fun _ => none) (allP g d (t + k) 99 0 (true && decide (k = 0)) (L.filter (fitU gs k gs.length)) (fun x => if fitU gs k gs.length x then F x else none)) m ≠ none) → (∀ m, m ∈ L2 → isSt g m) → ChI g d gs t m0 Gl c (k + 1) L2 (pfF (kOp 0) (fun _ => none) (allP g d (t + k) 99 0 (true && decide (k = 0)) (L.filter (fitU gs k gs.length)) (fun x => if fitU gs k gs.length x then F x else none))) := by
  have hlG := lastA_G hGl hup
  have hall : ∀ G, G < gs.length → gAt gs G ≤ 40 := fun G hG => by have := gAt_le hG; omega
  generalize hopn : (true && decide (k = 0)) = opn
  generalize hL' : L.filter (fitU gs k gs.length) = L'
  generalize hF' : (fun x => if fitU gs k gs.length x then F x else none) = F'
  have hmL : ∀ m, m ∈ L' ↔ m ∈ L ∧ fitU gs k gs.length m = true := fun m => by rw [← hL', List.mem_filter]
  have hFv : ∀ m, m ∈ L' → F' m = F m := fun m hm => by rw [← hF']; exact if_pos ((hmL m).mp hm).2
  have hne' : L' ≠ [] := by rw [← hL']; exact nonbar hnb h.ne
  have hFn : ∀ m, m ∈ L' → F' m ≠ none := fun m hm => by rw [hFv m hm]; exact (h.mm m).mp ((hmL m).mp hm).1
  have hbound : ∀ p, p ∈ allP g d (t + k) 99 0 opn L' F' → p.2 ≤ 800 * (k + 1) := by
    intro p hp
    obtain ⟨m, hm, hp⟩ := allP_mem.mp hp
    obtain ⟨c2, hc2, rfl⟩ := (puts_c hg (t + k) opn m _ p).mp hp
    obtain ⟨u, hu⟩ := Option.ne_none_iff_exists'.mp (hFn m hm)
    have hb := h.bd m u (by rw [← hFv m hm]; exact hu)
    obtain ⟨h1, h2⟩ := cwt_le hg hc2
    show (F' m).getD 0 + 8 * cwt g c2 + (if opn = true then c2 else 0) ≤ _
    rw [hu]
    show u + 8 * cwt g c2 + (if opn = true then c2 else 0) ≤ _
    split <;> omega
  refine ⟨okP_min (fun p hp => by have := hbound p hp; omega), fun L2 hnd hmem hst => ?_⟩
  refine ⟨?_, hmem, hst, ?_, fun q => by omega, ?_, ?_, ?_⟩
  · obtain ⟨m, hm⟩ := List.exists_mem_of_ne_nil _ hne'
    obtain ⟨v, hv, -⟩ := pf_put (F := fun _ => none) (allP_mem.mpr ⟨m, hm, (puts_c hg (t + k) opn m ((F' m).getD 0) _).mpr ⟨0, trivial, rfl⟩⟩)
    have hv' : pfF (kOp 0) (fun _ => none) (allP g d (t + k) 99 0 opn L' F') (csu g d (t + k) m 0) = some v := hv
    have : csu g d (t + k) m 0 ∈ L2 := (hmem _).mpr (by rw [hv']; simp)
    exact List.ne_nil_of_mem this
  · intro m v hv
    rcases pf_from hv with q | q
    · cases q
    · exact hbound _ q
  · intro _ hfin
    have hWk : ∀ m, m ∈ L' → gW g d gs t Gl k m = lsO g d (t + k) (gW g d gs t Gl (k + 1)) m (aP g) := fun m hm => by
      rw [gW_step (by omega) (h.st m ((hmL m).mp hm).1), ((hmL m).mp hm).2]
      rfl
    rcases Nat.eq_zero_or_pos k with e | e
    · subst e
      obtain ⟨q1, q2⟩ := h.z rfl
      have hopn' : opn = true := by rw [← hopn]; rfl
      have hL1 : L' = [m0] := by
        rw [← hL', q1]
        obtain ⟨m, hm, hw⟩ := (h.br Gl hGl (by omega)).mpr hfin
        rw [q1] at hm
        rw [List.mem_singleton.mp hm] at hw
        have hst0 : isSt g m0 := h.st m0 (by rw [q1]; simp)
        rw [gW_step (by omega) hst0] at hw
        cases hft : fitU gs 0 gs.length m0 with
        | true => simp [hft]
        | false => rw [hft] at hw; simp at hw
      have hF0 : F' m0 = some 0 := by rw [hFv m0 (by rw [hL1]; simp)]; exact q2
      have e0 : gV g d gs t m0 Gl = lsO g d (t + 0) (gW g d gs t Gl 1) m0 (aP g) := hWk m0 (by rw [hL1]; simp)
      rw [e0] at hfin ⊢
      rw [hopn', hL1] at hmem ⊢
      exact lbA_first hg (gW_B hg gs t Gl 1 (hall Gl hGl)) (hc hk) hfin hF0 hmem
    · have hopn' : opn = false := by rw [← hopn]; simp; omega
      rw [hopn'] at hmem ⊢
      refine lbA_step hg (gW_B hg gs t Gl (k + 1) (hall Gl hGl)) hFn hWk ?_ hmem
      obtain ⟨l1, m, v, l2, l3, l4, l5⟩ := h.lb e hfin
      refine ⟨fun m v hm hv hw => l1 m v ((hmL m).mp hm).1 (by rw [← hFv m hm]; exact hv) hw, m, v, ?_, ?_, l4, l5⟩
      · refine (hmL m).mpr ⟨l2, ?_⟩
        rw [gW_step (by omega) (h.st m l2)] at l4
        cases hft : fitU gs k gs.length m with
        | true => rfl
        | false => rw [hft] at l4; simp at l4
      · have : m ∈ L' := (hmL m).mpr ⟨l2, by
          rw [gW_step (by omega) (h.st m l2)] at l4
          cases hft : fitU gs k gs.length m with
          | true => rfl
          | false => rw [hft] at l4; simp at l4⟩
        rw [hFv m this]; exact l3
  · intro G hG hkG
    rw [ways_on hg (gW_B hg gs t G (k + 1) (hall G hG)) hmem, ← h.br G hG (by omega)]
    constructor
    · rintro ⟨m, hm, hw⟩
      refine ⟨m, ((hmL m).mp hm).1, ?_⟩
      rw [gW_step (by omega) (h.st m ((hmL m).mp hm).1), ((hmL m).mp hm).2]
      exact hw
    · rintro ⟨m, hm, hw⟩
      rw [gW_step (by omega) (h.st m hm)] at hw
      cases hft : fitU gs k gs.length m with
      | true =>
        rw [hft] at hw
        exact ⟨m, (hmL m).mpr ⟨hm, hft⟩, hw⟩
      | false => rw [hft] at hw; simp at hw
  · intro G hG hkG
    rcases Nat.lt_or_ge (gAt gs G) k with q | q
    · exact h.dn G hG q
    · exact h.fin hnb hG (by omega)
