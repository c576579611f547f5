def stB (g : Nat → Int32) (m : Nat) : Bool := decide (m < 1008 ∧ m % 8 < aN g ∧ m / 8 % 6 ≤ aP g ∧ (m / 8 % 6 = 0 → m / 48 = 0) ∧ (aF g = 0 → m / 48 = 0) ∧ (m / 8 % 6 ≠ 0 → aF g ≠ 0 → 1 ≤ m / 48 ∧ m / 48 ≤ aF g))
theorem stB_iff {g : Nat → Int32} {m : Nat} : stB g m = true ↔ isSt g m := by
  unfold stB isSt
  exact decide_eq_true_iff
def gAt (gs : List (Nat × Nat)) (j : Nat) : Nat := (gs.getD j (0, 0)).2
def gYd (gs : List (Nat × Nat)) (j : Nat) : Nat := (gs.getD j (0, 0)).1
def upB (gs : List (Nat × Nat)) (j G : Nat) : Bool := decide (gAt gs j < gAt gs G ∨ (gAt gs j = gAt gs G ∧ j ≤ G))
/-- does a state fit the first n goals, those of minute k that come no later than goal G -/
def ftU (gs : List (Nat × Nat)) (G k n m : Nat) : Bool := (List.range n).all (fun j => decide (gAt gs j = k → upB gs j G = true → gYd gs j = m % 8))
theorem ftU_s (gs : List (Nat × Nat)) (G k n m : Nat) : ftU gs G k (n + 1) m = (ftU gs G k n m && decide (gAt gs n = k → upB gs n G = true → gYd gs n = m % 8)) := by
  unfold ftU
  rw [List.range_succ, List.all_append]
  simp
def cbv (v c : Nat) : Nat := if 999999 ≤ v then 999999 else v + c
/-- the least of the first i ways on, in minute t: nobody first -/
def lsO (g d : Nat → Int32) (t : Nat) (V : Nat → Nat) (m : Nat) : Nat → Nat
  | 0 => cbv (V (aft g d m (t + 1))) 0
  | i + 1 => if lsO g d t V m i ≤ (if aPlc g i t = m % 8 then cbv (V (aft g d (fedm g m i) (t + 1))) (aCost g i) else 999999) then lsO g d t V m i else (if aPlc g i t = m % 8 then cbv (V (aft g d (fedm g m i) (t + 1))) (aCost g i) else 999999)
/-- what it costs yet, n minutes ahead of the last -/
def Vf (g d : Nat → Int32) (t : Nat) (ft : Nat → Nat → Bool) (last : Nat) : Nat → Nat → Nat
  | 0 => fun m => if stB g m && ft last m then 0 else 999999
  | n + 1 => fun m => if stB g m && ft (last - (n + 1)) m then lsO g d (t + (last - (n + 1))) (Vf g d t ft last n) m (aP g) else 999999
theorem Vf_0 (g d : Nat → Int32) (t : Nat) (ft : Nat → Nat → Bool) (last m : Nat) : Vf g d t ft last 0 m = if stB g m && ft last m then 0 else 999999 := rfl
theorem Vf_s (g d : Nat → Int32) (t : Nat) (ft : Nat → Nat → Bool) (last n m : Nat) : Vf g d t ft last (n + 1) m = if stB g m && ft (last - (n + 1)) m then lsO g d (t + (last - (n + 1))) (Vf g d t ft last n) m (aP g) else 999999 := rfl
theorem lsO_le {g d : Nat → Int32} (hg : WFg g) {t : Nat} {V : Nat → Nat} {B : Nat} (hV : ∀ x, V x ≤ B ∨ V x = 999999) (m : Nat) : ∀ i, i ≤ aP g → lsO g d t V m i ≤ B + 99 ∨ lsO g d t V m i = 999999 := by
  have hc : ∀ v c, (v ≤ B ∨ v = 999999) → c ≤ 99 → cbv v c ≤ B + 99 ∨ cbv v c = 999999 := by
    intro v c h1 h2
    unfold cbv
    split <;> omega
  intro i
  induction i with
  | zero => intro _; exact hc _ 0 (hV _) (by omega)
  | succ i ih =>
    intro hi
    have h1 := ih (by omega)
    have hcost := hg.2.2.2.2.2.2.2.2.2.1 i (by omega)
    have h2 : (if aPlc g i t = m % 8 then cbv (V (aft g d (fedm g m i) (t + 1))) (aCost g i) else 999999) ≤ B + 99 ∨ (if aPlc g i t = m % 8 then cbv (V (aft g d (fedm g m i) (t + 1))) (aCost g i) else 999999) = 999999 := by
      split
      · exact hc _ _ (hV _) hcost
      · exact Or.inr rfl
    unfold lsO
    generalize (if aPlc g i t = m % 8 then cbv (V (aft g d (fedm g m i) (t + 1))) (aCost g i) else 999999) = X at h2 ⊢
    split
    · exact h1
    · exact h2
theorem Vf_le {g d : Nat → Int32} (hg : WFg g) (t : Nat) (ft : Nat → Nat → Bool) (last : Nat) (n : Nat) : ∀ m, Vf g d t ft last n m ≤ 99 * n ∨ Vf g d t ft last n m = 999999 := by
  induction n with
  | zero =>
    intro m
    rw [Vf_0]
    split <;> omega
  | succ n ih =>
    intro m
    rw [Vf_s]
    split
    · have := lsO_le (d := d) hg (t := t + (last - (n + 1))) ih m (aP g) (Nat.le_refl _)
      omega
    · exact Or.inr rfl
-- ===== the model
def MC (τ : Mm) (V : Nat → Nat) : Prop := ∀ s, s < 1008 → τ.1 9 s = nI (V s) ∧ (V s ≤ 100000 ∨ V s = 999999)
theorem FAR_lt {v : Nat} (h : v < 2 ^ 31) : nI v < 999999 ↔ v < 999999 := nI_ltI (b := 999999) h (by omega)
theorem FAR_le {v : Nat} (h : v < 2 ^ 31) : (999999 : Int32) ≤ nI v ↔ 999999 ≤ v := nI_leI (a := 999999) (by omega) h
theorem cM_costN {τ : Mm} {g d : Nat → Int32} (hg : WFg g) (hd : WFd g d) (hM : FmM τ g d) {V : Nat → Nat} (hV : MC τ V) {t k m : Nat} (hm : isSt g m) (ht : t ≤ 9999) (hk : k ≤ 100) (h4 : τ.1 4 0 = nI t) {Φ : Int32 → Prop} (h : Φ (nI (cbv (V (aft g d m (t + k + 1))) 0))) : wp_X11_costBy τ (nI m) (nI k) (-1) Φ := by
  refine ⟨fun v => v = nI m, fun v ev => ?_, br_f (by decide) rfl⟩
  have e1 : nI t + nI k + 1 = nI (t + k + 1) := by rw [nI_add]; exact nI_1 _
  rw [ev, h4, e1]
  refine cM_after hg hd hM hm (by omega) ?_
  have hat := (isSt_aft (t := t + k + 1) hg hd hm).1
  obtain ⟨v1, v2⟩ := hV _ hat
  rw [nI_clamp (by omega), v1]
  refine ⟨b1008 hat, fun x ex => ?_⟩
  rw [ex, FAR_lt (by omega)]
  unfold cbv at h
  refine ⟨fun c => ?_, fun c => ?_⟩
  · rw [if_neg (by omega)] at h
    refine ⟨fun v => v = nI 0, fun v ev => ?_, br_f (by decide) rfl⟩
    rw [ev, nI_add]
    exact h
  · rw [if_pos (by omega)] at h
    exact h
theorem cM_costI {τ : Mm} {g d : Nat → Int32} (hg : WFg g) (hd : WFd g d) (hM : FmM τ g d) {V : Nat → Nat} (hV : MC τ V) {t k m i : Nat} (hm : isSt g m) (hi : i < aP g) (ht : t ≤ 9999) (hk : k ≤ 100) (h4 : τ.1 4 0 = nI t) {Φ : Int32 → Prop} (h : Φ (nI (cbv (V (aft g d (fedm g m i) (t + k + 1))) (aCost g i)))) : wp_X11_costBy τ (nI m) (nI k) (nI i) Φ := by
  have hP := hg.P
  have hfs := isSt_fed hg hm hi
  refine ⟨fun v => v = nI (fedm g m i), fun v ev => ?_, br_t (nI_pos' (by omega)) (cM_fedBy hg hM hm.1 hi rfl)⟩
  have e1 : nI t + nI k + 1 = nI (t + k + 1) := by rw [nI_add]; exact nI_1 _
  rw [ev, h4, e1]
  refine cM_after hg hd hM hfs (by omega) ?_
  have hat := (isSt_aft (t := t + k + 1) hg hd hfs).1
  obtain ⟨v1, v2⟩ := hV _ hat
  rw [nI_clamp (by omega), v1]
  refine ⟨b1008 hat, fun x ex => ?_⟩
  rw [ex, FAR_lt (by omega)]
  unfold cbv at h
  refine ⟨fun c => ?_, fun c => ?_⟩
  · rw [if_neg (by omega)] at h
    refine ⟨fun v => v = nI (aCost g i), fun v ev => ?_, br_t (nI_pos' (by omega)) ?_⟩
    · rw [ev, nI_add]
      exact h
    · have e2 : (12 : Int32) + nI i = nI (12 + i) := nI_add 12 i
      rw [e2, nI_clamp (by omega), hM.1 (12 + i) (by omega)]
      exact ⟨⟨nI_pos' (by omega), (nI_ltI (a := 12 + i) (b := 164) (by omega) (by omega)).mpr (by omega)⟩, rfl⟩
  · rw [if_pos (by omega)] at h
    exact h
theorem cM_leastOf {τ : Mm} {g d : Nat → Int32} (hg : WFg g) (hd : WFd g d) (hM : FmM τ g d) {V : Nat → Nat} (hV : MC τ V) (hVB : ∀ x, V x ≤ 100000 ∨ V x = 999999) {t k m : Nat} (hm : isSt g m) (ht : t ≤ 9999) (hk : k ≤ 100) (h4 : τ.1 4 0 = nI t) {Φ : Int32 → Prop} (h : Φ (nI (lsO g d (t + k) V m (aP g)))) : wp_X11_leastOf τ (nI m) (nI k) Φ := by
  have hP := hg.P
  have q1 : τ.1 1 1 = nI (aP g) := hM.1 1 (by omega)
  refine cM_costN hg hd hM hV hm ht hk h4 ?_
  have key : ∀ r i, i + r = aP g → wp_X11_leastOf_L11 (nI m) (nI k) τ Φ (r + 1) (nI (lsO g d (t + k) V m i)) (nI i) := by
    intro r
    induction r with
    | zero =>
      intro i hi
      have e : i = aP g := by omega
      subst e
      unfold wp_X11_leastOf_L11
      rw [q1]
      exact br_t (nI_le (Nat.le_refl _) (by omega)) h
    | succ r ih =>
      intro i hi
      have en : nI i + 1 = nI (i + 1) := nI_1 i
      have ih' := ih (i + 1) (by omega)
      have hl := lsO_le (d := d) hg (t := t + k) hVB m i (by omega)
      have hcost := hg.2.2.2.2.2.2.2.2.2.1 i (by omega)
      unfold lsO at ih'
      unfold wp_X11_leastOf_L11
      rw [q1, h4, nI_add, en]
      refine br_f (nI_ge (by omega) (by omega)) (cM_mayFeed hg hM hm.1 (by omega) (by omega) ?_)
      have hx : ∀ x : Nat, x = (if aPlc g i (t + k) = m % 8 then cbv (V (aft g d (fedm g m i) (t + k + 1))) (aCost g i) else 999999) → x ≤ 1000000 := by
        intro x ex
        rw [ex]
        split
        · have := hVB (aft g d (fedm g m i) (t + k + 1))
          unfold cbv
          split <;> omega
        · omega
      generalize hX : (if aPlc g i (t + k) = m % 8 then cbv (V (aft g d (fedm g m i) (t + k + 1))) (aCost g i) else 999999) = X at ih' hx
      have hX2 := hx X rfl
      refine ⟨fun v => v = nI X, fun v ev => ⟨fun v => v = nI (if lsO g d (t + k) V m i ≤ X then lsO g d (t + k) V m i else X), fun v ev => by rw [ev]; exact ih', ?_⟩, ?_⟩
      · rw [ev, nI_leI (by omega) (by omega)]
        exact ⟨fun c => by rw [if_pos c], fun c => by rw [if_neg c]⟩
      · by_cases hp : aPlc g i (t + k) = m % 8
        · rw [if_pos hp] at hX ⊢
          refine br_f (by decide) (cM_costI hg hd hM hV hm (by omega) ht hk h4 ?_)
          rw [hX]
        · rw [if_neg hp] at hX ⊢
          refine br_t rfl ?_
          rw [← hX]
          rfl
  exact ⟨aP g + 1, key (aP g) 0 (by omega)⟩
theorem cM_isUpTo {τ : Mm} {gs : List (Nat × Nat)} (hT : TdM τ 14 7 8 gs) {j G : Nat} (hj : j < gs.length) (hG : G < gs.length) {Φ : Int32 → Prop} (h : Φ (if upB gs j G then 1 else 0)) : wp_X11_isUpTo τ (nI j) (nI G) Φ := by
  have h6 := hT.1
  have ej : gs[j]? = some (gYd gs j, gAt gs j) := by
    unfold gYd gAt
    rw [List.getD_eq_getElem?_getD, List.getElem?_eq_getElem hj]
    rfl
  have eG : gs[G]? = some (gYd gs G, gAt gs G) := by
    unfold gYd gAt
    rw [List.getD_eq_getElem?_getD, List.getElem?_eq_getElem hG]
    rfl
  obtain ⟨-, a2, -, a4⟩ := hT.2.2 j _ _ ej
  obtain ⟨-, b2, -, b4⟩ := hT.2.2 G _ _ eG
  have bj : (0 ≤ nI j ∧ nI j < 6) := ⟨nI_pos' (by omega), (nI_ltI (a := j) (b := 6) (by omega) (by omega)).mpr (by omega)⟩
  have bG : (0 ≤ nI G ∧ nI G < 6) := ⟨nI_pos' (by omega), (nI_ltI (a := G) (b := 6) (by omega) (by omega)).mpr (by omega)⟩
  unfold wp_X11_isUpTo
  have e1 : nI (gAt gs j) < nI (gAt gs G) ↔ gAt gs j < gAt gs G := nI_ltI (by omega) (by omega)
  have e2 : nI (gAt gs j) = nI (gAt gs G) ↔ gAt gs j = gAt gs G := nI_eq (by omega) (by omega)
  have e3 : nI G < nI j ↔ G < j := nI_ltI (by omega) (by omega)
  rw [nI_clamp (by omega), nI_clamp (by omega), a4, b4, e1, e2, e3]
  unfold upB at h
  refine ⟨bj, bG, fun c => ?_, fun c => ⟨bj, bG, fun c2 => ?_, fun c2 => ⟨fun c3 => ?_, fun c3 => ?_⟩⟩⟩
  · have : decide (gAt gs j < gAt gs G ∨ (gAt gs j = gAt gs G ∧ j ≤ G)) = true := decide_eq_true (Or.inl c)
    rw [this] at h; exact h
  · have : decide (gAt gs j < gAt gs G ∨ (gAt gs j = gAt gs G ∧ j ≤ G)) = false := decide_eq_false (by omega)
    rw [this] at h; exact h
  · have : decide (gAt gs j < gAt gs G ∨ (gAt gs j = gAt gs G ∧ j ≤ G)) = false := decide_eq_false (by omega)
    rw [this] at h; exact h
  · have : decide (gAt gs j < gAt gs G ∨ (gAt gs j = gAt gs G ∧ j ≤ G)) = true := decide_eq_true (by omega)
    rw [this] at h; exact h
theorem cM_fits {τ : Mm} {gs : List (Nat × Nat)} (hT : TdM τ 14 7 8 gs) {m k G : Nat} (hm : m < 1008) (hk : k ≤ 40) (hG : G < gs.length) {Φ : Int32 → Prop} (h : Φ (if ftU gs G k gs.length m then 1 else 0)) : wp_X11_fits τ (nI m) (nI k) (nI G) Φ := by
  have h6 := hT.1
  have key : ∀ r i, i + r = gs.length → wp_X11_fits_L6 (nI m) (nI k) (nI G) τ Φ (r + 1) (if ftU gs G k i m then 1 else 0) (nI i) := by
    intro r
    induction r with
    | zero =>
      intro i hi
      have e : i = gs.length := by omega
      subst e
      unfold wp_X11_fits_L6
      rw [hT.2.1]
      refine br_t (nI_le (Nat.le_refl _) (by omega)) ⟨?_, h⟩
      split
      · exact kbit_1
      · exact kbit_0
    | succ r ih =>
      intro i hi
      have hil : i < gs.length := by omega
      have ei : gs[i]? = some (gYd gs i, gAt gs i) := by
        unfold gYd gAt
        rw [List.getD_eq_getElem?_getD, List.getElem?_eq_getElem hil]
        rfl
      obtain ⟨a1, a2, a3, a4⟩ := hT.2.2 i _ _ ei
      have en : nI i + 1 = nI (i + 1) := nI_1 i
      have ih' := ih (i + 1) (by omega)
      rw [ftU_s] at ih'
      have b6 : (0 ≤ nI i ∧ nI i < 6) := ⟨nI_pos' (by omega), (nI_ltI (a := i) (b := 6) (by omega) (by omega)).mpr (by omega)⟩
      unfold wp_X11_fits_L6
      have e2 : nI (gAt gs i) = nI k ↔ gAt gs i = k := nI_eq (by omega) (by omega)
      rw [hT.2.1, nI_clamp (by omega), a4, a3, en, e2]
      refine br_f (nI_ge hil (by omega)) ⟨fun v => v = (if (ftU gs G k i m && decide (gAt gs i = k → upB gs i G = true → gYd gs i = m % 8)) then 1 else 0), fun v ev => by rw [ev]; exact ih', ?_⟩
      refine ⟨(ftU gs G k i m && decide (gAt gs i = k → upB gs i G = true → gYd gs i = m % 8)) = false, fun q => by rw [q]; rfl, ?_⟩
      cases hq : ftU gs G k i m with
      | false => exact br_t rfl rfl
      | true =>
        refine br_f (by decide) ⟨b6, decide (gAt gs i = k → upB gs i G = true → gYd gs i = m % 8) = true, fun q => by rw [q]; rfl, fun c => by simp [c], fun c => ?_⟩
        refine cM_isUpTo hT hil hG ?_
        cases hu : upB gs i G with
        | false => exact br_t rfl (by simp)
        | true =>
          refine br_f (by decide) ⟨b6, cM_yardOf (by omega) ?_⟩
          have e3 : nI (gYd gs i) = nI (m % 8) ↔ gYd gs i = m % 8 := nI_eq (by omega) (by omega)
          rw [e3]
          exact ⟨fun c2 => by simp [c, c2], fun c2 => by simp [c2]⟩
  have h0 : ftU gs G k 0 m = true := by unfold ftU; simp
  have := key gs.length 0 (by omega)
  rw [h0] at this
  exact ⟨gs.length + 1, this⟩
theorem cM_isState {τ : Mm} {g d : Nat → Int32} (hg : WFg g) (hM : FmM τ g d) {m : Nat} (hm : m < 1008) {Φ : Int32 → Prop} (h : Φ (if stB g m then 1 else 0)) : wp_X11_isState τ (nI m) Φ := by
  have hN := hg.N
  have hP := hg.P
  have hF := hg.F
  have q0 : τ.1 1 0 = nI (aN g) := hM.1 0 (by omega)
  have q1 : τ.1 1 1 = nI (aP g) := hM.1 1 (by omega)
  have q2 : τ.1 1 2 = nI (aF g) := hM.1 2 (by omega)
  intro x ex
  have e48 : nI m / 48 = nI (m / 48) := pk_div (a := m) (d := 48) (by omega) (by omega) (by omega)
  rw [e48] at ex
  rw [ex, q0, q1, q2]
  have hl0 : nI (m / 48) = 0 ↔ m / 48 = 0 := nI_e0 (by omega)
  have hf0 : nI (aF g) = 0 ↔ aF g = 0 := nI_e0 (by omega)
  rw [hl0, hf0]
  have fin : ∀ (w : Int32 → Prop) (v4 : Int32) (ok : Prop), (v4 = 0 ↔ ¬ ok) → (isSt g m ↔ m % 8 < aN g ∧ m / 8 % 6 ≤ aP g ∧ ok) → wp_X11_yardOf (nI m) (fun r6 => ((nI (aN g) ≤ r6 → Φ 0) ∧ (¬ (nI (aN g) ≤ r6) → (wp_X11_whomOf (nI m) (fun r8 => ((nI (aP g) ≤ r8 → Φ 0) ∧ (¬ (nI (aP g) ≤ r8) → (((v4 = 0 → Φ 0) ∧ (¬ (v4 = 0) → Φ 1)))))))))) := by
    intro _ v4 ok hv hs
    refine cM_yardOf (by omega) ?_
    have e1 : nI (aN g) ≤ nI (m % 8) ↔ aN g ≤ m % 8 := nI_leI (by omega) (by omega)
    rw [e1]
    have hyes : isSt g m → Φ 1 := fun q => by rw [stB_iff.mpr q] at h; exact h
    have hno : ¬ isSt g m → Φ 0 := fun q => by
      have : stB g m = false := by
        cases hh : stB g m
        · rfl
        · exact absurd (stB_iff.mp hh) q
      rw [this] at h; exact h
    refine ⟨fun c => hno (fun q => by have := (hs.mp q).1; omega), fun c => ?_⟩
    have tail : ∀ r8 : Int32, (nI (aP g) ≤ r8 ↔ aP g < m / 8 % 6) → ((nI (aP g) ≤ r8 → Φ 0) ∧ (¬ (nI (aP g) ≤ r8) → (((v4 = 0 → Φ 0) ∧ (¬ (v4 = 0) → Φ 1))))) := by
      intro r8 hr
      rw [hr, hv]
      refine ⟨fun c2 => hno (fun q => by have := (hs.mp q).2.1; omega), fun c2 => ⟨fun c3 => hno (fun q => c3 (hs.mp q).2.2), fun c3 => hyes (hs.mpr ⟨by omega, by omega, Classical.byContradiction c3⟩)⟩⟩
    by_cases hw : m / 8 % 6 = 0
    · refine cM_whom0 (by omega) hw (tail _ ⟨fun q => ?_, fun q => by omega⟩)
      have h1 := (fa_le_ _ _).mp q
      rw [nI_toInt (by omega)] at h1
      have h2 : (-1 : Int32).toInt = -1 := by decide
      omega
    · refine cM_whom1 (by omega) hw (tail _ ?_)
      rw [nI_leI (by omega) (by omega)]
      omega
  have unf : isSt g m ↔ m < 1008 ∧ m % 8 < aN g ∧ m / 8 % 6 ≤ aP g ∧ (m / 8 % 6 = 0 → m / 48 = 0) ∧ (aF g = 0 → m / 48 = 0) ∧ (m / 8 % 6 ≠ 0 → aF g ≠ 0 → 1 ≤ m / 48 ∧ m / 48 ≤ aF g) := Iff.rfl
  by_cases hw : m / 8 % 6 = 0
  · refine cM_whom0 (by omega) hw ⟨_, fun _ z => z, _, fun z => z, br_t (by decide) ?_⟩
    refine ⟨fun c => fin (fun _ => True) 0 (m / 48 = 0) (by simp [c]) ?_, fun c => fin (fun _ => True) 1 (m / 48 = 0) (by simp [c]) ?_⟩
    · rw [unf]; omega
    · rw [unf]; omega
  · refine cM_whom1 (by omega) hw ⟨_, fun _ z => z, _, fun z => z, br_f (nI_pos (by omega)) ?_⟩
    refine ⟨fun c => ?_, fun c => ?_⟩
    · refine cM_in1' (by omega) (fun q => fin (fun _ => True) 1 (1 ≤ m / 48 ∧ m / 48 ≤ aF g) ?_ ?_) (fun q => fin (fun _ => True) 0 (1 ≤ m / 48 ∧ m / 48 ≤ aF g) ?_ ?_)
      · obtain ⟨j, j1, j2, j3⟩ := q
        have := (nI_eq (by omega) (by omega)).mp j3
        exact ⟨fun z => absurd z (by decide), fun z => absurd ⟨by omega, by omega⟩ z⟩
      · rw [unf]; omega
      · exact ⟨fun _ z => q ⟨m / 48, z.1, z.2, rfl⟩, fun _ => rfl⟩
      · rw [unf]; omega
    · refine ⟨fun c2 => fin (fun _ => True) 0 (m / 48 = 0) (by simp [c2]) ?_, fun c2 => fin (fun _ => True) 1 (m / 48 = 0) (by simp [c2]) ?_⟩
      · rw [unf]; omega
      · rw [unf]; omega
