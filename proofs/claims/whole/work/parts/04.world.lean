/-- a word that stays as classes warm up: the kit's good ones, and links to a nest mate's members -/
def kw_good : Cond → Bool
  | .fieldLinkNest .. => true
  | .methodLinkNest .. => true
  | .arrayClass _ => true
  | w => w.onTables && w.keeps
theorem kw_warm {w : Cond} (h : kw_good w = true) {args a' : Array Value} {s U : State} (hW : s.WarmedH U.vm) (hb : w.before args s = true) : w.before a' U = true := by
  cases w
  case fieldLinkNest a i b n d h2 => exact va_Nw.use rfl (va_Nw.warmF hW (va_Nw.of rfl hb))
  case methodLinkNest a i x h2 => exact va_Nw.use rfl (va_Nw.warmM hW (va_Nw.of rfl hb))
  case arrayClass ty => exact word_at hW (Or.inr ⟨ty, rfl⟩) hb
  all_goals exact word_at hW (Or.inl h) hb
/-- the tables' words that every method is given -/
def kT : List Cond := lw_tbl.filter kw_good
theorem kT_in {w : Cond} (i : Nat) (h : lw_tbl[i]? = some w) (hg : kw_good w = true) : w ∈ kT := List.mem_filter.mpr ⟨List.mem_of_getElem? h, hg⟩
theorem kT_warm {args : Array Value} {s : State} (hts : ∀ w ∈ kT, w.before args s = true) : ∀ w ∈ kT, ∀ (a' : Array Value) (U : State), s.WarmedH U.vm → w.before a' U = true := fun w hw _ _ hW => kw_warm (List.mem_filter.mp hw).2 hW (hts w hw)
/-- class ids and addresses: the kit's D, the address of each cell, the array classes of byte, int, long, boolean -/
abbrev KX : Type := va_G × (Nat → Nat) × ClassId × ClassId × ClassId × ClassId
/-- a memory: ints by cell and place, longs by cell and place, references that change -/
abbrev Mm : Type := (Nat → Nat → Int32) × (Nat → Nat → Int64) × (Nat → Nat)
/-- a shape: how many cells, what each is, what holds of the references -/
abbrev KD : Type := Nat × (KX → (Nat → Int32) → (Nat → Int64) → (Nat → Nat) → Nat → va_E) × ((Nat → Nat) → Prop)
def kwi (σ : Mm) (k j : Nat) (v : Int32) : Mm := (fun a => if a = k then upd (σ.1 a) j v else σ.1 a, σ.2)
def kwl (σ : Mm) (k j : Nat) (v : Int64) : Mm := (σ.1, fun a => if a = k then vp_updL (σ.2.1 a) j v else σ.2.1 a, σ.2.2)
def kwr (σ : Mm) (i v : Nat) : Mm := (σ.1, σ.2.1, fun a => if a = i then v else σ.2.2 a)
def kwL (Z : KD) (X : KX) (σ : Mm) : va_W := (List.range Z.1).map (fun k => (X.2.1 k, Z.2.1 X (σ.1 k) (σ.2.1 k) σ.2.2 k))
def kwT (X : KX) : List (ClassId × FieldType) := [(X.2.2.1, .byte), (X.2.2.2.1, .int), (X.2.2.2.2.1, .long), (X.2.2.2.2.2, .boolean)]
def kA (Z : KD) (X : KX) : Nat → Prop := fun q => ∃ k, k < Z.1 ∧ X.2.1 k = q
def kS (Z : KD) (X : KX) (A : Nat → Prop) (s : State) : Prop := va_K X.1 vwCl (kwT X) s ∧ (∀ i j, i < Z.1 → j < Z.1 → X.2.1 i = X.2.1 j → i = j) ∧ ∀ k, k < Z.1 → A (X.2.1 k)
def kW (Z : KD) (X : KX) (A : Nat → Prop) (s : State) (σ : Mm) (H : Heap) (locs : List Loc) : Prop := va_P X.1 vwCl (kwL Z X σ) H ∧ va_S A s.heap H locs ∧ Z.2.2 σ.2.2
def kPre (Z : KD) (X : KX) (σ : Mm) (U : State) : Prop := va_P X.1 vwCl (kwL Z X σ) U.heap ∧ va_K X.1 vwCl (kwT X) U ∧ (∀ i j, i < Z.1 → j < Z.1 → X.2.1 i = X.2.1 j → i = j) ∧ Z.2.2 σ.2.2
def kIsO (Z : KD) (X : KX) (k ci : Nat) (fl : KX → (Nat → Int32) → (Nat → Nat) → Nat → List Value) : Prop := k < Z.1 ∧ ∀ ri rl rr, Z.2.1 X ri rl rr k = .inr (ci, fl X ri rr k)
def kIsI (Z : KD) (X : KX) (k n : Nat) : Prop := k < Z.1 ∧ ∀ ri rl rr, Z.2.1 X ri rl rr k = .inl (X.2.2.2.1, n, .inl ri)
def kIsB (Z : KD) (X : KX) (k n : Nat) : Prop := k < Z.1 ∧ ∀ ri rl rr, Z.2.1 X ri rl rr k = .inl (X.2.2.1, n, .inl ri)
def kIsZ (Z : KD) (X : KX) (k n : Nat) : Prop := k < Z.1 ∧ ∀ ri rl rr, Z.2.1 X ri rl rr k = .inl (X.2.2.2.2.2, n, .inl ri)
def kIsJ (Z : KD) (X : KX) (k n : Nat) : Prop := k < Z.1 ∧ ∀ ri rl rr, Z.2.1 X ri rl rr k = .inl (X.2.2.2.2.1, n, .inr (.inl rl))
theorem kw_at {Z : KD} {X : KX} {σ : Mm} {k : Nat} (h : k < Z.1) : (kwL Z X σ)[k]? = some (X.2.1 k, Z.2.1 X (σ.1 k) (σ.2.1 k) σ.2.2 k) := by
  unfold kwL
  rw [List.getElem?_map, List.getElem?_range h]
  rfl
theorem kw_len {Z : KD} {X : KX} {σ : Mm} : (kwL Z X σ).length = Z.1 := by simp [kwL]
theorem kw_set {Z : KD} {X : KX} {σ σ' : Mm} {k : Nat} {e : va_E} (h : k < Z.1) (h1 : Z.2.1 X (σ'.1 k) (σ'.2.1 k) σ'.2.2 k = e) (h2 : ∀ i, i ≠ k → Z.2.1 X (σ'.1 i) (σ'.2.1 i) σ'.2.2 i = Z.2.1 X (σ.1 i) (σ.2.1 i) σ.2.2 i) : (kwL Z X σ).set k (X.2.1 k, e) = kwL Z X σ' := by
  apply List.ext_getElem?
  intro i
  by_cases hi : i < Z.1
  · by_cases hik : i = k
    · subst hik
      rw [List.getElem?_set_self (by rw [kw_len]; exact hi), kw_at hi, h1]
    · rw [List.getElem?_set_ne (Ne.symm hik), kw_at hi, kw_at hi, h2 i hik]
  · rw [List.getElem?_eq_none (by rw [List.length_set, kw_len]; omega), List.getElem?_eq_none (by rw [kw_len]; omega)]
theorem kw_D {Z : KD} {X : KX} {A : Nat → Prop} {s : State} (hS : kS Z X A s) (σ : Mm) : va_D A (kwL Z X σ) := by
  have key : ∀ (k : Nat) (q : Nat × va_E), (kwL Z X σ)[k]? = some q → k < Z.1 ∧ q.1 = X.2.1 k := by
    intro k q h
    have hk : k < Z.1 := by
      have := (List.getElem?_eq_some_iff.mp h).1
      rw [kw_len] at this
      exact this
    rw [kw_at hk] at h
    cases h
    exact ⟨hk, rfl⟩
  refine ⟨fun i j p q hi hj he => ?_, fun k q hk => ?_⟩
  · obtain ⟨a1, a2⟩ := key i p hi
    obtain ⟨b1, b2⟩ := key j q hj
    exact hS.2.1 i j a1 b1 (by rw [← a2, ← b2]; exact he)
  · obtain ⟨a1, a2⟩ := key k q hk
    rw [a2]
    exact hS.2.2 k a1
theorem kw_atO {Z : KD} {X : KX} {σ : Mm} {k ci : Nat} {fl : KX → (Nat → Int32) → (Nat → Nat) → Nat → List Value} (h : kIsO Z X k ci fl) : (kwL Z X σ)[k]? = some (X.2.1 k, .inr (ci, fl X (σ.1 k) σ.2.2 k)) := by rw [kw_at h.1, h.2]
theorem kw_atI {Z : KD} {X : KX} {σ : Mm} {k n : Nat} (h : kIsI Z X k n) : (kwL Z X σ)[k]? = some (X.2.1 k, .inl (X.2.2.2.1, n, .inl (σ.1 k))) := by rw [kw_at h.1, h.2]
theorem kw_atB {Z : KD} {X : KX} {σ : Mm} {k n : Nat} (h : kIsB Z X k n) : (kwL Z X σ)[k]? = some (X.2.1 k, .inl (X.2.2.1, n, .inl (σ.1 k))) := by rw [kw_at h.1, h.2]
theorem kw_atZ {Z : KD} {X : KX} {σ : Mm} {k n : Nat} (h : kIsZ Z X k n) : (kwL Z X σ)[k]? = some (X.2.1 k, .inl (X.2.2.2.2.2, n, .inl (σ.1 k))) := by rw [kw_at h.1, h.2]
theorem kw_atJ {Z : KD} {X : KX} {σ : Mm} {k n : Nat} (h : kIsJ Z X k n) : (kwL Z X σ)[k]? = some (X.2.1 k, .inl (X.2.2.2.2.1, n, .inr (.inl (σ.2.1 k)))) := by rw [kw_at h.1, h.2]
theorem kwi_same (σ : Mm) (k j : Nat) (v : Int32) : (kwi σ k j v).1 k = upd (σ.1 k) j v := if_pos rfl
theorem kwi_ne (σ : Mm) {k i : Nat} (j : Nat) (v : Int32) (h : i ≠ k) : (kwi σ k j v).1 i = σ.1 i := if_neg h
theorem kwl_same (σ : Mm) (k j : Nat) (v : Int64) : (kwl σ k j v).2.1 k = vp_updL (σ.2.1 k) j v := if_pos rfl
theorem kwl_ne (σ : Mm) {k i : Nat} (j : Nat) (v : Int64) (h : i ≠ k) : (kwl σ k j v).2.1 i = σ.2.1 i := if_neg h
theorem kw_setI {Z : KD} {X : KX} {σ : Mm} {k j : Nat} {v : Int32} {e : va_E} (h : k < Z.1) (h1 : Z.2.1 X (upd (σ.1 k) j v) (σ.2.1 k) σ.2.2 k = e) : (kwL Z X σ).set k (X.2.1 k, e) = kwL Z X (kwi σ k j v) :=
  kw_set h (by rw [kwi_same]; exact h1) (fun i hi => by rw [kwi_ne σ j v hi]; rfl)
theorem kw_setL {Z : KD} {X : KX} {σ : Mm} {k j : Nat} {v : Int64} {e : va_E} (h : k < Z.1) (h1 : Z.2.1 X (σ.1 k) (vp_updL (σ.2.1 k) j v) σ.2.2 k = e) : (kwL Z X σ).set k (X.2.1 k, e) = kwL Z X (kwl σ k j v) :=
  kw_set h (by rw [kwl_same]; exact h1) (fun i hi => by rw [kwl_ne σ j v hi]; rfl)
theorem kin_of {i : Int32} {n : Nat} (h : 0 ≤ i ∧ i < nI n) (hn : n < 2 ^ 31) : vp_in i n := by
  rw [vp_in_iff]
  have h1 := Int32.le_iff_toInt_le.mp h.1
  have h2 := Int32.lt_iff_toInt_lt.mp h.2
  rw [nI_toInt hn] at h2
  exact ⟨h1, h2⟩
