/-- what the component's constructor asks of the String -/
def kE (tx : String) (a b f h0 : Nat) (U : State) : Prop := vk_R RX10 76 tx a U ∧ va_O "java/lang/String" a (fun q => q = h0 ∨ U.heap.size ≤ q) U U.heap ∧ va_OF "java/lang/String" "coder" "B" (.int 0) a (fun q => q = h0 ∨ U.heap.size ≤ q) U U.heap ∧ va_OF "java/lang/String" "value" "[B" (.ref b) a (fun q => q = h0 ∨ U.heap.size ≤ q) U U.heap ∧ va_T .byte b 33 (fun j => .int (nI (T1 j))) (fun q => q = h0 ∨ U.heap.size ≤ q) U U.heap ∧ va_Z "java/lang/String" "COMPACT_STRINGS" "Z" (.int 1) (fun q => q = h0 ∨ U.heap.size ≤ q) U U.heap ∧ va_Z "jdk/internal/util/Preconditions" "SIOOBE_FORMATTER" "Ljava/util/function/BiFunction;" (kfv f) (fun q => q = h0 ∨ U.heap.size ≤ q) U U.heap
def ws0C (h0 : Nat) : va_W := [(h0, .inr (10, [.null, .null, .null, .null, .null, .null, .null, .null, .null, .null, .null]))]
theorem i_X10_init (l : Launch) (X : KX) (tx : String) (a b f h0 : Nat) : ∀ sz, Met l yX10_init (.code yX10_init cX10_init 2 none :: kT) rmi_X10_init (va_Pc [.ref h0] (fun U => kI0 X (ws0C h0) sz U ∧ kE tx a b f h0 U)) (va_Qv (fun x : (Nat → Nat) × Mm => CompR x.2) (kB2 kZC X h0 (va_A (ws0C h0) sz)) (va_A (ws0C h0) sz)) rmi_X10_init.cells rmi_X10_init.slots (va_A (ws0C h0) sz) := by
  refine kIof2 (E := kE tx a b f h0) (by decide) rfl (Nat.le_of_ble_eq_true rfl) ?_ (fun k q h => by cases k with | zero => cases h; rfl | succ k => simp [ws0C] at h)
  intro p e s m args below meth c ls Q A hx hcb hml hown hts hin hK hP hD hS hA hE hA2 hl hret
  obtain ⟨z0, z1, z2, z3, z4, z5, z6⟩ := hE
  have hAB : ∀ q, A q → q = h0 ∨ s.heap.size ≤ q := fun q hq => by
    rcases Nat.lt_or_ge q s.heap.size with z | z
    · exact Or.inl (hA2 q z hq)
    · exact Or.inr z
  refine p_X10 hx hcb hml hown hts hin hK hP hD hS hA hl (fun u H locs hS1 hW1 hu => ?_)
  subst hu
  refine t_X10 (X := (X.1, u, X.2.2)) (tx := tx) (a := a) (b := b) (f := f) hx hcb hml hown hts rfl hS1 hW1 hl ⟨Nat.le_refl _, Nat.le_refl _⟩ z0 (fun H locs hS2 => kSt_at hS2 ⟨z1.narrow hAB, z2.narrow hAB, z3.narrow hAB, z4.narrow hAB, z5.narrow hAB, z6.narrow hAB⟩) wt_C (fun σ2 H locs ls h1 h2 => hret _ _ _ _ _ _ h1 hS1 h2 rfl dX10_init_196)
