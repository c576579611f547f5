section LC
variable {p : Program} {l : Launch} {e : Env} {R : Room} {s : State} {m : MethodId} {args : Array Value} {below : List Frame} {meth : Method} {c : Code} {H : Heap} {locs : List Loc} {cells slots : Nat} {Q : State → Prop}
variable {pc : Nat} {ls : Array Slot} {rest st : List Value} {Z Z' : KD} {X X' : KX} {A : Nat → Prop} {σ τ : Mm}
theorem lkeep (hap : ∀ k j, k < Z.1 → j < Z'.1 → X.2.1 k ≠ X'.2.1 j) (hV : kW Z' X' A s τ H locs) {H1 : Heap} {locs1 : List Loc} (hS1 : va_S A s.heap H1 locs1) (hk : ∀ q : Nat, q < H.size → ¬ kA Z X q → H1[q]? = H[q]?) : kW Z' X' A s τ H1 locs1 := by
  refine ⟨hV.1.kept (fun k q h => hk q.1 (hV.1 k q h).lt (fun z => ?_)), hS1, hV.2.2⟩
  obtain ⟨i, hi, e⟩ := z
  have hj : k < Z'.1 := by
    have := (List.getElem?_eq_some_iff.mp h).1
    rw [kw_len] at this
    exact this
  rw [kw_at hj] at h
  cases h
  exact hap i k hi hj e
theorem lci {Ψ : Int32 → Mm → Prop} {a : Array Value} (hr : va_Run p l e R s m args below meth c H locs cells slots 0 0 (F0 m pc ls st) rest (va_Qi Ψ (fun σ' t => kPre Z X σ' t) (kA Z X) a) (kA Z X)) (hS : kS Z X A s) (hW : kW Z X A s σ H locs) (hap : ∀ k j, k < Z.1 → j < Z'.1 → X.2.1 k ≠ X'.2.1 j) (hV : kW Z' X' A s τ H locs) (kk : ∀ (r : Int32) (σ' : Mm) (H1 : Heap) (locs1 : List Loc), Ψ r σ' → kW Z X A s σ' H1 locs1 → kW Z' X' A s τ H1 locs1 → W p l e R s m args below meth c H1 locs1 cells slots Q (F0 m (pc + 3) ls (.int r :: rest))) : W p l e R s m args below meth c H locs cells slots Q (F0 m pc ls st) :=
  va_calli hr hW.2.1 (fun q _ h => by obtain ⟨k, hk, rfl⟩ := h; exact hS.2.2 k hk) (fun q h => by obtain ⟨k, hk, rfl⟩ := h; exact hS.2.2 k hk) (fun r u t H1 locs1 ht _ hw hB _ hk hS1 => kk r u H1 locs1 hw ⟨by rw [← ht]; exact hB.1, hS1, hB.2.2.2⟩ (lkeep hap hV hS1 hk))
theorem lcl {Ψ : Int64 → Mm → Prop} {a : Array Value} (hr : va_Run p l e R s m args below meth c H locs cells slots 0 0 (F0 m pc ls st) rest (va_Ql Ψ (fun σ' t => kPre Z X σ' t) (kA Z X) a) (kA Z X)) (hS : kS Z X A s) (hW : kW Z X A s σ H locs) (hap : ∀ k j, k < Z.1 → j < Z'.1 → X.2.1 k ≠ X'.2.1 j) (hV : kW Z' X' A s τ H locs) (kk : ∀ (r : Int64) (σ' : Mm) (H1 : Heap) (locs1 : List Loc), Ψ r σ' → kW Z X A s σ' H1 locs1 → kW Z' X' A s τ H1 locs1 → W p l e R s m args below meth c H1 locs1 cells slots Q (F0 m (pc + 3) ls (.long r :: rest))) : W p l e R s m args below meth c H locs cells slots Q (F0 m pc ls st) :=
  va_calll hr hW.2.1 (fun q _ h => by obtain ⟨k, hk, rfl⟩ := h; exact hS.2.2 k hk) (fun q h => by obtain ⟨k, hk, rfl⟩ := h; exact hS.2.2 k hk) (fun r u t H1 locs1 ht _ hw hB _ hk hS1 => kk r u H1 locs1 hw ⟨by rw [← ht]; exact hB.1, hS1, hB.2.2.2⟩ (lkeep hap hV hS1 hk))
end LC
