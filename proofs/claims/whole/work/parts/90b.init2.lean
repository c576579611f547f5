theorem kS_of {Z : KD} {X : KX} {A : Nat → Prop} {s : State} {σ : Mm} {ws : va_W} (e : kwL Z X σ = ws) (hK : va_K X.1 vwCl (kwT X) s) (hD : va_D A ws) : kS Z X A s := by
  subst e
  refine ⟨hK, fun i j hi hj he => ?_, fun k hk => ?_⟩
  · exact hD.1 i j _ _ (kw_at hi) (kw_at hj) he
  · exact hD.2 k _ (kw_at hk)
def kB2 (Z : KD) (X : KX) (h0 : Nat) (A : Nat → Prop) (x : (Nat → Nat) × Mm) (t : State) : Prop := kPre Z (X.1, x.1, X.2.2) x.2 t ∧ x.1 0 = h0 ∧ ∀ k, k < Z.1 → A (x.1 k)
theorem kIof2 {l : Launch} {X : KX} {y : MethodName} {cc : ByteArray} {maxL h0 : Nat} {rm : Room} {av : List Value} {ws0 : va_W} {Z : KD} {Φ : Mm → Prop} {E : State → Prop} (hy : plainName y.cls = true) (hnm : y.name = "<init>") (hav : (lg_sl av).length ≤ maxL)
    (body : ∀ (p : Program) (e : Env) (s : State) (m : MethodId) (args : Array Value) (below : List Frame) (meth : Method) (c : Code) (ls : Array Slot) (Q : State → Prop) (A : Nat → Prop), p.tables.exec = Jvm.exec → c.code = cc → c.maxLocals = maxL → s.vm.findClass y.cls = some m.cls → (∀ w ∈ kT, w.before args s = true) → meth.name = "<init>" → va_K X.1 vwCl (kwT X) s → va_P X.1 vwCl ws0 s.heap → va_D A ws0 → va_S A s.heap s.heap [] → (∀ q : Nat, s.heap.size ≤ q → A q) → E s → (∀ q : Nat, q < s.heap.size → A q → q = h0) → lv_has ls maxL (lv_args 0 av) →
      (∀ (u : Nat → Nat) (σ : Mm) (H : Heap) (locs : List Loc) (pc : Nat) (ls : Array Slot), Φ σ → kS Z (X.1, u, X.2.2) A s → kW Z (X.1, u, X.2.2) A s σ H locs → u 0 = h0 → decode cc pc = .ok (.return_, 1) → W p l e rm s m args below meth c H locs rm.cells rm.slots Q (F0 m pc ls [])) → W p l e rm s m args below meth c s.heap [] 0 0 Q (F0 m 0 ls [])) (hws : ∀ (k : Nat) (q : Nat × va_E), ws0[k]? = some q → q.1 = h0) :
    ∀ sz, Met l y (.code y cc maxL none :: kT) rm (va_Pc av (fun U => kI0 X ws0 sz U ∧ E U)) (va_Qv (fun x : (Nat → Nat) × Mm => Φ x.2) (kB2 Z X h0 (va_A ws0 sz)) (va_A ws0 sz)) rm.cells rm.slots (va_A ws0 sz) := by
  intro sz
  refine Met.ofW hy rfl ?_
  intro p e s m args below meth c s₁ B hml hv
  obtain ⟨rfl, ⟨hsz, hP, hK, hD0⟩, hE⟩ := hv
  subst hsz
  have hl := lv_entry av hav
  rw [lg_entry_eq]
  have hts := atoms_spec (ws := .code y cc maxL none :: kT) B.pre
  have hin : meth.name = "<init>" := (name_of_methodNamed B.named B.method).1.trans hnm
  refine body p e s m _ below meth c _ _ (va_A ws0 s.heap.size) B.exec B.bytes hml (findClass_of_methodNamed B.named) (fun w hw => hts w (List.mem_cons_of_mem _ hw)) hin hK hP hD0.self va_S.rf (fun q h => Or.inr h) hE (fun q h1 h2 => ?_) hl ?_
  · rcases h2 with ⟨k, e, h⟩ | h
    · exact hws k (q, e) h
    · omega
  · intro u σ H locs pc ls hΦ hS hW hu hdg
    exact W.vret B.exec B.bytes B.returns (fun t ht hWm => ⟨⟨(u, σ), rfl, hΦ, ⟨by rw [ht]; exact hW.1, va_K.moved hWm.alike hK, hS.2.1, hW.2.2⟩, hu, hS.2.2⟩, hW.2.1.F ht⟩) hW.2.1.2.2 hdg B.notSynchronized
