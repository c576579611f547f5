/-- what is known of a method that is called by its object, and of a static one -/
def kMV (y : MethodName) (C : String) (bytes : ByteArray) (maxL : Nat) (ret : Option FieldType) (n : Nat) : Prop := Cond.code y bytes maxL ret ∈ kT ∧ Cond.initialized y.cls ∈ kT ∧ Cond.instanceMethod y ∈ kT ∧ Cond.selects C y y ∈ kT ∧ (y.cls ≠ "java/lang/invoke/MethodHandle" ∧ y.cls ≠ "java/lang/invoke/VarHandle") ∧ (parseMethodDescriptor y.desc).map (fun d => d.parameters.length) = some n
def kMS (y : MethodName) (bytes : ByteArray) (maxL : Nat) (ret : Option FieldType) (n : Nat) : Prop := Cond.code y bytes maxL ret ∈ kT ∧ Cond.initialized y.cls ∈ kT ∧ Cond.static y ∈ kT ∧ (y.cls ≠ "java/lang/invoke/MethodHandle" ∧ y.cls ≠ "java/lang/invoke/VarHandle") ∧ (parseMethodDescriptor y.desc).map (fun d => d.parameters.length) = some n
theorem kblind {Z : KD} {X : KX} {σ : Mm} {av : List Value} : FrameBlind (va_Pc av (kPre Z X σ)) := by
  intro a U g mk q
  obtain ⟨q0, qP, qK, qD⟩ := q
  exact ⟨q0, qP, va_K.moved (u := U) (U := U.calling g mk a) (Vm.Alike.refl U.vm) qK, qD⟩
section KC
variable {p : Program} {l : Launch} {e : Env} {R : Room} {s : State} {m : MethodId} {args : Array Value} {below : List Frame} {meth : Method} {c : Code} {H : Heap} {locs : List Loc} {cells slots : Nat} {Q : State → Prop}
variable {cc bytes : ByteArray} {pc nL maxL n index : Nat} {ls : Array Slot} {rest As st : List Value} {Z : KD} {X : KX} {A : Nat → Prop} {σ : Mm} {y : MethodName} {ret : Option FieldType} {rm : Room} {Qc : Array Value → State → Outcome → State → Prop} {free : Addr → Prop} {own host : String}
theorem kcb (hts : ∀ w ∈ kT, w.before args s = true) (hcode : Cond.code y bytes maxL ret ∈ kT) : ∀ w ∈ (Cond.code y bytes maxL ret :: kT), ∀ (a' : Array Value) (U : State), s.WarmedH U.vm → w.before a' U = true := by
  intro w hw
  rcases List.mem_cons.mp hw with h | h
  · subst h
    exact kT_warm hts _ hcode
  · exact kT_warm hts _ h
theorem kpm (hd : (parseMethodDescriptor y.desc).map (fun d => d.parameters.length) = some n) : ∀ sig, parseMethodDescriptor y.desc = some sig → n = sig.parameters.length := by
  intro sig h
  rw [h] at hd
  exact (Option.some.inj hd).symm
theorem krunV {C : String} {T : u_T} {N ci k : Nat} {fl : KX → (Nat → Int32) → (Nat → Nat) → Nat → List Value} (hx : p.tables.exec = Jvm.exec) (hb : c.code = cc) (hml : c.maxLocals = nL) (hown : s.vm.findClass own = some m.cls) (hts : ∀ w ∈ kT, w.before args s = true) (hS : kS Z X A s) (hW : kW Z X A s σ H locs) (hM : Met l y (.code y bytes maxL ret :: kT) rm (va_Pc (.ref (X.2.1 k) :: As) (kPre Z X σ)) Qc 0 0 free) (hf : kMV y C bytes maxL ret n) (hlink : Cond.methodLink own index y ∈ kT) (hk : kIsO Z X k ci fl) (hc : vwCl[ci]? = some (C, T, N)) (hrm : rm.cells = 0 ∧ rm.slots = 0) (hR : rm.frames + 1 ≤ R.frames ∧ 8 + (maxL + 11) + rm.locals ≤ R.locals) (hn : As.length = n) (hsize : ls.size = nL) (hst : st = As.reverse ++ .ref (X.2.1 k) :: rest) (hrest : (rest.map fun v => v.category).sum ≤ 8) (hdg : decode cc pc = .ok (.invokevirtual index, 3)) (hcs : cells ≤ R.cells ∧ slots ≤ R.slots) :
    va_Run p l e R s m args below meth c H locs cells slots 0 0 (F0 m pc ls st) rest (Qc (Value.ref (X.2.1 k) :: As).toArray) free :=
  va_runV ⟨hx, hb, hml, hown, hts⟩ hM ⟨⟨hrm.1, hrm.2, hR.1, hR.2, kcb hts hf.1, List.mem_cons_self, hts _ hf.1, hts _ hf.2.1, hf.2.2.2.2.1, kpm hf.2.2.2.2.2, hts _ hlink⟩, hts _ hf.2.2.1, hts _ hf.2.2.2.1⟩ ⟨kblind, va_recv hS.1 hW.1 hc (kw_atO hk), fun U hU hWm => ⟨rfl, by rw [hU]; exact hW.1, va_K.moved hWm.alike hS.1, hS.2.1, hW.2.2⟩⟩ rfl hn hsize hst (lv_room hrest) hdg hcs
theorem krunVN {C : String} {T : u_T} {N ci k : Nat} {fl : KX → (Nat → Int32) → (Nat → Nat) → Nat → List Value} (hx : p.tables.exec = Jvm.exec) (hb : c.code = cc) (hml : c.maxLocals = nL) (hown : s.vm.findClass own = some m.cls) (hts : ∀ w ∈ kT, w.before args s = true) (hS : kS Z X A s) (hW : kW Z X A s σ H locs) (hM : Met l y (.code y bytes maxL ret :: kT) rm (va_Pc (.ref (X.2.1 k) :: As) (kPre Z X σ)) Qc 0 0 free) (hf : kMV y C bytes maxL ret n) (hlink : Cond.methodLinkNest own index y host ∈ kT) (hk : kIsO Z X k ci fl) (hc : vwCl[ci]? = some (C, T, N)) (hrm : rm.cells = 0 ∧ rm.slots = 0) (hR : rm.frames + 1 ≤ R.frames ∧ 8 + (maxL + 11) + rm.locals ≤ R.locals) (hn : As.length = n) (hsize : ls.size = nL) (hst : st = As.reverse ++ .ref (X.2.1 k) :: rest) (hrest : (rest.map fun v => v.category).sum ≤ 8) (hdg : decode cc pc = .ok (.invokevirtual index, 3)) (hcs : cells ≤ R.cells ∧ slots ≤ R.slots) :
    va_Run p l e R s m args below meth c H locs cells slots 0 0 (F0 m pc ls st) rest (Qc (Value.ref (X.2.1 k) :: As).toArray) free :=
  va_runVN ⟨hx, hb, hml, hown, hts⟩ hM ⟨⟨⟨hrm.1, hrm.2, hR.1, hR.2, kcb hts hf.1, List.mem_cons_self⟩, hts _ hf.1, hts _ hf.2.1, hf.2.2.2.2.1, kpm hf.2.2.2.2.2, hts _ hlink⟩, hts _ hf.2.2.1, hts _ hf.2.2.2.1⟩ ⟨kblind, va_recv hS.1 hW.1 hc (kw_atO hk), fun U hU hWm => ⟨rfl, by rw [hU]; exact hW.1, va_K.moved hWm.alike hS.1, hS.2.1, hW.2.2⟩⟩ rfl hn hsize hst (lv_room hrest) hdg hcs
theorem krunS (hx : p.tables.exec = Jvm.exec) (hb : c.code = cc) (hml : c.maxLocals = nL) (hown : s.vm.findClass own = some m.cls) (hts : ∀ w ∈ kT, w.before args s = true) (hS : kS Z X A s) (hW : kW Z X A s σ H locs) (hM : Met l y (.code y bytes maxL ret :: kT) rm (va_Pc As (kPre Z X σ)) Qc 0 0 free) (hf : kMS y bytes maxL ret n) (hlink : Cond.methodLink own index y ∈ kT) (hrm : rm.cells = 0 ∧ rm.slots = 0) (hR : rm.frames + 1 ≤ R.frames ∧ 8 + (maxL + 11) + rm.locals ≤ R.locals) (hn : As.length = n) (hsize : ls.size = nL) (hst : st = As.reverse ++ rest) (hrest : (rest.map fun v => v.category).sum ≤ 8) (hdg : decode cc pc = .ok (.invokestatic index, 3)) (hcs : cells ≤ R.cells ∧ slots ≤ R.slots) :
    va_Run p l e R s m args below meth c H locs cells slots 0 0 (F0 m pc ls st) rest (Qc As.toArray) free :=
  va_runS ⟨hx, hb, hml, hown, hts⟩ hM ⟨⟨hrm.1, hrm.2, hR.1, hR.2, kcb hts hf.1, List.mem_cons_self, hts _ hf.1, hts _ hf.2.1, hf.2.2.2.1, kpm hf.2.2.2.2, hts _ hlink⟩, hts _ hf.2.2.1⟩ ⟨kblind, fun U hU hWm => ⟨rfl, by rw [hU]; exact hW.1, va_K.moved hWm.alike hS.1, hS.2.1, hW.2.2⟩⟩ rfl hn hsize hst (lv_room hrest) hdg hcs
theorem krunSN (hx : p.tables.exec = Jvm.exec) (hb : c.code = cc) (hml : c.maxLocals = nL) (hown : s.vm.findClass own = some m.cls) (hts : ∀ w ∈ kT, w.before args s = true) (hS : kS Z X A s) (hW : kW Z X A s σ H locs) (hM : Met l y (.code y bytes maxL ret :: kT) rm (va_Pc As (kPre Z X σ)) Qc 0 0 free) (hf : kMS y bytes maxL ret n) (hlink : Cond.methodLinkNest own index y host ∈ kT) (hrm : rm.cells = 0 ∧ rm.slots = 0) (hR : rm.frames + 1 ≤ R.frames ∧ 8 + (maxL + 11) + rm.locals ≤ R.locals) (hn : As.length = n) (hsize : ls.size = nL) (hst : st = As.reverse ++ rest) (hrest : (rest.map fun v => v.category).sum ≤ 8) (hdg : decode cc pc = .ok (.invokestatic index, 3)) (hcs : cells ≤ R.cells ∧ slots ≤ R.slots) :
    va_Run p l e R s m args below meth c H locs cells slots 0 0 (F0 m pc ls st) rest (Qc As.toArray) free :=
  va_runSN ⟨hx, hb, hml, hown, hts⟩ hM ⟨⟨⟨hrm.1, hrm.2, hR.1, hR.2, kcb hts hf.1, List.mem_cons_self⟩, hts _ hf.1, hts _ hf.2.1, hf.2.2.2.1, kpm hf.2.2.2.2, hts _ hlink⟩, hts _ hf.2.2.1, trivial⟩ ⟨kblind, fun U hU hWm => ⟨rfl, by rw [hU]; exact hW.1, va_K.moved hWm.alike hS.1, hS.2.1, hW.2.2⟩⟩ rfl hn hsize hst (lv_room hrest) hdg hcs
theorem kci {Ψ : Int32 → Mm → Prop} {a : Array Value} (hr : va_Run p l e R s m args below meth c H locs cells slots 0 0 (F0 m pc ls st) rest (va_Qi Ψ (fun σ' t => kPre Z X σ' t) (kA Z X) a) (kA Z X)) (hS : kS Z X A s) (hW : kW Z X A s σ H locs) (kk : ∀ (r : Int32) (σ' : Mm) (H1 : Heap) (locs1 : List Loc), Ψ r σ' → kW Z X A s σ' H1 locs1 → W p l e R s m args below meth c H1 locs1 cells slots Q (F0 m (pc + 3) ls (.int r :: rest))) : W p l e R s m args below meth c H locs cells slots Q (F0 m pc ls st) :=
  va_calli hr hW.2.1 (fun q _ h => by obtain ⟨k, hk, rfl⟩ := h; exact hS.2.2 k hk) (fun q h => by obtain ⟨k, hk, rfl⟩ := h; exact hS.2.2 k hk) (fun r u t H1 locs1 ht _ hw hB _ _ hS1 => kk r u H1 locs1 hw ⟨by rw [← ht]; exact hB.1, hS1, hB.2.2.2⟩)
theorem kcl {Ψ : Int64 → Mm → Prop} {a : Array Value} (hr : va_Run p l e R s m args below meth c H locs cells slots 0 0 (F0 m pc ls st) rest (va_Ql Ψ (fun σ' t => kPre Z X σ' t) (kA Z X) a) (kA Z X)) (hS : kS Z X A s) (hW : kW Z X A s σ H locs) (kk : ∀ (r : Int64) (σ' : Mm) (H1 : Heap) (locs1 : List Loc), Ψ r σ' → kW Z X A s σ' H1 locs1 → W p l e R s m args below meth c H1 locs1 cells slots Q (F0 m (pc + 3) ls (.long r :: rest))) : W p l e R s m args below meth c H locs cells slots Q (F0 m pc ls st) :=
  va_calll hr hW.2.1 (fun q _ h => by obtain ⟨k, hk, rfl⟩ := h; exact hS.2.2 k hk) (fun q h => by obtain ⟨k, hk, rfl⟩ := h; exact hS.2.2 k hk) (fun r u t H1 locs1 ht _ hw hB _ _ hS1 => kk r u H1 locs1 hw ⟨by rw [← ht]; exact hB.1, hS1, hB.2.2.2⟩)
theorem kcv {Ψ : Mm → Prop} {a : Array Value} (hr : va_Run p l e R s m args below meth c H locs cells slots 0 0 (F0 m pc ls st) rest (va_Qv Ψ (fun σ' t => kPre Z X σ' t) (kA Z X) a) (kA Z X)) (hS : kS Z X A s) (hW : kW Z X A s σ H locs) (kk : ∀ (σ' : Mm) (H1 : Heap) (locs1 : List Loc), Ψ σ' → kW Z X A s σ' H1 locs1 → W p l e R s m args below meth c H1 locs1 cells slots Q (F0 m (pc + 3) ls rest)) : W p l e R s m args below meth c H locs cells slots Q (F0 m pc ls st) :=
  va_callv hr hW.2.1 (fun q _ h => by obtain ⟨k, hk, rfl⟩ := h; exact hS.2.2 k hk) (fun q h => by obtain ⟨k, hk, rfl⟩ := h; exact hS.2.2 k hk) (fun u t H1 locs1 ht _ hw hB _ _ hS1 => kk u H1 locs1 hw ⟨by rw [← ht]; exact hB.1, hS1, hB.2.2.2⟩)
end KC
section KE
variable {l : Launch} {Z : KD} {X : KX} {y : MethodName} {cc : ByteArray} {maxL : Nat} {ty : FieldType} {rm : Room} {av : List Value} {σ : Mm}
theorem kofI {Ψ : Int32 → Mm → Prop} (hy : plainName y.cls = true) (hav : (lg_sl av).length ≤ maxL)
    (body : ∀ (p : Program) (e : Env) (s : State) (m : MethodId) (args : Array Value) (below : List Frame) (meth : Method) (c : Code) (ls : Array Slot) (Q : State → Prop), p.tables.exec = Jvm.exec → c.code = cc → c.maxLocals = maxL → s.vm.findClass y.cls = some m.cls → (∀ w ∈ kT, w.before args s = true) → kS Z X (kA Z X) s → kW Z X (kA Z X) s σ s.heap [] → lv_has ls maxL (lv_args 0 av) →
      (∀ (v : Int32) (σ' : Mm) (H : Heap) (locs : List Loc) (pc : Nat) (ls : Array Slot), narrow ty (.int v) = .int v → Ψ v σ' → kW Z X (kA Z X) s σ' H locs → decode cc pc = .ok (.ireturn, 1) → W p l e rm s m args below meth c H locs 0 0 Q (F0 m pc ls [.int v])) → W p l e rm s m args below meth c s.heap [] 0 0 Q (F0 m 0 ls [])) :
    Met l y (.code y cc maxL (some ty) :: kT) rm (va_Pc av (kPre Z X σ)) (va_Qi Ψ (fun σ' t => kPre Z X σ' t) (kA Z X)) 0 0 (kA Z X) := by
  refine Met.ofW hy rfl ?_
  intro p e s m args below meth c s₁ B hml hv
  obtain ⟨rfl, hpre⟩ := hv
  have hl := lv_entry av hav
  rw [lg_entry_eq]
  have hts := atoms_spec (ws := .code y cc maxL (some ty) :: kT) B.pre
  have hS : kS Z X (kA Z X) s := ⟨hpre.2.1, hpre.2.2.1, fun k hk => ⟨k, hk, rfl⟩⟩
  refine body p e s m _ below meth c _ _ B.exec B.bytes hml (findClass_of_methodNamed B.named) (fun w hw => hts w (List.mem_cons_of_mem _ hw)) hS ⟨hpre.1, va_S.rf, hpre.2.2.2⟩ hl ?_
  intro v σ' H locs pc ls hn hΨ hW hdg
  exact W.zret B.exec B.bytes B.returns hn (fun t ht hWm => ⟨⟨v, σ', rfl, hΨ, by rw [ht]; exact hW.1, va_K.moved hWm.alike hS.1, hS.2.1, hW.2.2⟩, hW.2.1.F ht⟩) hW.2.1.2.2 hdg B.notSynchronized
theorem kofL {Ψ : Int64 → Mm → Prop} (hy : plainName y.cls = true) (hav : (lg_sl av).length ≤ maxL)
    (body : ∀ (p : Program) (e : Env) (s : State) (m : MethodId) (args : Array Value) (below : List Frame) (meth : Method) (c : Code) (ls : Array Slot) (Q : State → Prop), p.tables.exec = Jvm.exec → c.code = cc → c.maxLocals = maxL → s.vm.findClass y.cls = some m.cls → (∀ w ∈ kT, w.before args s = true) → kS Z X (kA Z X) s → kW Z X (kA Z X) s σ s.heap [] → lv_has ls maxL (lv_args 0 av) →
      (∀ (v : Int64) (σ' : Mm) (H : Heap) (locs : List Loc) (pc : Nat) (ls : Array Slot), Ψ v σ' → kW Z X (kA Z X) s σ' H locs → decode cc pc = .ok (.lreturn, 1) → W p l e rm s m args below meth c H locs 0 0 Q (F0 m pc ls [.long v])) → W p l e rm s m args below meth c s.heap [] 0 0 Q (F0 m 0 ls [])) :
    Met l y (.code y cc maxL (some .long) :: kT) rm (va_Pc av (kPre Z X σ)) (va_Ql Ψ (fun σ' t => kPre Z X σ' t) (kA Z X)) 0 0 (kA Z X) := by
  refine Met.ofW hy rfl ?_
  intro p e s m args below meth c s₁ B hml hv
  obtain ⟨rfl, hpre⟩ := hv
  have hl := lv_entry av hav
  rw [lg_entry_eq]
  have hts := atoms_spec (ws := .code y cc maxL (some .long) :: kT) B.pre
  have hS : kS Z X (kA Z X) s := ⟨hpre.2.1, hpre.2.2.1, fun k hk => ⟨k, hk, rfl⟩⟩
  refine body p e s m _ below meth c _ _ B.exec B.bytes hml (findClass_of_methodNamed B.named) (fun w hw => hts w (List.mem_cons_of_mem _ hw)) hS ⟨hpre.1, va_S.rf, hpre.2.2.2⟩ hl ?_
  intro v σ' H locs pc ls hΨ hW hdg
  exact W.lret B.exec B.bytes B.returns (fun t ht hWm => ⟨⟨v, σ', rfl, hΨ, by rw [ht]; exact hW.1, va_K.moved hWm.alike hS.1, hS.2.1, hW.2.2⟩, hW.2.1.F ht⟩) hW.2.1.2.2 hdg B.notSynchronized
theorem kofV {Ψ : Mm → Prop} (hy : plainName y.cls = true) (hav : (lg_sl av).length ≤ maxL)
    (body : ∀ (p : Program) (e : Env) (s : State) (m : MethodId) (args : Array Value) (below : List Frame) (meth : Method) (c : Code) (ls : Array Slot) (Q : State → Prop), p.tables.exec = Jvm.exec → c.code = cc → c.maxLocals = maxL → s.vm.findClass y.cls = some m.cls → (∀ w ∈ kT, w.before args s = true) → kS Z X (kA Z X) s → kW Z X (kA Z X) s σ s.heap [] → lv_has ls maxL (lv_args 0 av) →
      (∀ (σ' : Mm) (H : Heap) (locs : List Loc) (pc : Nat) (ls : Array Slot), Ψ σ' → kW Z X (kA Z X) s σ' H locs → decode cc pc = .ok (.return_, 1) → W p l e rm s m args below meth c H locs 0 0 Q (F0 m pc ls [])) → W p l e rm s m args below meth c s.heap [] 0 0 Q (F0 m 0 ls [])) :
    Met l y (.code y cc maxL none :: kT) rm (va_Pc av (kPre Z X σ)) (va_Qv Ψ (fun σ' t => kPre Z X σ' t) (kA Z X)) 0 0 (kA Z X) := by
  refine Met.ofW hy rfl ?_
  intro p e s m args below meth c s₁ B hml hv
  obtain ⟨rfl, hpre⟩ := hv
  have hl := lv_entry av hav
  rw [lg_entry_eq]
  have hts := atoms_spec (ws := .code y cc maxL none :: kT) B.pre
  have hS : kS Z X (kA Z X) s := ⟨hpre.2.1, hpre.2.2.1, fun k hk => ⟨k, hk, rfl⟩⟩
  refine body p e s m _ below meth c _ _ B.exec B.bytes hml (findClass_of_methodNamed B.named) (fun w hw => hts w (List.mem_cons_of_mem _ hw)) hS ⟨hpre.1, va_S.rf, hpre.2.2.2⟩ hl ?_
  intro σ' H locs pc ls hΨ hW hdg
  exact W.vret B.exec B.bytes B.returns (fun t ht hWm => ⟨⟨σ', rfl, hΨ, by rw [ht]; exact hW.1, va_K.moved hWm.alike hS.1, hS.2.1, hW.2.2⟩, hW.2.1.F ht⟩) hW.2.1.2.2 hdg B.notSynchronized
end KE
