-- ===== constructors: a world as a list of cells
def kI0 (X : KX) (ws0 : va_W) (sz : Nat) (U : State) : Prop := U.heap.size = sz ∧ va_P X.1 vwCl ws0 U.heap ∧ va_K X.1 vwCl (kwT X) U ∧ va_D (fun _ => True) ws0
def kI1 (X : KX) (A : Nat → Prop) (ws1 : (Nat → Nat) → va_W) (u : Nat → Nat) (t : State) : Prop := va_P X.1 vwCl (ws1 u) t.heap ∧ va_K X.1 vwCl (kwT X) t ∧ va_D A (ws1 u)
def kIM (l : Launch) (y : MethodName) (cc : ByteArray) (maxL : Nat) (rm : Room) (X : KX) (av : List Value) (ws0 : va_W) (ws1 : (Nat → Nat) → va_W) : Prop := ∀ sz, Met l y (.code y cc maxL none :: kT) rm (va_Pc av (kI0 X ws0 sz)) (va_Qv (fun _ : Nat → Nat => True) (kI1 X (va_A ws0 sz) ws1) (va_A ws0 sz)) rm.cells rm.slots (va_A ws0 sz)
theorem kIof {l : Launch} {X : KX} {y : MethodName} {cc : ByteArray} {maxL : Nat} {rm : Room} {av : List Value} {ws0 : va_W} {ws1 : (Nat → Nat) → va_W} (hy : plainName y.cls = true) (hnm : y.name = "<init>") (hav : (lg_sl av).length ≤ maxL)
    (body : ∀ (p : Program) (e : Env) (s : State) (m : MethodId) (args : Array Value) (below : List Frame) (meth : Method) (c : Code) (ls : Array Slot) (Q : State → Prop) (A : Nat → Prop), p.tables.exec = Jvm.exec → c.code = cc → c.maxLocals = maxL → s.vm.findClass y.cls = some m.cls → (∀ w ∈ kT, w.before args s = true) → meth.name = "<init>" → va_K X.1 vwCl (kwT X) s → va_P X.1 vwCl ws0 s.heap → va_D A ws0 → va_S A s.heap s.heap [] → (∀ q : Nat, s.heap.size ≤ q → A q) → lv_has ls maxL (lv_args 0 av) →
      (∀ (u : Nat → Nat) (H : Heap) (locs : List Loc) (pc : Nat) (ls : Array Slot), va_P X.1 vwCl (ws1 u) H → va_D A (ws1 u) → va_S A s.heap H locs → decode cc pc = .ok (.return_, 1) → W p l e rm s m args below meth c H locs rm.cells rm.slots Q (F0 m pc ls [])) → W p l e rm s m args below meth c s.heap [] 0 0 Q (F0 m 0 ls [])) : kIM l y cc maxL rm X av ws0 ws1 := by
  intro sz
  refine Met.ofW hy rfl ?_
  intro p e s m args below meth c s₁ B hml hv
  obtain ⟨rfl, hsz, hP, hK, hD0⟩ := hv
  subst hsz
  have hl := lv_entry av hav
  rw [lg_entry_eq]
  have hts := atoms_spec (ws := .code y cc maxL none :: kT) B.pre
  have hin : meth.name = "<init>" := (name_of_methodNamed B.named B.method).1.trans hnm
  refine body p e s m _ below meth c _ _ (va_A ws0 s.heap.size) B.exec B.bytes hml (findClass_of_methodNamed B.named) (fun w hw => hts w (List.mem_cons_of_mem _ hw)) hin hK hP hD0.self va_S.rf (fun q h => Or.inr h) hl ?_
  intro u H locs pc ls hP1 hD1 hS1 hdg
  exact W.vret B.exec B.bytes B.returns (fun t ht hWm => ⟨⟨u, rfl, trivial, by rw [ht]; exact hP1, va_K.moved hWm.alike hK, hD1⟩, hS1.F ht⟩) hS1.2.2 hdg B.notSynchronized
section KN
variable {p : Program} {l : Launch} {e : Env} {R : Room} {s : State} {m : MethodId} {args : Array Value} {below : List Frame} {meth : Method} {c : Code} {H H0 : Heap} {locs : List Loc} {cells slots : Nat} {Q : State → Prop}
variable {cc : ByteArray} {pc : Nat} {ls : Array Slot} {rest : List Value} {X : KX} {A : Nat → Prop} {ws : va_W}
/-- a new row -/
theorem kna (hx : p.tables.exec = Jvm.exec) (hb : c.code = cc) {atype : ArrayType} {ty : FieldType} {cA0 : ClassId} (t0 : Nat) (hts : ∀ w ∈ kT, w.before args s = true) (harr : Cond.arrayClass (newarray.typeOf atype) ∈ kT) (hty : newarray.typeOf atype = ty) (hra : ∀ cA, va_RA s cA ty → s.vm.findClass ("[" ++ ty.toString) = some cA) (hK : va_K X.1 vwCl (kwT X) s) (ht : (kwT X)[t0]? = some (cA0, ty)) (hP : va_P X.1 vwCl ws H) (hD : va_D A ws) (hS : va_S A H0 H locs) (hA : ∀ q, H0.size ≤ q → A q)
    {n : Int32} {N' : Nat} {a0 : vp_A} (ha : ∀ cA : ClassId, vp_cell cA a0 = arrV cA N' (fun _ => defaultValue ty)) (hn : ¬ n < 0) (hN : n.toNatClampNeg = N') (hbytes : N' * componentBytes ty ≤ 536870912) (hcells : cells + 1 ≤ R.cells) (hslots : slots + N' ≤ R.slots) (hdg : decode cc pc = .ok (.newarray atype, 2))
    (kk : ∀ (q : Nat) (H1 : Heap), va_P X.1 vwCl (ws ++ [(q, .inl (cA0, a0))]) H1 → va_D A (ws ++ [(q, .inl (cA0, a0))]) → va_S A H0 H1 locs →
      W p l e R s m args below meth c H1 locs (cells + 1) (slots + N') Q (F0 m (pc + 2) ls (.ref q :: rest))) : W p l e R s m args below meth c H locs cells slots Q (F0 m pc ls (.int n :: rest)) := by
  refine va_newa (atype := atype) hx hb (hts _ harr) hty hK hP hD hS hA ha hn hN hbytes hcells hslots hdg (fun q cA H1 hK1 hP1 hD1 hS1 => ?_)
  have e1 : va_RA s cA ty := (hK1.2 (kwT X).length (cA, ty) (by simp)).2
  have e2 : va_RA s cA0 ty := (hK.2 t0 (cA0, ty) ht).2
  have e3 : some cA = some cA0 := (hra _ e1).symm.trans (hra _ e2)
  cases e3
  exact kk q H1 hP1 hD1 hS1
def kMI (y : MethodName) (bytes : ByteArray) (maxL n : Nat) : Prop := Cond.code y bytes maxL none ∈ kT ∧ Cond.initialized y.cls ∈ kT ∧ Cond.instanceMethod y ∈ kT ∧ y.name = "<init>" ∧ (y.cls ≠ "java/lang/invoke/MethodHandle" ∧ y.cls ≠ "java/lang/invoke/VarHandle") ∧ (parseMethodDescriptor y.desc).map (fun d => d.parameters.length) = some n
/-- a constructor is called, of an object that is the world's last cell -/
theorem kicall {y : MethodName} {bytes : ByteArray} {maxL n index nL q : Nat} {rm : Room} {As st : List Value} {eo : va_E} {wr : va_W} {ws1 : (Nat → Nat) → va_W} {own : String} (isC isR : List Nat) (hx : p.tables.exec = Jvm.exec) (hb : c.code = cc) (hml : c.maxLocals = nL) (hown : s.vm.findClass own = some m.cls) (hts : ∀ w ∈ kT, w.before args s = true) (hM : kIM l y bytes maxL rm X (.ref q :: As) [(q, eo)] ws1) (hf : kMI y bytes maxL n) (hlink : Cond.methodLink own index y ∈ kT)
    (hK : va_K X.1 vwCl (kwT X) s) (hP : va_P X.1 vwCl ws H) (hD : va_D A ws) (hS : va_S A s.heap H locs) (hA : ∀ q, s.heap.size ≤ q → A q) (hC : isC.map (fun i => ws[i]?) = [(q, eo)].map some) (hC2 : isC.filterMap (fun i => ws[i]?) = [(q, eo)]) (hnC : va_nd isC = true) (hR : isR.map (fun i => ws[i]?) = wr.map some) (hnd : va_nd isR = true) (hdis : ∀ i ∈ isR, i ∉ isC)
    (hRm : rm.frames + 1 ≤ R.frames ∧ 8 + (maxL + 11) + rm.locals ≤ R.locals) (hn : As.length = n) (hsize : ls.size = nL) (hst : st = As.reverse ++ .ref q :: rest) (hrest : (rest.map fun v => v.category).sum ≤ 8) (hdg : decode cc pc = .ok (.invokespecial index, 3)) (hcs : cells + rm.cells ≤ R.cells ∧ slots + rm.slots ≤ R.slots)
    (kk : ∀ (u : Nat → Nat) (H1 : Heap) (locs1 : List Loc), va_P X.1 vwCl (wr ++ ws1 u) H1 → va_D A (wr ++ ws1 u) → va_S A s.heap H1 locs1 → W p l e R s m args below meth c H1 locs1 (cells + rm.cells) (slots + rm.slots) Q (F0 m (pc + 3) ls rest)) : W p l e R s m args below meth c H locs cells slots Q (F0 m pc ls st) := by
  have hPc := hP.sub (ws' := [(q, eo)]) isC hC2
  have hDc := hD.sub (ws' := [(q, eo)]) isC hnC hC
  have hFc := va_free (wc := [(q, eo)]) hD hS hA isC hC
  refine va_callv (va_runI (As := As) (rest := rest) (cc := cc) (nL := nL) (Ts := kT) (own := own) ⟨hx, hb, hml, hown, hts⟩ (hM H.size) ⟨⟨rfl, rfl, hRm.1, hRm.2, kcb hts hf.1, List.mem_cons_self, hts _ hf.1, hts _ hf.2.1, hf.2.2.2.2.1, kpm hf.2.2.2.2.2, hts _ hlink⟩, hf.2.2.2.1, hts _ hf.2.2.1⟩ ⟨fun a U g mk q => by obtain ⟨q0, q1, qP, qK, qD⟩ := q; exact ⟨q0, q1, qP, va_K.moved (u := U) (U := U.calling g mk a) (Vm.Alike.refl U.vm) qK, qD⟩, fun U hU hW => ⟨rfl, by rw [hU], by rw [hU]; exact hPc, va_K.moved hW.alike hK, hDc.weaken (fun _ _ _ _ => trivial)⟩⟩ rfl hn hsize hst (lv_room hrest) hdg hcs) hS (fun q _ h => hFc q h) hFc (fun u t H1 locs1 ht hvm _ hB hz1 hk1 hS1 => ?_)
  obtain ⟨hP1, hK1, hD1⟩ := hB
  rw [ht] at hP1
  obtain ⟨hP2, hD2⟩ := va_join (wr := wr) (w1 := ws1 u) hP hD isC isR hC hR hnd hdis hk1 hFc hP1 hD1
  exact kk u H1 locs1 hP2 hD2 hS1
/-- a constructor is called, of an object that is the world's last cell -/
theorem kicallN {y : MethodName} {bytes : ByteArray} {maxL n index nL q : Nat} {rm : Room} {As st : List Value} {eo : va_E} {wr : va_W} {ws1 : (Nat → Nat) → va_W} {own host : String} (isC isR : List Nat) (hx : p.tables.exec = Jvm.exec) (hb : c.code = cc) (hml : c.maxLocals = nL) (hown : s.vm.findClass own = some m.cls) (hts : ∀ w ∈ kT, w.before args s = true) (hM : kIM l y bytes maxL rm X (.ref q :: As) [(q, eo)] ws1) (hf : kMI y bytes maxL n) (hlink : Cond.methodLinkNest own index y host ∈ kT)
    (hK : va_K X.1 vwCl (kwT X) s) (hP : va_P X.1 vwCl ws H) (hD : va_D A ws) (hS : va_S A s.heap H locs) (hA : ∀ q, s.heap.size ≤ q → A q) (hC : isC.map (fun i => ws[i]?) = [(q, eo)].map some) (hC2 : isC.filterMap (fun i => ws[i]?) = [(q, eo)]) (hnC : va_nd isC = true) (hR : isR.map (fun i => ws[i]?) = wr.map some) (hnd : va_nd isR = true) (hdis : ∀ i ∈ isR, i ∉ isC)
    (hRm : rm.frames + 1 ≤ R.frames ∧ 8 + (maxL + 11) + rm.locals ≤ R.locals) (hn : As.length = n) (hsize : ls.size = nL) (hst : st = As.reverse ++ .ref q :: rest) (hrest : (rest.map fun v => v.category).sum ≤ 8) (hdg : decode cc pc = .ok (.invokespecial index, 3)) (hcs : cells + rm.cells ≤ R.cells ∧ slots + rm.slots ≤ R.slots)
    (kk : ∀ (u : Nat → Nat) (H1 : Heap) (locs1 : List Loc), va_P X.1 vwCl (wr ++ ws1 u) H1 → va_D A (wr ++ ws1 u) → va_S A s.heap H1 locs1 → W p l e R s m args below meth c H1 locs1 (cells + rm.cells) (slots + rm.slots) Q (F0 m (pc + 3) ls rest)) : W p l e R s m args below meth c H locs cells slots Q (F0 m pc ls st) := by
  have hPc := hP.sub (ws' := [(q, eo)]) isC hC2
  have hDc := hD.sub (ws' := [(q, eo)]) isC hnC hC
  have hFc := va_free (wc := [(q, eo)]) hD hS hA isC hC
  refine va_callv (va_runIN (host := host) (As := As) (rest := rest) (cc := cc) (nL := nL) (Ts := kT) (own := own) ⟨hx, hb, hml, hown, hts⟩ (hM H.size) ⟨⟨⟨rfl, rfl, hRm.1, hRm.2, kcb hts hf.1, List.mem_cons_self⟩, hts _ hf.1, hts _ hf.2.1, hf.2.2.2.2.1, kpm hf.2.2.2.2.2, hts _ hlink⟩, hf.2.2.2.1, hts _ hf.2.2.1⟩ ⟨fun a U g mk q => by obtain ⟨q0, q1, qP, qK, qD⟩ := q; exact ⟨q0, q1, qP, va_K.moved (u := U) (U := U.calling g mk a) (Vm.Alike.refl U.vm) qK, qD⟩, fun U hU hW => ⟨rfl, by rw [hU], by rw [hU]; exact hPc, va_K.moved hW.alike hK, hDc.weaken (fun _ _ _ _ => trivial)⟩⟩ rfl hn hsize hst (lv_room hrest) hdg hcs) hS (fun q _ h => hFc q h) hFc (fun u t H1 locs1 ht hvm _ hB hz1 hk1 hS1 => ?_)
  obtain ⟨hP1, hK1, hD1⟩ := hB
  rw [ht] at hP1
  obtain ⟨hP2, hD2⟩ := va_join (wr := wr) (w1 := ws1 u) hP hD isC isR hC hR hnd hdis hk1 hFc hP1 hD1
  exact kk u H1 locs1 hP2 hD2 hS1
end KN
