-- ===== the one String
/-- the formatter: a reference or null, nobody asks which -/
def kfv (f : Nat) : Value := match f with
  | 0 => .null
  | n + 1 => .ref n
def kSt (a b f : Nat) (U : State) (H : Heap) : Prop := va_O "java/lang/String" a (fun _ => False) U H ∧ va_OF "java/lang/String" "coder" "B" (.int 0) a (fun _ => False) U H ∧ va_OF "java/lang/String" "value" "[B" (.ref b) a (fun _ => False) U H ∧ va_T .byte b 33 (fun j => .int (nI (T1 j))) (fun _ => False) U H ∧ va_Z "java/lang/String" "COMPACT_STRINGS" "Z" (.int 1) (fun _ => False) U H ∧ va_Z "jdk/internal/util/Preconditions" "SIOOBE_FORMATTER" "Ljava/util/function/BiFunction;" (kfv f) (fun _ => False) U H
theorem kSt.moved {a b f : Nat} {u U : State} {H : Heap} (hv : u.vm.Alike U.vm) (h : kSt a b f u H) : kSt a b f U H := ⟨h.1.moved hv, h.2.1.moved hv, h.2.2.1.moved hv, h.2.2.2.1.moved hv, h.2.2.2.2.1.moved hv, h.2.2.2.2.2.moved hv⟩
theorem kSt.kept {a b f : Nat} {U : State} {H H1 : Heap} (h : kSt a b f U H) (hq : ∀ a : Nat, a < H.size → ¬ (fun _ => False) a → H1[a]? = H[a]?) : kSt a b f U H1 := ⟨h.1.kept hq, h.2.1.kept hq, h.2.2.1.kept hq, h.2.2.2.1.kept hq, h.2.2.2.2.1.kept hq, h.2.2.2.2.2.kept hq⟩
theorem kSblind {a b f : Nat} {av : List Value} : FrameBlind (va_Pc av (fun U => kSt a b f U U.heap)) := by
  intro x U g mk q
  exact ⟨q.1, kSt.moved (u := U) (U := U.calling g mk x) (Vm.Alike.refl U.vm) q.2⟩
abbrev kSI (l : Launch) (y : MethodName) (cc : ByteArray) (maxL : Nat) (ty : FieldType) (rm : Room) (a b f : Nat) (av : List Value) (r : Int32) : Prop := Met l y (.code y cc maxL (some ty) :: kT) rm (va_Pc av (fun U => kSt a b f U U.heap)) (va_Qi (fun (v : Int32) (_ : Unit) => v = r) (fun _ _ => True) (fun _ => False)) 0 0 (fun _ => False)
abbrev kSV (l : Launch) (y : MethodName) (cc : ByteArray) (maxL : Nat) (rm : Room) (a b f : Nat) (av : List Value) : Prop := Met l y (.code y cc maxL none :: kT) rm (va_Pc av (fun U => kSt a b f U U.heap)) (va_Qv (fun (_ : Unit) => True) (fun _ _ => True) (fun _ => False)) 0 0 (fun _ => False)
theorem ksI {l : Launch} {y : MethodName} {cc : ByteArray} {maxL a b f : Nat} {ty : FieldType} {rm : Room} {av : List Value} {r : Int32} (hy : plainName y.cls = true) (hav : (lg_sl av).length ≤ maxL)
    (body : ∀ (p : Program) (e : Env) (s : State) (m : MethodId) (args : Array Value) (below : List Frame) (meth : Method) (c : Code) (ls : Array Slot) (Q : State → Prop), p.tables.exec = Jvm.exec → c.code = cc → c.maxLocals = maxL → s.vm.findClass y.cls = some m.cls → (∀ w ∈ kT, w.before args s = true) → kSt a b f s s.heap → va_S (fun _ => False) s.heap s.heap [] → lv_has ls maxL (lv_args 0 av) →
      (∀ (H : Heap) (locs : List Loc) (pc : Nat) (ls : Array Slot), narrow ty (.int r) = .int r → va_S (fun _ => False) s.heap H locs → decode cc pc = .ok (.ireturn, 1) → W p l e rm s m args below meth c H locs 0 0 Q (F0 m pc ls [.int r])) → W p l e rm s m args below meth c s.heap [] 0 0 Q (F0 m 0 ls [])) : kSI l y cc maxL ty rm a b f av r := by
  refine Met.ofW hy rfl ?_
  intro p e s m args below meth c s₁ B hml hv
  obtain ⟨rfl, hE⟩ := hv
  have hl := lv_entry av hav
  rw [lg_entry_eq]
  have hts := atoms_spec (ws := .code y cc maxL (some ty) :: kT) B.pre
  refine body p e s m _ below meth c _ _ B.exec B.bytes hml (findClass_of_methodNamed B.named) (fun w hw => hts w (List.mem_cons_of_mem _ hw)) hE va_S.rf hl ?_
  intro H locs pc ls hn hS hdg
  exact W.zret B.exec B.bytes B.returns hn (fun t ht hWm => ⟨⟨r, (), rfl, rfl, trivial⟩, hS.F ht⟩) hS.2.2 hdg B.notSynchronized
theorem ksV {l : Launch} {y : MethodName} {cc : ByteArray} {maxL a b f : Nat} {rm : Room} {av : List Value} (hy : plainName y.cls = true) (hav : (lg_sl av).length ≤ maxL)
    (body : ∀ (p : Program) (e : Env) (s : State) (m : MethodId) (args : Array Value) (below : List Frame) (meth : Method) (c : Code) (ls : Array Slot) (Q : State → Prop), p.tables.exec = Jvm.exec → c.code = cc → c.maxLocals = maxL → s.vm.findClass y.cls = some m.cls → (∀ w ∈ kT, w.before args s = true) → kSt a b f s s.heap → va_S (fun _ => False) s.heap s.heap [] → lv_has ls maxL (lv_args 0 av) →
      (∀ (H : Heap) (locs : List Loc) (pc : Nat) (ls : Array Slot), va_S (fun _ => False) s.heap H locs → decode cc pc = .ok (.return_, 1) → W p l e rm s m args below meth c H locs 0 0 Q (F0 m pc ls [])) → W p l e rm s m args below meth c s.heap [] 0 0 Q (F0 m 0 ls [])) : kSV l y cc maxL rm a b f av := by
  refine Met.ofW hy rfl ?_
  intro p e s m args below meth c s₁ B hml hv
  obtain ⟨rfl, hE⟩ := hv
  have hl := lv_entry av hav
  rw [lg_entry_eq]
  have hts := atoms_spec (ws := .code y cc maxL none :: kT) B.pre
  refine body p e s m _ below meth c _ _ B.exec B.bytes hml (findClass_of_methodNamed B.named) (fun w hw => hts w (List.mem_cons_of_mem _ hw)) hE va_S.rf hl ?_
  intro H locs pc ls hS hdg
  exact W.vret B.exec B.bytes B.returns (fun t ht hWm => ⟨⟨(), rfl, trivial, trivial⟩, hS.F ht⟩) hS.2.2 hdg B.notSynchronized
section KSC
variable {p : Program} {l : Launch} {e : Env} {R : Room} {s : State} {m : MethodId} {args : Array Value} {below : List Frame} {meth : Method} {c : Code} {H : Heap} {locs : List Loc} {cells slots : Nat} {Q : State → Prop}
variable {cc bytes : ByteArray} {pc nL maxL n index a b f : Nat} {ls : Array Slot} {rest As st : List Value} {A : Nat → Prop} {y : MethodName} {ty : FieldType} {rm : Room} {own : String} {r : Int32}
theorem ksS (hx : p.tables.exec = Jvm.exec) (hb : c.code = cc) (hml : c.maxLocals = nL) (hown : s.vm.findClass own = some m.cls) (hts : ∀ w ∈ kT, w.before args s = true) (hE : kSt a b f s H) (hS : va_S A s.heap H locs) (hM : kSI l y bytes maxL ty rm a b f As r) (hf : kMS y bytes maxL (some ty) n) (hlink : Cond.methodLink own index y ∈ kT) (hrm : rm.cells = 0 ∧ rm.slots = 0) (hR : rm.frames + 1 ≤ R.frames ∧ 8 + (maxL + 11) + rm.locals ≤ R.locals) (hn : As.length = n) (hsize : ls.size = nL) (hst : st = As.reverse ++ rest) (hrest : (rest.map fun v => v.category).sum ≤ 8) (hdg : decode cc pc = .ok (.invokestatic index, 3)) (hcs : cells ≤ R.cells ∧ slots ≤ R.slots)
    (kk : ∀ (H1 : Heap) (locs1 : List Loc), va_S A s.heap H1 locs1 → H.size ≤ H1.size → (∀ q : Nat, q < H.size → H1[q]? = H[q]?) → kSt a b f s H1 → W p l e R s m args below meth c H1 locs1 cells slots Q (F0 m (pc + 3) ls (.int r :: rest))) : W p l e R s m args below meth c H locs cells slots Q (F0 m pc ls st) := by
  refine va_calli (va_runS ⟨hx, hb, hml, hown, hts⟩ hM ⟨⟨hrm.1, hrm.2, hR.1, hR.2, kcb hts hf.1, List.mem_cons_self, hts _ hf.1, hts _ hf.2.1, hf.2.2.2.1, kpm hf.2.2.2.2, hts _ hlink⟩, hts _ hf.2.2.1⟩ ⟨kSblind, fun U hU hWm => ⟨rfl, by dsimp only; rw [hU]; exact hE.moved hWm.alike⟩⟩ rfl hn hsize hst (lv_room hrest) hdg hcs) hS (fun q _ h => absurd h (fun z => z)) (fun q h => absurd h (fun z => z)) (fun v u t H1 locs1 ht _ hw _ hz hk hS1 => ?_)
  subst hw
  exact kk H1 locs1 hS1 hz (fun q hq => hk q hq (fun z => z)) (hE.kept (fun q hq _ => hk q hq (fun z => z)))
theorem ksSV (hx : p.tables.exec = Jvm.exec) (hb : c.code = cc) (hml : c.maxLocals = nL) (hown : s.vm.findClass own = some m.cls) (hts : ∀ w ∈ kT, w.before args s = true) (hE : kSt a b f s H) (hS : va_S A s.heap H locs) (hM : kSV l y bytes maxL rm a b f As) (hf : kMS y bytes maxL none n) (hlink : Cond.methodLink own index y ∈ kT) (hrm : rm.cells = 0 ∧ rm.slots = 0) (hR : rm.frames + 1 ≤ R.frames ∧ 8 + (maxL + 11) + rm.locals ≤ R.locals) (hn : As.length = n) (hsize : ls.size = nL) (hst : st = As.reverse ++ rest) (hrest : (rest.map fun v => v.category).sum ≤ 8) (hdg : decode cc pc = .ok (.invokestatic index, 3)) (hcs : cells ≤ R.cells ∧ slots ≤ R.slots)
    (kk : ∀ (H1 : Heap) (locs1 : List Loc), va_S A s.heap H1 locs1 → H.size ≤ H1.size → (∀ q : Nat, q < H.size → H1[q]? = H[q]?) → kSt a b f s H1 → W p l e R s m args below meth c H1 locs1 cells slots Q (F0 m (pc + 3) ls rest)) : W p l e R s m args below meth c H locs cells slots Q (F0 m pc ls st) := by
  refine va_callv (va_runS ⟨hx, hb, hml, hown, hts⟩ hM ⟨⟨hrm.1, hrm.2, hR.1, hR.2, kcb hts hf.1, List.mem_cons_self, hts _ hf.1, hts _ hf.2.1, hf.2.2.2.1, kpm hf.2.2.2.2, hts _ hlink⟩, hts _ hf.2.2.1⟩ ⟨kSblind, fun U hU hWm => ⟨rfl, by dsimp only; rw [hU]; exact hE.moved hWm.alike⟩⟩ rfl hn hsize hst (lv_room hrest) hdg hcs) hS (fun q _ h => absurd h (fun z => z)) (fun q h => absurd h (fun z => z)) (fun u t H1 locs1 ht _ _ _ hz hk hS1 => ?_)
  exact kk H1 locs1 hS1 hz (fun q hq => hk q hq (fun z => z)) (hE.kept (fun q hq _ => hk q hq (fun z => z)))
theorem ksV1 (hx : p.tables.exec = Jvm.exec) (hb : c.code = cc) (hml : c.maxLocals = nL) (hown : s.vm.findClass own = some m.cls) (hts : ∀ w ∈ kT, w.before args s = true) (hE : kSt a b f s H) (hS : va_S A s.heap H locs) (hM : kSI l y bytes maxL ty rm a b f (.ref a :: As) r) (hf : kMV y RJ0 bytes maxL (some ty) n) (hlink : Cond.methodLink own index y ∈ kT) (hrm : rm.cells = 0 ∧ rm.slots = 0) (hR : rm.frames + 1 ≤ R.frames ∧ 8 + (maxL + 11) + rm.locals ≤ R.locals) (hn : As.length = n) (hsize : ls.size = nL) (hst : st = As.reverse ++ .ref a :: rest) (hrest : (rest.map fun v => v.category).sum ≤ 8) (hdg : decode cc pc = .ok (.invokevirtual index, 3)) (hcs : cells ≤ R.cells ∧ slots ≤ R.slots)
    (kk : ∀ (H1 : Heap) (locs1 : List Loc), va_S A s.heap H1 locs1 → H.size ≤ H1.size → (∀ q : Nat, q < H.size → H1[q]? = H[q]?) → kSt a b f s H1 → W p l e R s m args below meth c H1 locs1 cells slots Q (F0 m (pc + 3) ls (.int r :: rest))) : W p l e R s m args below meth c H locs cells slots Q (F0 m pc ls st) := by
  have hrc : ∃ cell : Cell, H[a]? = some cell ∧ cell.vm.isStatics = false ∧ s.vm.findClass RJ0 = some cell.cls := by
    obtain ⟨cell, h1, h2, h3, -⟩ := hE.1
    exact ⟨cell, h1, h2, h3⟩
  refine va_calli (va_runV ⟨hx, hb, hml, hown, hts⟩ hM ⟨⟨hrm.1, hrm.2, hR.1, hR.2, kcb hts hf.1, List.mem_cons_self, hts _ hf.1, hts _ hf.2.1, hf.2.2.2.2.1, kpm hf.2.2.2.2.2, hts _ hlink⟩, hts _ hf.2.2.1, hts _ hf.2.2.2.1⟩ ⟨kSblind, hrc, fun U hU hWm => ⟨rfl, by dsimp only; rw [hU]; exact hE.moved hWm.alike⟩⟩ rfl hn hsize hst (lv_room hrest) hdg hcs) hS (fun q _ h => absurd h (fun z => z)) (fun q h => absurd h (fun z => z)) (fun v u t H1 locs1 ht _ hw _ hz hk hS1 => ?_)
  subst hw
  exact kk H1 locs1 hS1 hz (fun q hq => hk q hq (fun z => z)) (hE.kept (fun q hq _ => hk q hq (fun z => z)))
end KSC
