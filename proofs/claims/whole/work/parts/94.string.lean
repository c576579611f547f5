-- ===== the one String
def kSt (a b f : Nat) (U : State) (H : Heap) : Prop := va_O "java/lang/String" a (fun _ => False) U H ∧ va_OF "java/lang/String" "coder" "B" (.int 0) a (fun _ => False) U H ∧ va_OF "java/lang/String" "value" "[B" (.ref b) a (fun _ => False) U H ∧ va_T .byte b 33 (fun j => .int (nI (T1 j))) (fun _ => False) U H ∧ va_Z "java/lang/String" "COMPACT_STRINGS" "Z" (.int 1) (fun _ => False) U H ∧ va_Z "jdk/internal/util/Preconditions" "SIOOBE_FORMATTER" "Ljava/util/function/BiFunction;" (.ref f) (fun _ => False) U H
theorem kSt.moved {a b f : Nat} {u U : State} {H : Heap} (hv : u.vm.Alike U.vm) (h : kSt a b f u H) : kSt a b f U H := ⟨h.1.moved hv, h.2.1.moved hv, h.2.2.1.moved hv, h.2.2.2.1.moved hv, h.2.2.2.2.1.moved hv, h.2.2.2.2.2.moved hv⟩
theorem kSt.kept {a b f : Nat} {U : State} {H H1 : Heap} (h : kSt a b f U H) (hq : ∀ a : Nat, a < H.size → ¬ (fun _ => False) a → H1[a]? = H[a]?) : kSt a b f U H1 := ⟨h.1.kept hq, h.2.1.kept hq, h.2.2.1.kept hq, h.2.2.2.1.kept hq, h.2.2.2.2.1.kept hq, h.2.2.2.2.2.kept hq⟩
theorem kSblind {a b f : Nat} {av : List Value} : FrameBlind (va_Pc av (fun U => kSt a b f U U.heap)) := by
  intro x U g mk q
  exact ⟨q.1, kSt.moved (u := U) (U := U.calling g mk x) (Vm.Alike.refl U.vm) q.2⟩
abbrev kSI (l : Launch) (y : MethodName) (cc : ByteArray) (maxL : Nat) (ty : FieldType) (rm : Room) (a b f : Nat) (av : List Value) (r : Int32) : Prop := Met l y (.code y cc maxL (some ty) :: kT) rm (va_Pc av (fun U => kSt a b f U U.heap)) (va_Qi (fun (v : Int32) (_ : Unit) => v = r) (fun _ _ => True) (fun _ => False)) 0 0 (fun _ => False)
abbrev kSV (l : Launch) (y : MethodName) (cc : ByteArray) (maxL : Nat) (rm : Room) (a b f : Nat) (av : List Value) : Prop := Met l y (.code y cc maxL none :: kT) rm (va_Pc av (fun U => kSt a b f U U.heap)) (va_Qv (fun (_ : Unit) => True) (fun _ _ => True) (fun _ => False)) 0 0 (fun _ => False)
theorem ksI {l : Launch} {y : MethodName} {cc : ByteArray} {maxL a b f : Nat} {ty : FieldType} {rm : Room} {av : List Value} {r : Int32} (hy : plainName y.cls = true) (hav : (lg_sl av).length ≤ maxL)
    (body : ∀ (p : Program) (e : Env) (s : State) (m : MethodId) (args : Array Value) (below : List Frame) (meth : Method) (c : Code) (ls : Array Slot) (Q : State → Prop), p.tables.exec = Jvm.exec → c.code = cc → c.maxLocals = maxL → s.vm.findClass y.cls = some m.cls → (∀ w ∈ kT, w.before args s = true) → kSt a b f s s.heap → va_S (fun _ => False) s.heap s.heap [] → lv_has ls maxL (lv_args 0 av) →
      (∀ (H : Heap) (locs : List Loc) (pc : Nat) (ls : Array Slot), narrow ty (.int r) = .int r → va_S (fun _ => False) s.heap H locs → decode cc pc = .ok (.ireturn, 1) → W p l e rm s m args below meth c H locs 0 0 Q (F0 m pc ls [.int r])) → W p l e rm s m args below meth c s.heap [] 0 0 Q (F0 m 0 ls [])) : kSI l y cc maxL ty rm a b f av r := by
  refine Met.ofW hy rfl ?_
  intro p e s m args below meth c s₁ B hml hv
  obtain ⟨rfl, hE⟩ := hv
  have hl := lv_entry av hav
  rw [lg_entry_eq]
  have hts := atoms_spec (ws := .code y cc maxL (some ty) :: kT) B.pre
  refine body p e s m _ below meth c _ _ B.exec B.bytes hml (findClass_of_methodNamed B.named) (fun w hw => hts w (List.mem_cons_of_mem _ hw)) hE va_S.rf hl ?_
  intro H locs pc ls hn hS hdg
  exact W.zret B.exec B.bytes B.returns hn (fun t ht hWm => ⟨⟨r, (), rfl, rfl, trivial⟩, hS.F ht⟩) hS.2.2 hdg B.notSynchronized
theorem ksV {l : Launch} {y : MethodName} {cc : ByteArray} {maxL a b f : Nat} {rm : Room} {av : List Value} (hy : plainName y.cls = true) (hav : (lg_sl av).length ≤ maxL)
    (body : ∀ (p : Program) (e : Env) (s : State) (m : MethodId) (args : Array Value) (below : List Frame) (meth : Method) (c : Code) (ls : Array Slot) (Q : State → Prop), p.tables.exec = Jvm.exec → c.code = cc → c.maxLocals = maxL → s.vm.findClass y.cls = some m.cls → (∀ w ∈ kT, w.before args s = true) → kSt a b f s s.heap → va_S (fun _ => False) s.heap s.heap [] → lv_has ls maxL (lv_args 0 av) →
      (∀ (H : Heap) (locs : List Loc) (pc : Nat) (ls : Array Slot), va_S (fun _ => False) s.heap H locs → decode cc pc = .ok (.return_, 1) → W p l e rm s m args below meth c H locs 0 0 Q (F0 m pc ls [])) → W p l e rm s m args below meth c s.heap [] 0 0 Q (F0 m 0 ls [])) : kSV l y cc maxL rm a b f av := by
  refine Met.ofW hy rfl ?_
  intro p e s m args below meth c s₁ B hml hv
  obtain ⟨rfl, hE⟩ := hv
  have hl := lv_entry av hav
  rw [lg_entry_eq]
  have hts := atoms_spec (ws := .code y cc maxL none :: kT) B.pre
  refine body p e s m _ below meth c _ _ B.exec B.bytes hml (findClass_of_methodNamed B.named) (fun w hw => hts w (List.mem_cons_of_mem _ hw)) hE va_S.rf hl ?_
  intro H locs pc ls hS hdg
  exact W.vret B.exec B.bytes B.returns (fun t ht hWm => ⟨⟨(), rfl, trivial, trivial⟩, hS.F ht⟩) hS.2.2 hdg B.notSynchronized
