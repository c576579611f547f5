section KR
variable {p : Program} {l : Launch} {e : Env} {R : Room} {s : State} {m : MethodId} {args : Array Value} {below : List Frame} {meth : Method} {c : Code} {H : Heap} {locs : List Loc} {cells slots : Nat} {Q : State → Prop}
variable {cc : ByteArray} {pc : Nat} {ls : Array Slot} {rest : List Value} {Z : KD} {X : KX} {A : Nat → Prop} {σ : Mm}
/-- getfield -/
theorem kget {own ref C : String} {T : u_T} {N ci index k : Nat} {fl : KX → (Nat → Int32) → (Nat → Nat) → Nat → List Value} {v : Value} (hx : p.tables.exec = Jvm.exec) (hb : c.code = cc) (hts : ∀ w ∈ kT, w.before args s = true) (hown : s.vm.findClass own = some m.cls) (hS : kS Z X A s) (hW : kW Z X A s σ H locs) (hin : ∀ w ∈ u_ws C T N, w ∈ kT) (hk : kIsO Z X k ci fl) (hc : vwCl[ci]? = some (C, T, N)) (j : Nat) (hj : j < N) (hlink : Cond.fieldLink own index ref (T j).2.1 (T j).2.2.1 ∈ kT) (hr : ref = (T j).1) (hv : (fl X (σ.1 k) σ.2.2 k)[j]? = some v) (hdg : decode cc pc = .ok (.getfield index, 3))
    (kk : W p l e R s m args below meth c H locs cells slots Q (F0 m (pc + 3) ls (v :: rest))) : W p l e R s m args below meth c H locs cells slots Q (F0 m pc ls (.ref (X.2.1 k) :: rest)) :=
  va_get hx hb hts hin hown hS.1 hW.1 k (kw_atO hk) hc j hj (hts _ hlink) (by rw [hr]; exact fun _ h => h) hv hdg kk
theorem kgetN {own ref C host : String} {T : u_T} {N ci index k : Nat} {fl : KX → (Nat → Int32) → (Nat → Nat) → Nat → List Value} {v : Value} (hx : p.tables.exec = Jvm.exec) (hb : c.code = cc) (hts : ∀ w ∈ kT, w.before args s = true) (hown : s.vm.findClass own = some m.cls) (hS : kS Z X A s) (hW : kW Z X A s σ H locs) (hin : ∀ w ∈ u_ws C T N, w ∈ kT) (hk : kIsO Z X k ci fl) (hc : vwCl[ci]? = some (C, T, N)) (j : Nat) (hj : j < N) (hlink : Cond.fieldLinkNest own index ref (T j).2.1 (T j).2.2.1 host ∈ kT) (hr : ref = (T j).1) (hv : (fl X (σ.1 k) σ.2.2 k)[j]? = some v) (hdg : decode cc pc = .ok (.getfield index, 3))
    (kk : W p l e R s m args below meth c H locs cells slots Q (F0 m (pc + 3) ls (v :: rest))) : W p l e R s m args below meth c H locs cells slots Q (F0 m pc ls (.ref (X.2.1 k) :: rest)) :=
  va_getN hx hb hts hin hown hS.1 hW.1 k (kw_atO hk) hc j hj (hts _ hlink) (by rw [hr]; exact fun _ h => h) hv hdg kk
/-- putfield of an int (or a boolean that is 0 or 1) -/
theorem kput {own ref C : String} {T : u_T} {N ci index k : Nat} {fl : KX → (Nat → Int32) → (Nat → Nat) → Nat → List Value} {v : Int32} {ty : FieldType} (hx : p.tables.exec = Jvm.exec) (hb : c.code = cc) (hts : ∀ w ∈ kT, w.before args s = true) (hown : s.vm.findClass own = some m.cls) (hS : kS Z X A s) (hW : kW Z X A s σ H locs) (hin : ∀ w ∈ u_ws C T N, w ∈ kT) (ty0 : Nat → FieldType) (hty : ∀ k, k < N → parseFieldDescriptor (T k).2.2.1 = some (ty0 k)) (hnm : ∀ a, a < N → ∀ b, b < N → a ≠ b → (T a).2.1 ≠ (T b).2.1) (hk : kIsO Z X k ci fl) (hc : vwCl[ci]? = some (C, T, N)) (j : Nat) (hj : j < N) (hlink : Cond.fieldLink own index ref (T j).2.1 (T j).2.2.1 ∈ kT) (hr : ref = (T j).1) (hfin : (T j).2.2.2 = false) (hd : parseFieldDescriptor (T j).2.2.1 = some ty) (hn : narrow ty (.int v) = .int v) (hfit : fits ty (.int v) = true) (hl : j < (fl X (σ.1 k) σ.2.2 k).length) (hset : fl X (upd (σ.1 k) j v) σ.2.2 k = (fl X (σ.1 k) σ.2.2 k).set j (.int v)) (hdg : decode cc pc = .ok (.putfield index, 3))
    (kk : ∀ (σ1 : Mm) (H1 : Heap) (locs1 : List Loc), σ1 = kwi σ k j v → kW Z X A s σ1 H1 locs1 → W p l e R s m args below meth c H1 locs1 cells slots Q (F0 m (pc + 3) ls rest)) : W p l e R s m args below meth c H locs cells slots Q (F0 m pc ls (.int v :: .ref (X.2.1 k) :: rest)) := by
  refine va_put hx hb hts hin ty0 hty hnm hown hS.1 hW.1 (kw_D hS σ) hW.2.1 k (kw_atO hk) hc j hj (hts _ hlink) (by rw [hr]; exact fun _ h => h) hfin hd hn hfit hl hdg (fun H1 locs1 hP hD hS1 => kk _ H1 locs1 rfl ⟨?_, hS1, hW.2.2⟩)
  rw [kw_setI (j := j) (v := v) hk.1 (by rw [hk.2, hset])] at hP
  exact hP
theorem kputN {own ref C host : String} {T : u_T} {N ci index k : Nat} {fl : KX → (Nat → Int32) → (Nat → Nat) → Nat → List Value} {v : Int32} {ty : FieldType} (hx : p.tables.exec = Jvm.exec) (hb : c.code = cc) (hts : ∀ w ∈ kT, w.before args s = true) (hown : s.vm.findClass own = some m.cls) (hS : kS Z X A s) (hW : kW Z X A s σ H locs) (hin : ∀ w ∈ u_ws C T N, w ∈ kT) (ty0 : Nat → FieldType) (hty : ∀ k, k < N → parseFieldDescriptor (T k).2.2.1 = some (ty0 k)) (hnm : ∀ a, a < N → ∀ b, b < N → a ≠ b → (T a).2.1 ≠ (T b).2.1) (hk : kIsO Z X k ci fl) (hc : vwCl[ci]? = some (C, T, N)) (j : Nat) (hj : j < N) (hlink : Cond.fieldLinkNest own index ref (T j).2.1 (T j).2.2.1 host ∈ kT) (hr : ref = (T j).1) (hfin : (T j).2.2.2 = false) (hd : parseFieldDescriptor (T j).2.2.1 = some ty) (hn : narrow ty (.int v) = .int v) (hfit : fits ty (.int v) = true) (hl : j < (fl X (σ.1 k) σ.2.2 k).length) (hset : fl X (upd (σ.1 k) j v) σ.2.2 k = (fl X (σ.1 k) σ.2.2 k).set j (.int v)) (hdg : decode cc pc = .ok (.putfield index, 3))
    (kk : ∀ (σ1 : Mm) (H1 : Heap) (locs1 : List Loc), σ1 = kwi σ k j v → kW Z X A s σ1 H1 locs1 → W p l e R s m args below meth c H1 locs1 cells slots Q (F0 m (pc + 3) ls rest)) : W p l e R s m args below meth c H locs cells slots Q (F0 m pc ls (.int v :: .ref (X.2.1 k) :: rest)) := by
  refine va_putN hx hb hts hin ty0 hty hnm hown hS.1 hW.1 (kw_D hS σ) hW.2.1 k (kw_atO hk) hc j hj (hts _ hlink) (by rw [hr]; exact fun _ h => h) hfin hd hn hfit hl hdg (fun H1 locs1 hP hD hS1 => kk _ H1 locs1 rfl ⟨?_, hS1, hW.2.2⟩)
  rw [kw_setI (j := j) (v := v) hk.1 (by rw [hk.2, hset])] at hP
  exact hP
/-- putfield of a reference that may change -/
theorem kputR {own ref C : String} {T : u_T} {N ci index k i v : Nat} {fl : KX → (Nat → Int32) → (Nat → Nat) → Nat → List Value} {ty : FieldType} (hx : p.tables.exec = Jvm.exec) (hb : c.code = cc) (hts : ∀ w ∈ kT, w.before args s = true) (hown : s.vm.findClass own = some m.cls) (hS : kS Z X A s) (hW : kW Z X A s σ H locs) (hin : ∀ w ∈ u_ws C T N, w ∈ kT) (ty0 : Nat → FieldType) (hty : ∀ k, k < N → parseFieldDescriptor (T k).2.2.1 = some (ty0 k)) (hnm : ∀ a, a < N → ∀ b, b < N → a ≠ b → (T a).2.1 ≠ (T b).2.1) (hk : kIsO Z X k ci fl) (hc : vwCl[ci]? = some (C, T, N)) (j : Nat) (hj : j < N) (hlink : Cond.fieldLink own index ref (T j).2.1 (T j).2.2.1 ∈ kT) (hr : ref = (T j).1) (hfin : (T j).2.2.2 = false) (hd : parseFieldDescriptor (T j).2.2.1 = some ty) (hn : narrow ty (.ref (X.2.1 v)) = .ref (X.2.1 v)) (hfit : fits ty (.ref (X.2.1 v)) = true) (hl : j < (fl X (σ.1 k) σ.2.2 k).length) (hset : fl X (σ.1 k) (kwr σ i v).2.2 k = (fl X (σ.1 k) σ.2.2 k).set j (.ref (X.2.1 v))) (hrest : ∀ q, q ≠ k → Z.2.1 X (σ.1 q) (σ.2.1 q) (kwr σ i v).2.2 q = Z.2.1 X (σ.1 q) (σ.2.1 q) σ.2.2 q) (hok : Z.2.2 (kwr σ i v).2.2) (hdg : decode cc pc = .ok (.putfield index, 3))
    (kk : ∀ (σ1 : Mm) (H1 : Heap) (locs1 : List Loc), σ1 = kwr σ i v → kW Z X A s σ1 H1 locs1 → W p l e R s m args below meth c H1 locs1 cells slots Q (F0 m (pc + 3) ls rest)) : W p l e R s m args below meth c H locs cells slots Q (F0 m pc ls (.ref (X.2.1 v) :: .ref (X.2.1 k) :: rest)) := by
  refine va_put hx hb hts hin ty0 hty hnm hown hS.1 hW.1 (kw_D hS σ) hW.2.1 k (kw_atO hk) hc j hj (hts _ hlink) (by rw [hr]; exact fun _ h => h) hfin hd hn hfit hl hdg (fun H1 locs1 hP hD hS1 => kk _ H1 locs1 rfl ⟨?_, hS1, hok⟩)
  rw [kw_set (σ' := kwr σ i v) hk.1 ((hk.2 _ _ _).trans (by rw [← hset]; rfl)) hrest] at hP
  exact hP
/-- arrays -/
theorem kiald {k n : Nat} (j : Nat) (hx : p.tables.exec = Jvm.exec) (hb : c.code = cc) (hS : kS Z X A s) (hW : kW Z X A s σ H locs) (hk : kIsI Z X k n) {i : Int32} (hj : i.toNatClampNeg = j) (hin : vp_in i n) (hdg : decode cc pc = .ok (.iaload, 1))
    (kk : W p l e R s m args below meth c H locs cells slots Q (F0 m (pc + 1) ls (.int (σ.1 k j) :: rest))) : W p l e R s m args below meth c H locs cells slots Q (F0 m pc ls (.int i :: .ref (X.2.1 k) :: rest)) := by
  subst hj
  exact va_iald hx hb hS.1 hW.1 k 1 (kw_atI hk) rfl hin hdg kk
theorem kbald {k n : Nat} (j : Nat) (hx : p.tables.exec = Jvm.exec) (hb : c.code = cc) (hS : kS Z X A s) (hW : kW Z X A s σ H locs) (hk : kIsB Z X k n) {i : Int32} (hj : i.toNatClampNeg = j) (hin : vp_in i n) (hdg : decode cc pc = .ok (.baload, 1))
    (kk : W p l e R s m args below meth c H locs cells slots Q (F0 m (pc + 1) ls (.int (σ.1 k j) :: rest))) : W p l e R s m args below meth c H locs cells slots Q (F0 m pc ls (.int i :: .ref (X.2.1 k) :: rest)) := by
  subst hj
  exact va_bald hx hb hS.1 hW.1 k 0 (kw_atB hk) rfl hin hdg kk
theorem kzald {k n : Nat} (j : Nat) (hx : p.tables.exec = Jvm.exec) (hb : c.code = cc) (hS : kS Z X A s) (hW : kW Z X A s σ H locs) (hk : kIsZ Z X k n) {i : Int32} (hj : i.toNatClampNeg = j) (hin : vp_in i n) (hdg : decode cc pc = .ok (.baload, 1))
    (kk : W p l e R s m args below meth c H locs cells slots Q (F0 m (pc + 1) ls (.int (σ.1 k j) :: rest))) : W p l e R s m args below meth c H locs cells slots Q (F0 m pc ls (.int i :: .ref (X.2.1 k) :: rest)) := by
  subst hj
  exact va_zald hx hb hS.1 hW.1 k 3 (kw_atZ hk) rfl hin hdg kk
theorem klald {k n : Nat} (j : Nat) (hx : p.tables.exec = Jvm.exec) (hb : c.code = cc) (hS : kS Z X A s) (hW : kW Z X A s σ H locs) (hk : kIsJ Z X k n) {i : Int32} (hj : i.toNatClampNeg = j) (hin : vp_in i n) (hdg : decode cc pc = .ok (.laload, 1))
    (kk : W p l e R s m args below meth c H locs cells slots Q (F0 m (pc + 1) ls (.long (σ.2.1 k j) :: rest))) : W p l e R s m args below meth c H locs cells slots Q (F0 m pc ls (.int i :: .ref (X.2.1 k) :: rest)) := by
  subst hj
  exact va_lald hx hb hS.1 hW.1 k 2 (kw_atJ hk) rfl hin hdg kk
theorem kiast {k n : Nat} (j : Nat) (hx : p.tables.exec = Jvm.exec) (hb : c.code = cc) (hS : kS Z X A s) (hW : kW Z X A s σ H locs) (hk : kIsI Z X k n) {i x : Int32} (hj : i.toNatClampNeg = j) (hin : vp_in i n) (hdg : decode cc pc = .ok (.iastore, 1))
    (kk : ∀ (σ1 : Mm) (H1 : Heap) (locs1 : List Loc), σ1 = kwi σ k j x → kW Z X A s σ1 H1 locs1 → W p l e R s m args below meth c H1 locs1 cells slots Q (F0 m (pc + 1) ls rest)) : W p l e R s m args below meth c H locs cells slots Q (F0 m pc ls (.int x :: .int i :: .ref (X.2.1 k) :: rest)) := by
  subst hj
  refine va_iast hx hb hS.1 hW.1 (kw_D hS σ) hW.2.1 k 1 (kw_atI hk) rfl hin hdg (fun H1 locs1 hP hD hS1 => kk _ H1 locs1 rfl ⟨?_, hS1, hW.2.2⟩)
  rw [kw_setI (j := i.toNatClampNeg) (v := x) hk.1 (by rw [hk.2])] at hP
  exact hP
theorem kbast {k n : Nat} (j : Nat) (hx : p.tables.exec = Jvm.exec) (hb : c.code = cc) (hS : kS Z X A s) (hW : kW Z X A s σ H locs) (hk : kIsB Z X k n) {i x : Int32} (hj : i.toNatClampNeg = j) (hin : vp_in i n) (hdg : decode cc pc = .ok (.bastore, 1))
    (kk : ∀ (σ1 : Mm) (H1 : Heap) (locs1 : List Loc), σ1 = kwi σ k j (vp_nar .byte x) → kW Z X A s σ1 H1 locs1 → W p l e R s m args below meth c H1 locs1 cells slots Q (F0 m (pc + 1) ls rest)) : W p l e R s m args below meth c H locs cells slots Q (F0 m pc ls (.int x :: .int i :: .ref (X.2.1 k) :: rest)) := by
  subst hj
  refine va_bast hx hb hS.1 hW.1 (kw_D hS σ) hW.2.1 k 0 (kw_atB hk) rfl hin hdg (fun H1 locs1 hP hD hS1 => kk _ H1 locs1 rfl ⟨?_, hS1, hW.2.2⟩)
  rw [kw_setI (j := i.toNatClampNeg) (v := vp_nar .byte x) hk.1 (by rw [hk.2])] at hP
  exact hP
theorem kzast {k n : Nat} (j : Nat) (hx : p.tables.exec = Jvm.exec) (hb : c.code = cc) (hS : kS Z X A s) (hW : kW Z X A s σ H locs) (hk : kIsZ Z X k n) {i x : Int32} (hj : i.toNatClampNeg = j) (hin : vp_in i n) (hdg : decode cc pc = .ok (.bastore, 1))
    (kk : ∀ (σ1 : Mm) (H1 : Heap) (locs1 : List Loc), σ1 = kwi σ k j (vp_nar .boolean x) → kW Z X A s σ1 H1 locs1 → W p l e R s m args below meth c H1 locs1 cells slots Q (F0 m (pc + 1) ls rest)) : W p l e R s m args below meth c H locs cells slots Q (F0 m pc ls (.int x :: .int i :: .ref (X.2.1 k) :: rest)) := by
  subst hj
  refine va_zast hx hb hS.1 hW.1 (kw_D hS σ) hW.2.1 k 3 (kw_atZ hk) rfl hin hdg (fun H1 locs1 hP hD hS1 => kk _ H1 locs1 rfl ⟨?_, hS1, hW.2.2⟩)
  rw [kw_setI (j := i.toNatClampNeg) (v := vp_nar .boolean x) hk.1 (by rw [hk.2])] at hP
  exact hP
theorem klast {k n : Nat} (j : Nat) (hx : p.tables.exec = Jvm.exec) (hb : c.code = cc) (hS : kS Z X A s) (hW : kW Z X A s σ H locs) (hk : kIsJ Z X k n) {i : Int32} {x : Int64} (hj : i.toNatClampNeg = j) (hin : vp_in i n) (hdg : decode cc pc = .ok (.lastore, 1))
    (kk : ∀ (σ1 : Mm) (H1 : Heap) (locs1 : List Loc), σ1 = kwl σ k j x → kW Z X A s σ1 H1 locs1 → W p l e R s m args below meth c H1 locs1 cells slots Q (F0 m (pc + 1) ls rest)) : W p l e R s m args below meth c H locs cells slots Q (F0 m pc ls (.long x :: .int i :: .ref (X.2.1 k) :: rest)) := by
  subst hj
  refine va_last hx hb hS.1 hW.1 (kw_D hS σ) hW.2.1 k 2 (kw_atJ hk) rfl hin hdg (fun H1 locs1 hP hD hS1 => kk _ H1 locs1 rfl ⟨?_, hS1, hW.2.2⟩)
  rw [kw_setL (j := i.toNatClampNeg) (v := x) hk.1 (by rw [hk.2])] at hP
  exact hP
theorem kalenI {k n : Nat} (hx : p.tables.exec = Jvm.exec) (hb : c.code = cc) (hS : kS Z X A s) (hW : kW Z X A s σ H locs) (hk : kIsI Z X k n) (hdg : decode cc pc = .ok (.arraylength, 1))
    (kk : W p l e R s m args below meth c H locs cells slots Q (F0 m (pc + 1) ls (.int (nI n) :: rest))) : W p l e R s m args below meth c H locs cells slots Q (F0 m pc ls (.ref (X.2.1 k) :: rest)) :=
  va_alen hx hb hS.1 hW.1 k 1 (kw_atI hk) rfl rfl hdg kk
theorem kalenJ {k n : Nat} (hx : p.tables.exec = Jvm.exec) (hb : c.code = cc) (hS : kS Z X A s) (hW : kW Z X A s σ H locs) (hk : kIsJ Z X k n) (hdg : decode cc pc = .ok (.arraylength, 1))
    (kk : W p l e R s m args below meth c H locs cells slots Q (F0 m (pc + 1) ls (.int (nI n) :: rest))) : W p l e R s m args below meth c H locs cells slots Q (F0 m pc ls (.ref (X.2.1 k) :: rest)) :=
  va_alen hx hb hS.1 hW.1 k 2 (kw_atJ hk) rfl rfl hdg kk
theorem kldc {own : String} {index : Nat} {v : Int32} (hx : p.tables.exec = Jvm.exec) (hb : c.code = cc) (hown : s.vm.findClass own = some m.cls) (hts : ∀ w ∈ kT, w.before args s = true) (hc : Cond.constant own index v ∈ kT) (hdg : decode cc pc = .ok (.ldc index, 2)) (k : W p l e R s m args below meth c H locs cells slots Q (F0 m (pc + 2) ls (.int v :: rest))) : W p l e R s m args below meth c H locs cells slots Q (F0 m pc ls rest) :=
  W.ldc hx hb hown (hts _ hc) rfl hdg k
theorem kldc2 {own : String} {index : Nat} {v : Int64} (hx : p.tables.exec = Jvm.exec) (hb : c.code = cc) (hown : s.vm.findClass own = some m.cls) (hts : ∀ w ∈ kT, w.before args s = true) (hc : Cond.constantLong own index v ∈ kT) (hdg : decode cc pc = .ok (.ldc2_w index, 3)) (k : W p l e R s m args below meth c H locs cells slots Q (F0 m (pc + 3) ls (.long v :: rest))) : W p l e R s m args below meth c H locs cells slots Q (F0 m pc ls rest) :=
  W.ldc2 hx hb hown (hts _ hc) rfl hdg k
end KR
