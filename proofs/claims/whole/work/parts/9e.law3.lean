theorem e69 : Cond.classLink RL 7 RX10 ∈ kT := kT_in 69 (by decide +kernel) (by decide +kernel)
theorem e70 : Cond.instantiable RX10 11 ∈ kT := kT_in 70 (by decide +kernel) (by decide +kernel)
theorem e71 : Cond.methodLink RL 9 yX10_init ∈ kT := kT_in 71 (by decide +kernel) (by decide +kernel)
theorem e72 : Cond.instanceMethod yX10_init ∈ kT := kT_in 72 (by decide +kernel) (by decide +kernel)
theorem e73 : Cond.code yX10_init cX10_init 2 none ∈ kT := kT_in 73 (by decide +kernel) (by decide +kernel)
theorem e843 : Cond.classLink RL 10 RX11 ∈ kT := kT_in 843 (by decide +kernel) (by decide +kernel)
theorem e844 : Cond.instantiable RX11 24 ∈ kT := kT_in 844 (by decide +kernel) (by decide +kernel)
theorem e845 : Cond.methodLink RL 12 yX11_init ∈ kT := kT_in 845 (by decide +kernel) (by decide +kernel)
theorem e846 : Cond.instanceMethod yX11_init ∈ kT := kT_in 846 (by decide +kernel) (by decide +kernel)
theorem e847 : Cond.code yX11_init cX11_init 2 none ∈ kT := kT_in 847 (by decide +kernel) (by decide +kernel)
theorem mi_X10_init : kMI yX10_init cX10_init 2 0 := ⟨e73, q51, e72, rfl, ⟨by decide +kernel, by decide +kernel⟩, by decide +kernel⟩
theorem mi_X11_init : kMI yX11_init cX11_init 2 0 := ⟨e847, q67, e846, rfl, ⟨by decide +kernel, by decide +kernel⟩, by decide +kernel⟩
/-- the classes, as the tables have them -/
theorem kX_start {args : Array Value} {s : State} (hts : ∀ w ∈ kT, w.before args s = true) : ∃ X : KX, va_K X.1 vwCl (kwT X) s := by
  obtain ⟨c0, i0, h0⟩ := u_known (C := RX0) (T := TX0) (N := 1) (n := 1) hts iwX0 (hts _ e247)
  obtain ⟨c1, i1, h1⟩ := u_known (C := RX1) (T := TX1) (N := 10) (n := 10) hts iwX1 (hts _ e105)
  obtain ⟨c2, i2, h2⟩ := u_known (C := RX2) (T := TX2) (N := 3) (n := 3) hts iwX2 (hts _ e210)
  obtain ⟨c3, i3, h3⟩ := u_known (C := RX3) (T := TX3) (N := 3) (n := 3) hts iwX3 (hts _ e143)
  obtain ⟨c4, i4, h4⟩ := u_known (C := RX4) (T := TX4) (N := 4) (n := 4) hts iwX4 (hts _ e169)
  obtain ⟨c5, i5, h5⟩ := u_known (C := RX5) (T := TX5) (N := 2) (n := 2) hts iwX5 (hts _ e92)
  obtain ⟨c6, i6, h6⟩ := u_known (C := RX6) (T := TX6) (N := 1) (n := 1) hts iwX6 (hts _ e253)
  obtain ⟨c7, i7, h7⟩ := u_known (C := RX7) (T := TX7) (N := 5) (n := 5) hts iwX7 (hts _ e204)
  obtain ⟨c8, i8, h8⟩ := u_known (C := RX8) (T := TX8) (N := 2) (n := 2) hts iwX8 (hts _ e78)
  obtain ⟨c9, i9, h9⟩ := u_known (C := RX9) (T := TX9) (N := 3) (n := 3) hts iwX9 (hts _ e188)
  obtain ⟨c10, i10, h10⟩ := u_known (C := RX10) (T := TX10) (N := 11) (n := 11) hts iwX10 (hts _ e70)
  obtain ⟨c11, i11, h11⟩ := u_known (C := RX11) (T := TX11) (N := 24) (n := 24) hts iwX11 (hts _ e844)
  obtain ⟨cB, kB, pB, fB, gB, tB⟩ := Cond.arrayClass_spec (hts _ e90)
  obtain ⟨cI, kI, pI, fI, gI, tI⟩ := Cond.arrayClass_spec (hts _ e141)
  obtain ⟨cJ, kJ, pJ, fJ, gJ, tJ⟩ := Cond.arrayClass_spec (hts _ e229)
  obtain ⟨cZ, kZ, pZ, fZ, gZ, tZ⟩ := Cond.arrayClass_spec (hts _ e931)
  refine ⟨(((fun k => match k with | 0 => c0 | 1 => c1 | 2 => c2 | 3 => c3 | 4 => c4 | 5 => c5 | 6 => c6 | 7 => c7 | 8 => c8 | 9 => c9 | 10 => c10 | _ => c11), (fun k => match k with | 0 => i0 | 1 => i1 | 2 => i2 | 3 => i3 | 4 => i4 | 5 => i5 | 6 => i6 | 7 => i7 | 8 => i8 | 9 => i9 | 10 => i10 | _ => i11)), fun _ => 0, cB, cI, cJ, cZ), ?_, ?_⟩
  · intro k q hq
    match k, hq with
    | 0, hq => cases hq; exact h0
    | 1, hq => cases hq; exact h1
    | 2, hq => cases hq; exact h2
    | 3, hq => cases hq; exact h3
    | 4, hq => cases hq; exact h4
    | 5, hq => cases hq; exact h5
    | 6, hq => cases hq; exact h6
    | 7, hq => cases hq; exact h7
    | 8, hq => cases hq; exact h8
    | 9, hq => cases hq; exact h9
    | 10, hq => cases hq; exact h10
    | 11, hq => cases hq; exact h11
    | k + 12, hq => simp at hq
  · intro k q hq
    match k, hq with
    | 0, hq => cases hq; exact ⟨fun n z => ⟨fun k h => (by cases h), kB, gB, pB, tB⟩, fB⟩
    | 1, hq => cases hq; exact ⟨fun n z => ⟨fun k h => (by cases h), kI, gI, pI, tI⟩, fI⟩
    | 2, hq => cases hq; exact ⟨fun n z => ⟨fun k h => (by cases h), kJ, gJ, pJ, tJ⟩, fJ⟩
    | 3, hq => cases hq; exact ⟨fun n z => ⟨fun k h => (by cases h), kZ, gZ, pZ, tZ⟩, fZ⟩
    | k + 4, hq => simp [kwT] at hq
theorem kE_elems : ∀ j, j < 33 → Cond.eq (.elem (.field (Term.string "FollowingCalf" 76) "java/lang/String" "value" "[B") (.int (Int32.ofNat j))) (.int (nI (T1 j))) ∈ flatC (Jvm.Cond.and given_1 narrow_1) := by decide +kernel
/-- the String constant and the two statics, at the law's entry -/
theorem kE_start {args : Array Value} {s : State} (hts0 : ∀ w ∈ lw_tbl, w.before args s = true) (hgv : (Jvm.Cond.and given_1 narrow_1).before args s = true) : ∃ a b f : Nat, vk_R RX10 76 "y4;l0,1;l1,2;l2,3;p1;w0123;p2;w3;" a s ∧ va_O "java/lang/String" a (fun q : Nat => s.heap.size ≤ q) s s.heap ∧ va_OF "java/lang/String" "coder" "B" (.int 0) a (fun q : Nat => s.heap.size ≤ q) s s.heap ∧ va_OF "java/lang/String" "value" "[B" (.ref b) a (fun q : Nat => s.heap.size ≤ q) s s.heap ∧ va_T .byte b 33 (fun j => .int (nI (T1 j))) (fun q : Nat => s.heap.size ≤ q) s s.heap ∧ va_Z "java/lang/String" "COMPACT_STRINGS" "Z" (.int 1) (fun q : Nat => s.heap.size ≤ q) s s.heap ∧ va_Z "jdk/internal/util/Preconditions" "SIOOBE_FORMATTER" "Ljava/util/function/BiFunction;" (kfv f) (fun q : Nat => s.heap.size ≤ q) s s.heap := by
  have hs := flat_of_before _ hgv
  have hA : ∀ a : Nat, a < s.heap.size → ¬ (fun q : Nat => s.heap.size ≤ q) a := fun a h z => Nat.not_le.mpr h z
  have hex : (Cond.exactly (Term.string "FollowingCalf" 76) "java/lang/String").before args s = true := hs _ (by decide +kernel)
  have hco : (Cond.eq (.field (Term.string "FollowingCalf" 76) "java/lang/String" "coder" "B") (.int 0)).before args s = true := hs _ (by decide +kernel)
  have har : (Cond.arrayOf (.field (Term.string "FollowingCalf" 76) "java/lang/String" "value" "[B") .byte).before args s = true := hs _ (by decide +kernel)
  have hle : (Cond.eq (.length (.field (Term.string "FollowingCalf" 76) "java/lang/String" "value" "[B")) (.int (Int32.ofNat 33))).before args s = true := hs _ (by decide +kernel)
  have hcs : (Cond.eq (.static "java/lang/String" "COMPACT_STRINGS" "Z") (.int 1)).before args s = true := hs _ (by decide +kernel)
  have hsf : (Cond.isRef (.static "jdk/internal/util/Preconditions" "SIOOBE_FORMATTER" "Ljava/util/function/BiFunction;")).before args s = true := hs _ (by decide +kernel)
  obtain ⟨a, c, cA, kA, q1, -⟩ := Cond.exactly_spec (args := args) (first := s) (o := none) (s := s) (idx := []) (t := (Term.string "FollowingCalf" 76)) (cls := "java/lang/String") hex
  obtain ⟨b, hb, hT⟩ := va_Tof (f := fun j => .int (nI (T1 j))) (A := (fun q : Nat => s.heap.size ≤ q)) (N := 33) (by decide) har (va_eqt hle) (fun j hj => va_eqt (hs _ (kE_elems j hj))) hA
  have hZ : ∃ f, va_Z "jdk/internal/util/Preconditions" "SIOOBE_FORMATTER" "Ljava/util/function/BiFunction;" (kfv f) (fun q : Nat => s.heap.size ≤ q) s s.heap := by
    rcases va_Zqof (hts0 _ (List.mem_of_getElem? (i := 292) (by decide +kernel))) (hts0 _ (List.mem_of_getElem? (i := 65) (by decide +kernel))) hsf hA with h | ⟨t, h⟩
    · exact ⟨0, h⟩
    · exact ⟨t + 1, h⟩
  obtain ⟨f, hf⟩ := hZ
  exact ⟨a, b, f, vk_R.of (hts0 _ (List.mem_of_getElem? (i := 266) (by decide +kernel))) q1, va_Oof hex q1 hA, vk_OFof q1 (va_eqt hco) hA, vk_OFof q1 hb hA, hT, va_Zof (hts0 _ (List.mem_of_getElem? (i := 276) (by decide +kernel))) (hts0 _ (List.mem_of_getElem? (i := 63) (by decide +kernel))) (va_eqt hcs) hA, hf⟩
section LCI
variable {p : Program} {l : Launch} {e : Env} {R : Room} {s : State} {m : MethodId} {args : Array Value} {below : List Frame} {meth : Method} {c : Code} {H : Heap} {locs : List Loc} {cells slots : Nat} {Q : State → Prop}
variable {cc : ByteArray} {pc : Nat} {ls : Array Slot} {rest : List Value} {X : KX} {A : Nat → Prop}
/-- a whole object is made: its constructor is called -/
theorem licall {y : MethodName} {bytes : ByteArray} {maxL index nL q : Nat} {rm : Room} {eo : va_E} {own : String} {Z : KD} {Φ : Mm → Prop} {E : State → Prop} (hx : p.tables.exec = Jvm.exec) (hb : c.code = cc) (hml : c.maxLocals = nL) (hown : s.vm.findClass own = some m.cls) (hts : ∀ w ∈ kT, w.before args s = true)
    (hM : ∀ sz, Met l y (.code y bytes maxL none :: kT) rm (va_Pc [.ref q] (fun U => kI0 X [(q, eo)] sz U ∧ E U)) (va_Qv (fun x : (Nat → Nat) × Mm => Φ x.2) (kB2 Z X q (va_A [(q, eo)] sz)) (va_A [(q, eo)] sz)) rm.cells rm.slots (va_A [(q, eo)] sz)) (hf : kMI y bytes maxL 0) (hlink : Cond.methodLink own index y ∈ kT)
    (hK : va_K X.1 vwCl (kwT X) s) (hPc : va_P X.1 vwCl [(q, eo)] H) (hS : va_S A s.heap H locs) (hq : A q) (hA : ∀ q, s.heap.size ≤ q → A q) (hE1 : ∀ U U' : State, U'.heap = U.heap → U'.vm = U.vm → E U → E U') (hE2 : ∀ U : State, U.heap = H → s.WarmedH U.vm → E U)
    (hRm : rm.frames + 1 ≤ R.frames ∧ 8 + (maxL + 11) + rm.locals ≤ R.locals) (hsize : ls.size = nL) (hrest : (rest.map fun v => v.category).sum ≤ 8) (hdg : decode cc pc = .ok (.invokespecial index, 3)) (hcs : cells + rm.cells ≤ R.cells ∧ slots + rm.slots ≤ R.slots)
    (kk : ∀ (u : Nat → Nat) (σ : Mm) (H1 : Heap) (locs1 : List Loc), Φ σ → va_P X.1 vwCl (kwL Z (X.1, u, X.2.2) σ) H1 → (∀ i j, i < Z.1 → j < Z.1 → u i = u j → i = j) → Z.2.2 σ.2.2 → u 0 = q → (∀ k, k < Z.1 → u k = q ∨ H.size ≤ u k) → (∀ x : Nat, x < H.size → x ≠ q → H1[x]? = H[x]?) → va_S A s.heap H1 locs1 → W p l e R s m args below meth c H1 locs1 (cells + rm.cells) (slots + rm.slots) Q (F0 m (pc + 3) ls rest)) : W p l e R s m args below meth c H locs cells slots Q (F0 m pc ls (.ref q :: rest)) := by
  have hone : ∀ x, va_A [(q, eo)] H.size x → x = q ∨ H.size ≤ x := fun x h => by
    rcases h with ⟨k, e, h⟩ | h
    · cases k with
      | zero => cases h; exact Or.inl rfl
      | succ k => simp at h
    · exact Or.inr h
  have hFc : ∀ x, va_A [(q, eo)] H.size x → A x := fun x h => by
    rcases hone x h with h | h
    · rw [h]; exact hq
    · exact hA x (Nat.le_trans hS.1 h)
  have hDc : va_D (fun _ => True) [(q, eo)] := by
    refine ⟨fun i j p r h1 h2 _ => ?_, fun _ _ _ => trivial⟩
    have z1 := (List.getElem?_eq_some_iff.mp h1).1
    have z2 := (List.getElem?_eq_some_iff.mp h2).1
    simp at z1 z2
    omega
  refine va_callv (va_runI (As := []) (rest := rest) (cc := cc) (nL := nL) (Ts := kT) (own := own) ⟨hx, hb, hml, hown, hts⟩ (hM H.size) ⟨⟨rfl, rfl, hRm.1, hRm.2, kcb hts hf.1, List.mem_cons_self, hts _ hf.1, hts _ hf.2.1, hf.2.2.2.2.1, kpm hf.2.2.2.2.2, hts _ hlink⟩, hf.2.2.2.1, hts _ hf.2.2.1⟩ ⟨fun a U g mk q => by obtain ⟨q0, ⟨q1, qP, qK, qD⟩, qE⟩ := q; exact ⟨q0, ⟨q1, qP, va_K.moved (u := U) (U := U.calling g mk a) (Vm.Alike.refl U.vm) qK, qD⟩, hE1 U _ rfl rfl qE⟩, fun U hU hW => ⟨rfl, ⟨by rw [hU], by rw [hU]; exact hPc, va_K.moved hW.alike hK, hDc⟩, hE2 U hU hW⟩⟩ rfl rfl hsize rfl (lv_room hrest) hdg hcs) hS (fun q _ h => hFc q h) hFc (fun u t H1 locs1 ht hvm hw hB hz1 hk1 hS1 => ?_)
  obtain ⟨⟨hP1, hK1, hI1, hR1⟩, hu0, hu⟩ := hB
  rw [ht] at hP1
  refine kk u.1 u.2 H1 locs1 hw hP1 hI1 hR1 hu0 (fun k hk => hone _ (hu k hk)) (fun x h1 h2 => hk1 x h1 (fun z => ?_)) hS1
  rcases hone x z with h | h
  · exact h2 h
  · omega
end LCI
set_option maxHeartbeats 4000000 in
set_option maxRecDepth 100000 in
theorem whole_start {p : Program} {e : Env} {s : State} {m : MethodId} {below : List Frame} {meth : Method} {c : Code} (l : Launch) (hflags : l.flags = flags0) {b L : Nat} {xs : Nat → Int32} (hL : L ≤ 320) (C0 : lw_At p s m meth c b L xs) : W p l e room_1 s m #[Value.ref b] below meth c s.heap [] 0 0 (lw_Z below #[Value.ref b] s) (entryFrame m ([Value.ref b] : List Value).toArray 4) := by
  obtain ⟨hx, hcb, hr, hml, hown, hts0, hX, hbl, hlocks, hgv⟩ := id C0
  have hown : s.vm.findClass RL = some m.cls := hown
  have hts : ∀ w ∈ kT, w.before #[Value.ref b] s = true := fun w hw => hts0 w (List.mem_filter.mp hw).1
  have hA : ∀ q : Nat, s.heap.size ≤ q → (fun q : Nat => s.heap.size ≤ q) q := fun _ h => h
  obtain ⟨X, hK⟩ := kX_start hts
  obtain ⟨a, bb, f, z0, z1, z2, z3, z4, z5, z6⟩ := kE_start hts0 hgv
  have hS : va_S (fun q : Nat => s.heap.size ≤ q) s.heap s.heap [] := va_S.rf
  have hP : va_P X.1 vwCl [] s.heap := fun k q h => by simp at h
  have hD : va_D (fun q : Nat => s.heap.size ≤ q) [] := ⟨fun i j p q h => by simp at h, fun k q h => by simp at h⟩
  have hl := lv_entry ([.ref b]) (n := 4) (Nat.le_of_ble_eq_true rfl)
  rw [lg_entry_eq]
  generalize (lg_sl ([.ref b]) ++ List.replicate (4 - (lg_sl ([.ref b])).length) Slot.unset).toArray = ls at hl ⊢
  have hl : lv_has ls 4 [(0, .ref b)] := hl
  refine va_new (ci := 10) (fs := [.null, .null, .null, .null, .null, .null, .null, .null, .null, .null, .null]) (C := RX10) (T := TX10) (N := 11) (pc := 0) hx hcb hts iwX10 tyX10 tyX10_ok hown (hts _ e69) (hts _ e70) (hts _ q51) hK hP hD hS hA rfl (fun j hj => by rcases (show j = 0 ∨ j = 1 ∨ j = 2 ∨ j = 3 ∨ j = 4 ∨ j = 5 ∨ j = 6 ∨ j = 7 ∨ j = 8 ∨ j = 9 ∨ j = 10 by omega) with rfl | rfl | rfl | rfl | rfl | rfl | rfl | rfl | rfl | rfl | rfl <;> rfl) (Nat.le_of_ble_eq_true rfl) (Nat.le_of_ble_eq_true rfl) dL_law_0 (fun h0 H hP hD hS => ?_)
  have hP : va_P X.1 vwCl (ws0C h0) H := hP
  have hh0 : s.heap.size ≤ h0 := hD.2 0 _ rfl
  refine lv_dup (pc := 3) hx hcb dL_law_3 rfl ?_
  refine licall (Z := kZC) (E := kE "y4;l0,1;l1,2;l2,3;p1;w0123;p2;w3;" a bb f h0) (rest := [.ref h0]) (pc := 4) hx hcb hml hown hts (i_X10_init l X "y4;l0,1;l1,2;l2,3;p1;w0123;p2;w3;" a bb f h0) mi_X10_init e71 hK hP hS hh0 hA ?_ ?_ ⟨(Nat.le_of_ble_eq_true rfl), (Nat.le_of_ble_eq_true rfl)⟩ hl.1 (Nat.le_of_ble_eq_true rfl) dL_law_4 ⟨(Nat.le_of_ble_eq_true rfl), (Nat.le_of_ble_eq_true rfl)⟩ ?_
  · intro U U' h1 h2 hE
    unfold kE at hE ⊢
    rw [h1]
    have hv : U.vm.Alike U'.vm := by rw [h2]; exact Vm.Alike.refl U.vm
    exact ⟨hE.1.same h2, hE.2.1.moved hv, hE.2.2.1.moved hv, hE.2.2.2.1.moved hv, hE.2.2.2.2.1.moved hv, hE.2.2.2.2.2.1.moved hv, hE.2.2.2.2.2.2.moved hv⟩
  · intro U hU hW
    have hn : ∀ q, (q = h0 ∨ H.size ≤ q) → (fun q : Nat => s.heap.size ≤ q) q := fun q z => by
      rcases z with z | z
      · rw [z]; exact hh0
      · exact Nat.le_trans hS.1 z
    unfold kE
    rw [hU]
    exact ⟨z0.warm hW, ((z1.kept hS.2.1).narrow hn).moved hW.alike, ((z2.kept hS.2.1).narrow hn).moved hW.alike, ((z3.kept hS.2.1).narrow hn).moved hW.alike, ((z4.kept hS.2.1).narrow hn).moved hW.alike, ((z5.kept hS.2.1).narrow hn).moved hW.alike, ((z6.kept hS.2.1).narrow hn).moved hW.alike⟩
  intro u σ H1 locs1 hσ hP1 hI1 hR1 hu0 hu hk1 hS1
  have hSC : kS kZC (X.1, u, X.2.2) (fun q : Nat => s.heap.size ≤ q) s := ⟨hK, hI1, fun k hk => by
    rcases hu k hk with z | z
    · show s.heap.size ≤ u k
      rw [z]; exact hh0
    · exact Nat.le_trans hS.1 z⟩
  subst hu0
  refine lv_astore_n (lv' := [(1, .ref (u 0)), (0, .ref b)]) (pc := 7) hx hcb dL_law_7 rfl hl (by decide) rfl (fun ls hl => ?_)
  have hD1 : va_D (fun q : Nat => s.heap.size ≤ q) (kwL kZC (X.1, u, X.2.2) σ) := kw_D hSC σ
  refine va_new (ci := 11) (fs := [.null, .null, .null, .int 0, .int 0, .int 0, .int 0, .null, .null, .int 0, .null, .int 0, .null, .null, .int 0, .null, .null, .null, .null, .null, .null, .int 0, .null, .null]) (C := RX11) (T := TX11) (N := 24) (pc := 8) hx hcb hts iwX11 tyX11 tyX11_ok hown (hts _ e843) (hts _ e844) (hts _ q67) hK hP1 hD1 hS1 hA rfl (fun j hj => by rcases (show j = 0 ∨ j = 1 ∨ j = 2 ∨ j = 3 ∨ j = 4 ∨ j = 5 ∨ j = 6 ∨ j = 7 ∨ j = 8 ∨ j = 9 ∨ j = 10 ∨ j = 11 ∨ j = 12 ∨ j = 13 ∨ j = 14 ∨ j = 15 ∨ j = 16 ∨ j = 17 ∨ j = 18 ∨ j = 19 ∨ j = 20 ∨ j = 21 ∨ j = 22 ∨ j = 23 by omega) with rfl | rfl | rfl | rfl | rfl | rfl | rfl | rfl | rfl | rfl | rfl | rfl | rfl | rfl | rfl | rfl | rfl | rfl | rfl | rfl | rfl | rfl | rfl | rfl <;> rfl) (Nat.le_of_ble_eq_true rfl) (Nat.le_of_ble_eq_true rfl) dL_law_8 (fun h1 H2 hP2 hD2 hS2 => ?_)
  have hln : (kwL kZC (X.1, u, X.2.2) σ).length = kZC.1 := kw_len
  have hat : (kwL kZC (X.1, u, X.2.2) σ ++ [(h1, (.inr (11, [.null, .null, .null, .int 0, .int 0, .int 0, .int 0, .null, .null, .int 0, .null, .int 0, .null, .null, .int 0, .null, .null, .null, .null, .null, .null, .int 0, .null, .null]) : va_E))])[kZC.1]? = some (h1, .inr (11, [.null, .null, .null, .int 0, .int 0, .int 0, .int 0, .null, .null, .int 0, .null, .int 0, .null, .null, .int 0, .null, .null, .null, .null, .null, .null, .int 0, .null, .null])) := by
    rw [List.getElem?_append_right (by omega), hln, Nat.sub_self]
    rfl
  have hleft : ∀ k, k < kZC.1 → (kwL kZC (X.1, u, X.2.2) σ ++ [(h1, (.inr (11, [.null, .null, .null, .int 0, .int 0, .int 0, .int 0, .null, .null, .int 0, .null, .int 0, .null, .null, .int 0, .null, .null, .null, .null, .null, .null, .int 0, .null, .null]) : va_E))])[k]? = some (u k, kZC.2.1 (X.1, u, X.2.2) (σ.1 k) (σ.2.1 k) σ.2.2 k) := fun k hk => by
    rw [List.getElem?_append_left (by omega), kw_at hk]
  have hh1 : s.heap.size ≤ h1 := hD2.2 _ _ hat
  have hne : ∀ k, k < kZC.1 → u k ≠ h1 := fun k hk z => by
    have := hD2.1 _ _ _ _ (hleft k hk) hat z
    omega
  have hlt : ∀ k, k < kZC.1 → u k < H2.size := fun k hk => (hP2 _ _ (hleft k hk)).lt
  have hPc : va_P X.1 vwCl [(h1, .inr (11, [.null, .null, .null, .int 0, .int 0, .int 0, .int 0, .null, .null, .int 0, .null, .int 0, .null, .null, .int 0, .null, .null, .null, .null, .null, .null, .int 0, .null, .null]))] H2 := fun k q h => by
    cases k with
    | zero => cases h; exact hP2 _ _ hat
    | succ k => simp at h
  have hPk : va_P X.1 vwCl (kwL kZC (X.1, u, X.2.2) σ) H2 := fun k q h => by
    have hk := (List.getElem?_eq_some_iff.mp h).1
    exact hP2 k q (by rw [List.getElem?_append_left hk]; exact h)
  refine lv_dup (pc := 11) hx hcb dL_law_11 rfl ?_
  refine licall (Z := kZM) (E := fun _ => True) (Φ := ModR) (rest := [.ref h1]) (pc := 12) hx hcb hml hown hts (i_X11_init l X h1 wt_M) mi_X11_init e845 hK hPc hS2 hh1 hA (fun _ _ _ _ _ => trivial) (fun _ _ _ => trivial) ⟨(Nat.le_of_ble_eq_true rfl), (Nat.le_of_ble_eq_true rfl)⟩ hl.1 (Nat.le_of_ble_eq_true rfl) dL_law_12 ⟨(Nat.le_of_ble_eq_true rfl), (Nat.le_of_ble_eq_true rfl)⟩ ?_
  intro v τ H3 locs3 hτ hP3 hI3 hR3 hv0 hv hk3 hS3
  have hSM : kS kZM (X.1, v, X.2.2) (fun q : Nat => s.heap.size ≤ q) s := ⟨hK, hI3, fun k hk => by
    rcases hv k hk with z | z
    · show s.heap.size ≤ v k
      rw [z]; exact hh1
    · exact Nat.le_trans hS2.1 z⟩
  have hap : ∀ k j, k < kZC.1 → j < kZM.1 → u k ≠ v j := fun k j hk hj z => by
    rcases hv j hj with y | y
    · exact hne k hk (z.trans y)
    · have := hlt k hk
      omega
  subst hv0
  refine lv_astore_n (lv' := [(2, .ref (v 0)), (1, .ref (u 0)), (0, .ref b)]) (pc := 15) hx hcb dL_law_15 rfl hl (by decide) rfl (fun ls hl => ?_)
  refine lv_iconst (v := nI 0) (pc := 16) hx hcb dL_law_16 (by decide) ?_
  refine lv_istore_n (lv' := [(3, .int (nI 0)), (2, .ref (v 0)), (1, .ref (u 0)), (0, .ref b)]) (pc := 17) hx hcb dL_law_17 rfl hl (by decide) rfl (fun ls hl => ?_)
  refine W.widen (k := 58) (n := 11720) (Nat.le_of_ble_eq_true rfl) (Nat.le_of_ble_eq_true rfl) ?_
  have hWC : kW kZC (X.1, u, X.2.2) (fun q : Nat => s.heap.size ≤ q) s σ H3 locs3 := by
    refine ⟨hPk.kept (fun k q h => ?_), hS3, hR1⟩
    have hk : k < kZC.1 := by
      have := (List.getElem?_eq_some_iff.mp h).1
      omega
    rw [kw_at hk] at h
    cases h
    exact hk3 _ (hlt k hk) (hne k hk)
  exact law_loop (XC := (X.1, u, X.2.2)) (XM := (X.1, v, X.2.2)) hL C0 hSC hSM hap (L + 1) 0 (Nat.zero_le _) (by omega) σ τ H3 locs3 (Rel_first hσ hτ) hWC ⟨hP3, hS3, hR3⟩ ls hl
