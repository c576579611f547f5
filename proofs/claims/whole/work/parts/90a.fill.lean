set_option maxHeartbeats 4000000 in
set_option maxRecDepth 100000 in
theorem c_fillJZ (l : Launch) (Z : KD) (X : KX) (σ : Mm) (k n : Nat) (v : Int64) (hk : kIsJ Z X k n) (hn : n < 2 ^ 31) : Met l yJ7_fill_d0a16 (.code yJ7_fill_d0a16 cJ7_fill_d0a16 5 none :: kT) rm_J7_fill_d0a16 (va_Pc [.ref (X.2.1 k), .long v] (kPre Z X σ)) (va_Qv (fun σ' => σ' = kfillJ σ k n v) (fun σ' t => kPre Z X σ' t) (kA Z X)) 0 0 (kA Z X) := by
  refine kofV (by decide) (Nat.le_of_ble_eq_true rfl) ?_
  intro p e s m args below meth c ls Q hx hcb hml hown hts hS hW hl hret
  have hl : lv_has ls 5 [(0, .ref (X.2.1 k)), (1, .long v)] := hl
  refine lv_iconst (v := 0) (pc := 0) hx hcb dJ7_fill_d0a16_0 rfl ?_
  refine lv_istore_n (lv' := [(3, .int 0), (0, .ref (X.2.1 k)), (1, .long v)]) (pc := 1) hx hcb dJ7_fill_d0a16_1 rfl hl (by decide) rfl (fun ls hl => ?_)
  refine lv_aload_n (pc := 2) hx hcb dJ7_fill_d0a16_2 rfl (lv_at hl 1 rfl) ?_
  refine kalenJ (pc := 3) hx hcb hS hW hk dJ7_fill_d0a16_3 ?_
  refine lv_istore (lv' := [(4, .int (nI n)), (3, .int 0), (0, .ref (X.2.1 k)), (1, .long v)]) (pc := 4) hx hcb dJ7_fill_d0a16_4 hl (by decide) rfl (fun ls hl => ?_)
  have hL : ∀ (g i : Nat) (σ1 : Mm) (H : Heap) (locs : List Loc) (ls : Array Slot), i ≤ n → n < i + g → σ1 = kfillJ σ k i v → kW Z X (kA Z X) s σ1 H locs → lv_has ls 5 [(4, .int (nI n)), (3, .int (nI i)), (0, .ref (X.2.1 k)), (1, .long v)] → W p l e rm_J7_fill_d0a16 s m args below meth c H locs 0 0 Q (F0 m 6 ls []) := by
    intro g
    induction g with
    | zero => intro i σ1 H locs ls h1 h2; omega
    | succ g ih =>
      intro i σ1 H locs ls h1 h2 e1 hW hl
      refine lv_iload_n (pc := 6) hx hcb dJ7_fill_d0a16_6 rfl (lv_at hl 1 rfl) ?_
      refine lv_iload (pc := 7) hx hcb dJ7_fill_d0a16_7 (lv_at hl 0 rfl) ?_
      refine lv_icmp_ge (tgt := 22) (pc := 9) hx hcb dJ7_fill_d0a16_9 (by decide) (fun c1 => ?_) (fun c1 => ?_)
      · have : i = n := by
          rcases Nat.lt_or_ge i n with q | q
          · exact absurd c1 (nI_ge q hn)
          · omega
        subst this
        exact hret _ _ _ _ _ e1 hW dJ7_fill_d0a16_22
      · have hlt : i < n := by
          rcases Nat.lt_or_ge i n with q | q
          · exact q
          · exact absurd (nI_le q (by omega)) c1
        refine lv_aload_n (pc := 12) hx hcb dJ7_fill_d0a16_12 rfl (lv_at hl 2 rfl) ?_
        refine lv_iload_n (pc := 13) hx hcb dJ7_fill_d0a16_13 rfl (lv_at hl 1 rfl) ?_
        refine lv_lload_n (pc := 14) hx hcb dJ7_fill_d0a16_14 rfl (lv_at hl 3 rfl) ?_
        refine klast i (pc := 15) hx hcb hS hW hk (nI_clamp (by omega)) (vp_in_nI hlt hn) dJ7_fill_d0a16_15 (fun σ2 H locs e2 hW => ?_)
        refine lv_iinc (v := nI (i + 1)) (lv' := [(3, .int (nI (i + 1))), (4, .int (nI n)), (0, .ref (X.2.1 k)), (1, .long v)]) (pc := 16) hx hcb dJ7_fill_d0a16_16 hl (k := 1) rfl (nI_1 i) (by decide) rfl (fun ls hl => ?_)
        refine lv_goto (tgt := 6) (pc := 19) hx hcb dJ7_fill_d0a16_19 (by decide) ?_
        exact ih (i + 1) σ2 _ _ _ hlt (by omega) (by rw [e2, e1, kfillJ_s]) hW (lv_sub hl [1, 0, 2, 3] rfl)
  exact hL (n + 1) 0 σ _ _ _ (Nat.zero_le n) (by omega) (kfillJ_0 σ k v).symm hW (lv_sub hl [0, 1, 2, 3] rfl)
def kZ1 (n : Nat) : KD := (1, fun X _ rl _ _ => .inl (X.2.2.2.2.1, n, .inr (.inl rl)), fun _ => True)
def va_E_long (X : KX) (n : Nat) (f : Nat → Int64) : va_E := .inl (X.2.2.2.2.1, n, .inr (.inl f))
section KF
variable {p : Program} {l : Launch} {e : Env} {R : Room} {s : State} {m : MethodId} {args : Array Value} {below : List Frame} {meth : Method} {c : Code} {H : Heap} {locs : List Loc} {cells slots : Nat} {Q : State → Prop}
variable {cc : ByteArray} {pc : Nat} {ls : Array Slot} {rest : List Value} {X : KX} {A : Nat → Prop} {ws : va_W}
/-- a row of longs is filled -/
theorem kfcall {n index nL q : Nat} {v : Int64} {f : Nat → Int64} {st : List Value} {wr : va_W} {own : String} (isC isR : List Nat) (hx : p.tables.exec = Jvm.exec) (hb : c.code = cc) (hml : c.maxLocals = nL) (hown : s.vm.findClass own = some m.cls) (hts : ∀ w ∈ kT, w.before args s = true) (hf : kMS yJ7_fill_d0a16 cJ7_fill_d0a16 5 none 2) (hlink : Cond.methodLink own index yJ7_fill_d0a16 ∈ kT) (hn : n < 2 ^ 31)
    (hK : va_K X.1 vwCl (kwT X) s) (hP : va_P X.1 vwCl ws H) (hD : va_D A ws) (hS : va_S A s.heap H locs) (hA : ∀ q, s.heap.size ≤ q → A q) (hC : isC.map (fun i => ws[i]?) = [(q, va_E_long X n f)].map some) (hC2 : isC.filterMap (fun i => ws[i]?) = [(q, va_E_long X n f)]) (hnC : va_nd isC = true) (hR : isR.map (fun i => ws[i]?) = wr.map some) (hnd : va_nd isR = true) (hdis : ∀ i ∈ isR, i ∉ isC)
    (hRm : 0 + 1 ≤ R.frames ∧ 8 + (5 + 11) + 0 ≤ R.locals) (hsize : ls.size = nL) (hst : st = .long v :: .ref q :: rest) (hrest : (rest.map fun v => v.category).sum ≤ 8) (hdg : decode cc pc = .ok (.invokestatic index, 3)) (hcs : cells ≤ R.cells ∧ slots ≤ R.slots)
    (kk : ∀ (H1 : Heap) (locs1 : List Loc), va_P X.1 vwCl (wr ++ [(q, va_E_long X n (fun j => if j < n then v else f j))]) H1 → va_D A (wr ++ [(q, va_E_long X n (fun j => if j < n then v else f j))]) → va_S A s.heap H1 locs1 → W p l e R s m args below meth c H1 locs1 cells slots Q (F0 m (pc + 3) ls rest)) : W p l e R s m args below meth c H locs cells slots Q (F0 m pc ls st) := by
  have hPc := hP.sub (ws' := [(q, va_E_long X n f)]) isC hC2
  have hDc := hD.sub (ws' := [(q, va_E_long X n f)]) isC hnC hC
  have hFc := va_free (wc := [(q, va_E_long X n f)]) hD hS hA isC hC
  let X1 : KX := (X.1, fun _ => q, X.2.2)
  let σ1 : Mm := (fun _ _ => 0, fun _ => f, fun _ => 0)
  have hM := c_fillJZ l (kZ1 n) X1 σ1 0 n v ⟨Nat.zero_lt_one, fun _ _ _ => rfl⟩ hn
  have hAk : ∀ z, kA (kZ1 n) X1 z → z = q := fun z h => by
    obtain ⟨k, -, e⟩ := h
    exact e.symm
  have hAq : A q := hFc q (Or.inl ⟨0, _, rfl⟩)
  refine va_callv (va_runS (As := [.ref q, .long v]) (rest := rest) (cc := cc) (nL := nL) (Ts := kT) (own := own) ⟨hx, hb, hml, hown, hts⟩ hM ⟨⟨rfl, rfl, hRm.1, hRm.2, kcb hts hf.1, List.mem_cons_self, hts _ hf.1, hts _ hf.2.1, hf.2.2.2.1, kpm hf.2.2.2.2, hts _ hlink⟩, hts _ hf.2.2.1⟩ ⟨kblind, fun U hU hWm => ⟨rfl, by rw [hU]; exact hPc, va_K.moved hWm.alike hK, fun i j hi hj _ => ?_, trivial⟩⟩ rfl rfl hsize (by rw [hst]; rfl) (lv_room hrest) hdg hcs) hS (fun z _ h => by rw [hAk z h]; exact hAq) (fun z h => by rw [hAk z h]; exact hAq) (fun σ2 t H1 locs1 ht hvm hσ hB hz1 hk1 hS1 => ?_)
  · have h1 : i < 1 := hi
    have h2 : j < 1 := hj
    omega
  · subst hσ
    have hP1 : va_P X.1 vwCl [(q, va_E_long X n (fun j => if j < n then v else f j))] t.heap := hB.1
    rw [ht] at hP1
    have hD1 : va_D (va_A [(q, va_E_long X n f)] H.size) [(q, va_E_long X n (fun j => if j < n then v else f j))] := by
      refine ⟨fun i j a b hi hj _ => ?_, fun k z hz => ?_⟩
      · have h1 := (List.getElem?_eq_some_iff.mp hi).1
        have h2 := (List.getElem?_eq_some_iff.mp hj).1
        simp at h1 h2
        omega
      · have h1 := (List.getElem?_eq_some_iff.mp hz).1
        simp at h1
        subst h1
        cases hz
        exact Or.inl ⟨0, _, rfl⟩
    obtain ⟨hP2, hD2⟩ := va_join (wr := wr) (wc := [(q, va_E_long X n f)]) (w1 := [(q, va_E_long X n (fun j => if j < n then v else f j))]) hP hD isC isR hC hR hnd hdis (fun z hz1 hz2 => hk1 z hz1 (fun h => hz2 (by rw [hAk z h]; exact Or.inl ⟨0, _, rfl⟩))) hFc hP1 hD1
    exact kk H1 locs1 hP2 hD2 hS1
end KF
