def R_law : String := "FollowingCalfLaw"
def lw_P (b : Addr) (xs : List Int32) (args : Array Value) (s : State) : Prop := args = #[.ref b] ∧ s.IntsAt b xs ∧ xs.length ≤ 320 ∧ (Jvm.Cond.and given_1 narrow_1).before args s = true
def lw_Q (_ : Array Value) (s : State) (o : Outcome) (t : State) : Prop := o = .returned (some (.int 1)) ∧ Framed s o t [] 58 11720
def lw_Z (below : List Frame) (a : Array Value) (s : State) : State → Prop := fun t => ∃ o, t.status = .running ∧ Ended t below o ∧ lw_Q a s o t
/-- the law's own end, with 1 on the stack, nothing written that was there before, its room as the claim has it -/
theorem lw_ret {p : Program} {l : Launch} {e : Env} {s : State} {m : MethodId} {below : List Frame} {meth : Method} {c : Code} {b : Nat} (hx : p.tables.exec = Jvm.exec) (hb : c.code = code) (hr : meth.sig.returnType = ret) (hlocks : meth.locks = false) {pc : Nat} {H : Heap} {ls : Array Slot} (hdg : decode code pc = .ok (.ireturn, 1)) : W p l e room_1 s m #[Value.ref b] below meth c H [] 58 11720 (lw_Z below #[Value.ref b] s) (F0 m pc ls [.int 1]) := by
  intro T hT X
  obtain ⟨fs, hret, hrun, hended, hW, hframe⟩ := X.leave (v := some (.int 1)) (hlocks := hlocks) (fun h => by rw [hr] at h; cases h)
  have hmeth' : T.vm.method? m = some meth := X.method'
  refine ⟨T.setFrames fs, ?_, .returned (some (.int 1)), hrun, hended, rfl, ⟨_, rfl⟩, hW, hframe⟩
  jvm_step X.here [X.here.top, hx, hb, hdg, hmeth', hr, ret, narrow_b1]
  (try refine ⟨rfl, ?_⟩); (try refine ⟨rfl, ?_⟩)
  first | (intro acts; rw [hret _ acts rfl rfl rfl]) | rw [hret _ _ rfl rfl rfl]
  exact Steps.refl _
/-- what holds at the law's entry: the machine, the code, the tables' words (any of lw_tbl by 'hts w (by decide +kernel)'), the script of L ints xs at the cell b, what the Statement gives of the start (any of its parts by flat_of_before) -/
def lw_At (p : Program) (s : State) (m : MethodId) (meth : Method) (c : Code) (b L : Nat) (xs : Nat → Int32) : Prop :=
  p.tables.exec = Jvm.exec ∧ c.code = code ∧ meth.sig.returnType = ret ∧ c.maxLocals = 4 ∧ s.vm.findClass R_law = some m.cls ∧ (∀ w ∈ lw_tbl, w.before #[Value.ref b] s = true) ∧ va_X b L xs s s.heap ∧ b < s.heap.size ∧ meth.locks = false ∧ (Jvm.Cond.and given_1 narrow_1).before #[Value.ref b] s = true
set_option maxHeartbeats 4000000 in
set_option maxRecDepth 100000 in
theorem law_loop {p : Program} {l : Launch} {e : Env} {s : State} {m : MethodId} {below : List Frame} {meth : Method} {c : Code} {XC XM : KX} {b L : Nat} {xs : Nat → Int32} (hL : L ≤ 320) (C0 : lw_At p s m meth c b L xs) (hSC : kS kZC XC (fun q : Nat => s.heap.size ≤ q) s) (hSM : kS kZM XM (fun q : Nat => s.heap.size ≤ q) s) (hap : ∀ k j, k < kZC.1 → j < kZM.1 → XC.2.1 k ≠ XM.2.1 j) :
    ∀ (n i : Nat), i ≤ L → L + 1 ≤ i + n → ∀ (σ τ : Mm) (H : Heap) (locs : List Loc), Rel σ τ → kW kZC XC (fun q : Nat => s.heap.size ≤ q) s σ H locs → kW kZM XM (fun q : Nat => s.heap.size ≤ q) s τ H locs → ∀ (ls : Array Slot), lv_has ls 4 [(3, .int (nI i)), (2, .ref (XM.2.1 0)), (1, .ref (XC.2.1 0)), (0, .ref b)] → W p l e room_1 s m #[Value.ref b] below meth c H locs 58 11720 (lw_Z below #[Value.ref b] s) (F0 m 18 ls []) := by
  obtain ⟨hx, hcb, hr, hml, hown, hts0, hX, hbl, hlocks, hgv⟩ := C0
  have hown : s.vm.findClass RL = some m.cls := hown
  have hts : ∀ w ∈ kT, w.before #[Value.ref b] s = true := fun w hw => hts0 w (List.mem_filter.mp hw).1
  have hbA : ¬ (fun q : Nat => s.heap.size ≤ q) b := Nat.not_le.mpr hbl
  intro n
  induction n with
  | zero =>
    intro i h1 h2
    exact absurd h2 (by omega)
  | succ n ih =>
    intro i h1 h2 σ τ H locs hRel hWC hWM ls hl
    refine lv_iload_n (pc := 18) hx hcb dL_law_18 rfl (lv_at hl 0 rfl) ?_
    refine lv_aload_n (pc := 19) hx hcb dL_law_19 rfl (lv_at hl 3 rfl) ?_
    refine va_slen (pc := 20) hx hcb hX hbl hbA hWC.2.1 dL_law_20 ?_
    refine lv_iconst (v := nI 5) (pc := 21) hx hcb dL_law_21 rfl ?_
    refine lv_isub (pc := 22) hx hcb dL_law_22 ?_
    have key : (nI L - nI 5 < nI i) ↔ L < i + 5 := by
      rw [Int32.lt_iff_toInt_lt, pk_sub_toInt (by omega) (by omega), nI_toInt (by omega)]
      omega
    refine lv_icmp_gt (tgt := 771) (pc := 23) hx hcb dL_law_23 (by decide) (fun _ => ?_) (fun c1 => ?_)
    · refine lv_iconst (v := 1) (pc := 771) hx hcb dL_law_771 (by decide) ?_
      refine va_forget (fun q hq => hWC.2.1.2.2 q hq) ?_
      exact lw_ret (pc := 772) hx hcb hr hlocks dL_law_772
    · have hi : i + 5 ≤ L := by
        rcases Nat.lt_or_ge L (i + 5) with z | z
        · exact absurd (key.mpr z) c1
        · exact z
      refine lv_aload_n (pc := 26) hx hcb dL_law_26 rfl (lv_at hl 3 rfl) ?_
      refine lv_iload_n (pc := 27) hx hcb dL_law_27 rfl (lv_at hl 0 rfl) ?_
      refine va_sld (pc := 28) hx hcb hX hbl hbA hWC.2.1 (vp_in_nI (by omega) (by omega)) dL_law_28 ?_
      refine lv_bipush (v := 31) (pc := 29) hx hcb dL_law_29 (by decide) ?_
      refine lv_iand (pc := 31) hx hcb dL_law_31 ?_
      obtain ⟨j, hj, ej⟩ := pk_andE (xs (nI i).toNatClampNeg) (m := 31) 5 (by decide)
      rw [ej]
      have kk : ∀ (σ τ : Mm) (H : Heap) (locs : List Loc), Rel σ τ → kW kZC XC (fun q : Nat => s.heap.size ≤ q) s σ H locs → kW kZM XM (fun q : Nat => s.heap.size ≤ q) s τ H locs → W p l e room_1 s m #[Value.ref b] below meth c H locs 58 11720 (lw_Z below #[Value.ref b] s) (F0 m 765 ls []) := by
        intro σ τ H locs hRel hWC hWM
        refine lv_iinc (v := nI (i + 5)) (lv' := [(3, .int (nI (i + 5))), (2, .ref (XM.2.1 0)), (1, .ref (XC.2.1 0)), (0, .ref b)]) (pc := 765) hx hcb dL_law_765 hl (k := 0) rfl (nI_add i 5) (by decide) rfl (fun ls hl => ?_)
        refine lv_goto (tgt := 18) (pc := 768) hx hcb dL_law_768 (by decide) ?_
        exact ih (i + 5) hi (by omega) σ τ H locs hRel hWC hWM ls hl
      rcases Nat.lt_or_ge j 25 with h25 | h25
      · have hjs : j = 0 ∨ j = 1 ∨ j = 2 ∨ j = 3 ∨ j = 4 ∨ j = 5 ∨ j = 6 ∨ j = 7 ∨ j = 8 ∨ j = 9 ∨ j = 10 ∨ j = 11 ∨ j = 12 ∨ j = 13 ∨ j = 14 ∨ j = 15 ∨ j = 16 ∨ j = 17 ∨ j = 18 ∨ j = 19 ∨ j = 20 ∨ j = 21 ∨ j = 22 ∨ j = 23 ∨ j = 24 := by omega
        rcases hjs with rfl | rfl | rfl | rfl | rfl | rfl | rfl | rfl | rfl | rfl | rfl | rfl | rfl | rfl | rfl | rfl | rfl | rfl | rfl | rfl | rfl | rfl | rfl | rfl | rfl
        · refine lv_tableIn (off := 116) (tgt := 148) (pc := 32) hx hcb dL_law_32 (by decide) (by decide) rfl (by decide) ?_
          exact lk_0 hx hcb hml hown hts hSC hSM hap hWC hWM hRel hX hbl hbA hi hL hl kk
        · refine lv_tableIn (off := 179) (tgt := 211) (pc := 32) hx hcb dL_law_32 (by decide) (by decide) rfl (by decide) ?_
          exact lk_1 hx hcb hml hown hts hSC hSM hap hWC hWM hRel hX hbl hbA hi hL hl kk
        · refine lv_tableIn (off := 192) (tgt := 224) (pc := 32) hx hcb dL_law_32 (by decide) (by decide) rfl (by decide) ?_
          exact lk_2 hx hcb hml hown hts hSC hSM hap hWC hWM hRel hX hbl hbA hi hL hl kk
        · refine lv_tableIn (off := 205) (tgt := 237) (pc := 32) hx hcb dL_law_32 (by decide) (by decide) rfl (by decide) ?_
          exact lk_3 hx hcb hml hown hts hSC hSM hap hWC hWM hRel hX hbl hbA hi hL hl kk
        · refine lv_tableIn (off := 218) (tgt := 250) (pc := 32) hx hcb dL_law_32 (by decide) (by decide) rfl (by decide) ?_
          exact lk_4 hx hcb hml hown hts hSC hSM hap hWC hWM hRel hX hbl hbA hi hL hl kk
        · refine lv_tableIn (off := 251) (tgt := 283) (pc := 32) hx hcb dL_law_32 (by decide) (by decide) rfl (by decide) ?_
          exact lk_5 hx hcb hml hown hts hSC hSM hap hWC hWM hRel hX hbl hbA hi hL hl kk
        · refine lv_tableIn (off := 284) (tgt := 316) (pc := 32) hx hcb dL_law_32 (by decide) (by decide) rfl (by decide) ?_
          exact lk_6 hx hcb hml hown hts hSC hSM hap hWC hWM hRel hX hbl hbA hi hL hl kk
        · refine lv_tableIn (off := 307) (tgt := 339) (pc := 32) hx hcb dL_law_32 (by decide) (by decide) rfl (by decide) ?_
          exact lk_7 hx hcb hml hown hts hSC hSM hap hWC hWM hRel hX hbl hbA hi hL hl kk
        · refine lv_tableIn (off := 330) (tgt := 362) (pc := 32) hx hcb dL_law_32 (by decide) (by decide) rfl (by decide) ?_
          exact lk_8 hx hcb hml hown hts hSC hSM hap hWC hWM hRel hX hbl hbA hi hL hl kk
        · refine lv_tableIn (off := 343) (tgt := 375) (pc := 32) hx hcb dL_law_32 (by decide) (by decide) rfl (by decide) ?_
          exact lk_9 hx hcb hml hown hts hSC hSM hap hWC hWM hRel hX hbl hbA hi hL hl kk
        · refine lv_tableIn (off := 376) (tgt := 408) (pc := 32) hx hcb dL_law_32 (by decide) (by decide) rfl (by decide) ?_
          exact lk_10 hx hcb hml hown hts hSC hSM hap hWC hWM hRel hX hbl hbA hi hL hl kk
        · refine lv_tableIn (off := 409) (tgt := 441) (pc := 32) hx hcb dL_law_32 (by decide) (by decide) rfl (by decide) ?_
          exact lk_11 hx hcb hml hown hts hSC hSM hap hWC hWM hRel hX hbl hbA hi hL hl kk
        · refine lv_tableIn (off := 422) (tgt := 454) (pc := 32) hx hcb dL_law_32 (by decide) (by decide) rfl (by decide) ?_
          exact lk_12 hx hcb hml hown hts hSC hSM hap hWC hWM hRel hX hbl hbA hi hL hl kk
        · refine lv_tableIn (off := 435) (tgt := 467) (pc := 32) hx hcb dL_law_32 (by decide) (by decide) rfl (by decide) ?_
          exact lk_13 hx hcb hml hown hts hSC hSM hap hWC hWM hRel hX hbl hbA hi hL hl kk
        · refine lv_tableIn (off := 448) (tgt := 480) (pc := 32) hx hcb dL_law_32 (by decide) (by decide) rfl (by decide) ?_
          exact lk_14 hx hcb hml hown hts hSC hSM hap hWC hWM hRel hX hbl hbA hi hL hl kk
        · refine lv_tableIn (off := 461) (tgt := 493) (pc := 32) hx hcb dL_law_32 (by decide) (by decide) rfl (by decide) ?_
          exact lk_15 hx hcb hml hown hts hSC hSM hap hWC hWM hRel hX hbl hbA hi hL hl kk
        · refine lv_tableIn (off := 514) (tgt := 546) (pc := 32) hx hcb dL_law_32 (by decide) (by decide) rfl (by decide) ?_
          exact lk_16 hx hcb hml hown hts hSC hSM hap hWC hWM hRel hX hbl hbA hi hL hl kk
        · refine lv_tableIn (off := 547) (tgt := 579) (pc := 32) hx hcb dL_law_32 (by decide) (by decide) rfl (by decide) ?_
          exact lk_17 hx hcb hml hown hts hSC hSM hap hWC hWM hRel hX hbl hbA hi hL hl kk
        · refine lv_tableIn (off := 560) (tgt := 592) (pc := 32) hx hcb dL_law_32 (by decide) (by decide) rfl (by decide) ?_
          exact lk_18 hx hcb hml hown hts hSC hSM hap hWC hWM hRel hX hbl hbA hi hL hl kk
        · refine lv_tableIn (off := 574) (tgt := 606) (pc := 32) hx hcb dL_law_32 (by decide) (by decide) rfl (by decide) ?_
          exact lk_19 hx hcb hml hown hts hSC hSM hap hWC hWM hRel hX hbl hbA hi hL hl kk
        · refine lv_tableIn (off := 597) (tgt := 629) (pc := 32) hx hcb dL_law_32 (by decide) (by decide) rfl (by decide) ?_
          exact lk_20 hx hcb hml hown hts hSC hSM hap hWC hWM hRel hX hbl hbA hi hL hl kk
        · refine lv_tableIn (off := 641) (tgt := 673) (pc := 32) hx hcb dL_law_32 (by decide) (by decide) rfl (by decide) ?_
          exact lk_21 hx hcb hml hown hts hSC hSM hap hWC hWM hRel hX hbl hbA hi hL hl kk
        · refine lv_tableIn (off := 684) (tgt := 716) (pc := 32) hx hcb dL_law_32 (by decide) (by decide) rfl (by decide) ?_
          exact lk_22 hx hcb hml hown hts hSC hSM hap hWC hWM hRel hX hbl hbA hi hL hl kk
        · refine lv_tableIn (off := 697) (tgt := 729) (pc := 32) hx hcb dL_law_32 (by decide) (by decide) rfl (by decide) ?_
          exact lk_23 hx hcb hml hown hts hSC hSM hap hWC hWM hRel hX hbl hbA hi hL hl kk
        · refine lv_tableIn (off := 710) (tgt := 742) (pc := 32) hx hcb dL_law_32 (by decide) (by decide) rfl (by decide) ?_
          exact lk_24 hx hcb hml hown hts hSC hSM hap hWC hWM hRel hX hbl hbA hi hL hl kk
      · refine lv_tableOut (tgt := 765) (pc := 32) hx hcb dL_law_32 (Or.inr (by rw [nI_toInt (by omega)]; omega)) (by decide) ?_
        exact kk σ τ H locs hRel hWC hWM
