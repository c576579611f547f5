theorem e267 : Cond.methodLink RX10 78 yJ0_length_8abf5 ∈ kT := kT_in 267 (by decide +kernel) (by decide +kernel)
theorem e277 : Cond.methodLink RX10 84 yJ0_charAt_5068e ∈ kT := kT_in 277 (by decide +kernel) (by decide +kernel)
set_option maxHeartbeats 4000000 in
set_option maxRecDepth 100000 in
theorem t_X10 {p : Program} {l : Launch} {e : Env} {s : State} {m : MethodId} {args : Array Value} {below : List Frame} {meth : Method} {c : Code} {H : Heap} {locs : List Loc} {cells slots : Nat} {Q : State → Prop} {ls : Array Slot} {X : KX} {A : Nat → Prop} {σ : Mm} {R : Room} {tx : String} {a b f : Nat} (hx : p.tables.exec = Jvm.exec) (hcb : c.code = cX10_init) (hml : c.maxLocals = 2) (hown : s.vm.findClass RX10 = some m.cls) (hts : ∀ w ∈ kT, w.before args s = true) (hR : R = rmi_X10_init) (hS : kS kZC X A s) (hW : kW kZC X A s σ H locs) (hl : lv_has ls 2 [(0, .ref (X.2.1 0))]) (hcs : cells ≤ R.cells ∧ slots ≤ R.slots) (hZ : vk_R RX10 76 tx a s)
    (hE : ∀ (H : Heap) (locs : List Loc), va_S A s.heap H locs → kSt a b f s H) {Φ : Mm → Prop} (h : wt_X10 σ Φ)
    (hret : ∀ (σ2 : Mm) (H : Heap) (locs : List Loc) (ls : Array Slot), Φ σ2 → kW kZC X A s σ2 H locs → W p l e R s m args below meth c H locs cells slots Q (F0 m 196 ls [])) : W p l e R s m args below meth c H locs cells slots Q (F0 m 129 ls []) := by
  subst hR
  refine lv_iconst (v := 0) (pc := 129) hx hcb dX10_init_129 rfl ?_
  refine lv_istore_n (lv' := [(1, .int (nI 0)), (0, .ref (X.2.1 0))]) (pc := 130) hx hcb dX10_init_130 rfl hl (by decide) rfl (fun ls hl => ?_)
  have hL : ∀ (r i : Nat) (σ : Mm) (H : Heap) (locs : List Loc) (ls : Array Slot), i + r = 33 → kW kZC X A s σ H locs → lv_has ls 2 [(1, .int (nI i)), (0, .ref (X.2.1 0))] → wl_X10 r i σ (fun σ1 => wp_X5_readInto σ1 (σ1.2.2 0) (fun _ σ2 => wp_X1_measure σ2 (σ2.2.2 0) (fun σ3 => wp_X8_clear σ3 (fun σ4 => wp_X3_begin σ4 (σ4.2.2 0) Φ)))) → W p l e rmi_X10_init s m args below meth c H locs cells slots Q (F0 m 131 ls []) := by
    intro r
    induction r with
    | zero =>
      intro i σ H locs ls hi hW hl h
      have e : i = 33 := by omega
      subst e
      refine lv_iload_n (pc := 131) hx hcb dX10_init_131 rfl (lv_at hl 0 rfl) ?_
      refine va_ldcS (pc := 132) hx hcb hown hZ dX10_init_132 ?_
      refine ksV1 (As := []) (rest := [.int (nI 33)]) (pc := 134) hx hcb hml hown hts (hE _ _ hW.2.1) hW.2.1 (s_len l a b f) mfs_J0_length_8abf5 e267 ⟨rfl, rfl⟩ ⟨(Nat.le_of_ble_eq_true rfl), (Nat.le_of_ble_eq_true rfl)⟩ rfl hl.1 rfl (Nat.le_of_ble_eq_true rfl) dX10_init_134 hcs (fun H locs hS1 _ hk _ => ?_)
      have hW := kW_kept hW hS1 hk
      refine lv_icmp_ge (tgt := 159) (pc := 137) hx hcb dX10_init_137 (by decide) (fun _ => ?_) (fun c1 => absurd (by decide) c1)
      have h : wp_X5_readInto σ (σ.2.2 0) _ := h
      refine lv_aload_n (pc := 159) hx hcb dX10_init_159 rfl (lv_at hl 1 rfl) ?_
      refine kget (v := .ref (X.2.1 3)) (pc := 160) hx hcb hts hown hS hW iwX10 kOC_0 rfl 1 (by decide) q422 rfl rfl dX10_init_160 ?_
      refine lv_aload_n (pc := 163) hx hcb dX10_init_163 rfl (lv_at hl 1 rfl) ?_
      refine kget (v := .ref (X.2.1 (σ.2.2 0))) (pc := 164) hx hcb hts hown hS hW iwX10 kOC_0 rfl 2 (by decide) q423 rfl rfl dX10_init_164 ?_
      refine kci (krunV (As := [.ref (X.2.1 (σ.2.2 0))]) (rest := []) (pc := 167) hx hcb hml hown hts hS hW (c_X5_readInto l X σ (σ.2.2 0) hW.2.2.1 _ h) mf_X5_readInto q319 kOC_3 rfl ⟨rfl, rfl⟩ ⟨(Nat.le_of_ble_eq_true rfl), (Nat.le_of_ble_eq_true rfl)⟩ rfl hl.1 rfl (Nat.le_of_ble_eq_true rfl) dX10_init_167 hcs) hS hW (fun r3 σ2 H locs h hW => ?_)
      refine lv_pop (pc := 170) hx hcb dX10_init_170 rfl ?_
      refine lv_aload_n (pc := 171) hx hcb dX10_init_171 rfl (lv_at hl 1 rfl) ?_
      refine kget (v := .ref (X.2.1 (σ2.2.2 0))) (pc := 172) hx hcb hts hown hS hW iwX10 kOC_0 rfl 2 (by decide) q423 rfl rfl dX10_init_172 ?_
      refine kcv (krunV (As := []) (rest := []) (pc := 175) hx hcb hml hown hts hS hW (c_X1_measure l X σ2 (σ2.2.2 0) hW.2.2.1 _ h) mf_X1_measure q394 (kO_X1 hW.2.2.1) rfl ⟨rfl, rfl⟩ ⟨(Nat.le_of_ble_eq_true rfl), (Nat.le_of_ble_eq_true rfl)⟩ rfl hl.1 rfl (Nat.le_of_ble_eq_true rfl) dX10_init_175 hcs) hS hW (fun σ3 H locs h hW => ?_)
      refine lv_aload_n (pc := 178) hx hcb dX10_init_178 rfl (lv_at hl 1 rfl) ?_
      refine kget (v := .ref (X.2.1 1)) (pc := 179) hx hcb hts hown hS hW iwX10 kOC_0 rfl 0 (by decide) q421 rfl rfl dX10_init_179 ?_
      refine kcv (krunV (As := []) (rest := []) (pc := 182) hx hcb hml hown hts hS hW (c_X8_clear l X σ3 _ h) mf_X8_clear q406 kOC_1 rfl ⟨rfl, rfl⟩ ⟨(Nat.le_of_ble_eq_true rfl), (Nat.le_of_ble_eq_true rfl)⟩ rfl hl.1 rfl (Nat.le_of_ble_eq_true rfl) dX10_init_182 hcs) hS hW (fun σ4 H locs h hW => ?_)
      refine lv_aload_n (pc := 185) hx hcb dX10_init_185 rfl (lv_at hl 1 rfl) ?_
      refine kget (v := .ref (X.2.1 16)) (pc := 186) hx hcb hts hown hS hW iwX10 kOC_0 rfl 4 (by decide) q425 rfl rfl dX10_init_186 ?_
      refine lv_aload_n (pc := 189) hx hcb dX10_init_189 rfl (lv_at hl 1 rfl) ?_
      refine kget (v := .ref (X.2.1 (σ4.2.2 0))) (pc := 190) hx hcb hts hown hS hW iwX10 kOC_0 rfl 2 (by decide) q423 rfl rfl dX10_init_190 ?_
      refine kcv (krunV (As := [.ref (X.2.1 (σ4.2.2 0))]) (rest := []) (pc := 193) hx hcb hml hown hts hS hW (c_X3_begin l X σ4 (σ4.2.2 0) hW.2.2.1 _ h) mf_X3_begin q410 kOC_16 rfl ⟨rfl, rfl⟩ ⟨(Nat.le_of_ble_eq_true rfl), (Nat.le_of_ble_eq_true rfl)⟩ rfl hl.1 rfl (Nat.le_of_ble_eq_true rfl) dX10_init_193 hcs) hS hW (fun σ5 H locs h hW => ?_)
      exact hret _ _ _ _ h hW
    | succ r ih =>
      intro i σ H locs ls hi hW hl h
      refine lv_iload_n (pc := 131) hx hcb dX10_init_131 rfl (lv_at hl 0 rfl) ?_
      refine va_ldcS (pc := 132) hx hcb hown hZ dX10_init_132 ?_
      refine ksV1 (As := []) (rest := [.int (nI i)]) (pc := 134) hx hcb hml hown hts (hE _ _ hW.2.1) hW.2.1 (s_len l a b f) mfs_J0_length_8abf5 e267 ⟨rfl, rfl⟩ ⟨(Nat.le_of_ble_eq_true rfl), (Nat.le_of_ble_eq_true rfl)⟩ rfl hl.1 rfl (Nat.le_of_ble_eq_true rfl) dX10_init_134 hcs (fun H locs hS1 _ hk _ => ?_)
      have hW := kW_kept hW hS1 hk
      refine lv_icmp_ge (tgt := 159) (pc := 137) hx hcb dX10_init_137 (by decide) (fun c1 => absurd c1 (nI_ge (by omega) (by omega))) (fun _ => ?_)
      refine lv_aload_n (pc := 140) hx hcb dX10_init_140 rfl (lv_at hl 1 rfl) ?_
      refine kget (v := .ref (X.2.1 1)) (pc := 141) hx hcb hts hown hS hW iwX10 kOC_0 rfl 0 (by decide) q421 rfl rfl dX10_init_141 ?_
      refine va_ldcS (pc := 144) hx hcb hown hZ dX10_init_144 ?_
      refine lv_iload_n (pc := 146) hx hcb dX10_init_146 rfl (lv_at hl 0 rfl) ?_
      refine ksV1 (As := [.int (nI i)]) (rest := [.ref (X.2.1 1)]) (pc := 147) hx hcb hml hown hts (hE _ _ hW.2.1) hW.2.1 (s_chr l a b f i (by omega)) mfs_J0_charAt_5068e e277 ⟨rfl, rfl⟩ ⟨(Nat.le_of_ble_eq_true rfl), (Nat.le_of_ble_eq_true rfl)⟩ rfl hl.1 rfl (Nat.le_of_ble_eq_true rfl) dX10_init_147 hcs (fun H locs hS1 _ hk _ => ?_)
      have hW := kW_kept hW hS1 hk
      refine kcv (krunV (As := [.int (nI (T1 i))]) (rest := []) (pc := 150) hx hcb hml hown hts hS hW (c_X8_append l X σ (nI (T1 i)) _ h) mf_X8_append q315 kOC_1 rfl ⟨rfl, rfl⟩ ⟨(Nat.le_of_ble_eq_true rfl), (Nat.le_of_ble_eq_true rfl)⟩ rfl hl.1 rfl (Nat.le_of_ble_eq_true rfl) dX10_init_150 hcs) hS hW (fun σ2 H locs h hW => ?_)
      refine lv_iinc (v := nI (i + 1)) (lv' := [(1, .int (nI (i + 1))), (0, .ref (X.2.1 0))]) (pc := 153) hx hcb dX10_init_153 hl (k := 0) rfl (nI_1 i) (by decide) rfl (fun ls hl => ?_)
      refine lv_goto (tgt := 131) (pc := 156) hx hcb dX10_init_156 (by decide) ?_
      exact ih (i + 1) σ2 _ _ _ (by omega) hW hl h
  exact hL 33 0 σ _ _ _ (by omega) hW hl h
