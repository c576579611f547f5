theorem e455 : Cond.methodLink RL 15 yX10_write ∈ kT := kT_in 455 (by decide +kernel) (by decide +kernel)
theorem e460 : Cond.methodLink RL 20 yX10_wipe ∈ kT := kT_in 460 (by decide +kernel) (by decide +kernel)
theorem e464 : Cond.methodLink RL 25 yX10_fault ∈ kT := kT_in 464 (by decide +kernel) (by decide +kernel)
theorem e468 : Cond.methodLink RL 29 yX10_lay ∈ kT := kT_in 468 (by decide +kernel) (by decide +kernel)
theorem e488 : Cond.methodLink RL 33 yX10_far ∈ kT := kT_in 488 (by decide +kernel) (by decide +kernel)
theorem e494 : Cond.methodLink RL 38 yX10_person ∈ kT := kT_in 494 (by decide +kernel) (by decide +kernel)
theorem e510 : Cond.methodLink RL 42 yX10_feed ∈ kT := kT_in 510 (by decide +kernel) (by decide +kernel)
theorem e535 : Cond.methodLink RL 47 yX10_pass ∈ kT := kT_in 535 (by decide +kernel) (by decide +kernel)
theorem e557 : Cond.methodLink RL 51 yX10_undo ∈ kT := kT_in 557 (by decide +kernel) (by decide +kernel)
theorem e569 : Cond.methodLink RL 55 yX10_calf ∈ kT := kT_in 569 (by decide +kernel) (by decide +kernel)
theorem e580 : Cond.methodLink RL 59 yX10_goal ∈ kT := kT_in 580 (by decide +kernel) (by decide +kernel)
theorem e588 : Cond.methodLink RL 63 yX10_noGoals ∈ kT := kT_in 588 (by decide +kernel) (by decide +kernel)
theorem e592 : Cond.methodLink RL 67 yX10_price ∈ kT := kT_in 592 (by decide +kernel) (by decide +kernel)
theorem e696 : Cond.methodLink RL 71 yX10_first ∈ kT := kT_in 696 (by decide +kernel) (by decide +kernel)
theorem e704 : Cond.methodLink RL 75 yX10_bars ∈ kT := kT_in 704 (by decide +kernel) (by decide +kernel)
theorem e708 : Cond.methodLink RL 79 yX10_game ∈ kT := kT_in 708 (by decide +kernel) (by decide +kernel)
theorem e774 : Cond.methodLink RL 84 yX10_seen ∈ kT := kT_in 774 (by decide +kernel) (by decide +kernel)
theorem e778 : Cond.methodLink RL 88 yX10_forget ∈ kT := kT_in 778 (by decide +kernel) (by decide +kernel)
theorem e782 : Cond.methodLink RL 92 yX10_how ∈ kT := kT_in 782 (by decide +kernel) (by decide +kernel)
theorem e795 : Cond.methodLink RL 97 yX10_sure ∈ kT := kT_in 795 (by decide +kernel) (by decide +kernel)
theorem e799 : Cond.methodLink RL 101 yX10_chance ∈ kT := kT_in 799 (by decide +kernel) (by decide +kernel)
theorem e812 : Cond.methodLink RL 106 yX10_year ∈ kT := kT_in 812 (by decide +kernel) (by decide +kernel)
theorem e826 : Cond.methodLink RL 111 yX10_keep ∈ kT := kT_in 826 (by decide +kernel) (by decide +kernel)
theorem e830 : Cond.methodLink RL 115 yX10_back ∈ kT := kT_in 830 (by decide +kernel) (by decide +kernel)
theorem e834 : Cond.methodLink RL 119 yX10_count ∈ kT := kT_in 834 (by decide +kernel) (by decide +kernel)
theorem e932 : Cond.methodLink RL 19 yX11_write ∈ kT := kT_in 932 (by decide +kernel) (by decide +kernel)
theorem e940 : Cond.methodLink RL 24 yX11_wipe ∈ kT := kT_in 940 (by decide +kernel) (by decide +kernel)
theorem e944 : Cond.methodLink RL 28 yX11_fault ∈ kT := kT_in 944 (by decide +kernel) (by decide +kernel)
theorem e972 : Cond.methodLink RL 32 yX11_lay ∈ kT := kT_in 972 (by decide +kernel) (by decide +kernel)
theorem e976 : Cond.methodLink RL 37 yX11_far ∈ kT := kT_in 976 (by decide +kernel) (by decide +kernel)
theorem e984 : Cond.methodLink RL 41 yX11_person ∈ kT := kT_in 984 (by decide +kernel) (by decide +kernel)
theorem e996 : Cond.methodLink RL 46 yX11_feed ∈ kT := kT_in 996 (by decide +kernel) (by decide +kernel)
theorem e1015 : Cond.methodLink RL 50 yX11_pass ∈ kT := kT_in 1015 (by decide +kernel) (by decide +kernel)
theorem e1030 : Cond.methodLink RL 54 yX11_undo ∈ kT := kT_in 1030 (by decide +kernel) (by decide +kernel)
theorem e1034 : Cond.methodLink RL 58 yX11_calf ∈ kT := kT_in 1034 (by decide +kernel) (by decide +kernel)
theorem e1038 : Cond.methodLink RL 62 yX11_goal ∈ kT := kT_in 1038 (by decide +kernel) (by decide +kernel)
theorem e1042 : Cond.methodLink RL 66 yX11_noGoals ∈ kT := kT_in 1042 (by decide +kernel) (by decide +kernel)
theorem e1046 : Cond.methodLink RL 70 yX11_price ∈ kT := kT_in 1046 (by decide +kernel) (by decide +kernel)
theorem e1078 : Cond.methodLink RL 74 yX11_first ∈ kT := kT_in 1078 (by decide +kernel) (by decide +kernel)
theorem e1082 : Cond.methodLink RL 78 yX11_bars ∈ kT := kT_in 1082 (by decide +kernel) (by decide +kernel)
theorem e1086 : Cond.methodLink RL 83 yX11_game ∈ kT := kT_in 1086 (by decide +kernel) (by decide +kernel)
theorem e1098 : Cond.methodLink RL 87 yX11_seen ∈ kT := kT_in 1098 (by decide +kernel) (by decide +kernel)
theorem e1102 : Cond.methodLink RL 91 yX11_forget ∈ kT := kT_in 1102 (by decide +kernel) (by decide +kernel)
theorem e1106 : Cond.methodLink RL 96 yX11_how ∈ kT := kT_in 1106 (by decide +kernel) (by decide +kernel)
theorem e1126 : Cond.methodLink RL 100 yX11_sure ∈ kT := kT_in 1126 (by decide +kernel) (by decide +kernel)
theorem e1130 : Cond.methodLink RL 105 yX11_chance ∈ kT := kT_in 1130 (by decide +kernel) (by decide +kernel)
theorem e1136 : Cond.methodLink RL 110 yX11_year ∈ kT := kT_in 1136 (by decide +kernel) (by decide +kernel)
theorem e1143 : Cond.methodLink RL 114 yX11_keep ∈ kT := kT_in 1143 (by decide +kernel) (by decide +kernel)
theorem e1147 : Cond.methodLink RL 118 yX11_back ∈ kT := kT_in 1147 (by decide +kernel) (by decide +kernel)
theorem e1151 : Cond.methodLink RL 122 yX11_count ∈ kT := kT_in 1151 (by decide +kernel) (by decide +kernel)
theorem e1155 : Cond.constantLong RL 13 4294967295 ∈ kT := kT_in 1155 (by decide +kernel) (by decide +kernel)
theorem lin {i L : Nat} (k : Nat) (hi : i + 5 ≤ L) (hL : L ≤ 320) (hk : k < 5) : vp_in (nI i + nI k) L := by
  rw [nI_add]
  exact vp_in_nI (by omega) (by omega)
theorem lcmp_rfl (x : Int64) : lg_cmp x x = 0 := by
  rw [lg_cmp_eq]
set_option maxHeartbeats 4000000 in
set_option maxRecDepth 100000 in
theorem lk_0 {p : Program} {l : Launch} {e : Env} {s : State} {m : MethodId} {args : Array Value} {below : List Frame} {meth : Method} {c : Code} {H : Heap} {locs : List Loc} {Q : State → Prop} {ls : Array Slot} {XC XM : KX} {A : Nat → Prop} {σ τ : Mm} {b L i : Nat} {xs : Nat → Int32} (hx : p.tables.exec = Jvm.exec) (hcb : c.code = code) (hml : c.maxLocals = 4) (hown : s.vm.findClass RL = some m.cls) (hts : ∀ w ∈ kT, w.before args s = true) (hSC : kS kZC XC A s) (hSM : kS kZM XM A s) (hap : ∀ k j, k < kZC.1 → j < kZM.1 → XC.2.1 k ≠ XM.2.1 j) (hWC : kW kZC XC A s σ H locs) (hWM : kW kZM XM A s τ H locs) (hRel : Rel σ τ) (hX : va_X b L xs s s.heap) (hbl : b < s.heap.size) (hbA : ¬ A b) (hi : i + 5 ≤ L) (hL : L ≤ 320) (hl : lv_has ls 4 [(3, .int (nI i)), (2, .ref (XM.2.1 0)), (1, .ref (XC.2.1 0)), (0, .ref b)]) (kk : ∀ (σ τ : Mm) (H : Heap) (locs : List Loc), Rel σ τ → kW kZC XC A s σ H locs → kW kZM XM A s τ H locs → W p l e room_1 s m args below meth c H locs 58 11720 Q (F0 m 765 ls [])) : W p l e room_1 s m args below meth c H locs 58 11720 Q (F0 m 148 ls []) := by
  refine lv_aload_n (pc := 148) hx hcb dL_law_148 rfl (lv_at hl 2 rfl) ?_
  refine lv_aload_n (pc := 149) hx hcb dL_law_149 rfl (lv_at hl 3 rfl) ?_
  refine lv_iload_n (pc := 150) hx hcb dL_law_150 rfl (lv_at hl 0 rfl) ?_
  refine lv_iconst (v := 1) (pc := 151) hx hcb dL_law_151 rfl ?_
  refine lv_iadd (pc := 152) hx hcb dL_law_152 ?_
  refine va_sld (pc := 153) hx hcb hX hbl hbA hWC.2.1 (lin 1 hi hL (by omega)) dL_law_153 ?_
  refine lv_aload_n (pc := 154) hx hcb dL_law_154 rfl (lv_at hl 3 rfl) ?_
  refine lv_iload_n (pc := 155) hx hcb dL_law_155 rfl (lv_at hl 0 rfl) ?_
  refine lv_iconst (v := 2) (pc := 156) hx hcb dL_law_156 rfl ?_
  refine lv_iadd (pc := 157) hx hcb dL_law_157 ?_
  refine va_sld (pc := 158) hx hcb hX hbl hbA hWC.2.1 (lin 2 hi hL (by omega)) dL_law_158 ?_
  refine lv_i2l (pc := 159) hx hcb dL_law_159 rfl ?_
  refine lv_bipush (v := 32) (pc := 160) hx hcb dL_law_160 rfl ?_
  refine lv_lshl (pc := 162) hx hcb dL_law_162 rfl ?_
  refine lv_aload_n (pc := 163) hx hcb dL_law_163 rfl (lv_at hl 3 rfl) ?_
  refine lv_iload_n (pc := 164) hx hcb dL_law_164 rfl (lv_at hl 0 rfl) ?_
  refine lv_iconst (v := 3) (pc := 165) hx hcb dL_law_165 rfl ?_
  refine lv_iadd (pc := 166) hx hcb dL_law_166 ?_
  refine va_sld (pc := 167) hx hcb hX hbl hbA hWC.2.1 (lin 3 hi hL (by omega)) dL_law_167 ?_
  refine lv_i2l (pc := 168) hx hcb dL_law_168 rfl ?_
  refine kldc2 (pc := 169) hx hcb hown hts e1155 dL_law_169 ?_
  refine lv_land (pc := 172) hx hcb dL_law_172 ?_
  refine lv_lor (pc := 173) hx hcb dL_law_173 ?_
  have h0 := op_write hRel (xs ((nI i + 1).toNatClampNeg)) ((((xs ((nI i + 2).toNatClampNeg)).toInt64 <<< ((32 : Int32).toInt64 &&& 63)) ||| ((xs ((nI i + 3).toNatClampNeg)).toInt64 &&& 4294967295)))
  refine lci (Z := kZC) (X := XC) (X' := XM) (krunV (As := [.int (xs ((nI i + 1).toNatClampNeg)), .long ((((xs ((nI i + 2).toNatClampNeg)).toInt64 <<< ((32 : Int32).toInt64 &&& 63)) ||| ((xs ((nI i + 3).toNatClampNeg)).toInt64 &&& 4294967295)))]) (rest := []) (pc := 174) hx hcb hml hown hts hSC hWC (c_X10_write l XC σ (xs ((nI i + 1).toNatClampNeg)) ((((xs ((nI i + 2).toNatClampNeg)).toInt64 <<< ((32 : Int32).toInt64 &&& 63)) ||| ((xs ((nI i + 3).toNatClampNeg)).toInt64 &&& 4294967295))) _ h0) mf_X10_write e455 kOC_0 rfl ⟨rfl, rfl⟩ ⟨(Nat.le_of_ble_eq_true rfl), (Nat.le_of_ble_eq_true rfl)⟩ rfl hl.1 rfl (Nat.le_of_ble_eq_true rfl) dL_law_174 ⟨(Nat.le_of_ble_eq_true rfl), (Nat.le_of_ble_eq_true rfl)⟩) hSC hWC hap hWM (fun r1 σ2 H locs h1 hWC hWM => ?_)
  refine lv_aload_n (pc := 177) hx hcb dL_law_177 rfl (lv_at hl 1 rfl) ?_
  refine lv_aload_n (pc := 178) hx hcb dL_law_178 rfl (lv_at hl 3 rfl) ?_
  refine lv_iload_n (pc := 179) hx hcb dL_law_179 rfl (lv_at hl 0 rfl) ?_
  refine lv_iconst (v := 1) (pc := 180) hx hcb dL_law_180 rfl ?_
  refine lv_iadd (pc := 181) hx hcb dL_law_181 ?_
  refine va_sld (pc := 182) hx hcb hX hbl hbA hWC.2.1 (lin 1 hi hL (by omega)) dL_law_182 ?_
  refine lv_aload_n (pc := 183) hx hcb dL_law_183 rfl (lv_at hl 3 rfl) ?_
  refine lv_iload_n (pc := 184) hx hcb dL_law_184 rfl (lv_at hl 0 rfl) ?_
  refine lv_iconst (v := 2) (pc := 185) hx hcb dL_law_185 rfl ?_
  refine lv_iadd (pc := 186) hx hcb dL_law_186 ?_
  refine va_sld (pc := 187) hx hcb hX hbl hbA hWC.2.1 (lin 2 hi hL (by omega)) dL_law_187 ?_
  refine lv_i2l (pc := 188) hx hcb dL_law_188 rfl ?_
  refine lv_bipush (v := 32) (pc := 189) hx hcb dL_law_189 rfl ?_
  refine lv_lshl (pc := 191) hx hcb dL_law_191 rfl ?_
  refine lv_aload_n (pc := 192) hx hcb dL_law_192 rfl (lv_at hl 3 rfl) ?_
  refine lv_iload_n (pc := 193) hx hcb dL_law_193 rfl (lv_at hl 0 rfl) ?_
  refine lv_iconst (v := 3) (pc := 194) hx hcb dL_law_194 rfl ?_
  refine lv_iadd (pc := 195) hx hcb dL_law_195 ?_
  refine va_sld (pc := 196) hx hcb hX hbl hbA hWC.2.1 (lin 3 hi hL (by omega)) dL_law_196 ?_
  refine lv_i2l (pc := 197) hx hcb dL_law_197 rfl ?_
  refine kldc2 (pc := 198) hx hcb hown hts e1155 dL_law_198 ?_
  refine lv_land (pc := 201) hx hcb dL_law_201 ?_
  refine lv_lor (pc := 202) hx hcb dL_law_202 ?_
  refine lci (Z := kZM) (X := XM) (X' := XC) (krunV (As := [.int (xs ((nI i + 1).toNatClampNeg)), .long ((((xs ((nI i + 2).toNatClampNeg)).toInt64 <<< ((32 : Int32).toInt64 &&& 63)) ||| ((xs ((nI i + 3).toNatClampNeg)).toInt64 &&& 4294967295)))]) (rest := [.int r1]) (pc := 203) hx hcb hml hown hts hSM hWM (c_X11_write l XM τ (xs ((nI i + 1).toNatClampNeg)) ((((xs ((nI i + 2).toNatClampNeg)).toInt64 <<< ((32 : Int32).toInt64 &&& 63)) ||| ((xs ((nI i + 3).toNatClampNeg)).toInt64 &&& 4294967295))) _ h1) mf_X11_write e932 kOM_0 rfl ⟨rfl, rfl⟩ ⟨(Nat.le_of_ble_eq_true rfl), (Nat.le_of_ble_eq_true rfl)⟩ rfl hl.1 rfl (Nat.le_of_ble_eq_true rfl) dL_law_203 ⟨(Nat.le_of_ble_eq_true rfl), (Nat.le_of_ble_eq_true rfl)⟩) hSM hWM (fun k j hk hj e => hap j k hj hk e.symm) hWC (fun r2 τ2 H locs h2 hWM hWC => ?_)
  obtain ⟨h2, hRel2⟩ := h2
  subst h2
  refine lv_icmp_eq (tgt := 765) (pc := 206) hx hcb dL_law_206 (by decide) (fun _ => ?_) (fun c1 => absurd rfl c1)
  exact kk _ _ _ _ hRel2 hWC hWM
set_option maxHeartbeats 4000000 in
set_option maxRecDepth 100000 in
theorem lk_1 {p : Program} {l : Launch} {e : Env} {s : State} {m : MethodId} {args : Array Value} {below : List Frame} {meth : Method} {c : Code} {H : Heap} {locs : List Loc} {Q : State → Prop} {ls : Array Slot} {XC XM : KX} {A : Nat → Prop} {σ τ : Mm} {b L i : Nat} {xs : Nat → Int32} (hx : p.tables.exec = Jvm.exec) (hcb : c.code = code) (hml : c.maxLocals = 4) (hown : s.vm.findClass RL = some m.cls) (hts : ∀ w ∈ kT, w.before args s = true) (hSC : kS kZC XC A s) (hSM : kS kZM XM A s) (hap : ∀ k j, k < kZC.1 → j < kZM.1 → XC.2.1 k ≠ XM.2.1 j) (hWC : kW kZC XC A s σ H locs) (hWM : kW kZM XM A s τ H locs) (hRel : Rel σ τ) (hX : va_X b L xs s s.heap) (hbl : b < s.heap.size) (hbA : ¬ A b) (hi : i + 5 ≤ L) (hL : L ≤ 320) (hl : lv_has ls 4 [(3, .int (nI i)), (2, .ref (XM.2.1 0)), (1, .ref (XC.2.1 0)), (0, .ref b)]) (kk : ∀ (σ τ : Mm) (H : Heap) (locs : List Loc), Rel σ τ → kW kZC XC A s σ H locs → kW kZM XM A s τ H locs → W p l e room_1 s m args below meth c H locs 58 11720 Q (F0 m 765 ls [])) : W p l e room_1 s m args below meth c H locs 58 11720 Q (F0 m 211 ls []) := by
  refine lv_aload_n (pc := 211) hx hcb dL_law_211 rfl (lv_at hl 2 rfl) ?_
  have h0 := op_wipe hRel 
  refine lci (Z := kZC) (X := XC) (X' := XM) (krunV (As := []) (rest := []) (pc := 212) hx hcb hml hown hts hSC hWC (c_X10_wipe l XC σ  _ h0) mf_X10_wipe e460 kOC_0 rfl ⟨rfl, rfl⟩ ⟨(Nat.le_of_ble_eq_true rfl), (Nat.le_of_ble_eq_true rfl)⟩ rfl hl.1 rfl (Nat.le_of_ble_eq_true rfl) dL_law_212 ⟨(Nat.le_of_ble_eq_true rfl), (Nat.le_of_ble_eq_true rfl)⟩) hSC hWC hap hWM (fun r1 σ2 H locs h1 hWC hWM => ?_)
  refine lv_aload_n (pc := 215) hx hcb dL_law_215 rfl (lv_at hl 1 rfl) ?_
  refine lci (Z := kZM) (X := XM) (X' := XC) (krunV (As := []) (rest := [.int r1]) (pc := 216) hx hcb hml hown hts hSM hWM (c_X11_wipe l XM τ  _ h1) mf_X11_wipe e940 kOM_0 rfl ⟨rfl, rfl⟩ ⟨(Nat.le_of_ble_eq_true rfl), (Nat.le_of_ble_eq_true rfl)⟩ rfl hl.1 rfl (Nat.le_of_ble_eq_true rfl) dL_law_216 ⟨(Nat.le_of_ble_eq_true rfl), (Nat.le_of_ble_eq_true rfl)⟩) hSM hWM (fun k j hk hj e => hap j k hj hk e.symm) hWC (fun r2 τ2 H locs h2 hWM hWC => ?_)
  obtain ⟨h2, hRel2⟩ := h2
  subst h2
  refine lv_icmp_eq (tgt := 765) (pc := 219) hx hcb dL_law_219 (by decide) (fun _ => ?_) (fun c1 => absurd rfl c1)
  exact kk _ _ _ _ hRel2 hWC hWM
set_option maxHeartbeats 4000000 in
set_option maxRecDepth 100000 in
theorem lk_2 {p : Program} {l : Launch} {e : Env} {s : State} {m : MethodId} {args : Array Value} {below : List Frame} {meth : Method} {c : Code} {H : Heap} {locs : List Loc} {Q : State → Prop} {ls : Array Slot} {XC XM : KX} {A : Nat → Prop} {σ τ : Mm} {b L i : Nat} {xs : Nat → Int32} (hx : p.tables.exec = Jvm.exec) (hcb : c.code = code) (hml : c.maxLocals = 4) (hown : s.vm.findClass RL = some m.cls) (hts : ∀ w ∈ kT, w.before args s = true) (hSC : kS kZC XC A s) (hSM : kS kZM XM A s) (hap : ∀ k j, k < kZC.1 → j < kZM.1 → XC.2.1 k ≠ XM.2.1 j) (hWC : kW kZC XC A s σ H locs) (hWM : kW kZM XM A s τ H locs) (hRel : Rel σ τ) (hX : va_X b L xs s s.heap) (hbl : b < s.heap.size) (hbA : ¬ A b) (hi : i + 5 ≤ L) (hL : L ≤ 320) (hl : lv_has ls 4 [(3, .int (nI i)), (2, .ref (XM.2.1 0)), (1, .ref (XC.2.1 0)), (0, .ref b)]) (kk : ∀ (σ τ : Mm) (H : Heap) (locs : List Loc), Rel σ τ → kW kZC XC A s σ H locs → kW kZM XM A s τ H locs → W p l e room_1 s m args below meth c H locs 58 11720 Q (F0 m 765 ls [])) : W p l e room_1 s m args below meth c H locs 58 11720 Q (F0 m 224 ls []) := by
  refine lv_aload_n (pc := 224) hx hcb dL_law_224 rfl (lv_at hl 2 rfl) ?_
  have h0 := op_fault hRel 
  refine lci (Z := kZC) (X := XC) (X' := XM) (krunV (As := []) (rest := []) (pc := 225) hx hcb hml hown hts hSC hWC (c_X10_fault l XC σ  _ h0) mf_X10_fault e464 kOC_0 rfl ⟨rfl, rfl⟩ ⟨(Nat.le_of_ble_eq_true rfl), (Nat.le_of_ble_eq_true rfl)⟩ rfl hl.1 rfl (Nat.le_of_ble_eq_true rfl) dL_law_225 ⟨(Nat.le_of_ble_eq_true rfl), (Nat.le_of_ble_eq_true rfl)⟩) hSC hWC hap hWM (fun r1 σ2 H locs h1 hWC hWM => ?_)
  refine lv_aload_n (pc := 228) hx hcb dL_law_228 rfl (lv_at hl 1 rfl) ?_
  refine lci (Z := kZM) (X := XM) (X' := XC) (krunV (As := []) (rest := [.int r1]) (pc := 229) hx hcb hml hown hts hSM hWM (c_X11_fault l XM τ  _ h1) mf_X11_fault e944 kOM_0 rfl ⟨rfl, rfl⟩ ⟨(Nat.le_of_ble_eq_true rfl), (Nat.le_of_ble_eq_true rfl)⟩ rfl hl.1 rfl (Nat.le_of_ble_eq_true rfl) dL_law_229 ⟨(Nat.le_of_ble_eq_true rfl), (Nat.le_of_ble_eq_true rfl)⟩) hSM hWM (fun k j hk hj e => hap j k hj hk e.symm) hWC (fun r2 τ2 H locs h2 hWM hWC => ?_)
  obtain ⟨h2, hRel2⟩ := h2
  subst h2
  refine lv_icmp_eq (tgt := 765) (pc := 232) hx hcb dL_law_232 (by decide) (fun _ => ?_) (fun c1 => absurd rfl c1)
  exact kk _ _ _ _ hRel2 hWC hWM
set_option maxHeartbeats 4000000 in
set_option maxRecDepth 100000 in
theorem lk_3 {p : Program} {l : Launch} {e : Env} {s : State} {m : MethodId} {args : Array Value} {below : List Frame} {meth : Method} {c : Code} {H : Heap} {locs : List Loc} {Q : State → Prop} {ls : Array Slot} {XC XM : KX} {A : Nat → Prop} {σ τ : Mm} {b L i : Nat} {xs : Nat → Int32} (hx : p.tables.exec = Jvm.exec) (hcb : c.code = code) (hml : c.maxLocals = 4) (hown : s.vm.findClass RL = some m.cls) (hts : ∀ w ∈ kT, w.before args s = true) (hSC : kS kZC XC A s) (hSM : kS kZM XM A s) (hap : ∀ k j, k < kZC.1 → j < kZM.1 → XC.2.1 k ≠ XM.2.1 j) (hWC : kW kZC XC A s σ H locs) (hWM : kW kZM XM A s τ H locs) (hRel : Rel σ τ) (hX : va_X b L xs s s.heap) (hbl : b < s.heap.size) (hbA : ¬ A b) (hi : i + 5 ≤ L) (hL : L ≤ 320) (hl : lv_has ls 4 [(3, .int (nI i)), (2, .ref (XM.2.1 0)), (1, .ref (XC.2.1 0)), (0, .ref b)]) (kk : ∀ (σ τ : Mm) (H : Heap) (locs : List Loc), Rel σ τ → kW kZC XC A s σ H locs → kW kZM XM A s τ H locs → W p l e room_1 s m args below meth c H locs 58 11720 Q (F0 m 765 ls [])) : W p l e room_1 s m args below meth c H locs 58 11720 Q (F0 m 237 ls []) := by
  refine lv_aload_n (pc := 237) hx hcb dL_law_237 rfl (lv_at hl 2 rfl) ?_
  have h0 := op_lay hRel 
  refine lci (Z := kZC) (X := XC) (X' := XM) (krunV (As := []) (rest := []) (pc := 238) hx hcb hml hown hts hSC hWC (c_X10_lay l XC σ  _ h0) mf_X10_lay e468 kOC_0 rfl ⟨rfl, rfl⟩ ⟨(Nat.le_of_ble_eq_true rfl), (Nat.le_of_ble_eq_true rfl)⟩ rfl hl.1 rfl (Nat.le_of_ble_eq_true rfl) dL_law_238 ⟨(Nat.le_of_ble_eq_true rfl), (Nat.le_of_ble_eq_true rfl)⟩) hSC hWC hap hWM (fun r1 σ2 H locs h1 hWC hWM => ?_)
  refine lv_aload_n (pc := 241) hx hcb dL_law_241 rfl (lv_at hl 1 rfl) ?_
  refine lci (Z := kZM) (X := XM) (X' := XC) (krunV (As := []) (rest := [.int r1]) (pc := 242) hx hcb hml hown hts hSM hWM (c_X11_lay l XM τ  _ h1) mf_X11_lay e972 kOM_0 rfl ⟨rfl, rfl⟩ ⟨(Nat.le_of_ble_eq_true rfl), (Nat.le_of_ble_eq_true rfl)⟩ rfl hl.1 rfl (Nat.le_of_ble_eq_true rfl) dL_law_242 ⟨(Nat.le_of_ble_eq_true rfl), (Nat.le_of_ble_eq_true rfl)⟩) hSM hWM (fun k j hk hj e => hap j k hj hk e.symm) hWC (fun r2 τ2 H locs h2 hWM hWC => ?_)
  obtain ⟨h2, hRel2⟩ := h2
  subst h2
  refine lv_icmp_eq (tgt := 765) (pc := 245) hx hcb dL_law_245 (by decide) (fun _ => ?_) (fun c1 => absurd rfl c1)
  exact kk _ _ _ _ hRel2 hWC hWM
set_option maxHeartbeats 4000000 in
set_option maxRecDepth 100000 in
theorem lk_4 {p : Program} {l : Launch} {e : Env} {s : State} {m : MethodId} {args : Array Value} {below : List Frame} {meth : Method} {c : Code} {H : Heap} {locs : List Loc} {Q : State → Prop} {ls : Array Slot} {XC XM : KX} {A : Nat → Prop} {σ τ : Mm} {b L i : Nat} {xs : Nat → Int32} (hx : p.tables.exec = Jvm.exec) (hcb : c.code = code) (hml : c.maxLocals = 4) (hown : s.vm.findClass RL = some m.cls) (hts : ∀ w ∈ kT, w.before args s = true) (hSC : kS kZC XC A s) (hSM : kS kZM XM A s) (hap : ∀ k j, k < kZC.1 → j < kZM.1 → XC.2.1 k ≠ XM.2.1 j) (hWC : kW kZC XC A s σ H locs) (hWM : kW kZM XM A s τ H locs) (hRel : Rel σ τ) (hX : va_X b L xs s s.heap) (hbl : b < s.heap.size) (hbA : ¬ A b) (hi : i + 5 ≤ L) (hL : L ≤ 320) (hl : lv_has ls 4 [(3, .int (nI i)), (2, .ref (XM.2.1 0)), (1, .ref (XC.2.1 0)), (0, .ref b)]) (kk : ∀ (σ τ : Mm) (H : Heap) (locs : List Loc), Rel σ τ → kW kZC XC A s σ H locs → kW kZM XM A s τ H locs → W p l e room_1 s m args below meth c H locs 58 11720 Q (F0 m 765 ls [])) : W p l e room_1 s m args below meth c H locs 58 11720 Q (F0 m 250 ls []) := by
  refine lv_aload_n (pc := 250) hx hcb dL_law_250 rfl (lv_at hl 2 rfl) ?_
  refine lv_aload_n (pc := 251) hx hcb dL_law_251 rfl (lv_at hl 3 rfl) ?_
  refine lv_iload_n (pc := 252) hx hcb dL_law_252 rfl (lv_at hl 0 rfl) ?_
  refine lv_iconst (v := 1) (pc := 253) hx hcb dL_law_253 rfl ?_
  refine lv_iadd (pc := 254) hx hcb dL_law_254 ?_
  refine va_sld (pc := 255) hx hcb hX hbl hbA hWC.2.1 (lin 1 hi hL (by omega)) dL_law_255 ?_
  refine lv_aload_n (pc := 256) hx hcb dL_law_256 rfl (lv_at hl 3 rfl) ?_
  refine lv_iload_n (pc := 257) hx hcb dL_law_257 rfl (lv_at hl 0 rfl) ?_
  refine lv_iconst (v := 2) (pc := 258) hx hcb dL_law_258 rfl ?_
  refine lv_iadd (pc := 259) hx hcb dL_law_259 ?_
  refine va_sld (pc := 260) hx hcb hX hbl hbA hWC.2.1 (lin 2 hi hL (by omega)) dL_law_260 ?_
  have h0 := op_far hRel (xs ((nI i + 1).toNatClampNeg)) (xs ((nI i + 2).toNatClampNeg))
  refine lci (Z := kZC) (X := XC) (X' := XM) (krunV (As := [.int (xs ((nI i + 1).toNatClampNeg)), .int (xs ((nI i + 2).toNatClampNeg))]) (rest := []) (pc := 261) hx hcb hml hown hts hSC hWC (c_X10_far l XC σ (xs ((nI i + 1).toNatClampNeg)) (xs ((nI i + 2).toNatClampNeg)) _ h0) mf_X10_far e488 kOC_0 rfl ⟨rfl, rfl⟩ ⟨(Nat.le_of_ble_eq_true rfl), (Nat.le_of_ble_eq_true rfl)⟩ rfl hl.1 rfl (Nat.le_of_ble_eq_true rfl) dL_law_261 ⟨(Nat.le_of_ble_eq_true rfl), (Nat.le_of_ble_eq_true rfl)⟩) hSC hWC hap hWM (fun r1 σ2 H locs h1 hWC hWM => ?_)
  obtain ⟨h1, rfl⟩ := h1
  refine lv_aload_n (pc := 264) hx hcb dL_law_264 rfl (lv_at hl 1 rfl) ?_
  refine lv_aload_n (pc := 265) hx hcb dL_law_265 rfl (lv_at hl 3 rfl) ?_
  refine lv_iload_n (pc := 266) hx hcb dL_law_266 rfl (lv_at hl 0 rfl) ?_
  refine lv_iconst (v := 1) (pc := 267) hx hcb dL_law_267 rfl ?_
  refine lv_iadd (pc := 268) hx hcb dL_law_268 ?_
  refine va_sld (pc := 269) hx hcb hX hbl hbA hWC.2.1 (lin 1 hi hL (by omega)) dL_law_269 ?_
  refine lv_aload_n (pc := 270) hx hcb dL_law_270 rfl (lv_at hl 3 rfl) ?_
  refine lv_iload_n (pc := 271) hx hcb dL_law_271 rfl (lv_at hl 0 rfl) ?_
  refine lv_iconst (v := 2) (pc := 272) hx hcb dL_law_272 rfl ?_
  refine lv_iadd (pc := 273) hx hcb dL_law_273 ?_
  refine va_sld (pc := 274) hx hcb hX hbl hbA hWC.2.1 (lin 2 hi hL (by omega)) dL_law_274 ?_
  refine lci (Z := kZM) (X := XM) (X' := XC) (krunV (As := [.int (xs ((nI i + 1).toNatClampNeg)), .int (xs ((nI i + 2).toNatClampNeg))]) (rest := [.int r1]) (pc := 275) hx hcb hml hown hts hSM hWM (c_X11_far l XM τ (xs ((nI i + 1).toNatClampNeg)) (xs ((nI i + 2).toNatClampNeg)) _ h1) mf_X11_far e976 kOM_0 rfl ⟨rfl, rfl⟩ ⟨(Nat.le_of_ble_eq_true rfl), (Nat.le_of_ble_eq_true rfl)⟩ rfl hl.1 rfl (Nat.le_of_ble_eq_true rfl) dL_law_275 ⟨(Nat.le_of_ble_eq_true rfl), (Nat.le_of_ble_eq_true rfl)⟩) hSM hWM (fun k j hk hj e => hap j k hj hk e.symm) hWC (fun r2 τ2 H locs h2 hWM hWC => ?_)
  obtain ⟨h2, rfl⟩ := h2
  subst h2
  refine lv_icmp_eq (tgt := 765) (pc := 278) hx hcb dL_law_278 (by decide) (fun _ => ?_) (fun c1 => absurd rfl c1)
  exact kk _ _ _ _ hRel hWC hWM
set_option maxHeartbeats 4000000 in
set_option maxRecDepth 100000 in
theorem lk_5 {p : Program} {l : Launch} {e : Env} {s : State} {m : MethodId} {args : Array Value} {below : List Frame} {meth : Method} {c : Code} {H : Heap} {locs : List Loc} {Q : State → Prop} {ls : Array Slot} {XC XM : KX} {A : Nat → Prop} {σ τ : Mm} {b L i : Nat} {xs : Nat → Int32} (hx : p.tables.exec = Jvm.exec) (hcb : c.code = code) (hml : c.maxLocals = 4) (hown : s.vm.findClass RL = some m.cls) (hts : ∀ w ∈ kT, w.before args s = true) (hSC : kS kZC XC A s) (hSM : kS kZM XM A s) (hap : ∀ k j, k < kZC.1 → j < kZM.1 → XC.2.1 k ≠ XM.2.1 j) (hWC : kW kZC XC A s σ H locs) (hWM : kW kZM XM A s τ H locs) (hRel : Rel σ τ) (hX : va_X b L xs s s.heap) (hbl : b < s.heap.size) (hbA : ¬ A b) (hi : i + 5 ≤ L) (hL : L ≤ 320) (hl : lv_has ls 4 [(3, .int (nI i)), (2, .ref (XM.2.1 0)), (1, .ref (XC.2.1 0)), (0, .ref b)]) (kk : ∀ (σ τ : Mm) (H : Heap) (locs : List Loc), Rel σ τ → kW kZC XC A s σ H locs → kW kZM XM A s τ H locs → W p l e room_1 s m args below meth c H locs 58 11720 Q (F0 m 765 ls [])) : W p l e room_1 s m args below meth c H locs 58 11720 Q (F0 m 283 ls []) := by
  refine lv_aload_n (pc := 283) hx hcb dL_law_283 rfl (lv_at hl 2 rfl) ?_
  refine lv_aload_n (pc := 284) hx hcb dL_law_284 rfl (lv_at hl 3 rfl) ?_
  refine lv_iload_n (pc := 285) hx hcb dL_law_285 rfl (lv_at hl 0 rfl) ?_
  refine lv_iconst (v := 1) (pc := 286) hx hcb dL_law_286 rfl ?_
  refine lv_iadd (pc := 287) hx hcb dL_law_287 ?_
  refine va_sld (pc := 288) hx hcb hX hbl hbA hWC.2.1 (lin 1 hi hL (by omega)) dL_law_288 ?_
  refine lv_aload_n (pc := 289) hx hcb dL_law_289 rfl (lv_at hl 3 rfl) ?_
  refine lv_iload_n (pc := 290) hx hcb dL_law_290 rfl (lv_at hl 0 rfl) ?_
  refine lv_iconst (v := 2) (pc := 291) hx hcb dL_law_291 rfl ?_
  refine lv_iadd (pc := 292) hx hcb dL_law_292 ?_
  refine va_sld (pc := 293) hx hcb hX hbl hbA hWC.2.1 (lin 2 hi hL (by omega)) dL_law_293 ?_
  have h0 := op_person hRel (xs ((nI i + 1).toNatClampNeg)) (xs ((nI i + 2).toNatClampNeg))
  refine lci (Z := kZC) (X := XC) (X' := XM) (krunV (As := [.int (xs ((nI i + 1).toNatClampNeg)), .int (xs ((nI i + 2).toNatClampNeg))]) (rest := []) (pc := 294) hx hcb hml hown hts hSC hWC (c_X10_person l XC σ (xs ((nI i + 1).toNatClampNeg)) (xs ((nI i + 2).toNatClampNeg)) _ h0) mf_X10_person e494 kOC_0 rfl ⟨rfl, rfl⟩ ⟨(Nat.le_of_ble_eq_true rfl), (Nat.le_of_ble_eq_true rfl)⟩ rfl hl.1 rfl (Nat.le_of_ble_eq_true rfl) dL_law_294 ⟨(Nat.le_of_ble_eq_true rfl), (Nat.le_of_ble_eq_true rfl)⟩) hSC hWC hap hWM (fun r1 σ2 H locs h1 hWC hWM => ?_)
  obtain ⟨h1, rfl⟩ := h1
  refine lv_aload_n (pc := 297) hx hcb dL_law_297 rfl (lv_at hl 1 rfl) ?_
  refine lv_aload_n (pc := 298) hx hcb dL_law_298 rfl (lv_at hl 3 rfl) ?_
  refine lv_iload_n (pc := 299) hx hcb dL_law_299 rfl (lv_at hl 0 rfl) ?_
  refine lv_iconst (v := 1) (pc := 300) hx hcb dL_law_300 rfl ?_
  refine lv_iadd (pc := 301) hx hcb dL_law_301 ?_
  refine va_sld (pc := 302) hx hcb hX hbl hbA hWC.2.1 (lin 1 hi hL (by omega)) dL_law_302 ?_
  refine lv_aload_n (pc := 303) hx hcb dL_law_303 rfl (lv_at hl 3 rfl) ?_
  refine lv_iload_n (pc := 304) hx hcb dL_law_304 rfl (lv_at hl 0 rfl) ?_
  refine lv_iconst (v := 2) (pc := 305) hx hcb dL_law_305 rfl ?_
  refine lv_iadd (pc := 306) hx hcb dL_law_306 ?_
  refine va_sld (pc := 307) hx hcb hX hbl hbA hWC.2.1 (lin 2 hi hL (by omega)) dL_law_307 ?_
  refine lci (Z := kZM) (X := XM) (X' := XC) (krunV (As := [.int (xs ((nI i + 1).toNatClampNeg)), .int (xs ((nI i + 2).toNatClampNeg))]) (rest := [.int r1]) (pc := 308) hx hcb hml hown hts hSM hWM (c_X11_person l XM τ (xs ((nI i + 1).toNatClampNeg)) (xs ((nI i + 2).toNatClampNeg)) _ h1) mf_X11_person e984 kOM_0 rfl ⟨rfl, rfl⟩ ⟨(Nat.le_of_ble_eq_true rfl), (Nat.le_of_ble_eq_true rfl)⟩ rfl hl.1 rfl (Nat.le_of_ble_eq_true rfl) dL_law_308 ⟨(Nat.le_of_ble_eq_true rfl), (Nat.le_of_ble_eq_true rfl)⟩) hSM hWM (fun k j hk hj e => hap j k hj hk e.symm) hWC (fun r2 τ2 H locs h2 hWM hWC => ?_)
  obtain ⟨h2, rfl⟩ := h2
  subst h2
  refine lv_icmp_eq (tgt := 765) (pc := 311) hx hcb dL_law_311 (by decide) (fun _ => ?_) (fun c1 => absurd rfl c1)
  exact kk _ _ _ _ hRel hWC hWM
set_option maxHeartbeats 4000000 in
set_option maxRecDepth 100000 in
theorem lk_6 {p : Program} {l : Launch} {e : Env} {s : State} {m : MethodId} {args : Array Value} {below : List Frame} {meth : Method} {c : Code} {H : Heap} {locs : List Loc} {Q : State → Prop} {ls : Array Slot} {XC XM : KX} {A : Nat → Prop} {σ τ : Mm} {b L i : Nat} {xs : Nat → Int32} (hx : p.tables.exec = Jvm.exec) (hcb : c.code = code) (hml : c.maxLocals = 4) (hown : s.vm.findClass RL = some m.cls) (hts : ∀ w ∈ kT, w.before args s = true) (hSC : kS kZC XC A s) (hSM : kS kZM XM A s) (hap : ∀ k j, k < kZC.1 → j < kZM.1 → XC.2.1 k ≠ XM.2.1 j) (hWC : kW kZC XC A s σ H locs) (hWM : kW kZM XM A s τ H locs) (hRel : Rel σ τ) (hX : va_X b L xs s s.heap) (hbl : b < s.heap.size) (hbA : ¬ A b) (hi : i + 5 ≤ L) (hL : L ≤ 320) (hl : lv_has ls 4 [(3, .int (nI i)), (2, .ref (XM.2.1 0)), (1, .ref (XC.2.1 0)), (0, .ref b)]) (kk : ∀ (σ τ : Mm) (H : Heap) (locs : List Loc), Rel σ τ → kW kZC XC A s σ H locs → kW kZM XM A s τ H locs → W p l e room_1 s m args below meth c H locs 58 11720 Q (F0 m 765 ls [])) : W p l e room_1 s m args below meth c H locs 58 11720 Q (F0 m 316 ls []) := by
  refine lv_aload_n (pc := 316) hx hcb dL_law_316 rfl (lv_at hl 2 rfl) ?_
  refine lv_aload_n (pc := 317) hx hcb dL_law_317 rfl (lv_at hl 3 rfl) ?_
  refine lv_iload_n (pc := 318) hx hcb dL_law_318 rfl (lv_at hl 0 rfl) ?_
  refine lv_iconst (v := 1) (pc := 319) hx hcb dL_law_319 rfl ?_
  refine lv_iadd (pc := 320) hx hcb dL_law_320 ?_
  refine va_sld (pc := 321) hx hcb hX hbl hbA hWC.2.1 (lin 1 hi hL (by omega)) dL_law_321 ?_
  have h0 := op_feed hRel (xs ((nI i + 1).toNatClampNeg))
  refine lci (Z := kZC) (X := XC) (X' := XM) (krunV (As := [.int (xs ((nI i + 1).toNatClampNeg))]) (rest := []) (pc := 322) hx hcb hml hown hts hSC hWC (c_X10_feed l XC σ (xs ((nI i + 1).toNatClampNeg)) _ h0) mf_X10_feed e510 kOC_0 rfl ⟨rfl, rfl⟩ ⟨(Nat.le_of_ble_eq_true rfl), (Nat.le_of_ble_eq_true rfl)⟩ rfl hl.1 rfl (Nat.le_of_ble_eq_true rfl) dL_law_322 ⟨(Nat.le_of_ble_eq_true rfl), (Nat.le_of_ble_eq_true rfl)⟩) hSC hWC hap hWM (fun r1 σ2 H locs h1 hWC hWM => ?_)
  refine lv_aload_n (pc := 325) hx hcb dL_law_325 rfl (lv_at hl 1 rfl) ?_
  refine lv_aload_n (pc := 326) hx hcb dL_law_326 rfl (lv_at hl 3 rfl) ?_
  refine lv_iload_n (pc := 327) hx hcb dL_law_327 rfl (lv_at hl 0 rfl) ?_
  refine lv_iconst (v := 1) (pc := 328) hx hcb dL_law_328 rfl ?_
  refine lv_iadd (pc := 329) hx hcb dL_law_329 ?_
  refine va_sld (pc := 330) hx hcb hX hbl hbA hWC.2.1 (lin 1 hi hL (by omega)) dL_law_330 ?_
  refine lci (Z := kZM) (X := XM) (X' := XC) (krunV (As := [.int (xs ((nI i + 1).toNatClampNeg))]) (rest := [.int r1]) (pc := 331) hx hcb hml hown hts hSM hWM (c_X11_feed l XM τ (xs ((nI i + 1).toNatClampNeg)) _ h1) mf_X11_feed e996 kOM_0 rfl ⟨rfl, rfl⟩ ⟨(Nat.le_of_ble_eq_true rfl), (Nat.le_of_ble_eq_true rfl)⟩ rfl hl.1 rfl (Nat.le_of_ble_eq_true rfl) dL_law_331 ⟨(Nat.le_of_ble_eq_true rfl), (Nat.le_of_ble_eq_true rfl)⟩) hSM hWM (fun k j hk hj e => hap j k hj hk e.symm) hWC (fun r2 τ2 H locs h2 hWM hWC => ?_)
  obtain ⟨h2, hRel2⟩ := h2
  subst h2
  refine lv_icmp_eq (tgt := 765) (pc := 334) hx hcb dL_law_334 (by decide) (fun _ => ?_) (fun c1 => absurd rfl c1)
  exact kk _ _ _ _ hRel2 hWC hWM
set_option maxHeartbeats 4000000 in
set_option maxRecDepth 100000 in
theorem lk_7 {p : Program} {l : Launch} {e : Env} {s : State} {m : MethodId} {args : Array Value} {below : List Frame} {meth : Method} {c : Code} {H : Heap} {locs : List Loc} {Q : State → Prop} {ls : Array Slot} {XC XM : KX} {A : Nat → Prop} {σ τ : Mm} {b L i : Nat} {xs : Nat → Int32} (hx : p.tables.exec = Jvm.exec) (hcb : c.code = code) (hml : c.maxLocals = 4) (hown : s.vm.findClass RL = some m.cls) (hts : ∀ w ∈ kT, w.before args s = true) (hSC : kS kZC XC A s) (hSM : kS kZM XM A s) (hap : ∀ k j, k < kZC.1 → j < kZM.1 → XC.2.1 k ≠ XM.2.1 j) (hWC : kW kZC XC A s σ H locs) (hWM : kW kZM XM A s τ H locs) (hRel : Rel σ τ) (hX : va_X b L xs s s.heap) (hbl : b < s.heap.size) (hbA : ¬ A b) (hi : i + 5 ≤ L) (hL : L ≤ 320) (hl : lv_has ls 4 [(3, .int (nI i)), (2, .ref (XM.2.1 0)), (1, .ref (XC.2.1 0)), (0, .ref b)]) (kk : ∀ (σ τ : Mm) (H : Heap) (locs : List Loc), Rel σ τ → kW kZC XC A s σ H locs → kW kZM XM A s τ H locs → W p l e room_1 s m args below meth c H locs 58 11720 Q (F0 m 765 ls [])) : W p l e room_1 s m args below meth c H locs 58 11720 Q (F0 m 339 ls []) := by
  refine lv_aload_n (pc := 339) hx hcb dL_law_339 rfl (lv_at hl 2 rfl) ?_
  refine lv_aload_n (pc := 340) hx hcb dL_law_340 rfl (lv_at hl 3 rfl) ?_
  refine lv_iload_n (pc := 341) hx hcb dL_law_341 rfl (lv_at hl 0 rfl) ?_
  refine lv_iconst (v := 1) (pc := 342) hx hcb dL_law_342 rfl ?_
  refine lv_iadd (pc := 343) hx hcb dL_law_343 ?_
  refine va_sld (pc := 344) hx hcb hX hbl hbA hWC.2.1 (lin 1 hi hL (by omega)) dL_law_344 ?_
  have h0 := op_pass hRel (xs ((nI i + 1).toNatClampNeg))
  refine lci (Z := kZC) (X := XC) (X' := XM) (krunV (As := [.int (xs ((nI i + 1).toNatClampNeg))]) (rest := []) (pc := 345) hx hcb hml hown hts hSC hWC (c_X10_pass l XC σ (xs ((nI i + 1).toNatClampNeg)) _ h0) mf_X10_pass e535 kOC_0 rfl ⟨rfl, rfl⟩ ⟨(Nat.le_of_ble_eq_true rfl), (Nat.le_of_ble_eq_true rfl)⟩ rfl hl.1 rfl (Nat.le_of_ble_eq_true rfl) dL_law_345 ⟨(Nat.le_of_ble_eq_true rfl), (Nat.le_of_ble_eq_true rfl)⟩) hSC hWC hap hWM (fun r1 σ2 H locs h1 hWC hWM => ?_)
  refine lv_aload_n (pc := 348) hx hcb dL_law_348 rfl (lv_at hl 1 rfl) ?_
  refine lv_aload_n (pc := 349) hx hcb dL_law_349 rfl (lv_at hl 3 rfl) ?_
  refine lv_iload_n (pc := 350) hx hcb dL_law_350 rfl (lv_at hl 0 rfl) ?_
  refine lv_iconst (v := 1) (pc := 351) hx hcb dL_law_351 rfl ?_
  refine lv_iadd (pc := 352) hx hcb dL_law_352 ?_
  refine va_sld (pc := 353) hx hcb hX hbl hbA hWC.2.1 (lin 1 hi hL (by omega)) dL_law_353 ?_
  refine lci (Z := kZM) (X := XM) (X' := XC) (krunV (As := [.int (xs ((nI i + 1).toNatClampNeg))]) (rest := [.int r1]) (pc := 354) hx hcb hml hown hts hSM hWM (c_X11_pass l XM τ (xs ((nI i + 1).toNatClampNeg)) _ h1) mf_X11_pass e1015 kOM_0 rfl ⟨rfl, rfl⟩ ⟨(Nat.le_of_ble_eq_true rfl), (Nat.le_of_ble_eq_true rfl)⟩ rfl hl.1 rfl (Nat.le_of_ble_eq_true rfl) dL_law_354 ⟨(Nat.le_of_ble_eq_true rfl), (Nat.le_of_ble_eq_true rfl)⟩) hSM hWM (fun k j hk hj e => hap j k hj hk e.symm) hWC (fun r2 τ2 H locs h2 hWM hWC => ?_)
  obtain ⟨h2, hRel2⟩ := h2
  subst h2
  refine lv_icmp_eq (tgt := 765) (pc := 357) hx hcb dL_law_357 (by decide) (fun _ => ?_) (fun c1 => absurd rfl c1)
  exact kk _ _ _ _ hRel2 hWC hWM
set_option maxHeartbeats 4000000 in
set_option maxRecDepth 100000 in
theorem lk_8 {p : Program} {l : Launch} {e : Env} {s : State} {m : MethodId} {args : Array Value} {below : List Frame} {meth : Method} {c : Code} {H : Heap} {locs : List Loc} {Q : State → Prop} {ls : Array Slot} {XC XM : KX} {A : Nat → Prop} {σ τ : Mm} {b L i : Nat} {xs : Nat → Int32} (hx : p.tables.exec = Jvm.exec) (hcb : c.code = code) (hml : c.maxLocals = 4) (hown : s.vm.findClass RL = some m.cls) (hts : ∀ w ∈ kT, w.before args s = true) (hSC : kS kZC XC A s) (hSM : kS kZM XM A s) (hap : ∀ k j, k < kZC.1 → j < kZM.1 → XC.2.1 k ≠ XM.2.1 j) (hWC : kW kZC XC A s σ H locs) (hWM : kW kZM XM A s τ H locs) (hRel : Rel σ τ) (hX : va_X b L xs s s.heap) (hbl : b < s.heap.size) (hbA : ¬ A b) (hi : i + 5 ≤ L) (hL : L ≤ 320) (hl : lv_has ls 4 [(3, .int (nI i)), (2, .ref (XM.2.1 0)), (1, .ref (XC.2.1 0)), (0, .ref b)]) (kk : ∀ (σ τ : Mm) (H : Heap) (locs : List Loc), Rel σ τ → kW kZC XC A s σ H locs → kW kZM XM A s τ H locs → W p l e room_1 s m args below meth c H locs 58 11720 Q (F0 m 765 ls [])) : W p l e room_1 s m args below meth c H locs 58 11720 Q (F0 m 362 ls []) := by
  refine lv_aload_n (pc := 362) hx hcb dL_law_362 rfl (lv_at hl 2 rfl) ?_
  have h0 := op_undo hRel 
  refine lci (Z := kZC) (X := XC) (X' := XM) (krunV (As := []) (rest := []) (pc := 363) hx hcb hml hown hts hSC hWC (c_X10_undo l XC σ  _ h0) mf_X10_undo e557 kOC_0 rfl ⟨rfl, rfl⟩ ⟨(Nat.le_of_ble_eq_true rfl), (Nat.le_of_ble_eq_true rfl)⟩ rfl hl.1 rfl (Nat.le_of_ble_eq_true rfl) dL_law_363 ⟨(Nat.le_of_ble_eq_true rfl), (Nat.le_of_ble_eq_true rfl)⟩) hSC hWC hap hWM (fun r1 σ2 H locs h1 hWC hWM => ?_)
  refine lv_aload_n (pc := 366) hx hcb dL_law_366 rfl (lv_at hl 1 rfl) ?_
  refine lci (Z := kZM) (X := XM) (X' := XC) (krunV (As := []) (rest := [.int r1]) (pc := 367) hx hcb hml hown hts hSM hWM (c_X11_undo l XM τ  _ h1) mf_X11_undo e1030 kOM_0 rfl ⟨rfl, rfl⟩ ⟨(Nat.le_of_ble_eq_true rfl), (Nat.le_of_ble_eq_true rfl)⟩ rfl hl.1 rfl (Nat.le_of_ble_eq_true rfl) dL_law_367 ⟨(Nat.le_of_ble_eq_true rfl), (Nat.le_of_ble_eq_true rfl)⟩) hSM hWM (fun k j hk hj e => hap j k hj hk e.symm) hWC (fun r2 τ2 H locs h2 hWM hWC => ?_)
  obtain ⟨h2, hRel2⟩ := h2
  subst h2
  refine lv_icmp_eq (tgt := 765) (pc := 370) hx hcb dL_law_370 (by decide) (fun _ => ?_) (fun c1 => absurd rfl c1)
  exact kk _ _ _ _ hRel2 hWC hWM
set_option maxHeartbeats 4000000 in
set_option maxRecDepth 100000 in
theorem lk_9 {p : Program} {l : Launch} {e : Env} {s : State} {m : MethodId} {args : Array Value} {below : List Frame} {meth : Method} {c : Code} {H : Heap} {locs : List Loc} {Q : State → Prop} {ls : Array Slot} {XC XM : KX} {A : Nat → Prop} {σ τ : Mm} {b L i : Nat} {xs : Nat → Int32} (hx : p.tables.exec = Jvm.exec) (hcb : c.code = code) (hml : c.maxLocals = 4) (hown : s.vm.findClass RL = some m.cls) (hts : ∀ w ∈ kT, w.before args s = true) (hSC : kS kZC XC A s) (hSM : kS kZM XM A s) (hap : ∀ k j, k < kZC.1 → j < kZM.1 → XC.2.1 k ≠ XM.2.1 j) (hWC : kW kZC XC A s σ H locs) (hWM : kW kZM XM A s τ H locs) (hRel : Rel σ τ) (hX : va_X b L xs s s.heap) (hbl : b < s.heap.size) (hbA : ¬ A b) (hi : i + 5 ≤ L) (hL : L ≤ 320) (hl : lv_has ls 4 [(3, .int (nI i)), (2, .ref (XM.2.1 0)), (1, .ref (XC.2.1 0)), (0, .ref b)]) (kk : ∀ (σ τ : Mm) (H : Heap) (locs : List Loc), Rel σ τ → kW kZC XC A s σ H locs → kW kZM XM A s τ H locs → W p l e room_1 s m args below meth c H locs 58 11720 Q (F0 m 765 ls [])) : W p l e room_1 s m args below meth c H locs 58 11720 Q (F0 m 375 ls []) := by
  refine lv_aload_n (pc := 375) hx hcb dL_law_375 rfl (lv_at hl 2 rfl) ?_
  refine lv_aload_n (pc := 376) hx hcb dL_law_376 rfl (lv_at hl 3 rfl) ?_
  refine lv_iload_n (pc := 377) hx hcb dL_law_377 rfl (lv_at hl 0 rfl) ?_
  refine lv_iconst (v := 1) (pc := 378) hx hcb dL_law_378 rfl ?_
  refine lv_iadd (pc := 379) hx hcb dL_law_379 ?_
  refine va_sld (pc := 380) hx hcb hX hbl hbA hWC.2.1 (lin 1 hi hL (by omega)) dL_law_380 ?_
  refine lv_aload_n (pc := 381) hx hcb dL_law_381 rfl (lv_at hl 3 rfl) ?_
  refine lv_iload_n (pc := 382) hx hcb dL_law_382 rfl (lv_at hl 0 rfl) ?_
  refine lv_iconst (v := 2) (pc := 383) hx hcb dL_law_383 rfl ?_
  refine lv_iadd (pc := 384) hx hcb dL_law_384 ?_
  refine va_sld (pc := 385) hx hcb hX hbl hbA hWC.2.1 (lin 2 hi hL (by omega)) dL_law_385 ?_
  have h0 := op_calf hRel (xs ((nI i + 1).toNatClampNeg)) (xs ((nI i + 2).toNatClampNeg))
  refine lci (Z := kZC) (X := XC) (X' := XM) (krunV (As := [.int (xs ((nI i + 1).toNatClampNeg)), .int (xs ((nI i + 2).toNatClampNeg))]) (rest := []) (pc := 386) hx hcb hml hown hts hSC hWC (c_X10_calf l XC σ (xs ((nI i + 1).toNatClampNeg)) (xs ((nI i + 2).toNatClampNeg)) _ h0) mf_X10_calf e569 kOC_0 rfl ⟨rfl, rfl⟩ ⟨(Nat.le_of_ble_eq_true rfl), (Nat.le_of_ble_eq_true rfl)⟩ rfl hl.1 rfl (Nat.le_of_ble_eq_true rfl) dL_law_386 ⟨(Nat.le_of_ble_eq_true rfl), (Nat.le_of_ble_eq_true rfl)⟩) hSC hWC hap hWM (fun r1 σ2 H locs h1 hWC hWM => ?_)
  obtain ⟨h1, rfl⟩ := h1
  refine lv_aload_n (pc := 389) hx hcb dL_law_389 rfl (lv_at hl 1 rfl) ?_
  refine lv_aload_n (pc := 390) hx hcb dL_law_390 rfl (lv_at hl 3 rfl) ?_
  refine lv_iload_n (pc := 391) hx hcb dL_law_391 rfl (lv_at hl 0 rfl) ?_
  refine lv_iconst (v := 1) (pc := 392) hx hcb dL_law_392 rfl ?_
  refine lv_iadd (pc := 393) hx hcb dL_law_393 ?_
  refine va_sld (pc := 394) hx hcb hX hbl hbA hWC.2.1 (lin 1 hi hL (by omega)) dL_law_394 ?_
  refine lv_aload_n (pc := 395) hx hcb dL_law_395 rfl (lv_at hl 3 rfl) ?_
  refine lv_iload_n (pc := 396) hx hcb dL_law_396 rfl (lv_at hl 0 rfl) ?_
  refine lv_iconst (v := 2) (pc := 397) hx hcb dL_law_397 rfl ?_
  refine lv_iadd (pc := 398) hx hcb dL_law_398 ?_
  refine va_sld (pc := 399) hx hcb hX hbl hbA hWC.2.1 (lin 2 hi hL (by omega)) dL_law_399 ?_
  refine lci (Z := kZM) (X := XM) (X' := XC) (krunV (As := [.int (xs ((nI i + 1).toNatClampNeg)), .int (xs ((nI i + 2).toNatClampNeg))]) (rest := [.int r1]) (pc := 400) hx hcb hml hown hts hSM hWM (c_X11_calf l XM τ (xs ((nI i + 1).toNatClampNeg)) (xs ((nI i + 2).toNatClampNeg)) _ h1) mf_X11_calf e1034 kOM_0 rfl ⟨rfl, rfl⟩ ⟨(Nat.le_of_ble_eq_true rfl), (Nat.le_of_ble_eq_true rfl)⟩ rfl hl.1 rfl (Nat.le_of_ble_eq_true rfl) dL_law_400 ⟨(Nat.le_of_ble_eq_true rfl), (Nat.le_of_ble_eq_true rfl)⟩) hSM hWM (fun k j hk hj e => hap j k hj hk e.symm) hWC (fun r2 τ2 H locs h2 hWM hWC => ?_)
  obtain ⟨h2, rfl⟩ := h2
  subst h2
  refine lv_icmp_eq (tgt := 765) (pc := 403) hx hcb dL_law_403 (by decide) (fun _ => ?_) (fun c1 => absurd rfl c1)
  exact kk _ _ _ _ hRel hWC hWM
set_option maxHeartbeats 4000000 in
set_option maxRecDepth 100000 in
theorem lk_10 {p : Program} {l : Launch} {e : Env} {s : State} {m : MethodId} {args : Array Value} {below : List Frame} {meth : Method} {c : Code} {H : Heap} {locs : List Loc} {Q : State → Prop} {ls : Array Slot} {XC XM : KX} {A : Nat → Prop} {σ τ : Mm} {b L i : Nat} {xs : Nat → Int32} (hx : p.tables.exec = Jvm.exec) (hcb : c.code = code) (hml : c.maxLocals = 4) (hown : s.vm.findClass RL = some m.cls) (hts : ∀ w ∈ kT, w.before args s = true) (hSC : kS kZC XC A s) (hSM : kS kZM XM A s) (hap : ∀ k j, k < kZC.1 → j < kZM.1 → XC.2.1 k ≠ XM.2.1 j) (hWC : kW kZC XC A s σ H locs) (hWM : kW kZM XM A s τ H locs) (hRel : Rel σ τ) (hX : va_X b L xs s s.heap) (hbl : b < s.heap.size) (hbA : ¬ A b) (hi : i + 5 ≤ L) (hL : L ≤ 320) (hl : lv_has ls 4 [(3, .int (nI i)), (2, .ref (XM.2.1 0)), (1, .ref (XC.2.1 0)), (0, .ref b)]) (kk : ∀ (σ τ : Mm) (H : Heap) (locs : List Loc), Rel σ τ → kW kZC XC A s σ H locs → kW kZM XM A s τ H locs → W p l e room_1 s m args below meth c H locs 58 11720 Q (F0 m 765 ls [])) : W p l e room_1 s m args below meth c H locs 58 11720 Q (F0 m 408 ls []) := by
  refine lv_aload_n (pc := 408) hx hcb dL_law_408 rfl (lv_at hl 2 rfl) ?_
  refine lv_aload_n (pc := 409) hx hcb dL_law_409 rfl (lv_at hl 3 rfl) ?_
  refine lv_iload_n (pc := 410) hx hcb dL_law_410 rfl (lv_at hl 0 rfl) ?_
  refine lv_iconst (v := 1) (pc := 411) hx hcb dL_law_411 rfl ?_
  refine lv_iadd (pc := 412) hx hcb dL_law_412 ?_
  refine va_sld (pc := 413) hx hcb hX hbl hbA hWC.2.1 (lin 1 hi hL (by omega)) dL_law_413 ?_
  refine lv_aload_n (pc := 414) hx hcb dL_law_414 rfl (lv_at hl 3 rfl) ?_
  refine lv_iload_n (pc := 415) hx hcb dL_law_415 rfl (lv_at hl 0 rfl) ?_
  refine lv_iconst (v := 2) (pc := 416) hx hcb dL_law_416 rfl ?_
  refine lv_iadd (pc := 417) hx hcb dL_law_417 ?_
  refine va_sld (pc := 418) hx hcb hX hbl hbA hWC.2.1 (lin 2 hi hL (by omega)) dL_law_418 ?_
  have h0 := op_goal hRel (xs ((nI i + 1).toNatClampNeg)) (xs ((nI i + 2).toNatClampNeg))
  refine lci (Z := kZC) (X := XC) (X' := XM) (krunV (As := [.int (xs ((nI i + 1).toNatClampNeg)), .int (xs ((nI i + 2).toNatClampNeg))]) (rest := []) (pc := 419) hx hcb hml hown hts hSC hWC (c_X10_goal l XC σ (xs ((nI i + 1).toNatClampNeg)) (xs ((nI i + 2).toNatClampNeg)) _ h0) mf_X10_goal e580 kOC_0 rfl ⟨rfl, rfl⟩ ⟨(Nat.le_of_ble_eq_true rfl), (Nat.le_of_ble_eq_true rfl)⟩ rfl hl.1 rfl (Nat.le_of_ble_eq_true rfl) dL_law_419 ⟨(Nat.le_of_ble_eq_true rfl), (Nat.le_of_ble_eq_true rfl)⟩) hSC hWC hap hWM (fun r1 σ2 H locs h1 hWC hWM => ?_)
  refine lv_aload_n (pc := 422) hx hcb dL_law_422 rfl (lv_at hl 1 rfl) ?_
  refine lv_aload_n (pc := 423) hx hcb dL_law_423 rfl (lv_at hl 3 rfl) ?_
  refine lv_iload_n (pc := 424) hx hcb dL_law_424 rfl (lv_at hl 0 rfl) ?_
  refine lv_iconst (v := 1) (pc := 425) hx hcb dL_law_425 rfl ?_
  refine lv_iadd (pc := 426) hx hcb dL_law_426 ?_
  refine va_sld (pc := 427) hx hcb hX hbl hbA hWC.2.1 (lin 1 hi hL (by omega)) dL_law_427 ?_
  refine lv_aload_n (pc := 428) hx hcb dL_law_428 rfl (lv_at hl 3 rfl) ?_
  refine lv_iload_n (pc := 429) hx hcb dL_law_429 rfl (lv_at hl 0 rfl) ?_
  refine lv_iconst (v := 2) (pc := 430) hx hcb dL_law_430 rfl ?_
  refine lv_iadd (pc := 431) hx hcb dL_law_431 ?_
  refine va_sld (pc := 432) hx hcb hX hbl hbA hWC.2.1 (lin 2 hi hL (by omega)) dL_law_432 ?_
  refine lci (Z := kZM) (X := XM) (X' := XC) (krunV (As := [.int (xs ((nI i + 1).toNatClampNeg)), .int (xs ((nI i + 2).toNatClampNeg))]) (rest := [.int r1]) (pc := 433) hx hcb hml hown hts hSM hWM (c_X11_goal l XM τ (xs ((nI i + 1).toNatClampNeg)) (xs ((nI i + 2).toNatClampNeg)) _ h1) mf_X11_goal e1038 kOM_0 rfl ⟨rfl, rfl⟩ ⟨(Nat.le_of_ble_eq_true rfl), (Nat.le_of_ble_eq_true rfl)⟩ rfl hl.1 rfl (Nat.le_of_ble_eq_true rfl) dL_law_433 ⟨(Nat.le_of_ble_eq_true rfl), (Nat.le_of_ble_eq_true rfl)⟩) hSM hWM (fun k j hk hj e => hap j k hj hk e.symm) hWC (fun r2 τ2 H locs h2 hWM hWC => ?_)
  obtain ⟨h2, hRel2⟩ := h2
  subst h2
  refine lv_icmp_eq (tgt := 765) (pc := 436) hx hcb dL_law_436 (by decide) (fun _ => ?_) (fun c1 => absurd rfl c1)
  exact kk _ _ _ _ hRel2 hWC hWM
set_option maxHeartbeats 4000000 in
set_option maxRecDepth 100000 in
theorem lk_11 {p : Program} {l : Launch} {e : Env} {s : State} {m : MethodId} {args : Array Value} {below : List Frame} {meth : Method} {c : Code} {H : Heap} {locs : List Loc} {Q : State → Prop} {ls : Array Slot} {XC XM : KX} {A : Nat → Prop} {σ τ : Mm} {b L i : Nat} {xs : Nat → Int32} (hx : p.tables.exec = Jvm.exec) (hcb : c.code = code) (hml : c.maxLocals = 4) (hown : s.vm.findClass RL = some m.cls) (hts : ∀ w ∈ kT, w.before args s = true) (hSC : kS kZC XC A s) (hSM : kS kZM XM A s) (hap : ∀ k j, k < kZC.1 → j < kZM.1 → XC.2.1 k ≠ XM.2.1 j) (hWC : kW kZC XC A s σ H locs) (hWM : kW kZM XM A s τ H locs) (hRel : Rel σ τ) (hX : va_X b L xs s s.heap) (hbl : b < s.heap.size) (hbA : ¬ A b) (hi : i + 5 ≤ L) (hL : L ≤ 320) (hl : lv_has ls 4 [(3, .int (nI i)), (2, .ref (XM.2.1 0)), (1, .ref (XC.2.1 0)), (0, .ref b)]) (kk : ∀ (σ τ : Mm) (H : Heap) (locs : List Loc), Rel σ τ → kW kZC XC A s σ H locs → kW kZM XM A s τ H locs → W p l e room_1 s m args below meth c H locs 58 11720 Q (F0 m 765 ls [])) : W p l e room_1 s m args below meth c H locs 58 11720 Q (F0 m 441 ls []) := by
  refine lv_aload_n (pc := 441) hx hcb dL_law_441 rfl (lv_at hl 2 rfl) ?_
  have h0 := op_noGoals hRel 
  refine lci (Z := kZC) (X := XC) (X' := XM) (krunV (As := []) (rest := []) (pc := 442) hx hcb hml hown hts hSC hWC (c_X10_noGoals l XC σ  _ h0) mf_X10_noGoals e588 kOC_0 rfl ⟨rfl, rfl⟩ ⟨(Nat.le_of_ble_eq_true rfl), (Nat.le_of_ble_eq_true rfl)⟩ rfl hl.1 rfl (Nat.le_of_ble_eq_true rfl) dL_law_442 ⟨(Nat.le_of_ble_eq_true rfl), (Nat.le_of_ble_eq_true rfl)⟩) hSC hWC hap hWM (fun r1 σ2 H locs h1 hWC hWM => ?_)
  refine lv_aload_n (pc := 445) hx hcb dL_law_445 rfl (lv_at hl 1 rfl) ?_
  refine lci (Z := kZM) (X := XM) (X' := XC) (krunV (As := []) (rest := [.int r1]) (pc := 446) hx hcb hml hown hts hSM hWM (c_X11_noGoals l XM τ  _ h1) mf_X11_noGoals e1042 kOM_0 rfl ⟨rfl, rfl⟩ ⟨(Nat.le_of_ble_eq_true rfl), (Nat.le_of_ble_eq_true rfl)⟩ rfl hl.1 rfl (Nat.le_of_ble_eq_true rfl) dL_law_446 ⟨(Nat.le_of_ble_eq_true rfl), (Nat.le_of_ble_eq_true rfl)⟩) hSM hWM (fun k j hk hj e => hap j k hj hk e.symm) hWC (fun r2 τ2 H locs h2 hWM hWC => ?_)
  obtain ⟨h2, hRel2⟩ := h2
  subst h2
  refine lv_icmp_eq (tgt := 765) (pc := 449) hx hcb dL_law_449 (by decide) (fun _ => ?_) (fun c1 => absurd rfl c1)
  exact kk _ _ _ _ hRel2 hWC hWM
set_option maxHeartbeats 4000000 in
set_option maxRecDepth 100000 in
theorem lk_12 {p : Program} {l : Launch} {e : Env} {s : State} {m : MethodId} {args : Array Value} {below : List Frame} {meth : Method} {c : Code} {H : Heap} {locs : List Loc} {Q : State → Prop} {ls : Array Slot} {XC XM : KX} {A : Nat → Prop} {σ τ : Mm} {b L i : Nat} {xs : Nat → Int32} (hx : p.tables.exec = Jvm.exec) (hcb : c.code = code) (hml : c.maxLocals = 4) (hown : s.vm.findClass RL = some m.cls) (hts : ∀ w ∈ kT, w.before args s = true) (hSC : kS kZC XC A s) (hSM : kS kZM XM A s) (hap : ∀ k j, k < kZC.1 → j < kZM.1 → XC.2.1 k ≠ XM.2.1 j) (hWC : kW kZC XC A s σ H locs) (hWM : kW kZM XM A s τ H locs) (hRel : Rel σ τ) (hX : va_X b L xs s s.heap) (hbl : b < s.heap.size) (hbA : ¬ A b) (hi : i + 5 ≤ L) (hL : L ≤ 320) (hl : lv_has ls 4 [(3, .int (nI i)), (2, .ref (XM.2.1 0)), (1, .ref (XC.2.1 0)), (0, .ref b)]) (kk : ∀ (σ τ : Mm) (H : Heap) (locs : List Loc), Rel σ τ → kW kZC XC A s σ H locs → kW kZM XM A s τ H locs → W p l e room_1 s m args below meth c H locs 58 11720 Q (F0 m 765 ls [])) : W p l e room_1 s m args below meth c H locs 58 11720 Q (F0 m 454 ls []) := by
  refine lv_aload_n (pc := 454) hx hcb dL_law_454 rfl (lv_at hl 2 rfl) ?_
  have h0 := op_price hRel 
  refine lci (Z := kZC) (X := XC) (X' := XM) (krunV (As := []) (rest := []) (pc := 455) hx hcb hml hown hts hSC hWC (c_X10_price l XC σ  _ h0) mf_X10_price e592 kOC_0 rfl ⟨rfl, rfl⟩ ⟨(Nat.le_of_ble_eq_true rfl), (Nat.le_of_ble_eq_true rfl)⟩ rfl hl.1 rfl (Nat.le_of_ble_eq_true rfl) dL_law_455 ⟨(Nat.le_of_ble_eq_true rfl), (Nat.le_of_ble_eq_true rfl)⟩) hSC hWC hap hWM (fun r1 σ2 H locs h1 hWC hWM => ?_)
  refine lv_aload_n (pc := 458) hx hcb dL_law_458 rfl (lv_at hl 1 rfl) ?_
  refine lci (Z := kZM) (X := XM) (X' := XC) (krunV (As := []) (rest := [.int r1]) (pc := 459) hx hcb hml hown hts hSM hWM (c_X11_price l XM τ  _ h1) mf_X11_price e1046 kOM_0 rfl ⟨rfl, rfl⟩ ⟨(Nat.le_of_ble_eq_true rfl), (Nat.le_of_ble_eq_true rfl)⟩ rfl hl.1 rfl (Nat.le_of_ble_eq_true rfl) dL_law_459 ⟨(Nat.le_of_ble_eq_true rfl), (Nat.le_of_ble_eq_true rfl)⟩) hSM hWM (fun k j hk hj e => hap j k hj hk e.symm) hWC (fun r2 τ2 H locs h2 hWM hWC => ?_)
  obtain ⟨h2, hRel2⟩ := h2
  subst h2
  refine lv_icmp_eq (tgt := 765) (pc := 462) hx hcb dL_law_462 (by decide) (fun _ => ?_) (fun c1 => absurd rfl c1)
  exact kk _ _ _ _ hRel2 hWC hWM
set_option maxHeartbeats 4000000 in
set_option maxRecDepth 100000 in
theorem lk_13 {p : Program} {l : Launch} {e : Env} {s : State} {m : MethodId} {args : Array Value} {below : List Frame} {meth : Method} {c : Code} {H : Heap} {locs : List Loc} {Q : State → Prop} {ls : Array Slot} {XC XM : KX} {A : Nat → Prop} {σ τ : Mm} {b L i : Nat} {xs : Nat → Int32} (hx : p.tables.exec = Jvm.exec) (hcb : c.code = code) (hml : c.maxLocals = 4) (hown : s.vm.findClass RL = some m.cls) (hts : ∀ w ∈ kT, w.before args s = true) (hSC : kS kZC XC A s) (hSM : kS kZM XM A s) (hap : ∀ k j, k < kZC.1 → j < kZM.1 → XC.2.1 k ≠ XM.2.1 j) (hWC : kW kZC XC A s σ H locs) (hWM : kW kZM XM A s τ H locs) (hRel : Rel σ τ) (hX : va_X b L xs s s.heap) (hbl : b < s.heap.size) (hbA : ¬ A b) (hi : i + 5 ≤ L) (hL : L ≤ 320) (hl : lv_has ls 4 [(3, .int (nI i)), (2, .ref (XM.2.1 0)), (1, .ref (XC.2.1 0)), (0, .ref b)]) (kk : ∀ (σ τ : Mm) (H : Heap) (locs : List Loc), Rel σ τ → kW kZC XC A s σ H locs → kW kZM XM A s τ H locs → W p l e room_1 s m args below meth c H locs 58 11720 Q (F0 m 765 ls [])) : W p l e room_1 s m args below meth c H locs 58 11720 Q (F0 m 467 ls []) := by
  refine lv_aload_n (pc := 467) hx hcb dL_law_467 rfl (lv_at hl 2 rfl) ?_
  have h0 := op_first hRel 
  refine lci (Z := kZC) (X := XC) (X' := XM) (krunV (As := []) (rest := []) (pc := 468) hx hcb hml hown hts hSC hWC (c_X10_first l XC σ  _ h0) mf_X10_first e696 kOC_0 rfl ⟨rfl, rfl⟩ ⟨(Nat.le_of_ble_eq_true rfl), (Nat.le_of_ble_eq_true rfl)⟩ rfl hl.1 rfl (Nat.le_of_ble_eq_true rfl) dL_law_468 ⟨(Nat.le_of_ble_eq_true rfl), (Nat.le_of_ble_eq_true rfl)⟩) hSC hWC hap hWM (fun r1 σ2 H locs h1 hWC hWM => ?_)
  refine lv_aload_n (pc := 471) hx hcb dL_law_471 rfl (lv_at hl 1 rfl) ?_
  refine lci (Z := kZM) (X := XM) (X' := XC) (krunV (As := []) (rest := [.int r1]) (pc := 472) hx hcb hml hown hts hSM hWM (c_X11_first l XM τ  _ h1) mf_X11_first e1078 kOM_0 rfl ⟨rfl, rfl⟩ ⟨(Nat.le_of_ble_eq_true rfl), (Nat.le_of_ble_eq_true rfl)⟩ rfl hl.1 rfl (Nat.le_of_ble_eq_true rfl) dL_law_472 ⟨(Nat.le_of_ble_eq_true rfl), (Nat.le_of_ble_eq_true rfl)⟩) hSM hWM (fun k j hk hj e => hap j k hj hk e.symm) hWC (fun r2 τ2 H locs h2 hWM hWC => ?_)
  obtain ⟨h2, hRel2⟩ := h2
  subst h2
  refine lv_icmp_eq (tgt := 765) (pc := 475) hx hcb dL_law_475 (by decide) (fun _ => ?_) (fun c1 => absurd rfl c1)
  exact kk _ _ _ _ hRel2 hWC hWM
set_option maxHeartbeats 4000000 in
set_option maxRecDepth 100000 in
theorem lk_14 {p : Program} {l : Launch} {e : Env} {s : State} {m : MethodId} {args : Array Value} {below : List Frame} {meth : Method} {c : Code} {H : Heap} {locs : List Loc} {Q : State → Prop} {ls : Array Slot} {XC XM : KX} {A : Nat → Prop} {σ τ : Mm} {b L i : Nat} {xs : Nat → Int32} (hx : p.tables.exec = Jvm.exec) (hcb : c.code = code) (hml : c.maxLocals = 4) (hown : s.vm.findClass RL = some m.cls) (hts : ∀ w ∈ kT, w.before args s = true) (hSC : kS kZC XC A s) (hSM : kS kZM XM A s) (hap : ∀ k j, k < kZC.1 → j < kZM.1 → XC.2.1 k ≠ XM.2.1 j) (hWC : kW kZC XC A s σ H locs) (hWM : kW kZM XM A s τ H locs) (hRel : Rel σ τ) (hX : va_X b L xs s s.heap) (hbl : b < s.heap.size) (hbA : ¬ A b) (hi : i + 5 ≤ L) (hL : L ≤ 320) (hl : lv_has ls 4 [(3, .int (nI i)), (2, .ref (XM.2.1 0)), (1, .ref (XC.2.1 0)), (0, .ref b)]) (kk : ∀ (σ τ : Mm) (H : Heap) (locs : List Loc), Rel σ τ → kW kZC XC A s σ H locs → kW kZM XM A s τ H locs → W p l e room_1 s m args below meth c H locs 58 11720 Q (F0 m 765 ls [])) : W p l e room_1 s m args below meth c H locs 58 11720 Q (F0 m 480 ls []) := by
  refine lv_aload_n (pc := 480) hx hcb dL_law_480 rfl (lv_at hl 2 rfl) ?_
  have h0 := op_bars hRel 
  refine lci (Z := kZC) (X := XC) (X' := XM) (krunV (As := []) (rest := []) (pc := 481) hx hcb hml hown hts hSC hWC (c_X10_bars l XC σ  _ h0) mf_X10_bars e704 kOC_0 rfl ⟨rfl, rfl⟩ ⟨(Nat.le_of_ble_eq_true rfl), (Nat.le_of_ble_eq_true rfl)⟩ rfl hl.1 rfl (Nat.le_of_ble_eq_true rfl) dL_law_481 ⟨(Nat.le_of_ble_eq_true rfl), (Nat.le_of_ble_eq_true rfl)⟩) hSC hWC hap hWM (fun r1 σ2 H locs h1 hWC hWM => ?_)
  refine lv_aload_n (pc := 484) hx hcb dL_law_484 rfl (lv_at hl 1 rfl) ?_
  refine lci (Z := kZM) (X := XM) (X' := XC) (krunV (As := []) (rest := [.int r1]) (pc := 485) hx hcb hml hown hts hSM hWM (c_X11_bars l XM τ  _ h1) mf_X11_bars e1082 kOM_0 rfl ⟨rfl, rfl⟩ ⟨(Nat.le_of_ble_eq_true rfl), (Nat.le_of_ble_eq_true rfl)⟩ rfl hl.1 rfl (Nat.le_of_ble_eq_true rfl) dL_law_485 ⟨(Nat.le_of_ble_eq_true rfl), (Nat.le_of_ble_eq_true rfl)⟩) hSM hWM (fun k j hk hj e => hap j k hj hk e.symm) hWC (fun r2 τ2 H locs h2 hWM hWC => ?_)
  obtain ⟨h2, hRel2⟩ := h2
  subst h2
  refine lv_icmp_eq (tgt := 765) (pc := 488) hx hcb dL_law_488 (by decide) (fun _ => ?_) (fun c1 => absurd rfl c1)
  exact kk _ _ _ _ hRel2 hWC hWM
set_option maxHeartbeats 4000000 in
set_option maxRecDepth 100000 in
theorem lk_15 {p : Program} {l : Launch} {e : Env} {s : State} {m : MethodId} {args : Array Value} {below : List Frame} {meth : Method} {c : Code} {H : Heap} {locs : List Loc} {Q : State → Prop} {ls : Array Slot} {XC XM : KX} {A : Nat → Prop} {σ τ : Mm} {b L i : Nat} {xs : Nat → Int32} (hx : p.tables.exec = Jvm.exec) (hcb : c.code = code) (hml : c.maxLocals = 4) (hown : s.vm.findClass RL = some m.cls) (hts : ∀ w ∈ kT, w.before args s = true) (hSC : kS kZC XC A s) (hSM : kS kZM XM A s) (hap : ∀ k j, k < kZC.1 → j < kZM.1 → XC.2.1 k ≠ XM.2.1 j) (hWC : kW kZC XC A s σ H locs) (hWM : kW kZM XM A s τ H locs) (hRel : Rel σ τ) (hX : va_X b L xs s s.heap) (hbl : b < s.heap.size) (hbA : ¬ A b) (hi : i + 5 ≤ L) (hL : L ≤ 320) (hl : lv_has ls 4 [(3, .int (nI i)), (2, .ref (XM.2.1 0)), (1, .ref (XC.2.1 0)), (0, .ref b)]) (kk : ∀ (σ τ : Mm) (H : Heap) (locs : List Loc), Rel σ τ → kW kZC XC A s σ H locs → kW kZM XM A s τ H locs → W p l e room_1 s m args below meth c H locs 58 11720 Q (F0 m 765 ls [])) : W p l e room_1 s m args below meth c H locs 58 11720 Q (F0 m 493 ls []) := by
  refine lv_aload_n (pc := 493) hx hcb dL_law_493 rfl (lv_at hl 2 rfl) ?_
  refine lv_aload_n (pc := 494) hx hcb dL_law_494 rfl (lv_at hl 3 rfl) ?_
  refine lv_iload_n (pc := 495) hx hcb dL_law_495 rfl (lv_at hl 0 rfl) ?_
  refine lv_iconst (v := 1) (pc := 496) hx hcb dL_law_496 rfl ?_
  refine lv_iadd (pc := 497) hx hcb dL_law_497 ?_
  refine va_sld (pc := 498) hx hcb hX hbl hbA hWC.2.1 (lin 1 hi hL (by omega)) dL_law_498 ?_
  refine lv_aload_n (pc := 499) hx hcb dL_law_499 rfl (lv_at hl 3 rfl) ?_
  refine lv_iload_n (pc := 500) hx hcb dL_law_500 rfl (lv_at hl 0 rfl) ?_
  refine lv_iconst (v := 2) (pc := 501) hx hcb dL_law_501 rfl ?_
  refine lv_iadd (pc := 502) hx hcb dL_law_502 ?_
  refine va_sld (pc := 503) hx hcb hX hbl hbA hWC.2.1 (lin 2 hi hL (by omega)) dL_law_503 ?_
  refine lv_aload_n (pc := 504) hx hcb dL_law_504 rfl (lv_at hl 3 rfl) ?_
  refine lv_iload_n (pc := 505) hx hcb dL_law_505 rfl (lv_at hl 0 rfl) ?_
  refine lv_iconst (v := 3) (pc := 506) hx hcb dL_law_506 rfl ?_
  refine lv_iadd (pc := 507) hx hcb dL_law_507 ?_
  refine va_sld (pc := 508) hx hcb hX hbl hbA hWC.2.1 (lin 3 hi hL (by omega)) dL_law_508 ?_
  refine lv_aload_n (pc := 509) hx hcb dL_law_509 rfl (lv_at hl 3 rfl) ?_
  refine lv_iload_n (pc := 510) hx hcb dL_law_510 rfl (lv_at hl 0 rfl) ?_
  refine lv_iconst (v := 4) (pc := 511) hx hcb dL_law_511 rfl ?_
  refine lv_iadd (pc := 512) hx hcb dL_law_512 ?_
  refine va_sld (pc := 513) hx hcb hX hbl hbA hWC.2.1 (lin 4 hi hL (by omega)) dL_law_513 ?_
  have h0 := op_game hRel (xs ((nI i + 1).toNatClampNeg)) (xs ((nI i + 2).toNatClampNeg)) (xs ((nI i + 3).toNatClampNeg)) (xs ((nI i + 4).toNatClampNeg))
  refine lci (Z := kZC) (X := XC) (X' := XM) (krunV (As := [.int (xs ((nI i + 1).toNatClampNeg)), .int (xs ((nI i + 2).toNatClampNeg)), .int (xs ((nI i + 3).toNatClampNeg)), .int (xs ((nI i + 4).toNatClampNeg))]) (rest := []) (pc := 514) hx hcb hml hown hts hSC hWC (c_X10_game l XC σ (xs ((nI i + 1).toNatClampNeg)) (xs ((nI i + 2).toNatClampNeg)) (xs ((nI i + 3).toNatClampNeg)) (xs ((nI i + 4).toNatClampNeg)) _ h0) mf_X10_game e708 kOC_0 rfl ⟨rfl, rfl⟩ ⟨(Nat.le_of_ble_eq_true rfl), (Nat.le_of_ble_eq_true rfl)⟩ rfl hl.1 rfl (Nat.le_of_ble_eq_true rfl) dL_law_514 ⟨(Nat.le_of_ble_eq_true rfl), (Nat.le_of_ble_eq_true rfl)⟩) hSC hWC hap hWM (fun r1 σ2 H locs h1 hWC hWM => ?_)
  refine lv_aload_n (pc := 517) hx hcb dL_law_517 rfl (lv_at hl 1 rfl) ?_
  refine lv_aload_n (pc := 518) hx hcb dL_law_518 rfl (lv_at hl 3 rfl) ?_
  refine lv_iload_n (pc := 519) hx hcb dL_law_519 rfl (lv_at hl 0 rfl) ?_
  refine lv_iconst (v := 1) (pc := 520) hx hcb dL_law_520 rfl ?_
  refine lv_iadd (pc := 521) hx hcb dL_law_521 ?_
  refine va_sld (pc := 522) hx hcb hX hbl hbA hWC.2.1 (lin 1 hi hL (by omega)) dL_law_522 ?_
  refine lv_aload_n (pc := 523) hx hcb dL_law_523 rfl (lv_at hl 3 rfl) ?_
  refine lv_iload_n (pc := 524) hx hcb dL_law_524 rfl (lv_at hl 0 rfl) ?_
  refine lv_iconst (v := 2) (pc := 525) hx hcb dL_law_525 rfl ?_
  refine lv_iadd (pc := 526) hx hcb dL_law_526 ?_
  refine va_sld (pc := 527) hx hcb hX hbl hbA hWC.2.1 (lin 2 hi hL (by omega)) dL_law_527 ?_
  refine lv_aload_n (pc := 528) hx hcb dL_law_528 rfl (lv_at hl 3 rfl) ?_
  refine lv_iload_n (pc := 529) hx hcb dL_law_529 rfl (lv_at hl 0 rfl) ?_
  refine lv_iconst (v := 3) (pc := 530) hx hcb dL_law_530 rfl ?_
  refine lv_iadd (pc := 531) hx hcb dL_law_531 ?_
  refine va_sld (pc := 532) hx hcb hX hbl hbA hWC.2.1 (lin 3 hi hL (by omega)) dL_law_532 ?_
  refine lv_aload_n (pc := 533) hx hcb dL_law_533 rfl (lv_at hl 3 rfl) ?_
  refine lv_iload_n (pc := 534) hx hcb dL_law_534 rfl (lv_at hl 0 rfl) ?_
  refine lv_iconst (v := 4) (pc := 535) hx hcb dL_law_535 rfl ?_
  refine lv_iadd (pc := 536) hx hcb dL_law_536 ?_
  refine va_sld (pc := 537) hx hcb hX hbl hbA hWC.2.1 (lin 4 hi hL (by omega)) dL_law_537 ?_
  refine lci (Z := kZM) (X := XM) (X' := XC) (krunV (As := [.int (xs ((nI i + 1).toNatClampNeg)), .int (xs ((nI i + 2).toNatClampNeg)), .int (xs ((nI i + 3).toNatClampNeg)), .int (xs ((nI i + 4).toNatClampNeg))]) (rest := [.int r1]) (pc := 538) hx hcb hml hown hts hSM hWM (c_X11_game l XM τ (xs ((nI i + 1).toNatClampNeg)) (xs ((nI i + 2).toNatClampNeg)) (xs ((nI i + 3).toNatClampNeg)) (xs ((nI i + 4).toNatClampNeg)) _ h1) mf_X11_game e1086 kOM_0 rfl ⟨rfl, rfl⟩ ⟨(Nat.le_of_ble_eq_true rfl), (Nat.le_of_ble_eq_true rfl)⟩ rfl hl.1 rfl (Nat.le_of_ble_eq_true rfl) dL_law_538 ⟨(Nat.le_of_ble_eq_true rfl), (Nat.le_of_ble_eq_true rfl)⟩) hSM hWM (fun k j hk hj e => hap j k hj hk e.symm) hWC (fun r2 τ2 H locs h2 hWM hWC => ?_)
  obtain ⟨h2, hRel2⟩ := h2
  subst h2
  refine lv_icmp_eq (tgt := 765) (pc := 541) hx hcb dL_law_541 (by decide) (fun _ => ?_) (fun c1 => absurd rfl c1)
  exact kk _ _ _ _ hRel2 hWC hWM
set_option maxHeartbeats 4000000 in
set_option maxRecDepth 100000 in
theorem lk_16 {p : Program} {l : Launch} {e : Env} {s : State} {m : MethodId} {args : Array Value} {below : List Frame} {meth : Method} {c : Code} {H : Heap} {locs : List Loc} {Q : State → Prop} {ls : Array Slot} {XC XM : KX} {A : Nat → Prop} {σ τ : Mm} {b L i : Nat} {xs : Nat → Int32} (hx : p.tables.exec = Jvm.exec) (hcb : c.code = code) (hml : c.maxLocals = 4) (hown : s.vm.findClass RL = some m.cls) (hts : ∀ w ∈ kT, w.before args s = true) (hSC : kS kZC XC A s) (hSM : kS kZM XM A s) (hap : ∀ k j, k < kZC.1 → j < kZM.1 → XC.2.1 k ≠ XM.2.1 j) (hWC : kW kZC XC A s σ H locs) (hWM : kW kZM XM A s τ H locs) (hRel : Rel σ τ) (hX : va_X b L xs s s.heap) (hbl : b < s.heap.size) (hbA : ¬ A b) (hi : i + 5 ≤ L) (hL : L ≤ 320) (hl : lv_has ls 4 [(3, .int (nI i)), (2, .ref (XM.2.1 0)), (1, .ref (XC.2.1 0)), (0, .ref b)]) (kk : ∀ (σ τ : Mm) (H : Heap) (locs : List Loc), Rel σ τ → kW kZC XC A s σ H locs → kW kZM XM A s τ H locs → W p l e room_1 s m args below meth c H locs 58 11720 Q (F0 m 765 ls [])) : W p l e room_1 s m args below meth c H locs 58 11720 Q (F0 m 546 ls []) := by
  refine lv_aload_n (pc := 546) hx hcb dL_law_546 rfl (lv_at hl 2 rfl) ?_
  refine lv_aload_n (pc := 547) hx hcb dL_law_547 rfl (lv_at hl 3 rfl) ?_
  refine lv_iload_n (pc := 548) hx hcb dL_law_548 rfl (lv_at hl 0 rfl) ?_
  refine lv_iconst (v := 1) (pc := 549) hx hcb dL_law_549 rfl ?_
  refine lv_iadd (pc := 550) hx hcb dL_law_550 ?_
  refine va_sld (pc := 551) hx hcb hX hbl hbA hWC.2.1 (lin 1 hi hL (by omega)) dL_law_551 ?_
  refine lv_aload_n (pc := 552) hx hcb dL_law_552 rfl (lv_at hl 3 rfl) ?_
  refine lv_iload_n (pc := 553) hx hcb dL_law_553 rfl (lv_at hl 0 rfl) ?_
  refine lv_iconst (v := 2) (pc := 554) hx hcb dL_law_554 rfl ?_
  refine lv_iadd (pc := 555) hx hcb dL_law_555 ?_
  refine va_sld (pc := 556) hx hcb hX hbl hbA hWC.2.1 (lin 2 hi hL (by omega)) dL_law_556 ?_
  have h0 := op_seen hRel (xs ((nI i + 1).toNatClampNeg)) (xs ((nI i + 2).toNatClampNeg))
  refine lci (Z := kZC) (X := XC) (X' := XM) (krunV (As := [.int (xs ((nI i + 1).toNatClampNeg)), .int (xs ((nI i + 2).toNatClampNeg))]) (rest := []) (pc := 557) hx hcb hml hown hts hSC hWC (c_X10_seen l XC σ (xs ((nI i + 1).toNatClampNeg)) (xs ((nI i + 2).toNatClampNeg)) _ h0) mf_X10_seen e774 kOC_0 rfl ⟨rfl, rfl⟩ ⟨(Nat.le_of_ble_eq_true rfl), (Nat.le_of_ble_eq_true rfl)⟩ rfl hl.1 rfl (Nat.le_of_ble_eq_true rfl) dL_law_557 ⟨(Nat.le_of_ble_eq_true rfl), (Nat.le_of_ble_eq_true rfl)⟩) hSC hWC hap hWM (fun r1 σ2 H locs h1 hWC hWM => ?_)
  refine lv_aload_n (pc := 560) hx hcb dL_law_560 rfl (lv_at hl 1 rfl) ?_
  refine lv_aload_n (pc := 561) hx hcb dL_law_561 rfl (lv_at hl 3 rfl) ?_
  refine lv_iload_n (pc := 562) hx hcb dL_law_562 rfl (lv_at hl 0 rfl) ?_
  refine lv_iconst (v := 1) (pc := 563) hx hcb dL_law_563 rfl ?_
  refine lv_iadd (pc := 564) hx hcb dL_law_564 ?_
  refine va_sld (pc := 565) hx hcb hX hbl hbA hWC.2.1 (lin 1 hi hL (by omega)) dL_law_565 ?_
  refine lv_aload_n (pc := 566) hx hcb dL_law_566 rfl (lv_at hl 3 rfl) ?_
  refine lv_iload_n (pc := 567) hx hcb dL_law_567 rfl (lv_at hl 0 rfl) ?_
  refine lv_iconst (v := 2) (pc := 568) hx hcb dL_law_568 rfl ?_
  refine lv_iadd (pc := 569) hx hcb dL_law_569 ?_
  refine va_sld (pc := 570) hx hcb hX hbl hbA hWC.2.1 (lin 2 hi hL (by omega)) dL_law_570 ?_
  refine lci (Z := kZM) (X := XM) (X' := XC) (krunV (As := [.int (xs ((nI i + 1).toNatClampNeg)), .int (xs ((nI i + 2).toNatClampNeg))]) (rest := [.int r1]) (pc := 571) hx hcb hml hown hts hSM hWM (c_X11_seen l XM τ (xs ((nI i + 1).toNatClampNeg)) (xs ((nI i + 2).toNatClampNeg)) _ h1) mf_X11_seen e1098 kOM_0 rfl ⟨rfl, rfl⟩ ⟨(Nat.le_of_ble_eq_true rfl), (Nat.le_of_ble_eq_true rfl)⟩ rfl hl.1 rfl (Nat.le_of_ble_eq_true rfl) dL_law_571 ⟨(Nat.le_of_ble_eq_true rfl), (Nat.le_of_ble_eq_true rfl)⟩) hSM hWM (fun k j hk hj e => hap j k hj hk e.symm) hWC (fun r2 τ2 H locs h2 hWM hWC => ?_)
  obtain ⟨h2, hRel2⟩ := h2
  subst h2
  refine lv_icmp_eq (tgt := 765) (pc := 574) hx hcb dL_law_574 (by decide) (fun _ => ?_) (fun c1 => absurd rfl c1)
  exact kk _ _ _ _ hRel2 hWC hWM
set_option maxHeartbeats 4000000 in
set_option maxRecDepth 100000 in
theorem lk_17 {p : Program} {l : Launch} {e : Env} {s : State} {m : MethodId} {args : Array Value} {below : List Frame} {meth : Method} {c : Code} {H : Heap} {locs : List Loc} {Q : State → Prop} {ls : Array Slot} {XC XM : KX} {A : Nat → Prop} {σ τ : Mm} {b L i : Nat} {xs : Nat → Int32} (hx : p.tables.exec = Jvm.exec) (hcb : c.code = code) (hml : c.maxLocals = 4) (hown : s.vm.findClass RL = some m.cls) (hts : ∀ w ∈ kT, w.before args s = true) (hSC : kS kZC XC A s) (hSM : kS kZM XM A s) (hap : ∀ k j, k < kZC.1 → j < kZM.1 → XC.2.1 k ≠ XM.2.1 j) (hWC : kW kZC XC A s σ H locs) (hWM : kW kZM XM A s τ H locs) (hRel : Rel σ τ) (hX : va_X b L xs s s.heap) (hbl : b < s.heap.size) (hbA : ¬ A b) (hi : i + 5 ≤ L) (hL : L ≤ 320) (hl : lv_has ls 4 [(3, .int (nI i)), (2, .ref (XM.2.1 0)), (1, .ref (XC.2.1 0)), (0, .ref b)]) (kk : ∀ (σ τ : Mm) (H : Heap) (locs : List Loc), Rel σ τ → kW kZC XC A s σ H locs → kW kZM XM A s τ H locs → W p l e room_1 s m args below meth c H locs 58 11720 Q (F0 m 765 ls [])) : W p l e room_1 s m args below meth c H locs 58 11720 Q (F0 m 579 ls []) := by
  refine lv_aload_n (pc := 579) hx hcb dL_law_579 rfl (lv_at hl 2 rfl) ?_
  have h0 := op_forget hRel 
  refine lci (Z := kZC) (X := XC) (X' := XM) (krunV (As := []) (rest := []) (pc := 580) hx hcb hml hown hts hSC hWC (c_X10_forget l XC σ  _ h0) mf_X10_forget e778 kOC_0 rfl ⟨rfl, rfl⟩ ⟨(Nat.le_of_ble_eq_true rfl), (Nat.le_of_ble_eq_true rfl)⟩ rfl hl.1 rfl (Nat.le_of_ble_eq_true rfl) dL_law_580 ⟨(Nat.le_of_ble_eq_true rfl), (Nat.le_of_ble_eq_true rfl)⟩) hSC hWC hap hWM (fun r1 σ2 H locs h1 hWC hWM => ?_)
  refine lv_aload_n (pc := 583) hx hcb dL_law_583 rfl (lv_at hl 1 rfl) ?_
  refine lci (Z := kZM) (X := XM) (X' := XC) (krunV (As := []) (rest := [.int r1]) (pc := 584) hx hcb hml hown hts hSM hWM (c_X11_forget l XM τ  _ h1) mf_X11_forget e1102 kOM_0 rfl ⟨rfl, rfl⟩ ⟨(Nat.le_of_ble_eq_true rfl), (Nat.le_of_ble_eq_true rfl)⟩ rfl hl.1 rfl (Nat.le_of_ble_eq_true rfl) dL_law_584 ⟨(Nat.le_of_ble_eq_true rfl), (Nat.le_of_ble_eq_true rfl)⟩) hSM hWM (fun k j hk hj e => hap j k hj hk e.symm) hWC (fun r2 τ2 H locs h2 hWM hWC => ?_)
  obtain ⟨h2, hRel2⟩ := h2
  subst h2
  refine lv_icmp_eq (tgt := 765) (pc := 587) hx hcb dL_law_587 (by decide) (fun _ => ?_) (fun c1 => absurd rfl c1)
  exact kk _ _ _ _ hRel2 hWC hWM
set_option maxHeartbeats 4000000 in
set_option maxRecDepth 100000 in
theorem lk_18 {p : Program} {l : Launch} {e : Env} {s : State} {m : MethodId} {args : Array Value} {below : List Frame} {meth : Method} {c : Code} {H : Heap} {locs : List Loc} {Q : State → Prop} {ls : Array Slot} {XC XM : KX} {A : Nat → Prop} {σ τ : Mm} {b L i : Nat} {xs : Nat → Int32} (hx : p.tables.exec = Jvm.exec) (hcb : c.code = code) (hml : c.maxLocals = 4) (hown : s.vm.findClass RL = some m.cls) (hts : ∀ w ∈ kT, w.before args s = true) (hSC : kS kZC XC A s) (hSM : kS kZM XM A s) (hap : ∀ k j, k < kZC.1 → j < kZM.1 → XC.2.1 k ≠ XM.2.1 j) (hWC : kW kZC XC A s σ H locs) (hWM : kW kZM XM A s τ H locs) (hRel : Rel σ τ) (hX : va_X b L xs s s.heap) (hbl : b < s.heap.size) (hbA : ¬ A b) (hi : i + 5 ≤ L) (hL : L ≤ 320) (hl : lv_has ls 4 [(3, .int (nI i)), (2, .ref (XM.2.1 0)), (1, .ref (XC.2.1 0)), (0, .ref b)]) (kk : ∀ (σ τ : Mm) (H : Heap) (locs : List Loc), Rel σ τ → kW kZC XC A s σ H locs → kW kZM XM A s τ H locs → W p l e room_1 s m args below meth c H locs 58 11720 Q (F0 m 765 ls [])) : W p l e room_1 s m args below meth c H locs 58 11720 Q (F0 m 592 ls []) := by
  refine lv_aload_n (pc := 592) hx hcb dL_law_592 rfl (lv_at hl 2 rfl) ?_
  have h0 := op_how hRel 
  refine lcl (Z := kZC) (X := XC) (X' := XM) (krunV (As := []) (rest := []) (pc := 593) hx hcb hml hown hts hSC hWC (c_X10_how l XC σ  _ h0) mf_X10_how e782 kOC_0 rfl ⟨rfl, rfl⟩ ⟨(Nat.le_of_ble_eq_true rfl), (Nat.le_of_ble_eq_true rfl)⟩ rfl hl.1 rfl (Nat.le_of_ble_eq_true rfl) dL_law_593 ⟨(Nat.le_of_ble_eq_true rfl), (Nat.le_of_ble_eq_true rfl)⟩) hSC hWC hap hWM (fun r1 σ2 H locs h1 hWC hWM => ?_)
  refine lv_aload_n (pc := 596) hx hcb dL_law_596 rfl (lv_at hl 1 rfl) ?_
  refine lcl (Z := kZM) (X := XM) (X' := XC) (krunV (As := []) (rest := [.long r1]) (pc := 597) hx hcb hml hown hts hSM hWM (c_X11_how l XM τ  _ h1) mf_X11_how e1106 kOM_0 rfl ⟨rfl, rfl⟩ ⟨(Nat.le_of_ble_eq_true rfl), (Nat.le_of_ble_eq_true rfl)⟩ rfl hl.1 rfl (Nat.le_of_ble_eq_true rfl) dL_law_597 ⟨(Nat.le_of_ble_eq_true rfl), (Nat.le_of_ble_eq_true rfl)⟩) hSM hWM (fun k j hk hj e => hap j k hj hk e.symm) hWC (fun r2 τ2 H locs h2 hWM hWC => ?_)
  obtain ⟨h2, hRel2⟩ := h2
  subst h2
  refine W.lcmp (pc := 600) hx hcb dL_law_600 ?_
  refine lv_if_eq (tgt := 765) (pc := 601) hx hcb dL_law_601 (by decide) (fun _ => ?_) (fun c1 => absurd (lcmp_rfl _) c1)
  exact kk _ _ _ _ hRel2 hWC hWM
set_option maxHeartbeats 4000000 in
set_option maxRecDepth 100000 in
theorem lk_19 {p : Program} {l : Launch} {e : Env} {s : State} {m : MethodId} {args : Array Value} {below : List Frame} {meth : Method} {c : Code} {H : Heap} {locs : List Loc} {Q : State → Prop} {ls : Array Slot} {XC XM : KX} {A : Nat → Prop} {σ τ : Mm} {b L i : Nat} {xs : Nat → Int32} (hx : p.tables.exec = Jvm.exec) (hcb : c.code = code) (hml : c.maxLocals = 4) (hown : s.vm.findClass RL = some m.cls) (hts : ∀ w ∈ kT, w.before args s = true) (hSC : kS kZC XC A s) (hSM : kS kZM XM A s) (hap : ∀ k j, k < kZC.1 → j < kZM.1 → XC.2.1 k ≠ XM.2.1 j) (hWC : kW kZC XC A s σ H locs) (hWM : kW kZM XM A s τ H locs) (hRel : Rel σ τ) (hX : va_X b L xs s s.heap) (hbl : b < s.heap.size) (hbA : ¬ A b) (hi : i + 5 ≤ L) (hL : L ≤ 320) (hl : lv_has ls 4 [(3, .int (nI i)), (2, .ref (XM.2.1 0)), (1, .ref (XC.2.1 0)), (0, .ref b)]) (kk : ∀ (σ τ : Mm) (H : Heap) (locs : List Loc), Rel σ τ → kW kZC XC A s σ H locs → kW kZM XM A s τ H locs → W p l e room_1 s m args below meth c H locs 58 11720 Q (F0 m 765 ls [])) : W p l e room_1 s m args below meth c H locs 58 11720 Q (F0 m 606 ls []) := by
  refine lv_aload_n (pc := 606) hx hcb dL_law_606 rfl (lv_at hl 2 rfl) ?_
  refine lv_aload_n (pc := 607) hx hcb dL_law_607 rfl (lv_at hl 3 rfl) ?_
  refine lv_iload_n (pc := 608) hx hcb dL_law_608 rfl (lv_at hl 0 rfl) ?_
  refine lv_iconst (v := 1) (pc := 609) hx hcb dL_law_609 rfl ?_
  refine lv_iadd (pc := 610) hx hcb dL_law_610 ?_
  refine va_sld (pc := 611) hx hcb hX hbl hbA hWC.2.1 (lin 1 hi hL (by omega)) dL_law_611 ?_
  have h0 := op_sure hRel (xs ((nI i + 1).toNatClampNeg))
  refine lci (Z := kZC) (X := XC) (X' := XM) (krunV (As := [.int (xs ((nI i + 1).toNatClampNeg))]) (rest := []) (pc := 612) hx hcb hml hown hts hSC hWC (c_X10_sure l XC σ (xs ((nI i + 1).toNatClampNeg)) _ h0) mf_X10_sure e795 kOC_0 rfl ⟨rfl, rfl⟩ ⟨(Nat.le_of_ble_eq_true rfl), (Nat.le_of_ble_eq_true rfl)⟩ rfl hl.1 rfl (Nat.le_of_ble_eq_true rfl) dL_law_612 ⟨(Nat.le_of_ble_eq_true rfl), (Nat.le_of_ble_eq_true rfl)⟩) hSC hWC hap hWM (fun r1 σ2 H locs h1 hWC hWM => ?_)
  refine lv_aload_n (pc := 615) hx hcb dL_law_615 rfl (lv_at hl 1 rfl) ?_
  refine lv_aload_n (pc := 616) hx hcb dL_law_616 rfl (lv_at hl 3 rfl) ?_
  refine lv_iload_n (pc := 617) hx hcb dL_law_617 rfl (lv_at hl 0 rfl) ?_
  refine lv_iconst (v := 1) (pc := 618) hx hcb dL_law_618 rfl ?_
  refine lv_iadd (pc := 619) hx hcb dL_law_619 ?_
  refine va_sld (pc := 620) hx hcb hX hbl hbA hWC.2.1 (lin 1 hi hL (by omega)) dL_law_620 ?_
  refine lci (Z := kZM) (X := XM) (X' := XC) (krunV (As := [.int (xs ((nI i + 1).toNatClampNeg))]) (rest := [.int r1]) (pc := 621) hx hcb hml hown hts hSM hWM (c_X11_sure l XM τ (xs ((nI i + 1).toNatClampNeg)) _ h1) mf_X11_sure e1126 kOM_0 rfl ⟨rfl, rfl⟩ ⟨(Nat.le_of_ble_eq_true rfl), (Nat.le_of_ble_eq_true rfl)⟩ rfl hl.1 rfl (Nat.le_of_ble_eq_true rfl) dL_law_621 ⟨(Nat.le_of_ble_eq_true rfl), (Nat.le_of_ble_eq_true rfl)⟩) hSM hWM (fun k j hk hj e => hap j k hj hk e.symm) hWC (fun r2 τ2 H locs h2 hWM hWC => ?_)
  obtain ⟨h2, hRel2⟩ := h2
  subst h2
  refine lv_icmp_eq (tgt := 765) (pc := 624) hx hcb dL_law_624 (by decide) (fun _ => ?_) (fun c1 => absurd rfl c1)
  exact kk _ _ _ _ hRel2 hWC hWM
set_option maxHeartbeats 4000000 in
set_option maxRecDepth 100000 in
theorem lk_20 {p : Program} {l : Launch} {e : Env} {s : State} {m : MethodId} {args : Array Value} {below : List Frame} {meth : Method} {c : Code} {H : Heap} {locs : List Loc} {Q : State → Prop} {ls : Array Slot} {XC XM : KX} {A : Nat → Prop} {σ τ : Mm} {b L i : Nat} {xs : Nat → Int32} (hx : p.tables.exec = Jvm.exec) (hcb : c.code = code) (hml : c.maxLocals = 4) (hown : s.vm.findClass RL = some m.cls) (hts : ∀ w ∈ kT, w.before args s = true) (hSC : kS kZC XC A s) (hSM : kS kZM XM A s) (hap : ∀ k j, k < kZC.1 → j < kZM.1 → XC.2.1 k ≠ XM.2.1 j) (hWC : kW kZC XC A s σ H locs) (hWM : kW kZM XM A s τ H locs) (hRel : Rel σ τ) (hX : va_X b L xs s s.heap) (hbl : b < s.heap.size) (hbA : ¬ A b) (hi : i + 5 ≤ L) (hL : L ≤ 320) (hl : lv_has ls 4 [(3, .int (nI i)), (2, .ref (XM.2.1 0)), (1, .ref (XC.2.1 0)), (0, .ref b)]) (kk : ∀ (σ τ : Mm) (H : Heap) (locs : List Loc), Rel σ τ → kW kZC XC A s σ H locs → kW kZM XM A s τ H locs → W p l e room_1 s m args below meth c H locs 58 11720 Q (F0 m 765 ls [])) : W p l e room_1 s m args below meth c H locs 58 11720 Q (F0 m 629 ls []) := by
  refine lv_aload_n (pc := 629) hx hcb dL_law_629 rfl (lv_at hl 2 rfl) ?_
  refine lv_aload_n (pc := 630) hx hcb dL_law_630 rfl (lv_at hl 3 rfl) ?_
  refine lv_iload_n (pc := 631) hx hcb dL_law_631 rfl (lv_at hl 0 rfl) ?_
  refine lv_iconst (v := 1) (pc := 632) hx hcb dL_law_632 rfl ?_
  refine lv_iadd (pc := 633) hx hcb dL_law_633 ?_
  refine va_sld (pc := 634) hx hcb hX hbl hbA hWC.2.1 (lin 1 hi hL (by omega)) dL_law_634 ?_
  refine lv_aload_n (pc := 635) hx hcb dL_law_635 rfl (lv_at hl 3 rfl) ?_
  refine lv_iload_n (pc := 636) hx hcb dL_law_636 rfl (lv_at hl 0 rfl) ?_
  refine lv_iconst (v := 2) (pc := 637) hx hcb dL_law_637 rfl ?_
  refine lv_iadd (pc := 638) hx hcb dL_law_638 ?_
  refine va_sld (pc := 639) hx hcb hX hbl hbA hWC.2.1 (lin 2 hi hL (by omega)) dL_law_639 ?_
  refine lv_aload_n (pc := 640) hx hcb dL_law_640 rfl (lv_at hl 3 rfl) ?_
  refine lv_iload_n (pc := 641) hx hcb dL_law_641 rfl (lv_at hl 0 rfl) ?_
  refine lv_iconst (v := 3) (pc := 642) hx hcb dL_law_642 rfl ?_
  refine lv_iadd (pc := 643) hx hcb dL_law_643 ?_
  refine va_sld (pc := 644) hx hcb hX hbl hbA hWC.2.1 (lin 3 hi hL (by omega)) dL_law_644 ?_
  have h0 := op_chance hRel (xs ((nI i + 1).toNatClampNeg)) (xs ((nI i + 2).toNatClampNeg)) (xs ((nI i + 3).toNatClampNeg))
  refine lcl (Z := kZC) (X := XC) (X' := XM) (krunV (As := [.int (xs ((nI i + 1).toNatClampNeg)), .int (xs ((nI i + 2).toNatClampNeg)), .int (xs ((nI i + 3).toNatClampNeg))]) (rest := []) (pc := 645) hx hcb hml hown hts hSC hWC (c_X10_chance l XC σ (xs ((nI i + 1).toNatClampNeg)) (xs ((nI i + 2).toNatClampNeg)) (xs ((nI i + 3).toNatClampNeg)) _ h0) mf_X10_chance e799 kOC_0 rfl ⟨rfl, rfl⟩ ⟨(Nat.le_of_ble_eq_true rfl), (Nat.le_of_ble_eq_true rfl)⟩ rfl hl.1 rfl (Nat.le_of_ble_eq_true rfl) dL_law_645 ⟨(Nat.le_of_ble_eq_true rfl), (Nat.le_of_ble_eq_true rfl)⟩) hSC hWC hap hWM (fun r1 σ2 H locs h1 hWC hWM => ?_)
  refine lv_aload_n (pc := 648) hx hcb dL_law_648 rfl (lv_at hl 1 rfl) ?_
  refine lv_aload_n (pc := 649) hx hcb dL_law_649 rfl (lv_at hl 3 rfl) ?_
  refine lv_iload_n (pc := 650) hx hcb dL_law_650 rfl (lv_at hl 0 rfl) ?_
  refine lv_iconst (v := 1) (pc := 651) hx hcb dL_law_651 rfl ?_
  refine lv_iadd (pc := 652) hx hcb dL_law_652 ?_
  refine va_sld (pc := 653) hx hcb hX hbl hbA hWC.2.1 (lin 1 hi hL (by omega)) dL_law_653 ?_
  refine lv_aload_n (pc := 654) hx hcb dL_law_654 rfl (lv_at hl 3 rfl) ?_
  refine lv_iload_n (pc := 655) hx hcb dL_law_655 rfl (lv_at hl 0 rfl) ?_
  refine lv_iconst (v := 2) (pc := 656) hx hcb dL_law_656 rfl ?_
  refine lv_iadd (pc := 657) hx hcb dL_law_657 ?_
  refine va_sld (pc := 658) hx hcb hX hbl hbA hWC.2.1 (lin 2 hi hL (by omega)) dL_law_658 ?_
  refine lv_aload_n (pc := 659) hx hcb dL_law_659 rfl (lv_at hl 3 rfl) ?_
  refine lv_iload_n (pc := 660) hx hcb dL_law_660 rfl (lv_at hl 0 rfl) ?_
  refine lv_iconst (v := 3) (pc := 661) hx hcb dL_law_661 rfl ?_
  refine lv_iadd (pc := 662) hx hcb dL_law_662 ?_
  refine va_sld (pc := 663) hx hcb hX hbl hbA hWC.2.1 (lin 3 hi hL (by omega)) dL_law_663 ?_
  refine lcl (Z := kZM) (X := XM) (X' := XC) (krunV (As := [.int (xs ((nI i + 1).toNatClampNeg)), .int (xs ((nI i + 2).toNatClampNeg)), .int (xs ((nI i + 3).toNatClampNeg))]) (rest := [.long r1]) (pc := 664) hx hcb hml hown hts hSM hWM (c_X11_chance l XM τ (xs ((nI i + 1).toNatClampNeg)) (xs ((nI i + 2).toNatClampNeg)) (xs ((nI i + 3).toNatClampNeg)) _ h1) mf_X11_chance e1130 kOM_0 rfl ⟨rfl, rfl⟩ ⟨(Nat.le_of_ble_eq_true rfl), (Nat.le_of_ble_eq_true rfl)⟩ rfl hl.1 rfl (Nat.le_of_ble_eq_true rfl) dL_law_664 ⟨(Nat.le_of_ble_eq_true rfl), (Nat.le_of_ble_eq_true rfl)⟩) hSM hWM (fun k j hk hj e => hap j k hj hk e.symm) hWC (fun r2 τ2 H locs h2 hWM hWC => ?_)
  obtain ⟨h2, hRel2⟩ := h2
  subst h2
  refine W.lcmp (pc := 667) hx hcb dL_law_667 ?_
  refine lv_if_eq (tgt := 765) (pc := 668) hx hcb dL_law_668 (by decide) (fun _ => ?_) (fun c1 => absurd (lcmp_rfl _) c1)
  exact kk _ _ _ _ hRel2 hWC hWM
set_option maxHeartbeats 4000000 in
set_option maxRecDepth 100000 in
theorem lk_21 {p : Program} {l : Launch} {e : Env} {s : State} {m : MethodId} {args : Array Value} {below : List Frame} {meth : Method} {c : Code} {H : Heap} {locs : List Loc} {Q : State → Prop} {ls : Array Slot} {XC XM : KX} {A : Nat → Prop} {σ τ : Mm} {b L i : Nat} {xs : Nat → Int32} (hx : p.tables.exec = Jvm.exec) (hcb : c.code = code) (hml : c.maxLocals = 4) (hown : s.vm.findClass RL = some m.cls) (hts : ∀ w ∈ kT, w.before args s = true) (hSC : kS kZC XC A s) (hSM : kS kZM XM A s) (hap : ∀ k j, k < kZC.1 → j < kZM.1 → XC.2.1 k ≠ XM.2.1 j) (hWC : kW kZC XC A s σ H locs) (hWM : kW kZM XM A s τ H locs) (hRel : Rel σ τ) (hX : va_X b L xs s s.heap) (hbl : b < s.heap.size) (hbA : ¬ A b) (hi : i + 5 ≤ L) (hL : L ≤ 320) (hl : lv_has ls 4 [(3, .int (nI i)), (2, .ref (XM.2.1 0)), (1, .ref (XC.2.1 0)), (0, .ref b)]) (kk : ∀ (σ τ : Mm) (H : Heap) (locs : List Loc), Rel σ τ → kW kZC XC A s σ H locs → kW kZM XM A s τ H locs → W p l e room_1 s m args below meth c H locs 58 11720 Q (F0 m 765 ls [])) : W p l e room_1 s m args below meth c H locs 58 11720 Q (F0 m 673 ls []) := by
  refine lv_aload_n (pc := 673) hx hcb dL_law_673 rfl (lv_at hl 2 rfl) ?_
  refine lv_aload_n (pc := 674) hx hcb dL_law_674 rfl (lv_at hl 3 rfl) ?_
  refine lv_iload_n (pc := 675) hx hcb dL_law_675 rfl (lv_at hl 0 rfl) ?_
  refine lv_iconst (v := 1) (pc := 676) hx hcb dL_law_676 rfl ?_
  refine lv_iadd (pc := 677) hx hcb dL_law_677 ?_
  refine va_sld (pc := 678) hx hcb hX hbl hbA hWC.2.1 (lin 1 hi hL (by omega)) dL_law_678 ?_
  refine lv_aload_n (pc := 679) hx hcb dL_law_679 rfl (lv_at hl 3 rfl) ?_
  refine lv_iload_n (pc := 680) hx hcb dL_law_680 rfl (lv_at hl 0 rfl) ?_
  refine lv_iconst (v := 2) (pc := 681) hx hcb dL_law_681 rfl ?_
  refine lv_iadd (pc := 682) hx hcb dL_law_682 ?_
  refine va_sld (pc := 683) hx hcb hX hbl hbA hWC.2.1 (lin 2 hi hL (by omega)) dL_law_683 ?_
  refine lv_aload_n (pc := 684) hx hcb dL_law_684 rfl (lv_at hl 3 rfl) ?_
  refine lv_iload_n (pc := 685) hx hcb dL_law_685 rfl (lv_at hl 0 rfl) ?_
  refine lv_iconst (v := 3) (pc := 686) hx hcb dL_law_686 rfl ?_
  refine lv_iadd (pc := 687) hx hcb dL_law_687 ?_
  refine va_sld (pc := 688) hx hcb hX hbl hbA hWC.2.1 (lin 3 hi hL (by omega)) dL_law_688 ?_
  have h0 := op_year hRel (xs ((nI i + 1).toNatClampNeg)) (xs ((nI i + 2).toNatClampNeg)) (xs ((nI i + 3).toNatClampNeg))
  refine lci (Z := kZC) (X := XC) (X' := XM) (krunV (As := [.int (xs ((nI i + 1).toNatClampNeg)), .int (xs ((nI i + 2).toNatClampNeg)), .int (xs ((nI i + 3).toNatClampNeg))]) (rest := []) (pc := 689) hx hcb hml hown hts hSC hWC (c_X10_year l XC σ (xs ((nI i + 1).toNatClampNeg)) (xs ((nI i + 2).toNatClampNeg)) (xs ((nI i + 3).toNatClampNeg)) _ h0) mf_X10_year e812 kOC_0 rfl ⟨rfl, rfl⟩ ⟨(Nat.le_of_ble_eq_true rfl), (Nat.le_of_ble_eq_true rfl)⟩ rfl hl.1 rfl (Nat.le_of_ble_eq_true rfl) dL_law_689 ⟨(Nat.le_of_ble_eq_true rfl), (Nat.le_of_ble_eq_true rfl)⟩) hSC hWC hap hWM (fun r1 σ2 H locs h1 hWC hWM => ?_)
  obtain ⟨h1, rfl⟩ := h1
  refine lv_aload_n (pc := 692) hx hcb dL_law_692 rfl (lv_at hl 1 rfl) ?_
  refine lv_aload_n (pc := 693) hx hcb dL_law_693 rfl (lv_at hl 3 rfl) ?_
  refine lv_iload_n (pc := 694) hx hcb dL_law_694 rfl (lv_at hl 0 rfl) ?_
  refine lv_iconst (v := 1) (pc := 695) hx hcb dL_law_695 rfl ?_
  refine lv_iadd (pc := 696) hx hcb dL_law_696 ?_
  refine va_sld (pc := 697) hx hcb hX hbl hbA hWC.2.1 (lin 1 hi hL (by omega)) dL_law_697 ?_
  refine lv_aload_n (pc := 698) hx hcb dL_law_698 rfl (lv_at hl 3 rfl) ?_
  refine lv_iload_n (pc := 699) hx hcb dL_law_699 rfl (lv_at hl 0 rfl) ?_
  refine lv_iconst (v := 2) (pc := 700) hx hcb dL_law_700 rfl ?_
  refine lv_iadd (pc := 701) hx hcb dL_law_701 ?_
  refine va_sld (pc := 702) hx hcb hX hbl hbA hWC.2.1 (lin 2 hi hL (by omega)) dL_law_702 ?_
  refine lv_aload_n (pc := 703) hx hcb dL_law_703 rfl (lv_at hl 3 rfl) ?_
  refine lv_iload_n (pc := 704) hx hcb dL_law_704 rfl (lv_at hl 0 rfl) ?_
  refine lv_iconst (v := 3) (pc := 705) hx hcb dL_law_705 rfl ?_
  refine lv_iadd (pc := 706) hx hcb dL_law_706 ?_
  refine va_sld (pc := 707) hx hcb hX hbl hbA hWC.2.1 (lin 3 hi hL (by omega)) dL_law_707 ?_
  refine lci (Z := kZM) (X := XM) (X' := XC) (krunV (As := [.int (xs ((nI i + 1).toNatClampNeg)), .int (xs ((nI i + 2).toNatClampNeg)), .int (xs ((nI i + 3).toNatClampNeg))]) (rest := [.int r1]) (pc := 708) hx hcb hml hown hts hSM hWM (c_X11_year l XM τ (xs ((nI i + 1).toNatClampNeg)) (xs ((nI i + 2).toNatClampNeg)) (xs ((nI i + 3).toNatClampNeg)) _ h1) mf_X11_year e1136 kOM_0 rfl ⟨rfl, rfl⟩ ⟨(Nat.le_of_ble_eq_true rfl), (Nat.le_of_ble_eq_true rfl)⟩ rfl hl.1 rfl (Nat.le_of_ble_eq_true rfl) dL_law_708 ⟨(Nat.le_of_ble_eq_true rfl), (Nat.le_of_ble_eq_true rfl)⟩) hSM hWM (fun k j hk hj e => hap j k hj hk e.symm) hWC (fun r2 τ2 H locs h2 hWM hWC => ?_)
  obtain ⟨h2, rfl⟩ := h2
  subst h2
  refine lv_icmp_eq (tgt := 765) (pc := 711) hx hcb dL_law_711 (by decide) (fun _ => ?_) (fun c1 => absurd rfl c1)
  exact kk _ _ _ _ hRel hWC hWM
set_option maxHeartbeats 4000000 in
set_option maxRecDepth 100000 in
theorem lk_22 {p : Program} {l : Launch} {e : Env} {s : State} {m : MethodId} {args : Array Value} {below : List Frame} {meth : Method} {c : Code} {H : Heap} {locs : List Loc} {Q : State → Prop} {ls : Array Slot} {XC XM : KX} {A : Nat → Prop} {σ τ : Mm} {b L i : Nat} {xs : Nat → Int32} (hx : p.tables.exec = Jvm.exec) (hcb : c.code = code) (hml : c.maxLocals = 4) (hown : s.vm.findClass RL = some m.cls) (hts : ∀ w ∈ kT, w.before args s = true) (hSC : kS kZC XC A s) (hSM : kS kZM XM A s) (hap : ∀ k j, k < kZC.1 → j < kZM.1 → XC.2.1 k ≠ XM.2.1 j) (hWC : kW kZC XC A s σ H locs) (hWM : kW kZM XM A s τ H locs) (hRel : Rel σ τ) (hX : va_X b L xs s s.heap) (hbl : b < s.heap.size) (hbA : ¬ A b) (hi : i + 5 ≤ L) (hL : L ≤ 320) (hl : lv_has ls 4 [(3, .int (nI i)), (2, .ref (XM.2.1 0)), (1, .ref (XC.2.1 0)), (0, .ref b)]) (kk : ∀ (σ τ : Mm) (H : Heap) (locs : List Loc), Rel σ τ → kW kZC XC A s σ H locs → kW kZM XM A s τ H locs → W p l e room_1 s m args below meth c H locs 58 11720 Q (F0 m 765 ls [])) : W p l e room_1 s m args below meth c H locs 58 11720 Q (F0 m 716 ls []) := by
  refine lv_aload_n (pc := 716) hx hcb dL_law_716 rfl (lv_at hl 2 rfl) ?_
  have h0 := op_keep hRel 
  refine lci (Z := kZC) (X := XC) (X' := XM) (krunV (As := []) (rest := []) (pc := 717) hx hcb hml hown hts hSC hWC (c_X10_keep l XC σ  _ h0) mf_X10_keep e826 kOC_0 rfl ⟨rfl, rfl⟩ ⟨(Nat.le_of_ble_eq_true rfl), (Nat.le_of_ble_eq_true rfl)⟩ rfl hl.1 rfl (Nat.le_of_ble_eq_true rfl) dL_law_717 ⟨(Nat.le_of_ble_eq_true rfl), (Nat.le_of_ble_eq_true rfl)⟩) hSC hWC hap hWM (fun r1 σ2 H locs h1 hWC hWM => ?_)
  refine lv_aload_n (pc := 720) hx hcb dL_law_720 rfl (lv_at hl 1 rfl) ?_
  refine lci (Z := kZM) (X := XM) (X' := XC) (krunV (As := []) (rest := [.int r1]) (pc := 721) hx hcb hml hown hts hSM hWM (c_X11_keep l XM τ  _ h1) mf_X11_keep e1143 kOM_0 rfl ⟨rfl, rfl⟩ ⟨(Nat.le_of_ble_eq_true rfl), (Nat.le_of_ble_eq_true rfl)⟩ rfl hl.1 rfl (Nat.le_of_ble_eq_true rfl) dL_law_721 ⟨(Nat.le_of_ble_eq_true rfl), (Nat.le_of_ble_eq_true rfl)⟩) hSM hWM (fun k j hk hj e => hap j k hj hk e.symm) hWC (fun r2 τ2 H locs h2 hWM hWC => ?_)
  obtain ⟨h2, hRel2⟩ := h2
  subst h2
  refine lv_icmp_eq (tgt := 765) (pc := 724) hx hcb dL_law_724 (by decide) (fun _ => ?_) (fun c1 => absurd rfl c1)
  exact kk _ _ _ _ hRel2 hWC hWM
set_option maxHeartbeats 4000000 in
set_option maxRecDepth 100000 in
theorem lk_23 {p : Program} {l : Launch} {e : Env} {s : State} {m : MethodId} {args : Array Value} {below : List Frame} {meth : Method} {c : Code} {H : Heap} {locs : List Loc} {Q : State → Prop} {ls : Array Slot} {XC XM : KX} {A : Nat → Prop} {σ τ : Mm} {b L i : Nat} {xs : Nat → Int32} (hx : p.tables.exec = Jvm.exec) (hcb : c.code = code) (hml : c.maxLocals = 4) (hown : s.vm.findClass RL = some m.cls) (hts : ∀ w ∈ kT, w.before args s = true) (hSC : kS kZC XC A s) (hSM : kS kZM XM A s) (hap : ∀ k j, k < kZC.1 → j < kZM.1 → XC.2.1 k ≠ XM.2.1 j) (hWC : kW kZC XC A s σ H locs) (hWM : kW kZM XM A s τ H locs) (hRel : Rel σ τ) (hX : va_X b L xs s s.heap) (hbl : b < s.heap.size) (hbA : ¬ A b) (hi : i + 5 ≤ L) (hL : L ≤ 320) (hl : lv_has ls 4 [(3, .int (nI i)), (2, .ref (XM.2.1 0)), (1, .ref (XC.2.1 0)), (0, .ref b)]) (kk : ∀ (σ τ : Mm) (H : Heap) (locs : List Loc), Rel σ τ → kW kZC XC A s σ H locs → kW kZM XM A s τ H locs → W p l e room_1 s m args below meth c H locs 58 11720 Q (F0 m 765 ls [])) : W p l e room_1 s m args below meth c H locs 58 11720 Q (F0 m 729 ls []) := by
  refine lv_aload_n (pc := 729) hx hcb dL_law_729 rfl (lv_at hl 2 rfl) ?_
  have h0 := op_back hRel 
  refine lci (Z := kZC) (X := XC) (X' := XM) (krunV (As := []) (rest := []) (pc := 730) hx hcb hml hown hts hSC hWC (c_X10_back l XC σ  _ h0) mf_X10_back e830 kOC_0 rfl ⟨rfl, rfl⟩ ⟨(Nat.le_of_ble_eq_true rfl), (Nat.le_of_ble_eq_true rfl)⟩ rfl hl.1 rfl (Nat.le_of_ble_eq_true rfl) dL_law_730 ⟨(Nat.le_of_ble_eq_true rfl), (Nat.le_of_ble_eq_true rfl)⟩) hSC hWC hap hWM (fun r1 σ2 H locs h1 hWC hWM => ?_)
  refine lv_aload_n (pc := 733) hx hcb dL_law_733 rfl (lv_at hl 1 rfl) ?_
  refine lci (Z := kZM) (X := XM) (X' := XC) (krunV (As := []) (rest := [.int r1]) (pc := 734) hx hcb hml hown hts hSM hWM (c_X11_back l XM τ  _ h1) mf_X11_back e1147 kOM_0 rfl ⟨rfl, rfl⟩ ⟨(Nat.le_of_ble_eq_true rfl), (Nat.le_of_ble_eq_true rfl)⟩ rfl hl.1 rfl (Nat.le_of_ble_eq_true rfl) dL_law_734 ⟨(Nat.le_of_ble_eq_true rfl), (Nat.le_of_ble_eq_true rfl)⟩) hSM hWM (fun k j hk hj e => hap j k hj hk e.symm) hWC (fun r2 τ2 H locs h2 hWM hWC => ?_)
  obtain ⟨h2, hRel2⟩ := h2
  subst h2
  refine lv_icmp_eq (tgt := 765) (pc := 737) hx hcb dL_law_737 (by decide) (fun _ => ?_) (fun c1 => absurd rfl c1)
  exact kk _ _ _ _ hRel2 hWC hWM
set_option maxHeartbeats 4000000 in
set_option maxRecDepth 100000 in
theorem lk_24 {p : Program} {l : Launch} {e : Env} {s : State} {m : MethodId} {args : Array Value} {below : List Frame} {meth : Method} {c : Code} {H : Heap} {locs : List Loc} {Q : State → Prop} {ls : Array Slot} {XC XM : KX} {A : Nat → Prop} {σ τ : Mm} {b L i : Nat} {xs : Nat → Int32} (hx : p.tables.exec = Jvm.exec) (hcb : c.code = code) (hml : c.maxLocals = 4) (hown : s.vm.findClass RL = some m.cls) (hts : ∀ w ∈ kT, w.before args s = true) (hSC : kS kZC XC A s) (hSM : kS kZM XM A s) (hap : ∀ k j, k < kZC.1 → j < kZM.1 → XC.2.1 k ≠ XM.2.1 j) (hWC : kW kZC XC A s σ H locs) (hWM : kW kZM XM A s τ H locs) (hRel : Rel σ τ) (hX : va_X b L xs s s.heap) (hbl : b < s.heap.size) (hbA : ¬ A b) (hi : i + 5 ≤ L) (hL : L ≤ 320) (hl : lv_has ls 4 [(3, .int (nI i)), (2, .ref (XM.2.1 0)), (1, .ref (XC.2.1 0)), (0, .ref b)]) (kk : ∀ (σ τ : Mm) (H : Heap) (locs : List Loc), Rel σ τ → kW kZC XC A s σ H locs → kW kZM XM A s τ H locs → W p l e room_1 s m args below meth c H locs 58 11720 Q (F0 m 765 ls [])) : W p l e room_1 s m args below meth c H locs 58 11720 Q (F0 m 742 ls []) := by
  refine lv_aload_n (pc := 742) hx hcb dL_law_742 rfl (lv_at hl 2 rfl) ?_
  refine lv_aload_n (pc := 743) hx hcb dL_law_743 rfl (lv_at hl 3 rfl) ?_
  refine lv_iload_n (pc := 744) hx hcb dL_law_744 rfl (lv_at hl 0 rfl) ?_
  refine lv_iconst (v := 1) (pc := 745) hx hcb dL_law_745 rfl ?_
  refine lv_iadd (pc := 746) hx hcb dL_law_746 ?_
  refine va_sld (pc := 747) hx hcb hX hbl hbA hWC.2.1 (lin 1 hi hL (by omega)) dL_law_747 ?_
  have h0 := op_count hRel (xs ((nI i + 1).toNatClampNeg))
  refine lci (Z := kZC) (X := XC) (X' := XM) (krunV (As := [.int (xs ((nI i + 1).toNatClampNeg))]) (rest := []) (pc := 748) hx hcb hml hown hts hSC hWC (c_X10_count l XC σ (xs ((nI i + 1).toNatClampNeg)) _ h0) mf_X10_count e834 kOC_0 rfl ⟨rfl, rfl⟩ ⟨(Nat.le_of_ble_eq_true rfl), (Nat.le_of_ble_eq_true rfl)⟩ rfl hl.1 rfl (Nat.le_of_ble_eq_true rfl) dL_law_748 ⟨(Nat.le_of_ble_eq_true rfl), (Nat.le_of_ble_eq_true rfl)⟩) hSC hWC hap hWM (fun r1 σ2 H locs h1 hWC hWM => ?_)
  obtain ⟨h1, rfl⟩ := h1
  refine lv_aload_n (pc := 751) hx hcb dL_law_751 rfl (lv_at hl 1 rfl) ?_
  refine lv_aload_n (pc := 752) hx hcb dL_law_752 rfl (lv_at hl 3 rfl) ?_
  refine lv_iload_n (pc := 753) hx hcb dL_law_753 rfl (lv_at hl 0 rfl) ?_
  refine lv_iconst (v := 1) (pc := 754) hx hcb dL_law_754 rfl ?_
  refine lv_iadd (pc := 755) hx hcb dL_law_755 ?_
  refine va_sld (pc := 756) hx hcb hX hbl hbA hWC.2.1 (lin 1 hi hL (by omega)) dL_law_756 ?_
  refine lci (Z := kZM) (X := XM) (X' := XC) (krunV (As := [.int (xs ((nI i + 1).toNatClampNeg))]) (rest := [.int r1]) (pc := 757) hx hcb hml hown hts hSM hWM (c_X11_count l XM τ (xs ((nI i + 1).toNatClampNeg)) _ h1) mf_X11_count e1151 kOM_0 rfl ⟨rfl, rfl⟩ ⟨(Nat.le_of_ble_eq_true rfl), (Nat.le_of_ble_eq_true rfl)⟩ rfl hl.1 rfl (Nat.le_of_ble_eq_true rfl) dL_law_757 ⟨(Nat.le_of_ble_eq_true rfl), (Nat.le_of_ble_eq_true rfl)⟩) hSM hWM (fun k j hk hj e => hap j k hj hk e.symm) hWC (fun r2 τ2 H locs h2 hWM hWC => ?_)
  obtain ⟨h2, rfl⟩ := h2
  subst h2
  refine lv_icmp_eq (tgt := 765) (pc := 760) hx hcb dL_law_760 (by decide) (fun _ => ?_) (fun c1 => absurd rfl c1)
  exact kk _ _ _ _ hRel hWC hWM
