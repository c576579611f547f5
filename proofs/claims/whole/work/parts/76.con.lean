abbrev rm_X11_readItem : Room := { frames := 2, cells := 0, slots := 0, locals := 46 }
set_option maxHeartbeats 4000000 in
set_option maxRecDepth 100000 in
theorem c_X11_readItem (l : Launch) (X : KX) (σ : Mm)  (Φ : Mm → Prop) (h : wp_X11_readItem σ  Φ) : Met l yX11_readItem (.code yX11_readItem cX11_readItem 7 none :: kT) rm_X11_readItem (va_Pc [.ref (X.2.1 0)] (kPre kZM X σ)) (va_Qv (fun σ' => Φ σ') (fun σ' t => kPre kZM X σ' t) (kA kZM X)) 0 0 (kA kZM X) := by
  refine kofV (by decide) (Nat.le_of_ble_eq_true rfl) ?_
  intro p e s m args below meth c ls Q hx hcb hml hown hts hS hW hl hret
  have hown : s.vm.findClass RX11 = some m.cls := hown
  have hl : lv_has ls 7 [(0, .ref (X.2.1 0))] := hl
  unfold wp_X11_readItem at h
  refine lv_aload_n (pc := 0) hx hcb dX11_readItem_0 rfl (lv_at hl 0 rfl) ?_
  refine kci (krunV (As := []) (rest := []) (pc := 1) hx hcb hml hown hts hS hW (c_X11_here l X σ  _ h) mf_X11_here q956 kOM_0 rfl ⟨rfl, rfl⟩ ⟨Nat.le_of_ble_eq_true rfl, Nat.le_of_ble_eq_true rfl⟩ rfl hl.1 rfl (Nat.le_of_ble_eq_true rfl) dX11_readItem_1 ⟨Nat.zero_le _, Nat.zero_le _⟩) hS hW (fun r2 σ1 H locs h hW => ?_)
  obtain ⟨h, rfl⟩ := h
  refine lv_istore_n (lv' := [(1, .int r2), (0, .ref (X.2.1 0))]) (pc := 4) hx hcb dX11_readItem_4 rfl hl (by decide) rfl (fun ls hl => ?_)
  refine lv_aload_n (pc := 5) hx hcb dX11_readItem_5 rfl (lv_at hl 1 rfl) ?_
  refine lv_dup (pc := 6) hx hcb dX11_readItem_6 rfl ?_
  refine kget (v := .int (σ.1 0 4)) (pc := 7) hx hcb hts hown hS hW iwX11 kOM_0 rfl 4 (by decide) q862 rfl rfl dX11_readItem_7 ?_
  refine lv_iconst (v := 1) (pc := 10) hx hcb dX11_readItem_10 rfl ?_
  refine lv_iadd (pc := 11) hx hcb dX11_readItem_11 ?_
  refine kput (ty := .int) (pc := 12) hx hcb hts hown hS hW iwX11 tyX11 tyX11_ok nmX11 kOM_0 rfl 4 (by decide) q862 rfl rfl rfl rfl rfl (Nat.le_of_ble_eq_true rfl) rfl dX11_readItem_12 (fun σ3 H locs eσ3 hW => ?_)
  have h := h σ3 eσ3
  refine lv_iload_n (pc := 15) hx hcb dX11_readItem_15 rfl (lv_at hl 0 rfl) ?_
  refine lv_topi (fun w4 ew4 => ?_)
  have h := h w4 ew4
  obtain ⟨K350, hk350, h⟩ := h
  have hK350 : ∀ (σ5 : Mm) (H : Heap) (locs : List Loc) (ls : Array Slot), K350 σ5 → kW kZM X (kA kZM X) s σ5 H locs → lv_has ls 7 [(0, .ref (X.2.1 0))] → W p l e rm_X11_readItem s m args below meth c H locs 0 0 Q (F0 m 350 ls []) := by
    intro σ5 H locs ls h hW hl
    have h := hk350 σ5 h
    refine lv_aload_n (pc := 350) hx hcb dX11_readItem_350 rfl (lv_at hl 0 rfl) ?_
    refine lv_bipush (v := 59) (pc := 351) hx hcb dX11_readItem_351 rfl ?_
    refine kcv (krunV (As := [.int 59]) (rest := []) (pc := 353) hx hcb hml hown hts hS hW (c_X11_due l X σ5 59 _ h) mf_X11_due q964 kOM_0 rfl ⟨rfl, rfl⟩ ⟨Nat.le_of_ble_eq_true rfl, Nat.le_of_ble_eq_true rfl⟩ rfl hl.1 rfl (Nat.le_of_ble_eq_true rfl) dX11_readItem_353 ⟨Nat.zero_le _, Nat.zero_le _⟩) hS hW (fun σ6 H locs h hW => ?_)
    exact hret _ _ _ _ _ h hW dX11_readItem_356
  by_cases hsw0 : w4 = 99
  · have h := h.1 hsw0
    refine lv_lookup (off := 312) (tgt := 328) (pc := 16) hx hcb dX11_readItem_16 (by decide) (by rw [hsw0]; rfl) (by decide) ?_
    refine lv_aload_n (pc := 328) hx hcb dX11_readItem_328 rfl (lv_at hl 1 rfl) ?_
    refine kget (v := .ref (X.2.1 1)) (pc := 329) hx hcb hts hown hS hW iwX11 kOM_0 rfl 0 (by decide) q858 rfl rfl dX11_readItem_329 ?_
    refine lv_bipush (v := 85) (pc := 332) hx hcb dX11_readItem_332 rfl ?_
    refine lv_aload_n (pc := 334) hx hcb dX11_readItem_334 rfl (lv_at hl 1 rfl) ?_
    refine lv_iconst (v := 0) (pc := 335) hx hcb dX11_readItem_335 rfl ?_
    refine lv_bipush (v := 7) (pc := 336) hx hcb dX11_readItem_336 rfl ?_
    refine kci (krunV (As := [.int 0, .int 7]) (rest := [.int 85, .ref (X.2.1 1)]) (pc := 338) hx hcb hml hown hts hS hW (c_X11_number l X σ3 0 7 _ h) mf_X11_number q960 kOM_0 rfl ⟨rfl, rfl⟩ ⟨Nat.le_of_ble_eq_true rfl, Nat.le_of_ble_eq_true rfl⟩ rfl hl.1 rfl (Nat.le_of_ble_eq_true rfl) dX11_readItem_338 ⟨Nat.zero_le _, Nat.zero_le _⟩) hS hW (fun r8 σ7 H locs h hW => ?_)
    refine kiast 85 (pc := 341) hx hcb hS hW kIM_1 rfl (kin_of ⟨by decide, by decide⟩ (by decide)) dX11_readItem_341 (fun σ9 H locs eσ9 hW => ?_)
    have h := h σ9 eσ9
    refine lv_goto (tgt := 350) (pc := 342) hx hcb dX11_readItem_342 (by decide) ?_
    exact hK350 σ9 _ _ _ h hW (lv_sub hl [1] rfl)
  · have h := h.2 hsw0
    by_cases hsw1 : w4 = 102
    · have h := h.1 hsw1
      refine lv_lookup (off := 295) (tgt := 311) (pc := 16) hx hcb dX11_readItem_16 (by decide) (by rw [hsw1]; rfl) (by decide) ?_
      refine lv_aload_n (pc := 311) hx hcb dX11_readItem_311 rfl (lv_at hl 1 rfl) ?_
      refine kget (v := .ref (X.2.1 1)) (pc := 312) hx hcb hts hown hS hW iwX11 kOM_0 rfl 0 (by decide) q858 rfl rfl dX11_readItem_312 ?_
      refine lv_bipush (v := 84) (pc := 315) hx hcb dX11_readItem_315 rfl ?_
      refine lv_aload_n (pc := 317) hx hcb dX11_readItem_317 rfl (lv_at hl 1 rfl) ?_
      refine lv_iconst (v := 0) (pc := 318) hx hcb dX11_readItem_318 rfl ?_
      refine lv_bipush (v := 20) (pc := 319) hx hcb dX11_readItem_319 rfl ?_
      refine kci (krunV (As := [.int 0, .int 20]) (rest := [.int 84, .ref (X.2.1 1)]) (pc := 321) hx hcb hml hown hts hS hW (c_X11_number l X σ3 0 20 _ h) mf_X11_number q960 kOM_0 rfl ⟨rfl, rfl⟩ ⟨Nat.le_of_ble_eq_true rfl, Nat.le_of_ble_eq_true rfl⟩ rfl hl.1 rfl (Nat.le_of_ble_eq_true rfl) dX11_readItem_321 ⟨Nat.zero_le _, Nat.zero_le _⟩) hS hW (fun r11 σ10 H locs h hW => ?_)
      refine kiast 84 (pc := 324) hx hcb hS hW kIM_1 rfl (kin_of ⟨by decide, by decide⟩ (by decide)) dX11_readItem_324 (fun σ12 H locs eσ12 hW => ?_)
      have h := h σ12 eσ12
      refine lv_goto (tgt := 350) (pc := 325) hx hcb dX11_readItem_325 (by decide) ?_
      exact hK350 σ12 _ _ _ h hW (lv_sub hl [1] rfl)
    · have h := h.2 hsw1
      by_cases hsw2 : w4 = 108
      · have h := h.1 hsw2
        refine lv_lookup (off := 102) (tgt := 118) (pc := 16) hx hcb dX11_readItem_16 (by decide) (by rw [hsw2]; rfl) (by decide) ?_
        refine lv_aload_n (pc := 118) hx hcb dX11_readItem_118 rfl (lv_at hl 1 rfl) ?_
        refine lv_iconst (v := 0) (pc := 119) hx hcb dX11_readItem_119 rfl ?_
        refine lv_aload_n (pc := 120) hx hcb dX11_readItem_120 rfl (lv_at hl 1 rfl) ?_
        refine kget (v := .ref (X.2.1 1)) (pc := 121) hx hcb hts hown hS hW iwX11 kOM_0 rfl 0 (by decide) q858 rfl rfl dX11_readItem_121 ?_
        refine lv_bipush (v := 82) (pc := 124) hx hcb dX11_readItem_124 rfl ?_
        refine kiald 82 (pc := 126) hx hcb hS hW kIM_1 rfl (kin_of ⟨by decide, by decide⟩ (by decide)) dX11_readItem_126 ?_
        refine lv_iconst (v := 1) (pc := 127) hx hcb dX11_readItem_127 rfl ?_
        refine lv_isub (pc := 128) hx hcb dX11_readItem_128 ?_
        refine kci (krunV (As := [.int 0, .int ((σ3.1 1 82) - 1)]) (rest := []) (pc := 129) hx hcb hml hown hts hS hW (c_X11_number l X σ3 0 ((σ3.1 1 82) - 1) _ h) mf_X11_number q960 kOM_0 rfl ⟨rfl, rfl⟩ ⟨Nat.le_of_ble_eq_true rfl, Nat.le_of_ble_eq_true rfl⟩ rfl hl.1 rfl (Nat.le_of_ble_eq_true rfl) dX11_readItem_129 ⟨Nat.zero_le _, Nat.zero_le _⟩) hS hW (fun r14 σ13 H locs h hW => ?_)
        refine lv_istore_n (lv' := [(3, .int r14), (1, .int r2), (0, .ref (X.2.1 0))]) (pc := 132) hx hcb dX11_readItem_132 rfl hl (by decide) rfl (fun ls hl => ?_)
        refine lv_aload_n (pc := 133) hx hcb dX11_readItem_133 rfl (lv_at hl 2 rfl) ?_
        refine lv_bipush (v := 44) (pc := 134) hx hcb dX11_readItem_134 rfl ?_
        refine kcv (krunV (As := [.int 44]) (rest := []) (pc := 136) hx hcb hml hown hts hS hW (c_X11_due l X σ13 44 _ h) mf_X11_due q964 kOM_0 rfl ⟨rfl, rfl⟩ ⟨Nat.le_of_ble_eq_true rfl, Nat.le_of_ble_eq_true rfl⟩ rfl hl.1 rfl (Nat.le_of_ble_eq_true rfl) dX11_readItem_136 ⟨Nat.zero_le _, Nat.zero_le _⟩) hS hW (fun σ15 H locs h hW => ?_)
        refine lv_aload_n (pc := 139) hx hcb dX11_readItem_139 rfl (lv_at hl 2 rfl) ?_
        refine lv_iconst (v := 0) (pc := 140) hx hcb dX11_readItem_140 rfl ?_
        refine lv_aload_n (pc := 141) hx hcb dX11_readItem_141 rfl (lv_at hl 2 rfl) ?_
        refine kget (v := .ref (X.2.1 1)) (pc := 142) hx hcb hts hown hS hW iwX11 kOM_0 rfl 0 (by decide) q858 rfl rfl dX11_readItem_142 ?_
        refine lv_bipush (v := 82) (pc := 145) hx hcb dX11_readItem_145 rfl ?_
        refine kiald 82 (pc := 147) hx hcb hS hW kIM_1 rfl (kin_of ⟨by decide, by decide⟩ (by decide)) dX11_readItem_147 ?_
        refine lv_iconst (v := 1) (pc := 148) hx hcb dX11_readItem_148 rfl ?_
        refine lv_isub (pc := 149) hx hcb dX11_readItem_149 ?_
        refine kci (krunV (As := [.int 0, .int ((σ15.1 1 82) - 1)]) (rest := []) (pc := 150) hx hcb hml hown hts hS hW (c_X11_number l X σ15 0 ((σ15.1 1 82) - 1) _ h) mf_X11_number q960 kOM_0 rfl ⟨rfl, rfl⟩ ⟨Nat.le_of_ble_eq_true rfl, Nat.le_of_ble_eq_true rfl⟩ rfl hl.1 rfl (Nat.le_of_ble_eq_true rfl) dX11_readItem_150 ⟨Nat.zero_le _, Nat.zero_le _⟩) hS hW (fun r17 σ16 H locs h hW => ?_)
        refine lv_istore (lv' := [(4, .int r17), (3, .int r14), (1, .int r2), (0, .ref (X.2.1 0))]) (pc := 153) hx hcb dX11_readItem_153 hl (by decide) rfl (fun ls hl => ?_)
        refine lv_aload_n (pc := 155) hx hcb dX11_readItem_155 rfl (lv_at hl 3 rfl) ?_
        refine lv_aload_n (pc := 156) hx hcb dX11_readItem_156 rfl (lv_at hl 3 rfl) ?_
        refine kget (v := .int (σ16.1 0 5)) (pc := 157) hx hcb hts hown hS hW iwX11 kOM_0 rfl 5 (by decide) q863 rfl rfl dX11_readItem_157 ?_
        obtain ⟨K174, hk174, h⟩ := h
        have hK174 : ∀ (v18 : Int32) (H : Heap) (locs : List Loc) (ls : Array Slot), K174 v18 → kW kZM X (kA kZM X) s σ16 H locs → lv_has ls 7 [(0, .ref (X.2.1 0)), (3, .int r14), (4, .int r17)] → W p l e rm_X11_readItem s m args below meth c H locs 0 0 Q (F0 m 174 ls [.int v18, .ref (X.2.1 0)]) := by
          intro v18 H locs ls h hW hl
          have h := hk174 v18 h
          have hbt174 := h.1
          have h := h.2
          refine kput (ty := .boolean) (pc := 174) hx hcb hts hown hS hW iwX11 tyX11 tyX11_ok nmX11 kOM_0 rfl 5 (by decide) q863 rfl rfl rfl (kbit_n hbt174) (kbit_f hbt174) (Nat.le_of_ble_eq_true rfl) rfl dX11_readItem_174 (fun σ19 H locs eσ19 hW => ?_)
          have h := h σ19 eσ19
          refine lv_aload_n (pc := 177) hx hcb dX11_readItem_177 rfl (lv_at hl 0 rfl) ?_
          refine lv_iconst (v := 1) (pc := 178) hx hcb dX11_readItem_178 rfl ?_
          refine kput (ty := .boolean) (pc := 179) hx hcb hts hown hS hW iwX11 tyX11 tyX11_ok nmX11 kOM_0 rfl 6 (by decide) q864 rfl rfl rfl rfl rfl (Nat.le_of_ble_eq_true rfl) rfl dX11_readItem_179 (fun σ20 H locs eσ20 hW => ?_)
          have h := h σ20 eσ20
          refine lv_aload_n (pc := 182) hx hcb dX11_readItem_182 rfl (lv_at hl 0 rfl) ?_
          refine kget (v := .int (σ20.1 0 5)) (pc := 183) hx hcb hts hown hS hW iwX11 kOM_0 rfl 5 (by decide) q863 rfl rfl dX11_readItem_183 ?_
          refine lv_if_ne (tgt := 350) (pc := 186) hx hcb dX11_readItem_186 (by decide) (fun c186 => ?_) (fun c186 => ?_)
          · have h := h.1 c186
            exact hK350 σ20 _ _ _ h hW (lv_sub hl [0] rfl)
          · have h := h.2 c186
            refine lv_aload_n (pc := 189) hx hcb dX11_readItem_189 rfl (lv_at hl 0 rfl) ?_
            refine lv_bipush (v := 82) (pc := 190) hx hcb dX11_readItem_190 rfl ?_
            refine lv_iload_n (pc := 192) hx hcb dX11_readItem_192 rfl (lv_at hl 1 rfl) ?_
            refine lv_iload (pc := 193) hx hcb dX11_readItem_193 (lv_at hl 2 rfl) ?_
            refine kcv (krunV (As := [.int 82, .int r14, .int r17]) (rest := []) (pc := 195) hx hcb hml hown hts hS hW (c_X11_link l X σ20 82 r14 r17 _ h) mf_X11_link q849 kOM_0 rfl ⟨rfl, rfl⟩ ⟨Nat.le_of_ble_eq_true rfl, Nat.le_of_ble_eq_true rfl⟩ rfl hl.1 rfl (Nat.le_of_ble_eq_true rfl) dX11_readItem_195 ⟨Nat.zero_le _, Nat.zero_le _⟩) hS hW (fun σ21 H locs h hW => ?_)
            refine lv_goto (tgt := 350) (pc := 198) hx hcb dX11_readItem_198 (by decide) ?_
            exact hK350 σ21 _ _ _ h hW (lv_sub hl [0] rfl)
        obtain ⟨K169, hk169, h⟩ := h
        have hK169 : ∀  (H : Heap) (locs : List Loc) (ls : Array Slot), K169 → kW kZM X (kA kZM X) s σ16 H locs → lv_has ls 7 [(0, .ref (X.2.1 0)), (3, .int r14), (4, .int r17)] → W p l e rm_X11_readItem s m args below meth c H locs 0 0 Q (F0 m 169 ls [.ref (X.2.1 0)]) := by
          intro  H locs ls h hW hl
          have h := hk169 h
          refine lv_iconst (v := 1) (pc := 169) hx hcb dX11_readItem_169 rfl ?_
          refine lv_goto (tgt := 174) (pc := 170) hx hcb dX11_readItem_170 (by decide) ?_
          exact hK174 1 _ _ _ h hW (lv_sub hl [0, 1, 2] rfl)
        refine lv_if_ne (tgt := 169) (pc := 160) hx hcb dX11_readItem_160 (by decide) (fun c160 => ?_) (fun c160 => ?_)
        · have h := h.1 c160
          exact hK169  _ _ _ h hW (lv_sub hl [3, 1, 0] rfl)
        · have h := h.2 c160
          refine lv_iload_n (pc := 163) hx hcb dX11_readItem_163 rfl (lv_at hl 1 rfl) ?_
          refine lv_iload (pc := 164) hx hcb dX11_readItem_164 (lv_at hl 0 rfl) ?_
          refine lv_icmp_ne (tgt := 173) (pc := 166) hx hcb dX11_readItem_166 (by decide) (fun c166 => ?_) (fun c166 => ?_)
          · have h := h.1 c166
            refine lv_iconst (v := 0) (pc := 173) hx hcb dX11_readItem_173 rfl ?_
            exact hK174 0 _ _ _ h hW (lv_sub hl [3, 1, 0] rfl)
          · have h := h.2 c166
            exact hK169  _ _ _ h hW (lv_sub hl [3, 1, 0] rfl)
      · have h := h.2 hsw2
        by_cases hsw3 : w4 = 112
        · have h := h.1 hsw3
          refine lv_lookup (off := 185) (tgt := 201) (pc := 16) hx hcb dX11_readItem_16 (by decide) (by rw [hsw3]; rfl) (by decide) ?_
          refine lv_aload_n (pc := 201) hx hcb dX11_readItem_201 rfl (lv_at hl 1 rfl) ?_
          refine lv_iconst (v := 0) (pc := 202) hx hcb dX11_readItem_202 rfl ?_
          refine lv_bipush (v := 99) (pc := 203) hx hcb dX11_readItem_203 rfl ?_
          refine kci (krunV (As := [.int 0, .int 99]) (rest := []) (pc := 205) hx hcb hml hown hts hS hW (c_X11_number l X σ3 0 99 _ h) mf_X11_number q960 kOM_0 rfl ⟨rfl, rfl⟩ ⟨Nat.le_of_ble_eq_true rfl, Nat.le_of_ble_eq_true rfl⟩ rfl hl.1 rfl (Nat.le_of_ble_eq_true rfl) dX11_readItem_205 ⟨Nat.zero_le _, Nat.zero_le _⟩) hS hW (fun r23 σ22 H locs h hW => ?_)
          refine lv_istore (lv' := [(5, .int r23), (1, .int r2), (0, .ref (X.2.1 0))]) (pc := 208) hx hcb dX11_readItem_208 hl (by decide) rfl (fun ls hl => ?_)
          refine lv_aload_n (pc := 210) hx hcb dX11_readItem_210 rfl (lv_at hl 2 rfl) ?_
          refine lv_aload_n (pc := 211) hx hcb dX11_readItem_211 rfl (lv_at hl 2 rfl) ?_
          refine kget (v := .int (σ22.1 0 5)) (pc := 212) hx hcb hts hown hS hW iwX11 kOM_0 rfl 5 (by decide) q863 rfl rfl dX11_readItem_212 ?_
          obtain ⟨K234, hk234, h⟩ := h
          have hK234 : ∀ (v24 : Int32) (H : Heap) (locs : List Loc) (ls : Array Slot), K234 v24 → kW kZM X (kA kZM X) s σ22 H locs → lv_has ls 7 [(0, .ref (X.2.1 0)), (5, .int r23)] → W p l e rm_X11_readItem s m args below meth c H locs 0 0 Q (F0 m 234 ls [.int v24, .ref (X.2.1 0)]) := by
            intro v24 H locs ls h hW hl
            have h := hk234 v24 h
            have hbt234 := h.1
            have h := h.2
            refine kput (ty := .boolean) (pc := 234) hx hcb hts hown hS hW iwX11 tyX11 tyX11_ok nmX11 kOM_0 rfl 5 (by decide) q863 rfl rfl rfl (kbit_n hbt234) (kbit_f hbt234) (Nat.le_of_ble_eq_true rfl) rfl dX11_readItem_234 (fun σ25 H locs eσ25 hW => ?_)
            have h := h σ25 eσ25
            refine lv_aload_n (pc := 237) hx hcb dX11_readItem_237 rfl (lv_at hl 0 rfl) ?_
            refine kget (v := .int (σ25.1 0 5)) (pc := 238) hx hcb hts hown hS hW iwX11 kOM_0 rfl 5 (by decide) q863 rfl rfl dX11_readItem_238 ?_
            refine lv_if_ne (tgt := 350) (pc := 241) hx hcb dX11_readItem_241 (by decide) (fun c241 => ?_) (fun c241 => ?_)
            · have h := h.1 c241
              exact hK350 σ25 _ _ _ h hW (lv_sub hl [0] rfl)
            · have h := h.2 c241
              refine lv_aload_n (pc := 244) hx hcb dX11_readItem_244 rfl (lv_at hl 0 rfl) ?_
              refine kget (v := .ref (X.2.1 1)) (pc := 245) hx hcb hts hown hS hW iwX11 kOM_0 rfl 0 (by decide) q858 rfl rfl dX11_readItem_245 ?_
              refine lv_bipush (v := 83) (pc := 248) hx hcb dX11_readItem_248 rfl ?_
              refine kiald 83 (pc := 250) hx hcb hS hW kIM_1 rfl (kin_of ⟨by decide, by decide⟩ (by decide)) dX11_readItem_250 ?_
              refine lv_topi (fun x6_26 ex6_26 => ?_)
              have h := h x6_26 ex6_26
              refine lv_istore (lv' := [(6, .int x6_26), (0, .ref (X.2.1 0)), (5, .int r23)]) (pc := 251) hx hcb dX11_readItem_251 hl (by decide) rfl (fun ls hl => ?_)
              refine lv_aload_n (pc := 253) hx hcb dX11_readItem_253 rfl (lv_at hl 1 rfl) ?_
              refine kget (v := .ref (X.2.1 1)) (pc := 254) hx hcb hts hown hS hW iwX11 kOM_0 rfl 0 (by decide) q858 rfl rfl dX11_readItem_254 ?_
              refine lv_bipush (v := 94) (pc := 257) hx hcb dX11_readItem_257 rfl ?_
              refine lv_iload (pc := 259) hx hcb dX11_readItem_259 (lv_at hl 0 rfl) ?_
              refine lv_iadd (pc := 261) hx hcb dX11_readItem_261 ?_
              refine lv_iload (pc := 262) hx hcb dX11_readItem_262 (lv_at hl 2 rfl) ?_
              have hin27 := h.1
              have h := h.2
              refine kiast ((94 + x6_26).toNatClampNeg) (pc := 264) hx hcb hS hW kIM_1 rfl (kin_of hin27 (by decide)) dX11_readItem_264 (fun σ28 H locs eσ28 hW => ?_)
              have h := h σ28 eσ28
              refine lv_aload_n (pc := 265) hx hcb dX11_readItem_265 rfl (lv_at hl 1 rfl) ?_
              refine kget (v := .ref (X.2.1 1)) (pc := 266) hx hcb hts hown hS hW iwX11 kOM_0 rfl 0 (by decide) q858 rfl rfl dX11_readItem_266 ?_
              refine lv_bipush (v := 99) (pc := 269) hx hcb dX11_readItem_269 rfl ?_
              refine lv_iload (pc := 271) hx hcb dX11_readItem_271 (lv_at hl 0 rfl) ?_
              refine lv_iadd (pc := 273) hx hcb dX11_readItem_273 ?_
              refine lv_iconst (v := 1) (pc := 274) hx hcb dX11_readItem_274 rfl ?_
              have hin29 := h.1
              have h := h.2
              refine kiast ((99 + x6_26).toNatClampNeg) (pc := 275) hx hcb hS hW kIM_1 rfl (kin_of hin29 (by decide)) dX11_readItem_275 (fun σ30 H locs eσ30 hW => ?_)
              have h := h σ30 eσ30
              refine lv_aload_n (pc := 276) hx hcb dX11_readItem_276 rfl (lv_at hl 1 rfl) ?_
              refine kget (v := .ref (X.2.1 1)) (pc := 277) hx hcb hts hown hS hW iwX11 kOM_0 rfl 0 (by decide) q858 rfl rfl dX11_readItem_277 ?_
              refine lv_bipush (v := 104) (pc := 280) hx hcb dX11_readItem_280 rfl ?_
              refine lv_bipush (v := 12) (pc := 282) hx hcb dX11_readItem_282 rfl ?_
              refine lv_iload (pc := 284) hx hcb dX11_readItem_284 (lv_at hl 0 rfl) ?_
              refine lv_imul (pc := 286) hx hcb dX11_readItem_286 ?_
              refine lv_iadd (pc := 287) hx hcb dX11_readItem_287 ?_
              refine lv_iconst (v := 0) (pc := 288) hx hcb dX11_readItem_288 rfl ?_
              have hin31 := h.1
              have h := h.2
              refine kiast ((104 + (12 * x6_26)).toNatClampNeg) (pc := 289) hx hcb hS hW kIM_1 rfl (kin_of hin31 (by decide)) dX11_readItem_289 (fun σ32 H locs eσ32 hW => ?_)
              have h := h σ32 eσ32
              refine lv_aload_n (pc := 290) hx hcb dX11_readItem_290 rfl (lv_at hl 1 rfl) ?_
              refine kget (v := .ref (X.2.1 1)) (pc := 291) hx hcb hts hown hS hW iwX11 kOM_0 rfl 0 (by decide) q858 rfl rfl dX11_readItem_291 ?_
              refine lv_bipush (v := 83) (pc := 294) hx hcb dX11_readItem_294 rfl ?_
              refine lv_dup2_11 (pc := 296) hx hcb dX11_readItem_296 rfl rfl ?_
              refine kiald 83 (pc := 297) hx hcb hS hW kIM_1 rfl (kin_of ⟨by decide, by decide⟩ (by decide)) dX11_readItem_297 ?_
              refine lv_iconst (v := 1) (pc := 298) hx hcb dX11_readItem_298 rfl ?_
              refine lv_iadd (pc := 299) hx hcb dX11_readItem_299 ?_
              refine kiast 83 (pc := 300) hx hcb hS hW kIM_1 rfl (kin_of ⟨by decide, by decide⟩ (by decide)) dX11_readItem_300 (fun σ33 H locs eσ33 hW => ?_)
              have h := h σ33 eσ33
              refine lv_goto (tgt := 350) (pc := 301) hx hcb dX11_readItem_301 (by decide) ?_
              exact hK350 σ33 _ _ _ h hW (lv_sub hl [1] rfl)
          obtain ⟨K229, hk229, h⟩ := h
          have hK229 : ∀  (H : Heap) (locs : List Loc) (ls : Array Slot), K229 → kW kZM X (kA kZM X) s σ22 H locs → lv_has ls 7 [(0, .ref (X.2.1 0)), (5, .int r23)] → W p l e rm_X11_readItem s m args below meth c H locs 0 0 Q (F0 m 229 ls [.ref (X.2.1 0)]) := by
            intro  H locs ls h hW hl
            have h := hk229 h
            refine lv_iconst (v := 1) (pc := 229) hx hcb dX11_readItem_229 rfl ?_
            refine lv_goto (tgt := 234) (pc := 230) hx hcb dX11_readItem_230 (by decide) ?_
            exact hK234 1 _ _ _ h hW (lv_sub hl [0, 1] rfl)
          refine lv_if_ne (tgt := 229) (pc := 215) hx hcb dX11_readItem_215 (by decide) (fun c215 => ?_) (fun c215 => ?_)
          · have h := h.1 c215
            exact hK229  _ _ _ h hW (lv_sub hl [2, 0] rfl)
          · have h := h.2 c215
            refine lv_aload_n (pc := 218) hx hcb dX11_readItem_218 rfl (lv_at hl 2 rfl) ?_
            refine kget (v := .ref (X.2.1 1)) (pc := 219) hx hcb hts hown hS hW iwX11 kOM_0 rfl 0 (by decide) q858 rfl rfl dX11_readItem_219 ?_
            refine lv_bipush (v := 83) (pc := 222) hx hcb dX11_readItem_222 rfl ?_
            refine kiald 83 (pc := 224) hx hcb hS hW kIM_1 rfl (kin_of ⟨by decide, by decide⟩ (by decide)) dX11_readItem_224 ?_
            refine lv_iconst (v := 5) (pc := 225) hx hcb dX11_readItem_225 rfl ?_
            refine lv_icmp_ne (tgt := 233) (pc := 226) hx hcb dX11_readItem_226 (by decide) (fun c226 => ?_) (fun c226 => ?_)
            · have h := h.1 c226
              refine lv_iconst (v := 0) (pc := 233) hx hcb dX11_readItem_233 rfl ?_
              exact hK234 0 _ _ _ h hW (lv_sub hl [2, 0] rfl)
            · have h := h.2 c226
              exact hK229  _ _ _ h hW (lv_sub hl [2, 0] rfl)
        · have h := h.2 hsw3
          by_cases hsw4 : w4 = 119
          · have h := h.1 hsw4
            refine lv_lookup (off := 288) (tgt := 304) (pc := 16) hx hcb dX11_readItem_16 (by decide) (by rw [hsw4]; rfl) (by decide) ?_
            refine lv_aload_n (pc := 304) hx hcb dX11_readItem_304 rfl (lv_at hl 1 rfl) ?_
            refine kcv (krunV (As := []) (rest := []) (pc := 305) hx hcb hml hown hts hS hW (c_X11_readWay l X σ3  _ h) mf_X11_readWay q968 kOM_0 rfl ⟨rfl, rfl⟩ ⟨Nat.le_of_ble_eq_true rfl, Nat.le_of_ble_eq_true rfl⟩ rfl hl.1 rfl (Nat.le_of_ble_eq_true rfl) dX11_readItem_305 ⟨Nat.zero_le _, Nat.zero_le _⟩) hS hW (fun σ34 H locs h hW => ?_)
            refine lv_goto (tgt := 350) (pc := 308) hx hcb dX11_readItem_308 (by decide) ?_
            exact hK350 σ34 _ _ _ h hW (lv_sub hl [1] rfl)
          · have h := h.2 hsw4
            by_cases hsw5 : w4 = 121
            · have h := h.1 hsw5
              refine lv_lookup (off := 60) (tgt := 76) (pc := 16) hx hcb dX11_readItem_16 (by decide) (by rw [hsw5]; rfl) (by decide) ?_
              refine lv_aload_n (pc := 76) hx hcb dX11_readItem_76 rfl (lv_at hl 1 rfl) ?_
              refine lv_iconst (v := 2) (pc := 77) hx hcb dX11_readItem_77 rfl ?_
              refine lv_bipush (v := 8) (pc := 78) hx hcb dX11_readItem_78 rfl ?_
              refine kci (krunV (As := [.int 2, .int 8]) (rest := []) (pc := 80) hx hcb hml hown hts hS hW (c_X11_number l X σ3 2 8 _ h) mf_X11_number q960 kOM_0 rfl ⟨rfl, rfl⟩ ⟨Nat.le_of_ble_eq_true rfl, Nat.le_of_ble_eq_true rfl⟩ rfl hl.1 rfl (Nat.le_of_ble_eq_true rfl) dX11_readItem_80 ⟨Nat.zero_le _, Nat.zero_le _⟩) hS hW (fun r36 σ35 H locs h hW => ?_)
              refine lv_istore_n (lv' := [(2, .int r36), (1, .int r2), (0, .ref (X.2.1 0))]) (pc := 83) hx hcb dX11_readItem_83 rfl hl (by decide) rfl (fun ls hl => ?_)
              refine lv_aload_n (pc := 84) hx hcb dX11_readItem_84 rfl (lv_at hl 2 rfl) ?_
              refine lv_aload_n (pc := 85) hx hcb dX11_readItem_85 rfl (lv_at hl 2 rfl) ?_
              refine kget (v := .int (σ35.1 0 5)) (pc := 86) hx hcb hts hown hS hW iwX11 kOM_0 rfl 5 (by decide) q863 rfl rfl dX11_readItem_86 ?_
              obtain ⟨K104, hk104, h⟩ := h
              have hK104 : ∀ (v37 : Int32) (H : Heap) (locs : List Loc) (ls : Array Slot), K104 v37 → kW kZM X (kA kZM X) s σ35 H locs → lv_has ls 7 [(0, .ref (X.2.1 0)), (2, .int r36)] → W p l e rm_X11_readItem s m args below meth c H locs 0 0 Q (F0 m 104 ls [.int v37, .ref (X.2.1 0)]) := by
                intro v37 H locs ls h hW hl
                have h := hk104 v37 h
                have hbt104 := h.1
                have h := h.2
                refine kput (ty := .boolean) (pc := 104) hx hcb hts hown hS hW iwX11 tyX11 tyX11_ok nmX11 kOM_0 rfl 5 (by decide) q863 rfl rfl rfl (kbit_n hbt104) (kbit_f hbt104) (Nat.le_of_ble_eq_true rfl) rfl dX11_readItem_104 (fun σ38 H locs eσ38 hW => ?_)
                have h := h σ38 eσ38
                refine lv_aload_n (pc := 107) hx hcb dX11_readItem_107 rfl (lv_at hl 0 rfl) ?_
                refine kget (v := .ref (X.2.1 1)) (pc := 108) hx hcb hts hown hS hW iwX11 kOM_0 rfl 0 (by decide) q858 rfl rfl dX11_readItem_108 ?_
                refine lv_bipush (v := 82) (pc := 111) hx hcb dX11_readItem_111 rfl ?_
                refine lv_iload_n (pc := 113) hx hcb dX11_readItem_113 rfl (lv_at hl 1 rfl) ?_
                refine kiast 82 (pc := 114) hx hcb hS hW kIM_1 rfl (kin_of ⟨by decide, by decide⟩ (by decide)) dX11_readItem_114 (fun σ39 H locs eσ39 hW => ?_)
                have h := h σ39 eσ39
                refine lv_goto (tgt := 350) (pc := 115) hx hcb dX11_readItem_115 (by decide) ?_
                exact hK350 σ39 _ _ _ h hW (lv_sub hl [0] rfl)
              obtain ⟨K99, hk99, h⟩ := h
              have hK99 : ∀  (H : Heap) (locs : List Loc) (ls : Array Slot), K99 → kW kZM X (kA kZM X) s σ35 H locs → lv_has ls 7 [(0, .ref (X.2.1 0)), (2, .int r36)] → W p l e rm_X11_readItem s m args below meth c H locs 0 0 Q (F0 m 99 ls [.ref (X.2.1 0)]) := by
                intro  H locs ls h hW hl
                have h := hk99 h
                refine lv_iconst (v := 1) (pc := 99) hx hcb dX11_readItem_99 rfl ?_
                refine lv_goto (tgt := 104) (pc := 100) hx hcb dX11_readItem_100 (by decide) ?_
                exact hK104 1 _ _ _ h hW (lv_sub hl [0, 1] rfl)
              refine lv_if_ne (tgt := 99) (pc := 89) hx hcb dX11_readItem_89 (by decide) (fun c89 => ?_) (fun c89 => ?_)
              · have h := h.1 c89
                exact hK99  _ _ _ h hW (lv_sub hl [2, 0] rfl)
              · have h := h.2 c89
                refine lv_aload_n (pc := 92) hx hcb dX11_readItem_92 rfl (lv_at hl 2 rfl) ?_
                refine kget (v := .int (σ35.1 0 6)) (pc := 93) hx hcb hts hown hS hW iwX11 kOM_0 rfl 6 (by decide) q864 rfl rfl dX11_readItem_93 ?_
                refine lv_if_eq (tgt := 103) (pc := 96) hx hcb dX11_readItem_96 (by decide) (fun c96 => ?_) (fun c96 => ?_)
                · have h := h.1 c96
                  refine lv_iconst (v := 0) (pc := 103) hx hcb dX11_readItem_103 rfl ?_
                  exact hK104 0 _ _ _ h hW (lv_sub hl [2, 0] rfl)
                · have h := h.2 c96
                  exact hK99  _ _ _ h hW (lv_sub hl [2, 0] rfl)
            · have h := h.2 hsw5
              refine lv_lookup (off := 329) (tgt := 345) (pc := 16) hx hcb dX11_readItem_16 (by decide) (klk_6 hsw0 hsw1 hsw2 hsw3 hsw4 hsw5) (by decide) ?_
              refine lv_aload_n (pc := 345) hx hcb dX11_readItem_345 rfl (lv_at hl 1 rfl) ?_
              refine lv_iconst (v := 1) (pc := 346) hx hcb dX11_readItem_346 rfl ?_
              refine kput (ty := .boolean) (pc := 347) hx hcb hts hown hS hW iwX11 tyX11 tyX11_ok nmX11 kOM_0 rfl 5 (by decide) q863 rfl rfl rfl rfl rfl (Nat.le_of_ble_eq_true rfl) rfl dX11_readItem_347 (fun σ40 H locs eσ40 hW => ?_)
              have h := h σ40 eσ40
              exact hK350 σ40 _ _ _ h hW (lv_sub hl [1] rfl)
abbrev rm_X11_findFault : Room := { frames := 3, cells := 0, slots := 0, locals := 72 }
set_option maxHeartbeats 4000000 in
set_option maxRecDepth 100000 in
theorem c_X11_findFault (l : Launch) (X : KX) (σ : Mm)  (Φ : Int32 → Mm → Prop) (h : wp_X11_findFault σ  Φ) : Met l yX11_findFault (.code yX11_findFault cX11_findFault 2 (some .int) :: kT) rm_X11_findFault (va_Pc [.ref (X.2.1 0)] (kPre kZM X σ)) (va_Qi (fun r σ' => Φ r σ') (fun σ' t => kPre kZM X σ' t) (kA kZM X)) 0 0 (kA kZM X) := by
  refine kofI (by decide) (Nat.le_of_ble_eq_true rfl) ?_
  intro p e s m args below meth c ls Q hx hcb hml hown hts hS hW hl hret
  have hown : s.vm.findClass RX11 = some m.cls := hown
  have hl : lv_has ls 2 [(0, .ref (X.2.1 0))] := hl
  unfold wp_X11_findFault at h
  refine lv_aload_n (pc := 0) hx hcb dX11_findFault_0 rfl (lv_at hl 0 rfl) ?_
  refine lv_iconst (v := 0) (pc := 1) hx hcb dX11_findFault_1 rfl ?_
  refine kput (ty := .int) (pc := 2) hx hcb hts hown hS hW iwX11 tyX11 tyX11_ok nmX11 kOM_0 rfl 4 (by decide) q862 rfl rfl rfl rfl rfl (Nat.le_of_ble_eq_true rfl) rfl dX11_findFault_2 (fun σ1 H locs eσ1 hW => ?_)
  have h := h σ1 eσ1
  refine lv_aload_n (pc := 5) hx hcb dX11_findFault_5 rfl (lv_at hl 0 rfl) ?_
  refine lv_iconst (v := 0) (pc := 6) hx hcb dX11_findFault_6 rfl ?_
  refine kput (ty := .boolean) (pc := 7) hx hcb hts hown hS hW iwX11 tyX11 tyX11_ok nmX11 kOM_0 rfl 5 (by decide) q863 rfl rfl rfl rfl rfl (Nat.le_of_ble_eq_true rfl) rfl dX11_findFault_7 (fun σ2 H locs eσ2 hW => ?_)
  have h := h σ2 eσ2
  refine lv_aload_n (pc := 10) hx hcb dX11_findFault_10 rfl (lv_at hl 0 rfl) ?_
  refine lv_iconst (v := 0) (pc := 11) hx hcb dX11_findFault_11 rfl ?_
  refine kput (ty := .boolean) (pc := 12) hx hcb hts hown hS hW iwX11 tyX11 tyX11_ok nmX11 kOM_0 rfl 6 (by decide) q864 rfl rfl rfl rfl rfl (Nat.le_of_ble_eq_true rfl) rfl dX11_findFault_12 (fun σ3 H locs eσ3 hW => ?_)
  have h := h σ3 eσ3
  refine lv_iconst (v := 0) (pc := 15) hx hcb dX11_findFault_15 rfl ?_
  refine lv_istore_n (lv' := [(1, .int 0), (0, .ref (X.2.1 0))]) (pc := 16) hx hcb dX11_findFault_16 rfl hl (by decide) rfl (fun ls hl => ?_)
  obtain ⟨K39, hk39, h⟩ := h
  have hK39 : ∀ (σ4 : Mm) (H : Heap) (locs : List Loc) (ls : Array Slot), K39 σ4 → kW kZM X (kA kZM X) s σ4 H locs → lv_has ls 2 [(0, .ref (X.2.1 0))] → W p l e rm_X11_findFault s m args below meth c H locs 0 0 Q (F0 m 39 ls []) := by
    intro σ4 H locs ls h hW hl
    have h := hk39 σ4 h
    refine lv_aload_n (pc := 39) hx hcb dX11_findFault_39 rfl (lv_at hl 0 rfl) ?_
    refine kget (v := .ref (X.2.1 1)) (pc := 40) hx hcb hts hown hS hW iwX11 kOM_0 rfl 0 (by decide) q858 rfl rfl dX11_findFault_40 ?_
    refine lv_bipush (v := 82) (pc := 43) hx hcb dX11_findFault_43 rfl ?_
    refine lv_iconst (v := 4) (pc := 45) hx hcb dX11_findFault_45 rfl ?_
    refine kiast 82 (pc := 46) hx hcb hS hW kIM_1 rfl (kin_of ⟨by decide, by decide⟩ (by decide)) dX11_findFault_46 (fun σ5 H locs eσ5 hW => ?_)
    have h := h σ5 eσ5
    have hL47 : ∀ (n : Nat) (σ6 : Mm) (H : Heap) (locs : List Loc) (ls : Array Slot), wp_X11_findFault_L47 Φ n σ6 → kW kZM X (kA kZM X) s σ6 H locs → lv_has ls 2 [(0, .ref (X.2.1 0))] → W p l e rm_X11_findFault s m args below meth c H locs 0 0 Q (F0 m 47 ls []) := by
      intro n
      induction n with
      | zero =>
        intro σ6 H locs ls h
        exact False.elim h
      | succ n ih =>
        intro σ6 H locs ls h hW hl
        unfold wp_X11_findFault_L47 at h
        refine lv_aload_n (pc := 47) hx hcb dX11_findFault_47 rfl (lv_at hl 0 rfl) ?_
        refine kget (v := .int (σ6.1 0 4)) (pc := 48) hx hcb hts hown hS hW iwX11 kOM_0 rfl 4 (by decide) q862 rfl rfl dX11_findFault_48 ?_
        refine lv_aload_n (pc := 51) hx hcb dX11_findFault_51 rfl (lv_at hl 0 rfl) ?_
        refine kget (v := .int (σ6.1 0 3)) (pc := 52) hx hcb hts hown hS hW iwX11 kOM_0 rfl 3 (by decide) q861 rfl rfl dX11_findFault_52 ?_
        refine lv_icmp_ge (tgt := 79) (pc := 55) hx hcb dX11_findFault_55 (by decide) (fun c55 => ?_) (fun c55 => ?_)
        · have h := h.1 c55
          refine lv_bipush (v := (-4)) (pc := 79) hx hcb dX11_findFault_79 rfl ?_
          exact hret _ _ _ _ _ _ rfl h hW dX11_findFault_81
        · have h := h.2 c55
          refine lv_aload_n (pc := 58) hx hcb dX11_findFault_58 rfl (lv_at hl 0 rfl) ?_
          refine kget (v := .int (σ6.1 0 4)) (pc := 59) hx hcb hts hown hS hW iwX11 kOM_0 rfl 4 (by decide) q862 rfl rfl dX11_findFault_59 ?_
          refine lv_topi (fun x1_7 ex1_7 => ?_)
          have h := h x1_7 ex1_7
          refine lv_istore_n (lv' := [(1, .int x1_7), (0, .ref (X.2.1 0))]) (pc := 62) hx hcb dX11_findFault_62 rfl hl (by decide) rfl (fun ls hl => ?_)
          refine lv_aload_n (pc := 63) hx hcb dX11_findFault_63 rfl (lv_at hl 1 rfl) ?_
          refine kcv (krunV (As := []) (rest := []) (pc := 64) hx hcb hml hown hts hS hW (c_X11_readItem l X σ6  _ h) mf_X11_readItem q952 kOM_0 rfl ⟨rfl, rfl⟩ ⟨Nat.le_of_ble_eq_true rfl, Nat.le_of_ble_eq_true rfl⟩ rfl hl.1 rfl (Nat.le_of_ble_eq_true rfl) dX11_findFault_64 ⟨Nat.zero_le _, Nat.zero_le _⟩) hS hW (fun σ8 H locs h hW => ?_)
          refine lv_aload_n (pc := 67) hx hcb dX11_findFault_67 rfl (lv_at hl 1 rfl) ?_
          refine kget (v := .int (σ8.1 0 5)) (pc := 68) hx hcb hts hown hS hW iwX11 kOM_0 rfl 5 (by decide) q863 rfl rfl dX11_findFault_68 ?_
          refine lv_if_eq (tgt := 76) (pc := 71) hx hcb dX11_findFault_71 (by decide) (fun c71 => ?_) (fun c71 => ?_)
          · have h := h.1 c71
            refine lv_goto (tgt := 47) (pc := 76) hx hcb dX11_findFault_76 (by decide) ?_
            exact ih σ8 _ _ _ h hW (lv_sub hl [1] rfl)
          · have h := h.2 c71
            refine lv_iload_n (pc := 74) hx hcb dX11_findFault_74 rfl (lv_at hl 0 rfl) ?_
            exact hret _ _ _ _ _ _ rfl h hW dX11_findFault_75
    obtain ⟨n, h⟩ := h
    exact hL47 n σ5 _ _ _ h hW (lv_sub hl [0] rfl)
  have hL17 : ∀ (n : Nat) (σ9 : Mm) (x1_10 : Int32) (H : Heap) (locs : List Loc) (ls : Array Slot), wp_X11_findFault_L17 K39 n σ9 x1_10 → kW kZM X (kA kZM X) s σ9 H locs → lv_has ls 2 [(0, .ref (X.2.1 0)), (1, .int x1_10)] → W p l e rm_X11_findFault s m args below meth c H locs 0 0 Q (F0 m 17 ls []) := by
    intro n
    induction n with
    | zero =>
      intro σ9 x1_10 H locs ls h
      exact False.elim h
    | succ n ih =>
      intro σ9 x1_10 H locs ls h hW hl
      unfold wp_X11_findFault_L17 at h
      refine lv_iload_n (pc := 17) hx hcb dX11_findFault_17 rfl (lv_at hl 1 rfl) ?_
      refine lv_bipush (v := 82) (pc := 18) hx hcb dX11_findFault_18 rfl ?_
      refine lv_icmp_ge (tgt := 39) (pc := 20) hx hcb dX11_findFault_20 (by decide) (fun c20 => ?_) (fun c20 => ?_)
      · have h := h.1 c20
        exact hK39 σ9 _ _ _ h hW (lv_sub hl [0] rfl)
      · have h := h.2 c20
        refine lv_aload_n (pc := 23) hx hcb dX11_findFault_23 rfl (lv_at hl 0 rfl) ?_
        refine kget (v := .ref (X.2.1 1)) (pc := 24) hx hcb hts hown hS hW iwX11 kOM_0 rfl 0 (by decide) q858 rfl rfl dX11_findFault_24 ?_
        refine lv_bipush (v := 82) (pc := 27) hx hcb dX11_findFault_27 rfl ?_
        refine lv_iload_n (pc := 29) hx hcb dX11_findFault_29 rfl (lv_at hl 1 rfl) ?_
        refine lv_iadd (pc := 30) hx hcb dX11_findFault_30 ?_
        refine lv_iconst (v := 0) (pc := 31) hx hcb dX11_findFault_31 rfl ?_
        have hin11 := h.1
        have h := h.2
        refine kiast ((82 + x1_10).toNatClampNeg) (pc := 32) hx hcb hS hW kIM_1 rfl (kin_of hin11 (by decide)) dX11_findFault_32 (fun σ12 H locs eσ12 hW => ?_)
        have h := h σ12 eσ12
        refine lv_iinc (v := x1_10 + 1) (lv' := [(1, .int (x1_10 + 1)), (0, .ref (X.2.1 0))]) (pc := 33) hx hcb dX11_findFault_33 hl (k := 1) rfl rfl (by decide) rfl (fun ls hl => ?_)
        refine lv_goto (tgt := 17) (pc := 36) hx hcb dX11_findFault_36 (by decide) ?_
        exact ih σ12 (x1_10 + 1) _ _ _ h hW (lv_sub hl [1, 0] rfl)
  obtain ⟨n, h⟩ := h
  exact hL17 n σ3 0 _ _ _ h hW (lv_sub hl [1, 0] rfl)
abbrev rm_X11_fault : Room := { frames := 4, cells := 0, slots := 0, locals := 93 }
set_option maxHeartbeats 4000000 in
set_option maxRecDepth 100000 in
theorem c_X11_fault (l : Launch) (X : KX) (σ : Mm)  (Φ : Int32 → Mm → Prop) (h : wp_X11_fault σ  Φ) : Met l yX11_fault (.code yX11_fault cX11_fault 1 (some .int) :: kT) rm_X11_fault (va_Pc [.ref (X.2.1 0)] (kPre kZM X σ)) (va_Qi (fun r σ' => Φ r σ') (fun σ' t => kPre kZM X σ' t) (kA kZM X)) 0 0 (kA kZM X) := by
  refine kofI (by decide) (Nat.le_of_ble_eq_true rfl) ?_
  intro p e s m args below meth c ls Q hx hcb hml hown hts hS hW hl hret
  have hown : s.vm.findClass RX11 = some m.cls := hown
  have hl : lv_has ls 1 [(0, .ref (X.2.1 0))] := hl
  unfold wp_X11_fault at h
  refine lv_aload_n (pc := 0) hx hcb dX11_fault_0 rfl (lv_at hl 0 rfl) ?_
  refine kci (krunV (As := []) (rest := []) (pc := 1) hx hcb hml hown hts hS hW (c_X11_findFault l X σ  _ h) mf_X11_findFault q948 kOM_0 rfl ⟨rfl, rfl⟩ ⟨Nat.le_of_ble_eq_true rfl, Nat.le_of_ble_eq_true rfl⟩ rfl hl.1 rfl (Nat.le_of_ble_eq_true rfl) dX11_fault_1 ⟨Nat.zero_le _, Nat.zero_le _⟩) hS hW (fun r2 σ1 H locs h hW => ?_)
  exact hret _ _ _ _ _ _ rfl h hW dX11_fault_4
abbrev rm_X11_isPerson : Room := { frames := 1, cells := 0, slots := 0, locals := 22 }
set_option maxHeartbeats 4000000 in
set_option maxRecDepth 100000 in
theorem c_X11_isPerson (l : Launch) (X : KX) (σ : Mm) (x1 : Int32) (Φ : Int32 → Prop) (h : wp_X11_isPerson σ x1 Φ) : Met l yX11_isPerson (.code yX11_isPerson cX11_isPerson 2 (some .boolean) :: kT) rm_X11_isPerson (va_Pc [.ref (X.2.1 0), .int x1] (kPre kZM X σ)) (va_Qi (fun r σ' => Φ r ∧ σ = σ') (fun σ' t => kPre kZM X σ' t) (kA kZM X)) 0 0 (kA kZM X) := by
  refine kofI (by decide) (Nat.le_of_ble_eq_true rfl) ?_
  intro p e s m args below meth c ls Q hx hcb hml hown hts hS hW hl hret
  have hown : s.vm.findClass RX11 = some m.cls := hown
  have hl : lv_has ls 2 [(0, .ref (X.2.1 0)), (1, .int x1)] := hl
  unfold wp_X11_isPerson at h
  refine lv_iload_n (pc := 0) hx hcb dX11_isPerson_0 rfl (lv_at hl 1 rfl) ?_
  refine lv_iconst (v := 0) (pc := 1) hx hcb dX11_isPerson_1 rfl ?_
  refine lv_aload_n (pc := 2) hx hcb dX11_isPerson_2 rfl (lv_at hl 0 rfl) ?_
  refine kget (v := .ref (X.2.1 1)) (pc := 3) hx hcb hts hown hS hW iwX11 kOM_0 rfl 0 (by decide) q858 rfl rfl dX11_isPerson_3 ?_
  refine lv_iconst (v := 1) (pc := 6) hx hcb dX11_isPerson_6 rfl ?_
  refine kiald 1 (pc := 7) hx hcb hS hW kIM_1 rfl (kin_of ⟨by decide, by decide⟩ (by decide)) dX11_isPerson_7 ?_
  refine lv_iconst (v := 1) (pc := 8) hx hcb dX11_isPerson_8 rfl ?_
  refine lv_isub (pc := 9) hx hcb dX11_isPerson_9 ?_
  refine kci (krunS (As := [.int x1, .int 0, .int ((σ.1 1 1) - 1)]) (rest := []) (pc := 10) hx hcb hml hown hts hS hW (c_X11_in l X σ x1 0 ((σ.1 1 1) - 1) _ h) mf_X11_in q936 ⟨rfl, rfl⟩ ⟨Nat.le_of_ble_eq_true rfl, Nat.le_of_ble_eq_true rfl⟩ rfl hl.1 rfl (Nat.le_of_ble_eq_true rfl) dX11_isPerson_10 ⟨Nat.zero_le _, Nat.zero_le _⟩) hS hW (fun r2 σ1 H locs h hW => ?_)
  obtain ⟨h, rfl⟩ := h
  have hbt := h.1
  have h := h.2
  exact hret _ _ _ _ _ _ (kbit_n hbt) ⟨h, rfl⟩ hW dX11_isPerson_13
abbrev rm_X11_know : Room := { frames := 0, cells := 0, slots := 0, locals := 0 }
set_option maxHeartbeats 4000000 in
set_option maxRecDepth 100000 in
theorem c_X11_know (l : Launch) (X : KX) (σ : Mm)  (Φ : Mm → Prop) (h : wp_X11_know σ  Φ) : Met l yX11_know (.code yX11_know cX11_know 2 none :: kT) rm_X11_know (va_Pc [.ref (X.2.1 0)] (kPre kZM X σ)) (va_Qv (fun σ' => Φ σ') (fun σ' t => kPre kZM X σ' t) (kA kZM X)) 0 0 (kA kZM X) := by
  refine kofV (by decide) (Nat.le_of_ble_eq_true rfl) ?_
  intro p e s m args below meth c ls Q hx hcb hml hown hts hS hW hl hret
  have hown : s.vm.findClass RX11 = some m.cls := hown
  have hl : lv_has ls 2 [(0, .ref (X.2.1 0))] := hl
  unfold wp_X11_know at h
  refine lv_aload_n (pc := 0) hx hcb dX11_know_0 rfl (lv_at hl 0 rfl) ?_
  refine kget (v := .int (σ.1 0 9)) (pc := 1) hx hcb hts hown hS hW iwX11 kOM_0 rfl 9 (by decide) q867 rfl rfl dX11_know_1 ?_
  refine lv_bipush (v := 8) (pc := 4) hx hcb dX11_know_4 rfl ?_
  obtain ⟨K47, hk47, h⟩ := h
  have hK47 : ∀ (σ1 : Mm) (H : Heap) (locs : List Loc) (ls : Array Slot), K47 σ1 → kW kZM X (kA kZM X) s σ1 H locs → lv_has ls 2 [(0, .ref (X.2.1 0))] → W p l e rm_X11_know s m args below meth c H locs 0 0 Q (F0 m 47 ls []) := by
    intro σ1 H locs ls h hW hl
    have h := hk47 σ1 h
    refine lv_iconst (v := 0) (pc := 47) hx hcb dX11_know_47 rfl ?_
    refine lv_istore_n (lv' := [(1, .int 0), (0, .ref (X.2.1 0))]) (pc := 48) hx hcb dX11_know_48 rfl hl (by decide) rfl (fun ls hl => ?_)
    obtain ⟨K79, hk79, h⟩ := h
    have hK79 : ∀ (σ2 : Mm) (H : Heap) (locs : List Loc) (ls : Array Slot), K79 σ2 → kW kZM X (kA kZM X) s σ2 H locs → lv_has ls 2 [(0, .ref (X.2.1 0))] → W p l e rm_X11_know s m args below meth c H locs 0 0 Q (F0 m 79 ls []) := by
      intro σ2 H locs ls h hW hl
      have h := hk79 σ2 h
      refine lv_aload_n (pc := 79) hx hcb dX11_know_79 rfl (lv_at hl 0 rfl) ?_
      refine lv_dup (pc := 80) hx hcb dX11_know_80 rfl ?_
      refine kget (v := .int (σ2.1 0 9)) (pc := 81) hx hcb hts hown hS hW iwX11 kOM_0 rfl 9 (by decide) q867 rfl rfl dX11_know_81 ?_
      refine lv_iconst (v := 1) (pc := 84) hx hcb dX11_know_84 rfl ?_
      refine lv_iadd (pc := 85) hx hcb dX11_know_85 ?_
      refine kput (ty := .int) (pc := 86) hx hcb hts hown hS hW iwX11 tyX11 tyX11_ok nmX11 kOM_0 rfl 9 (by decide) q867 rfl rfl rfl rfl rfl (Nat.le_of_ble_eq_true rfl) rfl dX11_know_86 (fun σ3 H locs eσ3 hW => ?_)
      have h := h σ3 eσ3
      exact hret _ _ _ _ _ h hW dX11_know_89
    have hL49 : ∀ (n : Nat) (σ4 : Mm) (x1_5 : Int32) (H : Heap) (locs : List Loc) (ls : Array Slot), wp_X11_know_L49 K79 n σ4 x1_5 → kW kZM X (kA kZM X) s σ4 H locs → lv_has ls 2 [(0, .ref (X.2.1 0)), (1, .int x1_5)] → W p l e rm_X11_know s m args below meth c H locs 0 0 Q (F0 m 49 ls []) := by
      intro n
      induction n with
      | zero =>
        intro σ4 x1_5 H locs ls h
        exact False.elim h
      | succ n ih =>
        intro σ4 x1_5 H locs ls h hW hl
        unfold wp_X11_know_L49 at h
        refine lv_iload_n (pc := 49) hx hcb dX11_know_49 rfl (lv_at hl 1 rfl) ?_
        refine lv_iconst (v := 3) (pc := 50) hx hcb dX11_know_50 rfl ?_
        refine lv_icmp_ge (tgt := 79) (pc := 51) hx hcb dX11_know_51 (by decide) (fun c51 => ?_) (fun c51 => ?_)
        · have h := h.1 c51
          exact hK79 σ4 _ _ _ h hW (lv_sub hl [0] rfl)
        · have h := h.2 c51
          refine lv_aload_n (pc := 54) hx hcb dX11_know_54 rfl (lv_at hl 0 rfl) ?_
          refine kget (v := .ref (X.2.1 5)) (pc := 55) hx hcb hts hown hS hW iwX11 kOM_0 rfl 8 (by decide) q866 rfl rfl dX11_know_55 ?_
          refine lv_iconst (v := 3) (pc := 58) hx hcb dX11_know_58 rfl ?_
          refine lv_aload_n (pc := 59) hx hcb dX11_know_59 rfl (lv_at hl 0 rfl) ?_
          refine kget (v := .int (σ4.1 0 9)) (pc := 60) hx hcb hts hown hS hW iwX11 kOM_0 rfl 9 (by decide) q867 rfl rfl dX11_know_60 ?_
          refine lv_imul (pc := 63) hx hcb dX11_know_63 ?_
          refine lv_iload_n (pc := 64) hx hcb dX11_know_64 rfl (lv_at hl 1 rfl) ?_
          refine lv_iadd (pc := 65) hx hcb dX11_know_65 ?_
          refine lv_aload_n (pc := 66) hx hcb dX11_know_66 rfl (lv_at hl 0 rfl) ?_
          refine kget (v := .ref (X.2.1 4)) (pc := 67) hx hcb hts hown hS hW iwX11 kOM_0 rfl 7 (by decide) q865 rfl rfl dX11_know_67 ?_
          refine lv_iload_n (pc := 70) hx hcb dX11_know_70 rfl (lv_at hl 1 rfl) ?_
          have hin6 := h.1
          have h := h.2
          refine kiald (x1_5.toNatClampNeg) (pc := 71) hx hcb hS hW kIM_4 rfl (kin_of hin6 (by decide)) dX11_know_71 ?_
          have hin7 := h.1
          have h := h.2
          refine kiast (((3 * (σ4.1 0 9)) + x1_5).toNatClampNeg) (pc := 72) hx hcb hS hW kIM_5 rfl (kin_of hin7 (by decide)) dX11_know_72 (fun σ8 H locs eσ8 hW => ?_)
          have h := h σ8 eσ8
          refine lv_iinc (v := x1_5 + 1) (lv' := [(1, .int (x1_5 + 1)), (0, .ref (X.2.1 0))]) (pc := 73) hx hcb dX11_know_73 hl (k := 1) rfl rfl (by decide) rfl (fun ls hl => ?_)
          refine lv_goto (tgt := 49) (pc := 76) hx hcb dX11_know_76 (by decide) ?_
          exact ih σ8 (x1_5 + 1) _ _ _ h hW (lv_sub hl [1, 0] rfl)
    obtain ⟨n, h⟩ := h
    exact hL49 n σ1 0 _ _ _ h hW (lv_sub hl [1, 0] rfl)
  refine lv_icmp_ne (tgt := 47) (pc := 6) hx hcb dX11_know_6 (by decide) (fun c6 => ?_) (fun c6 => ?_)
  · have h := h.1 c6
    exact hK47 σ _ _ _ h hW (lv_sub hl [0] rfl)
  · have h := h.2 c6
    refine lv_iconst (v := 0) (pc := 9) hx hcb dX11_know_9 rfl ?_
    refine lv_istore_n (lv' := [(1, .int 0), (0, .ref (X.2.1 0))]) (pc := 10) hx hcb dX11_know_10 rfl hl (by decide) rfl (fun ls hl => ?_)
    obtain ⟨K37, hk37, h⟩ := h
    have hK37 : ∀ (σ9 : Mm) (H : Heap) (locs : List Loc) (ls : Array Slot), K37 σ9 → kW kZM X (kA kZM X) s σ9 H locs → lv_has ls 2 [(0, .ref (X.2.1 0))] → W p l e rm_X11_know s m args below meth c H locs 0 0 Q (F0 m 37 ls []) := by
      intro σ9 H locs ls h hW hl
      have h := hk37 σ9 h
      refine lv_aload_n (pc := 37) hx hcb dX11_know_37 rfl (lv_at hl 0 rfl) ?_
      refine lv_dup (pc := 38) hx hcb dX11_know_38 rfl ?_
      refine kget (v := .int (σ9.1 0 9)) (pc := 39) hx hcb hts hown hS hW iwX11 kOM_0 rfl 9 (by decide) q867 rfl rfl dX11_know_39 ?_
      refine lv_iconst (v := 1) (pc := 42) hx hcb dX11_know_42 rfl ?_
      refine lv_isub (pc := 43) hx hcb dX11_know_43 ?_
      refine kput (ty := .int) (pc := 44) hx hcb hts hown hS hW iwX11 tyX11 tyX11_ok nmX11 kOM_0 rfl 9 (by decide) q867 rfl rfl rfl rfl rfl (Nat.le_of_ble_eq_true rfl) rfl dX11_know_44 (fun σ10 H locs eσ10 hW => ?_)
      have h := h σ10 eσ10
      exact hK47 σ10 _ _ _ h hW (lv_sub hl [0] rfl)
    have hL11 : ∀ (n : Nat) (σ11 : Mm) (x1_12 : Int32) (H : Heap) (locs : List Loc) (ls : Array Slot), wp_X11_know_L11 K37 n σ11 x1_12 → kW kZM X (kA kZM X) s σ11 H locs → lv_has ls 2 [(0, .ref (X.2.1 0)), (1, .int x1_12)] → W p l e rm_X11_know s m args below meth c H locs 0 0 Q (F0 m 11 ls []) := by
      intro n
      induction n with
      | zero =>
        intro σ11 x1_12 H locs ls h
        exact False.elim h
      | succ n ih =>
        intro σ11 x1_12 H locs ls h hW hl
        unfold wp_X11_know_L11 at h
        refine lv_iload_n (pc := 11) hx hcb dX11_know_11 rfl (lv_at hl 1 rfl) ?_
        refine lv_bipush (v := 21) (pc := 12) hx hcb dX11_know_12 rfl ?_
        refine lv_icmp_ge (tgt := 37) (pc := 14) hx hcb dX11_know_14 (by decide) (fun c14 => ?_) (fun c14 => ?_)
        · have h := h.1 c14
          exact hK37 σ11 _ _ _ h hW (lv_sub hl [0] rfl)
        · have h := h.2 c14
          refine lv_aload_n (pc := 17) hx hcb dX11_know_17 rfl (lv_at hl 0 rfl) ?_
          refine kget (v := .ref (X.2.1 5)) (pc := 18) hx hcb hts hown hS hW iwX11 kOM_0 rfl 8 (by decide) q866 rfl rfl dX11_know_18 ?_
          refine lv_iload_n (pc := 21) hx hcb dX11_know_21 rfl (lv_at hl 1 rfl) ?_
          refine lv_aload_n (pc := 22) hx hcb dX11_know_22 rfl (lv_at hl 0 rfl) ?_
          refine kget (v := .ref (X.2.1 5)) (pc := 23) hx hcb hts hown hS hW iwX11 kOM_0 rfl 8 (by decide) q866 rfl rfl dX11_know_23 ?_
          refine lv_iload_n (pc := 26) hx hcb dX11_know_26 rfl (lv_at hl 1 rfl) ?_
          refine lv_iconst (v := 3) (pc := 27) hx hcb dX11_know_27 rfl ?_
          refine lv_iadd (pc := 28) hx hcb dX11_know_28 ?_
          have hin13 := h.1
          have h := h.2
          refine kiald ((x1_12 + 3).toNatClampNeg) (pc := 29) hx hcb hS hW kIM_5 rfl (kin_of hin13 (by decide)) dX11_know_29 ?_
          have hin14 := h.1
          have h := h.2
          refine kiast (x1_12.toNatClampNeg) (pc := 30) hx hcb hS hW kIM_5 rfl (kin_of hin14 (by decide)) dX11_know_30 (fun σ15 H locs eσ15 hW => ?_)
          have h := h σ15 eσ15
          refine lv_iinc (v := x1_12 + 1) (lv' := [(1, .int (x1_12 + 1)), (0, .ref (X.2.1 0))]) (pc := 31) hx hcb dX11_know_31 hl (k := 1) rfl rfl (by decide) rfl (fun ls hl => ?_)
          refine lv_goto (tgt := 11) (pc := 34) hx hcb dX11_know_34 (by decide) ?_
          exact ih σ15 (x1_12 + 1) _ _ _ h hW (lv_sub hl [1, 0] rfl)
    obtain ⟨n, h⟩ := h
    exact hL11 n σ 0 _ _ _ h hW (lv_sub hl [1, 0] rfl)
abbrev rm_X11_feed : Room := { frames := 2, cells := 0, slots := 0, locals := 45 }
set_option maxHeartbeats 4000000 in
set_option maxRecDepth 100000 in
theorem c_X11_feed (l : Launch) (X : KX) (σ : Mm) (x1 : Int32) (Φ : Int32 → Mm → Prop) (h : wp_X11_feed σ x1 Φ) : Met l yX11_feed (.code yX11_feed cX11_feed 2 (some .int) :: kT) rm_X11_feed (va_Pc [.ref (X.2.1 0), .int x1] (kPre kZM X σ)) (va_Qi (fun r σ' => Φ r σ') (fun σ' t => kPre kZM X σ' t) (kA kZM X)) 0 0 (kA kZM X) := by
  refine kofI (by decide) (Nat.le_of_ble_eq_true rfl) ?_
  intro p e s m args below meth c ls Q hx hcb hml hown hts hS hW hl hret
  have hown : s.vm.findClass RX11 = some m.cls := hown
  have hl : lv_has ls 2 [(0, .ref (X.2.1 0)), (1, .int x1)] := hl
  unfold wp_X11_feed at h
  refine lv_aload_n (pc := 0) hx hcb dX11_feed_0 rfl (lv_at hl 0 rfl) ?_
  refine lv_iload_n (pc := 1) hx hcb dX11_feed_1 rfl (lv_at hl 1 rfl) ?_
  refine kci (krunV (As := [.int x1]) (rest := []) (pc := 2) hx hcb hml hown hts hS hW (c_X11_isPerson l X σ x1 _ h) mf_X11_isPerson q988 kOM_0 rfl ⟨rfl, rfl⟩ ⟨Nat.le_of_ble_eq_true rfl, Nat.le_of_ble_eq_true rfl⟩ rfl hl.1 rfl (Nat.le_of_ble_eq_true rfl) dX11_feed_2 ⟨Nat.zero_le _, Nat.zero_le _⟩) hS hW (fun r2 σ1 H locs h hW => ?_)
  obtain ⟨h, rfl⟩ := h
  refine lv_if_ne (tgt := 10) (pc := 5) hx hcb dX11_feed_5 (by decide) (fun c5 => ?_) (fun c5 => ?_)
  · have h := h.1 c5
    refine lv_aload_n (pc := 10) hx hcb dX11_feed_10 rfl (lv_at hl 0 rfl) ?_
    refine lv_aload_n (pc := 11) hx hcb dX11_feed_11 rfl (lv_at hl 0 rfl) ?_
    refine kget (v := .ref (X.2.1 4)) (pc := 12) hx hcb hts hown hS hW iwX11 kOM_0 rfl 7 (by decide) q865 rfl rfl dX11_feed_12 ?_
    refine lv_iconst (v := 1) (pc := 15) hx hcb dX11_feed_15 rfl ?_
    refine kiald 1 (pc := 16) hx hcb hS hW kIM_4 rfl (kin_of ⟨by decide, by decide⟩ (by decide)) dX11_feed_16 ?_
    refine lv_iload_n (pc := 17) hx hcb dX11_feed_17 rfl (lv_at hl 1 rfl) ?_
    refine lv_aload_n (pc := 18) hx hcb dX11_feed_18 rfl (lv_at hl 0 rfl) ?_
    refine kget (v := .ref (X.2.1 4)) (pc := 19) hx hcb hts hown hS hW iwX11 kOM_0 rfl 7 (by decide) q865 rfl rfl dX11_feed_19 ?_
    refine lv_iconst (v := 0) (pc := 22) hx hcb dX11_feed_22 rfl ?_
    refine kiald 0 (pc := 23) hx hcb hS hW kIM_4 rfl (kin_of ⟨by decide, by decide⟩ (by decide)) dX11_feed_23 ?_
    refine kci (krunV (As := [.int (σ.1 4 1), .int x1, .int (σ.1 4 0)]) (rest := []) (pc := 24) hx hcb hml hown hts hS hW (c_X11_mayFeed l X σ (σ.1 4 1) x1 (σ.1 4 0) _ h) mf_X11_mayFeed q1000 kOM_0 rfl ⟨rfl, rfl⟩ ⟨Nat.le_of_ble_eq_true rfl, Nat.le_of_ble_eq_true rfl⟩ rfl hl.1 rfl (Nat.le_of_ble_eq_true rfl) dX11_feed_24 ⟨Nat.zero_le _, Nat.zero_le _⟩) hS hW (fun r4 σ3 H locs h hW => ?_)
    obtain ⟨h, rfl⟩ := h
    refine lv_if_ne (tgt := 33) (pc := 27) hx hcb dX11_feed_27 (by decide) (fun c27 => ?_) (fun c27 => ?_)
    · have h := h.1 c27
      refine lv_aload_n (pc := 33) hx hcb dX11_feed_33 rfl (lv_at hl 0 rfl) ?_
      refine kcv (krunV (As := []) (rest := []) (pc := 34) hx hcb hml hown hts hS hW (c_X11_know l X σ  _ h) mf_X11_know q1007 kOM_0 rfl ⟨rfl, rfl⟩ ⟨Nat.le_of_ble_eq_true rfl, Nat.le_of_ble_eq_true rfl⟩ rfl hl.1 rfl (Nat.le_of_ble_eq_true rfl) dX11_feed_34 ⟨Nat.zero_le _, Nat.zero_le _⟩) hS hW (fun σ5 H locs h hW => ?_)
      refine lv_aload_n (pc := 37) hx hcb dX11_feed_37 rfl (lv_at hl 0 rfl) ?_
      refine kget (v := .ref (X.2.1 4)) (pc := 38) hx hcb hts hown hS hW iwX11 kOM_0 rfl 7 (by decide) q865 rfl rfl dX11_feed_38 ?_
      refine lv_iconst (v := 1) (pc := 41) hx hcb dX11_feed_41 rfl ?_
      refine lv_aload_n (pc := 42) hx hcb dX11_feed_42 rfl (lv_at hl 0 rfl) ?_
      refine lv_aload_n (pc := 43) hx hcb dX11_feed_43 rfl (lv_at hl 0 rfl) ?_
      refine kget (v := .ref (X.2.1 4)) (pc := 44) hx hcb hts hown hS hW iwX11 kOM_0 rfl 7 (by decide) q865 rfl rfl dX11_feed_44 ?_
      refine lv_iconst (v := 1) (pc := 47) hx hcb dX11_feed_47 rfl ?_
      refine kiald 1 (pc := 48) hx hcb hS hW kIM_4 rfl (kin_of ⟨by decide, by decide⟩ (by decide)) dX11_feed_48 ?_
      refine lv_iload_n (pc := 49) hx hcb dX11_feed_49 rfl (lv_at hl 1 rfl) ?_
      refine kci (krunV (As := [.int (σ5.1 4 1), .int x1]) (rest := [.int 1, .ref (X.2.1 4)]) (pc := 50) hx hcb hml hown hts hS hW (c_X11_fedBy l X σ5 (σ5.1 4 1) x1 _ h) mf_X11_fedBy q1011 kOM_0 rfl ⟨rfl, rfl⟩ ⟨Nat.le_of_ble_eq_true rfl, Nat.le_of_ble_eq_true rfl⟩ rfl hl.1 rfl (Nat.le_of_ble_eq_true rfl) dX11_feed_50 ⟨Nat.zero_le _, Nat.zero_le _⟩) hS hW (fun r7 σ6 H locs h hW => ?_)
      obtain ⟨h, rfl⟩ := h
      refine kiast 1 (pc := 53) hx hcb hS hW kIM_4 rfl (kin_of ⟨by decide, by decide⟩ (by decide)) dX11_feed_53 (fun σ8 H locs eσ8 hW => ?_)
      have h := h σ8 eσ8
      refine lv_aload_n (pc := 54) hx hcb dX11_feed_54 rfl (lv_at hl 0 rfl) ?_
      refine kget (v := .ref (X.2.1 4)) (pc := 55) hx hcb hts hown hS hW iwX11 kOM_0 rfl 7 (by decide) q865 rfl rfl dX11_feed_55 ?_
      refine lv_iconst (v := 2) (pc := 58) hx hcb dX11_feed_58 rfl ?_
      refine lv_dup2_11 (pc := 59) hx hcb dX11_feed_59 rfl rfl ?_
      refine kiald 2 (pc := 60) hx hcb hS hW kIM_4 rfl (kin_of ⟨by decide, by decide⟩ (by decide)) dX11_feed_60 ?_
      refine lv_iconst (v := 1) (pc := 61) hx hcb dX11_feed_61 rfl ?_
      refine lv_iadd (pc := 62) hx hcb dX11_feed_62 ?_
      refine kiast 2 (pc := 63) hx hcb hS hW kIM_4 rfl (kin_of ⟨by decide, by decide⟩ (by decide)) dX11_feed_63 (fun σ9 H locs eσ9 hW => ?_)
      have h := h σ9 eσ9
      refine lv_aload_n (pc := 64) hx hcb dX11_feed_64 rfl (lv_at hl 0 rfl) ?_
      refine kget (v := .ref (X.2.1 4)) (pc := 65) hx hcb hts hown hS hW iwX11 kOM_0 rfl 7 (by decide) q865 rfl rfl dX11_feed_65 ?_
      refine lv_iconst (v := 2) (pc := 68) hx hcb dX11_feed_68 rfl ?_
      refine kiald 2 (pc := 69) hx hcb hS hW kIM_4 rfl (kin_of ⟨by decide, by decide⟩ (by decide)) dX11_feed_69 ?_
      exact hret _ _ _ _ _ _ rfl h hW dX11_feed_70
    · have h := h.2 c27
      refine lv_bipush (v := (-2)) (pc := 30) hx hcb dX11_feed_30 rfl ?_
      exact hret _ _ _ _ _ _ rfl h hW dX11_feed_32
  · have h := h.2 c5
    refine lv_iconst (v := (-1)) (pc := 8) hx hcb dX11_feed_8 rfl ?_
    exact hret _ _ _ _ _ _ rfl h hW dX11_feed_9
abbrev rm_X11_lastGoal : Room := { frames := 1, cells := 0, slots := 0, locals := 22 }
set_option maxHeartbeats 4000000 in
set_option maxRecDepth 100000 in
theorem c_X11_lastGoal (l : Launch) (X : KX) (σ : Mm)  (Φ : Int32 → Prop) (h : wp_X11_lastGoal σ  Φ) : Met l yX11_lastGoal (.code yX11_lastGoal cX11_lastGoal 3 (some .int) :: kT) rm_X11_lastGoal (va_Pc [.ref (X.2.1 0)] (kPre kZM X σ)) (va_Qi (fun r σ' => Φ r ∧ σ = σ') (fun σ' t => kPre kZM X σ' t) (kA kZM X)) 0 0 (kA kZM X) := by
  refine kofI (by decide) (Nat.le_of_ble_eq_true rfl) ?_
  intro p e s m args below meth c ls Q hx hcb hml hown hts hS hW hl hret
  have hown : s.vm.findClass RX11 = some m.cls := hown
  have hl : lv_has ls 3 [(0, .ref (X.2.1 0))] := hl
  unfold wp_X11_lastGoal at h
  refine lv_iconst (v := (-1)) (pc := 0) hx hcb dX11_lastGoal_0 rfl ?_
  refine lv_istore_n (lv' := [(1, .int (-1)), (0, .ref (X.2.1 0))]) (pc := 1) hx hcb dX11_lastGoal_1 rfl hl (by decide) rfl (fun ls hl => ?_)
  refine lv_iconst (v := 0) (pc := 2) hx hcb dX11_lastGoal_2 rfl ?_
  refine lv_istore_n (lv' := [(2, .int 0), (1, .int (-1)), (0, .ref (X.2.1 0))]) (pc := 3) hx hcb dX11_lastGoal_3 rfl hl (by decide) rfl (fun ls hl => ?_)
  have hL4 : ∀ (n : Nat) (x1_1 : Int32) (x2_2 : Int32) (H : Heap) (locs : List Loc) (ls : Array Slot), wp_X11_lastGoal_L4 σ Φ n x1_1 x2_2 → kW kZM X (kA kZM X) s σ H locs → lv_has ls 3 [(0, .ref (X.2.1 0)), (1, .int x1_1), (2, .int x2_2)] → W p l e rm_X11_lastGoal s m args below meth c H locs 0 0 Q (F0 m 4 ls []) := by
    intro n
    induction n with
    | zero =>
      intro x1_1 x2_2 H locs ls h
      exact False.elim h
    | succ n ih =>
      intro x1_1 x2_2 H locs ls h hW hl
      unfold wp_X11_lastGoal_L4 at h
      refine lv_iload_n (pc := 4) hx hcb dX11_lastGoal_4 rfl (lv_at hl 2 rfl) ?_
      refine lv_aload_n (pc := 5) hx hcb dX11_lastGoal_5 rfl (lv_at hl 0 rfl) ?_
      refine kget (v := .int (σ.1 0 14)) (pc := 6) hx hcb hts hown hS hW iwX11 kOM_0 rfl 14 (by decide) q872 rfl rfl dX11_lastGoal_6 ?_
      refine lv_icmp_ge (tgt := 37) (pc := 9) hx hcb dX11_lastGoal_9 (by decide) (fun c9 => ?_) (fun c9 => ?_)
      · have h := h.1 c9
        refine lv_iload_n (pc := 37) hx hcb dX11_lastGoal_37 rfl (lv_at hl 1 rfl) ?_
        exact hret _ _ _ _ _ _ rfl ⟨h, rfl⟩ hW dX11_lastGoal_38
      · have h := h.2 c9
        refine lv_iload_n (pc := 12) hx hcb dX11_lastGoal_12 rfl (lv_at hl 1 rfl) ?_
        obtain ⟨K30, hk30, h⟩ := h
        have hK30 : ∀ (v3 : Int32) (H : Heap) (locs : List Loc) (ls : Array Slot), K30 v3 → kW kZM X (kA kZM X) s σ H locs → lv_has ls 3 [(0, .ref (X.2.1 0)), (2, .int x2_2)] → W p l e rm_X11_lastGoal s m args below meth c H locs 0 0 Q (F0 m 30 ls [.int v3]) := by
          intro v3 H locs ls h hW hl
          have h := hk30 v3 h
          refine lv_istore_n (lv' := [(1, .int v3), (0, .ref (X.2.1 0)), (2, .int x2_2)]) (pc := 30) hx hcb dX11_lastGoal_30 rfl hl (by decide) rfl (fun ls hl => ?_)
          refine lv_iinc (v := x2_2 + 1) (lv' := [(2, .int (x2_2 + 1)), (1, .int v3), (0, .ref (X.2.1 0))]) (pc := 31) hx hcb dX11_lastGoal_31 hl (k := 2) rfl rfl (by decide) rfl (fun ls hl => ?_)
          refine lv_goto (tgt := 4) (pc := 34) hx hcb dX11_lastGoal_34 (by decide) ?_
          exact ih v3 (x2_2 + 1) _ _ _ h hW (lv_sub hl [2, 1, 0] rfl)
        obtain ⟨K25, hk25, h⟩ := h
        have hK25 : ∀  (H : Heap) (locs : List Loc) (ls : Array Slot), K25 → kW kZM X (kA kZM X) s σ H locs → lv_has ls 3 [(0, .ref (X.2.1 0)), (2, .int x2_2)] → W p l e rm_X11_lastGoal s m args below meth c H locs 0 0 Q (F0 m 25 ls []) := by
          intro  H locs ls h hW hl
          have h := hk25 h
          refine lv_iload_n (pc := 25) hx hcb dX11_lastGoal_25 rfl (lv_at hl 1 rfl) ?_
          refine lv_goto (tgt := 30) (pc := 26) hx hcb dX11_lastGoal_26 (by decide) ?_
          exact hK30 x2_2 _ _ _ h hW (lv_sub hl [0, 1] rfl)
        refine lv_if_lt (tgt := 25) (pc := 13) hx hcb dX11_lastGoal_13 (by decide) (fun c13 => ?_) (fun c13 => ?_)
        · have h := h.1 c13
          exact hK25  _ _ _ h hW (lv_sub hl [0, 2] rfl)
        · have h := h.2 c13
          refine lv_aload_n (pc := 16) hx hcb dX11_lastGoal_16 rfl (lv_at hl 0 rfl) ?_
          refine lv_iload_n (pc := 17) hx hcb dX11_lastGoal_17 rfl (lv_at hl 1 rfl) ?_
          refine lv_iload_n (pc := 18) hx hcb dX11_lastGoal_18 rfl (lv_at hl 2 rfl) ?_
          refine kci (krunV (As := [.int x1_1, .int x2_2]) (rest := []) (pc := 19) hx hcb hml hown hts hS hW (c_X11_isUpTo l X σ x1_1 x2_2 _ h) mf_X11_isUpTo q1054 kOM_0 rfl ⟨rfl, rfl⟩ ⟨Nat.le_of_ble_eq_true rfl, Nat.le_of_ble_eq_true rfl⟩ rfl hl.1 rfl (Nat.le_of_ble_eq_true rfl) dX11_lastGoal_19 ⟨Nat.zero_le _, Nat.zero_le _⟩) hS hW (fun r5 σ4 H locs h hW => ?_)
          obtain ⟨h, rfl⟩ := h
          refine lv_if_eq (tgt := 29) (pc := 22) hx hcb dX11_lastGoal_22 (by decide) (fun c22 => ?_) (fun c22 => ?_)
          · have h := h.1 c22
            refine lv_iload_n (pc := 29) hx hcb dX11_lastGoal_29 rfl (lv_at hl 1 rfl) ?_
            exact hK30 x1_1 _ _ _ h hW (lv_sub hl [0, 2] rfl)
          · have h := h.2 c22
            exact hK25  _ _ _ h hW (lv_sub hl [0, 2] rfl)
  obtain ⟨n, h⟩ := h
  exact hL4 n (-1) 0 _ _ _ h hW (lv_sub hl [2, 1, 0] rfl)
abbrev rm_X11_first : Room := { frames := 5, cells := 0, slots := 0, locals := 124 }
set_option maxHeartbeats 4000000 in
set_option maxRecDepth 100000 in
theorem c_X11_first (l : Launch) (X : KX) (σ : Mm)  (Φ : Int32 → Mm → Prop) (h : wp_X11_first σ  Φ) : Met l yX11_first (.code yX11_first cX11_first 4 (some .int) :: kT) rm_X11_first (va_Pc [.ref (X.2.1 0)] (kPre kZM X σ)) (va_Qi (fun r σ' => Φ r σ') (fun σ' t => kPre kZM X σ' t) (kA kZM X)) 0 0 (kA kZM X) := by
  refine kofI (by decide) (Nat.le_of_ble_eq_true rfl) ?_
  intro p e s m args below meth c ls Q hx hcb hml hown hts hS hW hl hret
  have hown : s.vm.findClass RX11 = some m.cls := hown
  have hl : lv_has ls 4 [(0, .ref (X.2.1 0))] := hl
  unfold wp_X11_first at h
  refine lv_aload_n (pc := 0) hx hcb dX11_first_0 rfl (lv_at hl 0 rfl) ?_
  refine kci (krunV (As := []) (rest := []) (pc := 1) hx hcb hml hown hts hS hW (c_X11_lastGoal l X σ  _ h) mf_X11_lastGoal q1050 kOM_0 rfl ⟨rfl, rfl⟩ ⟨Nat.le_of_ble_eq_true rfl, Nat.le_of_ble_eq_true rfl⟩ rfl hl.1 rfl (Nat.le_of_ble_eq_true rfl) dX11_first_1 ⟨Nat.zero_le _, Nat.zero_le _⟩) hS hW (fun r2 σ1 H locs h hW => ?_)
  obtain ⟨h, rfl⟩ := h
  refine lv_istore_n (lv' := [(1, .int r2), (0, .ref (X.2.1 0))]) (pc := 4) hx hcb dX11_first_4 rfl hl (by decide) rfl (fun ls hl => ?_)
  refine lv_aload_n (pc := 5) hx hcb dX11_first_5 rfl (lv_at hl 1 rfl) ?_
  refine lv_iload_n (pc := 6) hx hcb dX11_first_6 rfl (lv_at hl 0 rfl) ?_
  refine kci (krunV (As := [.int r2]) (rest := []) (pc := 7) hx hcb hml hown hts hS hW (c_X11_priceTo l X σ r2 _ h) mf_X11_priceTo q1058 kOM_0 rfl ⟨rfl, rfl⟩ ⟨Nat.le_of_ble_eq_true rfl, Nat.le_of_ble_eq_true rfl⟩ rfl hl.1 rfl (Nat.le_of_ble_eq_true rfl) dX11_first_7 ⟨Nat.zero_le _, Nat.zero_le _⟩) hS hW (fun r4 σ3 H locs h hW => ?_)
  refine lv_istore_n (lv' := [(2, .int r4), (1, .int r2), (0, .ref (X.2.1 0))]) (pc := 10) hx hcb dX11_first_10 rfl hl (by decide) rfl (fun ls hl => ?_)
  refine lv_iload_n (pc := 11) hx hcb dX11_first_11 rfl (lv_at hl 0 rfl) ?_
  refine kldc (v := 999999) (pc := 12) hx hcb hown hts q857 dX11_first_12 ?_
  refine lv_icmp_ge (tgt := 46) (pc := 14) hx hcb dX11_first_14 (by decide) (fun c14 => ?_) (fun c14 => ?_)
  · have h := h.1 c14
    refine lv_bipush (v := (-4)) (pc := 46) hx hcb dX11_first_46 rfl ?_
    exact hret _ _ _ _ _ _ rfl h hW dX11_first_48
  · have h := h.2 c14
    refine lv_iload_n (pc := 17) hx hcb dX11_first_17 rfl (lv_at hl 1 rfl) ?_
    refine lv_if_lt (tgt := 46) (pc := 18) hx hcb dX11_first_18 (by decide) (fun c18 => ?_) (fun c18 => ?_)
    · have h := h.1 c18
      refine lv_bipush (v := (-4)) (pc := 46) hx hcb dX11_first_46 rfl ?_
      exact hret _ _ _ _ _ _ rfl h hW dX11_first_48
    · have h := h.2 c18
      refine lv_aload_n (pc := 21) hx hcb dX11_first_21 rfl (lv_at hl 2 rfl) ?_
      refine kget (v := .ref (X.2.1 8)) (pc := 22) hx hcb hts hown hS hW iwX11 kOM_0 rfl 13 (by decide) q871 rfl rfl dX11_first_22 ?_
      refine lv_iload_n (pc := 25) hx hcb dX11_first_25 rfl (lv_at hl 1 rfl) ?_
      have hin5 := h.1
      have h := h.2
      refine kiald (r2.toNatClampNeg) (pc := 26) hx hcb hS hW kIM_8 rfl (kin_of hin5 (by decide)) dX11_first_26 ?_
      refine lv_if_eq (tgt := 46) (pc := 27) hx hcb dX11_first_27 (by decide) (fun c27 => ?_) (fun c27 => ?_)
      · have h := h.1 c27
        refine lv_bipush (v := (-4)) (pc := 46) hx hcb dX11_first_46 rfl ?_
        exact hret _ _ _ _ _ _ rfl h hW dX11_first_48
      · have h := h.2 c27
        refine lv_aload_n (pc := 30) hx hcb dX11_first_30 rfl (lv_at hl 2 rfl) ?_
        refine lv_aload_n (pc := 31) hx hcb dX11_first_31 rfl (lv_at hl 2 rfl) ?_
        refine kget (v := .ref (X.2.1 4)) (pc := 32) hx hcb hts hown hS hW iwX11 kOM_0 rfl 7 (by decide) q865 rfl rfl dX11_first_32 ?_
        refine lv_iconst (v := 1) (pc := 35) hx hcb dX11_first_35 rfl ?_
        refine kiald 1 (pc := 36) hx hcb hS hW kIM_4 rfl (kin_of ⟨by decide, by decide⟩ (by decide)) dX11_first_36 ?_
        refine lv_iconst (v := 0) (pc := 37) hx hcb dX11_first_37 rfl ?_
        refine lv_iconst (v := (-1)) (pc := 38) hx hcb dX11_first_38 rfl ?_
        refine kci (krunV (As := [.int (σ3.1 4 1), .int 0, .int (-1)]) (rest := []) (pc := 39) hx hcb hml hown hts hS hW (c_X11_costBy l X σ3 (σ3.1 4 1) 0 (-1) _ h) mf_X11_costBy q1074 kOM_0 rfl ⟨rfl, rfl⟩ ⟨Nat.le_of_ble_eq_true rfl, Nat.le_of_ble_eq_true rfl⟩ rfl hl.1 rfl (Nat.le_of_ble_eq_true rfl) dX11_first_39 ⟨Nat.zero_le _, Nat.zero_le _⟩) hS hW (fun r7 σ6 H locs h hW => ?_)
        obtain ⟨h, rfl⟩ := h
        refine lv_iload_n (pc := 42) hx hcb dX11_first_42 rfl (lv_at hl 0 rfl) ?_
        refine lv_icmp_ne (tgt := 49) (pc := 43) hx hcb dX11_first_43 (by decide) (fun c43 => ?_) (fun c43 => ?_)
        · have h := h.1 c43
          refine lv_iconst (v := 0) (pc := 49) hx hcb dX11_first_49 rfl ?_
          refine lv_istore_n (lv' := [(3, .int 0), (2, .int r4), (1, .int r2), (0, .ref (X.2.1 0))]) (pc := 50) hx hcb dX11_first_50 rfl hl (by decide) rfl (fun ls hl => ?_)
          have hL51 : ∀ (n : Nat) (x3_8 : Int32) (H : Heap) (locs : List Loc) (ls : Array Slot), wp_X11_first_L51 Φ r4 σ3 n x3_8 → kW kZM X (kA kZM X) s σ3 H locs → lv_has ls 4 [(0, .ref (X.2.1 0)), (2, .int r4), (3, .int x3_8)] → W p l e rm_X11_first s m args below meth c H locs 0 0 Q (F0 m 51 ls []) := by
            intro n
            induction n with
            | zero =>
              intro x3_8 H locs ls h
              exact False.elim h
            | succ n ih =>
              intro x3_8 H locs ls h hW hl
              unfold wp_X11_first_L51 at h
              refine lv_aload_n (pc := 51) hx hcb dX11_first_51 rfl (lv_at hl 0 rfl) ?_
              refine lv_aload_n (pc := 52) hx hcb dX11_first_52 rfl (lv_at hl 0 rfl) ?_
              refine kget (v := .ref (X.2.1 4)) (pc := 53) hx hcb hts hown hS hW iwX11 kOM_0 rfl 7 (by decide) q865 rfl rfl dX11_first_53 ?_
              refine lv_iconst (v := 1) (pc := 56) hx hcb dX11_first_56 rfl ?_
              refine kiald 1 (pc := 57) hx hcb hS hW kIM_4 rfl (kin_of ⟨by decide, by decide⟩ (by decide)) dX11_first_57 ?_
              refine lv_iload_n (pc := 58) hx hcb dX11_first_58 rfl (lv_at hl 2 rfl) ?_
              refine lv_aload_n (pc := 59) hx hcb dX11_first_59 rfl (lv_at hl 0 rfl) ?_
              refine kget (v := .ref (X.2.1 4)) (pc := 60) hx hcb hts hown hS hW iwX11 kOM_0 rfl 7 (by decide) q865 rfl rfl dX11_first_60 ?_
              refine lv_iconst (v := 0) (pc := 63) hx hcb dX11_first_63 rfl ?_
              refine kiald 0 (pc := 64) hx hcb hS hW kIM_4 rfl (kin_of ⟨by decide, by decide⟩ (by decide)) dX11_first_64 ?_
              refine kci (krunV (As := [.int (σ3.1 4 1), .int x3_8, .int (σ3.1 4 0)]) (rest := []) (pc := 65) hx hcb hml hown hts hS hW (c_X11_mayFeed l X σ3 (σ3.1 4 1) x3_8 (σ3.1 4 0) _ h) mf_X11_mayFeed q1000 kOM_0 rfl ⟨rfl, rfl⟩ ⟨Nat.le_of_ble_eq_true rfl, Nat.le_of_ble_eq_true rfl⟩ rfl hl.1 rfl (Nat.le_of_ble_eq_true rfl) dX11_first_65 ⟨Nat.zero_le _, Nat.zero_le _⟩) hS hW (fun r10 σ9 H locs h hW => ?_)
              obtain ⟨h, rfl⟩ := h
              obtain ⟨K87, hk87, h⟩ := h
              have hK87 : ∀  (H : Heap) (locs : List Loc) (ls : Array Slot), K87 → kW kZM X (kA kZM X) s σ3 H locs → lv_has ls 4 [(0, .ref (X.2.1 0)), (2, .int r4), (3, .int x3_8)] → W p l e rm_X11_first s m args below meth c H locs 0 0 Q (F0 m 87 ls []) := by
                intro  H locs ls h hW hl
                have h := hk87 h
                refine lv_iinc (v := x3_8 + 1) (lv' := [(3, .int (x3_8 + 1)), (0, .ref (X.2.1 0)), (2, .int r4)]) (pc := 87) hx hcb dX11_first_87 hl (k := 2) rfl rfl (by decide) rfl (fun ls hl => ?_)
                refine lv_goto (tgt := 51) (pc := 90) hx hcb dX11_first_90 (by decide) ?_
                exact ih (x3_8 + 1) _ _ _ h hW (lv_sub hl [1, 2, 0] rfl)
              refine lv_if_eq (tgt := 87) (pc := 68) hx hcb dX11_first_68 (by decide) (fun c68 => ?_) (fun c68 => ?_)
              · have h := h.1 c68
                exact hK87  _ _ _ h hW (lv_sub hl [0, 1, 2] rfl)
              · have h := h.2 c68
                refine lv_aload_n (pc := 71) hx hcb dX11_first_71 rfl (lv_at hl 0 rfl) ?_
                refine lv_aload_n (pc := 72) hx hcb dX11_first_72 rfl (lv_at hl 0 rfl) ?_
                refine kget (v := .ref (X.2.1 4)) (pc := 73) hx hcb hts hown hS hW iwX11 kOM_0 rfl 7 (by decide) q865 rfl rfl dX11_first_73 ?_
                refine lv_iconst (v := 1) (pc := 76) hx hcb dX11_first_76 rfl ?_
                refine kiald 1 (pc := 77) hx hcb hS hW kIM_4 rfl (kin_of ⟨by decide, by decide⟩ (by decide)) dX11_first_77 ?_
                refine lv_iconst (v := 0) (pc := 78) hx hcb dX11_first_78 rfl ?_
                refine lv_iload_n (pc := 79) hx hcb dX11_first_79 rfl (lv_at hl 2 rfl) ?_
                refine kci (krunV (As := [.int (σ3.1 4 1), .int 0, .int x3_8]) (rest := []) (pc := 80) hx hcb hml hown hts hS hW (c_X11_costBy l X σ3 (σ3.1 4 1) 0 x3_8 _ h) mf_X11_costBy q1074 kOM_0 rfl ⟨rfl, rfl⟩ ⟨Nat.le_of_ble_eq_true rfl, Nat.le_of_ble_eq_true rfl⟩ rfl hl.1 rfl (Nat.le_of_ble_eq_true rfl) dX11_first_80 ⟨Nat.zero_le _, Nat.zero_le _⟩) hS hW (fun r12 σ11 H locs h hW => ?_)
                obtain ⟨h, rfl⟩ := h
                refine lv_iload_n (pc := 83) hx hcb dX11_first_83 rfl (lv_at hl 1 rfl) ?_
                refine lv_icmp_eq (tgt := 93) (pc := 84) hx hcb dX11_first_84 (by decide) (fun c84 => ?_) (fun c84 => ?_)
                · have h := h.1 c84
                  refine lv_iload_n (pc := 93) hx hcb dX11_first_93 rfl (lv_at hl 2 rfl) ?_
                  exact hret _ _ _ _ _ _ rfl h hW dX11_first_94
                · have h := h.2 c84
                  exact hK87  _ _ _ h hW (lv_sub hl [0, 1, 2] rfl)
          obtain ⟨n, h⟩ := h
          exact hL51 n 0 _ _ _ h hW (lv_sub hl [3, 1, 0] rfl)
        · have h := h.2 c43
          refine lv_bipush (v := (-4)) (pc := 46) hx hcb dX11_first_46 rfl ?_
          exact hret _ _ _ _ _ _ rfl h hW dX11_first_48
abbrev rm_X11_forget : Room := { frames := 0, cells := 0, slots := 0, locals := 0 }
set_option maxHeartbeats 4000000 in
set_option maxRecDepth 100000 in
theorem c_X11_forget (l : Launch) (X : KX) (σ : Mm)  (Φ : Int32 → Mm → Prop) (h : wp_X11_forget σ  Φ) : Met l yX11_forget (.code yX11_forget cX11_forget 2 (some .int) :: kT) rm_X11_forget (va_Pc [.ref (X.2.1 0)] (kPre kZM X σ)) (va_Qi (fun r σ' => Φ r σ') (fun σ' t => kPre kZM X σ' t) (kA kZM X)) 0 0 (kA kZM X) := by
  refine kofI (by decide) (Nat.le_of_ble_eq_true rfl) ?_
  intro p e s m args below meth c ls Q hx hcb hml hown hts hS hW hl hret
  have hown : s.vm.findClass RX11 = some m.cls := hown
  have hl : lv_has ls 2 [(0, .ref (X.2.1 0))] := hl
  unfold wp_X11_forget at h
  refine lv_aload_n (pc := 0) hx hcb dX11_forget_0 rfl (lv_at hl 0 rfl) ?_
  refine kget (v := .int (σ.1 0 21)) (pc := 1) hx hcb hts hown hS hW iwX11 kOM_0 rfl 21 (by decide) q879 rfl rfl dX11_forget_1 ?_
  refine lv_topi (fun x1_1 ex1_1 => ?_)
  have h := h x1_1 ex1_1
  refine lv_istore_n (lv' := [(1, .int x1_1), (0, .ref (X.2.1 0))]) (pc := 4) hx hcb dX11_forget_4 rfl hl (by decide) rfl (fun ls hl => ?_)
  refine lv_aload_n (pc := 5) hx hcb dX11_forget_5 rfl (lv_at hl 1 rfl) ?_
  refine lv_iconst (v := 0) (pc := 6) hx hcb dX11_forget_6 rfl ?_
  refine kput (ty := .int) (pc := 7) hx hcb hts hown hS hW iwX11 tyX11 tyX11_ok nmX11 kOM_0 rfl 21 (by decide) q879 rfl rfl rfl rfl rfl (Nat.le_of_ble_eq_true rfl) rfl dX11_forget_7 (fun σ2 H locs eσ2 hW => ?_)
  have h := h σ2 eσ2
  refine lv_iload_n (pc := 10) hx hcb dX11_forget_10 rfl (lv_at hl 0 rfl) ?_
  exact hret _ _ _ _ _ _ rfl h hW dX11_forget_11
abbrev rm_X11_game : Room := { frames := 4, cells := 0, slots := 0, locals := 99 }
set_option maxHeartbeats 4000000 in
set_option maxRecDepth 100000 in
theorem c_X11_game (l : Launch) (X : KX) (σ : Mm) (x1 : Int32) (x2 : Int32) (x3 : Int32) (x4 : Int32) (Φ : Int32 → Mm → Prop) (h : wp_X11_game σ x1 x2 x3 x4 Φ) : Met l yX11_game (.code yX11_game cX11_game 7 (some .int) :: kT) rm_X11_game (va_Pc [.ref (X.2.1 0), .int x1, .int x2, .int x3, .int x4] (kPre kZM X σ)) (va_Qi (fun r σ' => Φ r σ') (fun σ' t => kPre kZM X σ' t) (kA kZM X)) 0 0 (kA kZM X) := by
  refine kofI (by decide) (Nat.le_of_ble_eq_true rfl) ?_
  intro p e s m args below meth c ls Q hx hcb hml hown hts hS hW hl hret
  have hown : s.vm.findClass RX11 = some m.cls := hown
  have hl : lv_has ls 7 [(0, .ref (X.2.1 0)), (1, .int x1), (2, .int x2), (3, .int x3), (4, .int x4)] := hl
  unfold wp_X11_game at h
  refine lv_iload_n (pc := 0) hx hcb dX11_game_0 rfl (lv_at hl 1 rfl) ?_
  refine lv_iconst (v := 1) (pc := 1) hx hcb dX11_game_1 rfl ?_
  refine lv_bipush (v := 12) (pc := 2) hx hcb dX11_game_2 rfl ?_
  refine kci (krunS (As := [.int x1, .int 1, .int 12]) (rest := []) (pc := 4) hx hcb hml hown hts hS hW (c_X11_in l X σ x1 1 12 _ h) mf_X11_in q936 ⟨rfl, rfl⟩ ⟨Nat.le_of_ble_eq_true rfl, Nat.le_of_ble_eq_true rfl⟩ rfl hl.1 rfl (Nat.le_of_ble_eq_true rfl) dX11_game_4 ⟨Nat.zero_le _, Nat.zero_le _⟩) hS hW (fun r2 σ1 H locs h hW => ?_)
  obtain ⟨h, rfl⟩ := h
  refine lv_if_eq (tgt := 46) (pc := 7) hx hcb dX11_game_7 (by decide) (fun c7 => ?_) (fun c7 => ?_)
  · have h := h.1 c7
    refine lv_iconst (v := (-1)) (pc := 46) hx hcb dX11_game_46 rfl ?_
    exact hret _ _ _ _ _ _ rfl h hW dX11_game_47
  · have h := h.2 c7
    refine lv_aload_n (pc := 10) hx hcb dX11_game_10 rfl (lv_at hl 0 rfl) ?_
    refine lv_iload_n (pc := 11) hx hcb dX11_game_11 rfl (lv_at hl 2 rfl) ?_
    refine kci (krunV (As := [.int x2]) (rest := []) (pc := 12) hx hcb hml hown hts hS hW (c_X11_isYard l X σ x2 _ h) mf_X11_isYard q980 kOM_0 rfl ⟨rfl, rfl⟩ ⟨Nat.le_of_ble_eq_true rfl, Nat.le_of_ble_eq_true rfl⟩ rfl hl.1 rfl (Nat.le_of_ble_eq_true rfl) dX11_game_12 ⟨Nat.zero_le _, Nat.zero_le _⟩) hS hW (fun r4 σ3 H locs h hW => ?_)
    obtain ⟨h, rfl⟩ := h
    refine lv_if_eq (tgt := 46) (pc := 15) hx hcb dX11_game_15 (by decide) (fun c15 => ?_) (fun c15 => ?_)
    · have h := h.1 c15
      refine lv_iconst (v := (-1)) (pc := 46) hx hcb dX11_game_46 rfl ?_
      exact hret _ _ _ _ _ _ rfl h hW dX11_game_47
    · have h := h.2 c15
      refine lv_iload_n (pc := 18) hx hcb dX11_game_18 rfl (lv_at hl 3 rfl) ?_
      refine lv_iconst (v := 0) (pc := 19) hx hcb dX11_game_19 rfl ?_
      refine lv_iconst (v := 1) (pc := 20) hx hcb dX11_game_20 rfl ?_
      refine lv_aload_n (pc := 21) hx hcb dX11_game_21 rfl (lv_at hl 0 rfl) ?_
      refine kget (v := .ref (X.2.1 1)) (pc := 22) hx hcb hts hown hS hW iwX11 kOM_0 rfl 0 (by decide) q858 rfl rfl dX11_game_22 ?_
      refine lv_iconst (v := 1) (pc := 25) hx hcb dX11_game_25 rfl ?_
      refine kiald 1 (pc := 26) hx hcb hS hW kIM_1 rfl (kin_of ⟨by decide, by decide⟩ (by decide)) dX11_game_26 ?_
      refine lv_ishl (pc := 27) hx hcb dX11_game_27 ?_
      refine lv_iconst (v := 1) (pc := 28) hx hcb dX11_game_28 rfl ?_
      refine lv_isub (pc := 29) hx hcb dX11_game_29 ?_
      refine kci (krunS (As := [.int x3, .int 0, .int ((1 <<< ((σ.1 1 1) &&& 31)) - 1)]) (rest := []) (pc := 30) hx hcb hml hown hts hS hW (c_X11_in l X σ x3 0 ((1 <<< ((σ.1 1 1) &&& 31)) - 1) _ h) mf_X11_in q936 ⟨rfl, rfl⟩ ⟨Nat.le_of_ble_eq_true rfl, Nat.le_of_ble_eq_true rfl⟩ rfl hl.1 rfl (Nat.le_of_ble_eq_true rfl) dX11_game_30 ⟨Nat.zero_le _, Nat.zero_le _⟩) hS hW (fun r6 σ5 H locs h hW => ?_)
      obtain ⟨h, rfl⟩ := h
      refine lv_if_eq (tgt := 46) (pc := 33) hx hcb dX11_game_33 (by decide) (fun c33 => ?_) (fun c33 => ?_)
      · have h := h.1 c33
        refine lv_iconst (v := (-1)) (pc := 46) hx hcb dX11_game_46 rfl ?_
        exact hret _ _ _ _ _ _ rfl h hW dX11_game_47
      · have h := h.2 c33
        refine lv_iload (pc := 36) hx hcb dX11_game_36 (lv_at hl 4 rfl) ?_
        refine lv_iconst (v := 0) (pc := 38) hx hcb dX11_game_38 rfl ?_
        refine lv_iconst (v := 1) (pc := 39) hx hcb dX11_game_39 rfl ?_
        refine kci (krunS (As := [.int x4, .int 0, .int 1]) (rest := []) (pc := 40) hx hcb hml hown hts hS hW (c_X11_in l X σ x4 0 1 _ h) mf_X11_in q936 ⟨rfl, rfl⟩ ⟨Nat.le_of_ble_eq_true rfl, Nat.le_of_ble_eq_true rfl⟩ rfl hl.1 rfl (Nat.le_of_ble_eq_true rfl) dX11_game_40 ⟨Nat.zero_le _, Nat.zero_le _⟩) hS hW (fun r8 σ7 H locs h hW => ?_)
        obtain ⟨h, rfl⟩ := h
        refine lv_if_ne (tgt := 48) (pc := 43) hx hcb dX11_game_43 (by decide) (fun c43 => ?_) (fun c43 => ?_)
        · have h := h.1 c43
          refine lv_iconst (v := 0) (pc := 48) hx hcb dX11_game_48 rfl ?_
          refine lv_istore (lv' := [(5, .int 0), (0, .ref (X.2.1 0)), (1, .int x1), (2, .int x2), (3, .int x3), (4, .int x4)]) (pc := 49) hx hcb dX11_game_49 hl (by decide) rfl (fun ls hl => ?_)
          obtain ⟨K86, hk86, h⟩ := h
          have hK86 : ∀ (σ9 : Mm) (H : Heap) (locs : List Loc) (ls : Array Slot), K86 σ9 → kW kZM X (kA kZM X) s σ9 H locs → lv_has ls 7 [(0, .ref (X.2.1 0)), (1, .int x1), (3, .int x3), (4, .int x4)] → W p l e rm_X11_game s m args below meth c H locs 0 0 Q (F0 m 86 ls []) := by
            intro σ9 H locs ls h hW hl
            have h := hk86 σ9 h
            refine lv_iload_n (pc := 86) hx hcb dX11_game_86 rfl (lv_at hl 1 rfl) ?_
            refine lv_iconst (v := 1) (pc := 87) hx hcb dX11_game_87 rfl ?_
            refine lv_isub (pc := 88) hx hcb dX11_game_88 ?_
            refine lv_topi (fun x5_10 ex5_10 => ?_)
            have h := h x5_10 ex5_10
            refine lv_istore (lv' := [(5, .int x5_10), (0, .ref (X.2.1 0)), (1, .int x1), (3, .int x3), (4, .int x4)]) (pc := 89) hx hcb dX11_game_89 hl (by decide) rfl (fun ls hl => ?_)
            obtain ⟨K183, hk183, h⟩ := h
            have hK183 : ∀ (σ11 : Mm) (H : Heap) (locs : List Loc) (ls : Array Slot), K183 σ11 → kW kZM X (kA kZM X) s σ11 H locs → lv_has ls 7 [(0, .ref (X.2.1 0)), (3, .int x3), (4, .int x4)] → W p l e rm_X11_game s m args below meth c H locs 0 0 Q (F0 m 183 ls []) := by
              intro σ11 H locs ls h hW hl
              have h := hk183 σ11 h
              refine lv_aload_n (pc := 183) hx hcb dX11_game_183 rfl (lv_at hl 0 rfl) ?_
              refine lv_aload_n (pc := 184) hx hcb dX11_game_184 rfl (lv_at hl 0 rfl) ?_
              refine kget (v := .ref (X.2.1 4)) (pc := 185) hx hcb hts hown hS hW iwX11 kOM_0 rfl 7 (by decide) q865 rfl rfl dX11_game_185 ?_
              refine lv_iconst (v := 1) (pc := 188) hx hcb dX11_game_188 rfl ?_
              refine kiald 1 (pc := 189) hx hcb hS hW kIM_4 rfl (kin_of ⟨by decide, by decide⟩ (by decide)) dX11_game_189 ?_
              refine lv_iconst (v := 0) (pc := 190) hx hcb dX11_game_190 rfl ?_
              refine lv_iload_n (pc := 191) hx hcb dX11_game_191 rfl (lv_at hl 1 rfl) ?_
              refine kci (krunV (As := [.int (σ11.1 4 1), .int 0, .int x3]) (rest := []) (pc := 192) hx hcb hml hown hts hS hW (c_X11_canWin l X σ11 (σ11.1 4 1) 0 x3 _ h) mf_X11_canWin q1090 kOM_0 rfl ⟨rfl, rfl⟩ ⟨Nat.le_of_ble_eq_true rfl, Nat.le_of_ble_eq_true rfl⟩ rfl hl.1 rfl (Nat.le_of_ble_eq_true rfl) dX11_game_192 ⟨Nat.zero_le _, Nat.zero_le _⟩) hS hW (fun r13 σ12 H locs h hW => ?_)
              obtain ⟨h, rfl⟩ := h
              refine lv_istore (lv' := [(5, .int r13), (0, .ref (X.2.1 0)), (3, .int x3), (4, .int x4)]) (pc := 195) hx hcb dX11_game_195 hl (by decide) rfl (fun ls hl => ?_)
              refine lv_iload (pc := 197) hx hcb dX11_game_197 (lv_at hl 3 rfl) ?_
              refine lv_if_ne (tgt := 213) (pc := 199) hx hcb dX11_game_199 (by decide) (fun c199 => ?_) (fun c199 => ?_)
              · have h := h.1 c199
                refine lv_iload (pc := 213) hx hcb dX11_game_213 (lv_at hl 0 rfl) ?_
                refine lv_if_eq (tgt := 233) (pc := 215) hx hcb dX11_game_215 (by decide) (fun c215 => ?_) (fun c215 => ?_)
                · have h := h.1 c215
                  refine lv_bipush (v := (-4)) (pc := 233) hx hcb dX11_game_233 rfl ?_
                  exact hret _ _ _ _ _ _ rfl h hW dX11_game_235
                · have h := h.2 c215
                  refine lv_aload_n (pc := 218) hx hcb dX11_game_218 rfl (lv_at hl 1 rfl) ?_
                  refine lv_aload_n (pc := 219) hx hcb dX11_game_219 rfl (lv_at hl 1 rfl) ?_
                  refine kget (v := .ref (X.2.1 4)) (pc := 220) hx hcb hts hown hS hW iwX11 kOM_0 rfl 7 (by decide) q865 rfl rfl dX11_game_220 ?_
                  refine lv_iconst (v := 1) (pc := 223) hx hcb dX11_game_223 rfl ?_
                  refine kiald 1 (pc := 224) hx hcb hS hW kIM_4 rfl (kin_of ⟨by decide, by decide⟩ (by decide)) dX11_game_224 ?_
                  refine lv_iconst (v := 0) (pc := 225) hx hcb dX11_game_225 rfl ?_
                  refine lv_iconst (v := (-1)) (pc := 226) hx hcb dX11_game_226 rfl ?_
                  refine kci (krunV (As := [.int (σ11.1 4 1), .int 0, .int (-1)]) (rest := []) (pc := 227) hx hcb hml hown hts hS hW (c_X11_isWonBy l X σ11 (σ11.1 4 1) 0 (-1) _ h) mf_X11_isWonBy q1094 kOM_0 rfl ⟨rfl, rfl⟩ ⟨Nat.le_of_ble_eq_true rfl, Nat.le_of_ble_eq_true rfl⟩ rfl hl.1 rfl (Nat.le_of_ble_eq_true rfl) dX11_game_227 ⟨Nat.zero_le _, Nat.zero_le _⟩) hS hW (fun r15 σ14 H locs h hW => ?_)
                  obtain ⟨h, rfl⟩ := h
                  refine lv_if_eq (tgt := 236) (pc := 230) hx hcb dX11_game_230 (by decide) (fun c230 => ?_) (fun c230 => ?_)
                  · have h := h.1 c230
                    refine lv_iconst (v := 0) (pc := 236) hx hcb dX11_game_236 rfl ?_
                    refine lv_istore (lv' := [(6, .int 0), (5, .int r13), (0, .ref (X.2.1 0)), (3, .int x3), (4, .int x4)]) (pc := 237) hx hcb dX11_game_237 hl (by decide) rfl (fun ls hl => ?_)
                    have hL239 : ∀ (n : Nat) (x6_16 : Int32) (H : Heap) (locs : List Loc) (ls : Array Slot), wp_X11_game_L239 x3 Φ σ11 n x6_16 → kW kZM X (kA kZM X) s σ11 H locs → lv_has ls 7 [(0, .ref (X.2.1 0)), (3, .int x3), (6, .int x6_16)] → W p l e rm_X11_game s m args below meth c H locs 0 0 Q (F0 m 239 ls []) := by
                      intro n
                      induction n with
                      | zero =>
                        intro x6_16 H locs ls h
                        exact False.elim h
                      | succ n ih =>
                        intro x6_16 H locs ls h hW hl
                        unfold wp_X11_game_L239 at h
                        refine lv_iload_n (pc := 239) hx hcb dX11_game_239 rfl (lv_at hl 1 rfl) ?_
                        refine lv_iload (pc := 240) hx hcb dX11_game_240 (lv_at hl 2 rfl) ?_
                        refine lv_ishr (pc := 242) hx hcb dX11_game_242 ?_
                        refine lv_iconst (v := 1) (pc := 243) hx hcb dX11_game_243 rfl ?_
                        refine lv_iand (pc := 244) hx hcb dX11_game_244 ?_
                        obtain ⟨K285, hk285, h⟩ := h
                        have hK285 : ∀  (H : Heap) (locs : List Loc) (ls : Array Slot), K285 → kW kZM X (kA kZM X) s σ11 H locs → lv_has ls 7 [(0, .ref (X.2.1 0)), (3, .int x3), (6, .int x6_16)] → W p l e rm_X11_game s m args below meth c H locs 0 0 Q (F0 m 285 ls []) := by
                          intro  H locs ls h hW hl
                          have h := hk285 h
                          refine lv_iinc (v := x6_16 + 1) (lv' := [(6, .int (x6_16 + 1)), (0, .ref (X.2.1 0)), (3, .int x3)]) (pc := 285) hx hcb dX11_game_285 hl (k := 2) rfl rfl (by decide) rfl (fun ls hl => ?_)
                          refine lv_goto (tgt := 239) (pc := 288) hx hcb dX11_game_288 (by decide) ?_
                          exact ih (x6_16 + 1) _ _ _ h hW (lv_sub hl [1, 2, 0] rfl)
                        refine lv_if_eq (tgt := 285) (pc := 245) hx hcb dX11_game_245 (by decide) (fun c245 => ?_) (fun c245 => ?_)
                        · have h := h.1 c245
                          exact hK285  _ _ _ h hW (lv_sub hl [0, 1, 2] rfl)
                        · have h := h.2 c245
                          refine lv_aload_n (pc := 248) hx hcb dX11_game_248 rfl (lv_at hl 0 rfl) ?_
                          refine lv_aload_n (pc := 249) hx hcb dX11_game_249 rfl (lv_at hl 0 rfl) ?_
                          refine kget (v := .ref (X.2.1 4)) (pc := 250) hx hcb hts hown hS hW iwX11 kOM_0 rfl 7 (by decide) q865 rfl rfl dX11_game_250 ?_
                          refine lv_iconst (v := 1) (pc := 253) hx hcb dX11_game_253 rfl ?_
                          refine kiald 1 (pc := 254) hx hcb hS hW kIM_4 rfl (kin_of ⟨by decide, by decide⟩ (by decide)) dX11_game_254 ?_
                          refine lv_iload (pc := 255) hx hcb dX11_game_255 (lv_at hl 2 rfl) ?_
                          refine lv_aload_n (pc := 257) hx hcb dX11_game_257 rfl (lv_at hl 0 rfl) ?_
                          refine kget (v := .ref (X.2.1 4)) (pc := 258) hx hcb hts hown hS hW iwX11 kOM_0 rfl 7 (by decide) q865 rfl rfl dX11_game_258 ?_
                          refine lv_iconst (v := 0) (pc := 261) hx hcb dX11_game_261 rfl ?_
                          refine kiald 0 (pc := 262) hx hcb hS hW kIM_4 rfl (kin_of ⟨by decide, by decide⟩ (by decide)) dX11_game_262 ?_
                          refine kci (krunV (As := [.int (σ11.1 4 1), .int x6_16, .int (σ11.1 4 0)]) (rest := []) (pc := 263) hx hcb hml hown hts hS hW (c_X11_mayFeed l X σ11 (σ11.1 4 1) x6_16 (σ11.1 4 0) _ h) mf_X11_mayFeed q1000 kOM_0 rfl ⟨rfl, rfl⟩ ⟨Nat.le_of_ble_eq_true rfl, Nat.le_of_ble_eq_true rfl⟩ rfl hl.1 rfl (Nat.le_of_ble_eq_true rfl) dX11_game_263 ⟨Nat.zero_le _, Nat.zero_le _⟩) hS hW (fun r18 σ17 H locs h hW => ?_)
                          obtain ⟨h, rfl⟩ := h
                          refine lv_if_eq (tgt := 285) (pc := 266) hx hcb dX11_game_266 (by decide) (fun c266 => ?_) (fun c266 => ?_)
                          · have h := h.1 c266
                            exact hK285  _ _ _ h hW (lv_sub hl [0, 1, 2] rfl)
                          · have h := h.2 c266
                            refine lv_aload_n (pc := 269) hx hcb dX11_game_269 rfl (lv_at hl 0 rfl) ?_
                            refine lv_aload_n (pc := 270) hx hcb dX11_game_270 rfl (lv_at hl 0 rfl) ?_
                            refine kget (v := .ref (X.2.1 4)) (pc := 271) hx hcb hts hown hS hW iwX11 kOM_0 rfl 7 (by decide) q865 rfl rfl dX11_game_271 ?_
                            refine lv_iconst (v := 1) (pc := 274) hx hcb dX11_game_274 rfl ?_
                            refine kiald 1 (pc := 275) hx hcb hS hW kIM_4 rfl (kin_of ⟨by decide, by decide⟩ (by decide)) dX11_game_275 ?_
                            refine lv_iconst (v := 0) (pc := 276) hx hcb dX11_game_276 rfl ?_
                            refine lv_iload (pc := 277) hx hcb dX11_game_277 (lv_at hl 2 rfl) ?_
                            refine kci (krunV (As := [.int (σ11.1 4 1), .int 0, .int x6_16]) (rest := []) (pc := 279) hx hcb hml hown hts hS hW (c_X11_isWonBy l X σ11 (σ11.1 4 1) 0 x6_16 _ h) mf_X11_isWonBy q1094 kOM_0 rfl ⟨rfl, rfl⟩ ⟨Nat.le_of_ble_eq_true rfl, Nat.le_of_ble_eq_true rfl⟩ rfl hl.1 rfl (Nat.le_of_ble_eq_true rfl) dX11_game_279 ⟨Nat.zero_le _, Nat.zero_le _⟩) hS hW (fun r20 σ19 H locs h hW => ?_)
                            obtain ⟨h, rfl⟩ := h
                            refine lv_if_ne (tgt := 291) (pc := 282) hx hcb dX11_game_282 (by decide) (fun c282 => ?_) (fun c282 => ?_)
                            · have h := h.1 c282
                              refine lv_iload (pc := 291) hx hcb dX11_game_291 (lv_at hl 2 rfl) ?_
                              exact hret _ _ _ _ _ _ rfl h hW dX11_game_293
                            · have h := h.2 c282
                              exact hK285  _ _ _ h hW (lv_sub hl [0, 1, 2] rfl)
                    obtain ⟨n, h⟩ := h
                    exact hL239 n 0 _ _ _ h hW (lv_sub hl [2, 3, 0] rfl)
                  · have h := h.2 c230
                    refine lv_bipush (v := (-4)) (pc := 233) hx hcb dX11_game_233 rfl ?_
                    exact hret _ _ _ _ _ _ rfl h hW dX11_game_235
              · have h := h.2 c199
                refine lv_iload (pc := 202) hx hcb dX11_game_202 (lv_at hl 0 rfl) ?_
                refine lv_if_eq (tgt := 211) (pc := 204) hx hcb dX11_game_204 (by decide) (fun c204 => ?_) (fun c204 => ?_)
                · have h := h.1 c204
                  refine lv_iconst (v := 0) (pc := 211) hx hcb dX11_game_211 rfl ?_
                  exact hret _ _ _ _ _ _ rfl h hW dX11_game_212
                · have h := h.2 c204
                  refine lv_iconst (v := 1) (pc := 207) hx hcb dX11_game_207 rfl ?_
                  refine lv_goto (tgt := 212) (pc := 208) hx hcb dX11_game_208 (by decide) ?_
                  exact hret _ _ _ _ _ _ rfl h hW dX11_game_212
            have hL91 : ∀ (n : Nat) (σ21 : Mm) (x5_22 : Int32) (H : Heap) (locs : List Loc) (ls : Array Slot), wp_X11_game_L91 x3 K183 n σ21 x5_22 → kW kZM X (kA kZM X) s σ21 H locs → lv_has ls 7 [(0, .ref (X.2.1 0)), (3, .int x3), (4, .int x4), (5, .int x5_22)] → W p l e rm_X11_game s m args below meth c H locs 0 0 Q (F0 m 91 ls []) := by
              intro n
              induction n with
              | zero =>
                intro σ21 x5_22 H locs ls h
                exact False.elim h
              | succ n ih =>
                intro σ21 x5_22 H locs ls h hW hl
                unfold wp_X11_game_L91 at h
                refine lv_iload (pc := 91) hx hcb dX11_game_91 (lv_at hl 3 rfl) ?_
                refine lv_if_le (tgt := 183) (pc := 93) hx hcb dX11_game_93 (by decide) (fun c93 => ?_) (fun c93 => ?_)
                · have h := h.1 c93
                  exact hK183 σ21 _ _ _ h hW (lv_sub hl [0, 1, 2] rfl)
                · have h := h.2 c93
                  refine lv_iconst (v := 0) (pc := 96) hx hcb dX11_game_96 rfl ?_
                  refine lv_istore (lv' := [(6, .int 0), (0, .ref (X.2.1 0)), (3, .int x3), (4, .int x4), (5, .int x5_22)]) (pc := 97) hx hcb dX11_game_97 hl (by decide) rfl (fun ls hl => ?_)
                  obtain ⟨K146, hk146, h⟩ := h
                  have hK146 : ∀ (σ23 : Mm) (H : Heap) (locs : List Loc) (ls : Array Slot), K146 σ23 → kW kZM X (kA kZM X) s σ23 H locs → lv_has ls 7 [(0, .ref (X.2.1 0)), (3, .int x3), (4, .int x4), (5, .int x5_22)] → W p l e rm_X11_game s m args below meth c H locs 0 0 Q (F0 m 146 ls []) := by
                    intro σ23 H locs ls h hW hl
                    have h := hk146 σ23 h
                    refine lv_iconst (v := 0) (pc := 146) hx hcb dX11_game_146 rfl ?_
                    refine lv_istore (lv' := [(6, .int 0), (0, .ref (X.2.1 0)), (3, .int x3), (4, .int x4), (5, .int x5_22)]) (pc := 147) hx hcb dX11_game_147 hl (by decide) rfl (fun ls hl => ?_)
                    obtain ⟨K177, hk177, h⟩ := h
                    have hK177 : ∀ (σ24 : Mm) (H : Heap) (locs : List Loc) (ls : Array Slot), K177 σ24 → kW kZM X (kA kZM X) s σ24 H locs → lv_has ls 7 [(0, .ref (X.2.1 0)), (3, .int x3), (4, .int x4), (5, .int x5_22)] → W p l e rm_X11_game s m args below meth c H locs 0 0 Q (F0 m 177 ls []) := by
                      intro σ24 H locs ls h hW hl
                      have h := hk177 σ24 h
                      refine lv_iinc (v := x5_22 + (-1)) (lv' := [(5, .int (x5_22 + (-1))), (0, .ref (X.2.1 0)), (3, .int x3), (4, .int x4)]) (pc := 177) hx hcb dX11_game_177 hl (k := 3) rfl rfl (by decide) rfl (fun ls hl => ?_)
                      refine lv_goto (tgt := 91) (pc := 180) hx hcb dX11_game_180 (by decide) ?_
                      exact ih σ24 (x5_22 + (-1)) _ _ _ h hW (lv_sub hl [1, 2, 3, 0] rfl)
                    have hL149 : ∀ (n : Nat) (σ25 : Mm) (x6_26 : Int32) (H : Heap) (locs : List Loc) (ls : Array Slot), wp_X11_game_L149 K177 n σ25 x6_26 → kW kZM X (kA kZM X) s σ25 H locs → lv_has ls 7 [(0, .ref (X.2.1 0)), (3, .int x3), (4, .int x4), (5, .int x5_22), (6, .int x6_26)] → W p l e rm_X11_game s m args below meth c H locs 0 0 Q (F0 m 149 ls []) := by
                      intro n
                      induction n with
                      | zero =>
                        intro σ25 x6_26 H locs ls h
                        exact False.elim h
                      | succ n ih =>
                        intro σ25 x6_26 H locs ls h hW hl
                        unfold wp_X11_game_L149 at h
                        refine lv_iload (pc := 149) hx hcb dX11_game_149 (lv_at hl 4 rfl) ?_
                        refine lv_sipush (v := 1008) (pc := 151) hx hcb dX11_game_151 rfl ?_
                        refine lv_icmp_ge (tgt := 177) (pc := 154) hx hcb dX11_game_154 (by decide) (fun c154 => ?_) (fun c154 => ?_)
                        · have h := h.1 c154
                          exact hK177 σ25 _ _ _ h hW (lv_sub hl [0, 1, 2, 3] rfl)
                        · have h := h.2 c154
                          refine lv_aload_n (pc := 157) hx hcb dX11_game_157 rfl (lv_at hl 0 rfl) ?_
                          refine kget (v := .ref (X.2.1 11)) (pc := 158) hx hcb hts hown hS hW iwX11 kOM_0 rfl 17 (by decide) q875 rfl rfl dX11_game_158 ?_
                          refine lv_iload (pc := 161) hx hcb dX11_game_161 (lv_at hl 4 rfl) ?_
                          refine lv_aload_n (pc := 163) hx hcb dX11_game_163 rfl (lv_at hl 0 rfl) ?_
                          refine kget (v := .ref (X.2.1 12)) (pc := 164) hx hcb hts hown hS hW iwX11 kOM_0 rfl 18 (by decide) q876 rfl rfl dX11_game_164 ?_
                          refine lv_iload (pc := 167) hx hcb dX11_game_167 (lv_at hl 4 rfl) ?_
                          have hin27 := h.1
                          have h := h.2
                          refine kzald (x6_26.toNatClampNeg) (pc := 169) hx hcb hS hW kZM_12 rfl (kin_of hin27 (by decide)) dX11_game_169 ?_
                          have hin28 := h.1
                          have h := h.2
                          refine kzast (x6_26.toNatClampNeg) (pc := 170) hx hcb hS hW kZM_11 rfl (kin_of hin28 (by decide)) dX11_game_170 (fun σ29 H locs eσ29 hW => ?_)
                          have h := h σ29 eσ29
                          refine lv_iinc (v := x6_26 + 1) (lv' := [(6, .int (x6_26 + 1)), (0, .ref (X.2.1 0)), (3, .int x3), (4, .int x4), (5, .int x5_22)]) (pc := 171) hx hcb dX11_game_171 hl (k := 4) rfl rfl (by decide) rfl (fun ls hl => ?_)
                          refine lv_goto (tgt := 149) (pc := 174) hx hcb dX11_game_174 (by decide) ?_
                          exact ih σ29 (x6_26 + 1) _ _ _ h hW (lv_sub hl [1, 2, 3, 4, 0] rfl)
                    obtain ⟨n, h⟩ := h
                    exact hL149 n σ23 0 _ _ _ h hW (lv_sub hl [1, 2, 3, 4, 0] rfl)
                  have hL99 : ∀ (n : Nat) (σ30 : Mm) (x6_31 : Int32) (H : Heap) (locs : List Loc) (ls : Array Slot), wp_X11_game_L99 x3 x5_22 K146 n σ30 x6_31 → kW kZM X (kA kZM X) s σ30 H locs → lv_has ls 7 [(0, .ref (X.2.1 0)), (3, .int x3), (4, .int x4), (5, .int x5_22), (6, .int x6_31)] → W p l e rm_X11_game s m args below meth c H locs 0 0 Q (F0 m 99 ls []) := by
                    intro n
                    induction n with
                    | zero =>
                      intro σ30 x6_31 H locs ls h
                      exact False.elim h
                    | succ n ih =>
                      intro σ30 x6_31 H locs ls h hW hl
                      unfold wp_X11_game_L99 at h
                      refine lv_iload (pc := 99) hx hcb dX11_game_99 (lv_at hl 4 rfl) ?_
                      refine lv_sipush (v := 1008) (pc := 101) hx hcb dX11_game_101 rfl ?_
                      refine lv_icmp_ge (tgt := 146) (pc := 104) hx hcb dX11_game_104 (by decide) (fun c104 => ?_) (fun c104 => ?_)
                      · have h := h.1 c104
                        exact hK146 σ30 _ _ _ h hW (lv_sub hl [0, 1, 2, 3] rfl)
                      · have h := h.2 c104
                        refine lv_aload_n (pc := 107) hx hcb dX11_game_107 rfl (lv_at hl 0 rfl) ?_
                        refine kget (v := .ref (X.2.1 12)) (pc := 108) hx hcb hts hown hS hW iwX11 kOM_0 rfl 18 (by decide) q876 rfl rfl dX11_game_108 ?_
                        refine lv_iload (pc := 111) hx hcb dX11_game_111 (lv_at hl 4 rfl) ?_
                        refine lv_aload_n (pc := 113) hx hcb dX11_game_113 rfl (lv_at hl 0 rfl) ?_
                        refine lv_iload (pc := 114) hx hcb dX11_game_114 (lv_at hl 4 rfl) ?_
                        refine kci (krunV (As := [.int x6_31]) (rest := [.int x6_31, .ref (X.2.1 12)]) (pc := 116) hx hcb hml hown hts hS hW (c_X11_isState l X σ30 x6_31 _ h) mf_X11_isState q1062 kOM_0 rfl ⟨rfl, rfl⟩ ⟨Nat.le_of_ble_eq_true rfl, Nat.le_of_ble_eq_true rfl⟩ rfl hl.1 rfl (Nat.le_of_ble_eq_true rfl) dX11_game_116 ⟨Nat.zero_le _, Nat.zero_le _⟩) hS hW (fun r33 σ32 H locs h hW => ?_)
                        obtain ⟨h, rfl⟩ := h
                        obtain ⟨K139, hk139, h⟩ := h
                        have hK139 : ∀ (v34 : Int32) (H : Heap) (locs : List Loc) (ls : Array Slot), K139 v34 → kW kZM X (kA kZM X) s σ30 H locs → lv_has ls 7 [(0, .ref (X.2.1 0)), (3, .int x3), (4, .int x4), (5, .int x5_22), (6, .int x6_31)] → W p l e rm_X11_game s m args below meth c H locs 0 0 Q (F0 m 139 ls [.int v34, .int x6_31, .ref (X.2.1 12)]) := by
                          intro v34 H locs ls h hW hl
                          have h := hk139 v34 h
                          have hin35 := h.1
                          have h := h.2
                          refine kzast (x6_31.toNatClampNeg) (pc := 139) hx hcb hS hW kZM_12 rfl (kin_of hin35 (by decide)) dX11_game_139 (fun σ36 H locs eσ36 hW => ?_)
                          have h := h σ36 eσ36
                          refine lv_iinc (v := x6_31 + 1) (lv' := [(6, .int (x6_31 + 1)), (0, .ref (X.2.1 0)), (3, .int x3), (4, .int x4), (5, .int x5_22)]) (pc := 140) hx hcb dX11_game_140 hl (k := 4) rfl rfl (by decide) rfl (fun ls hl => ?_)
                          refine lv_goto (tgt := 99) (pc := 143) hx hcb dX11_game_143 (by decide) ?_
                          exact ih σ36 (x6_31 + 1) _ _ _ h hW (lv_sub hl [1, 2, 3, 4, 0] rfl)
                        obtain ⟨K138, hk138, h⟩ := h
                        have hK138 : ∀  (H : Heap) (locs : List Loc) (ls : Array Slot), K138 → kW kZM X (kA kZM X) s σ30 H locs → lv_has ls 7 [(0, .ref (X.2.1 0)), (3, .int x3), (4, .int x4), (5, .int x5_22), (6, .int x6_31)] → W p l e rm_X11_game s m args below meth c H locs 0 0 Q (F0 m 138 ls [.int x6_31, .ref (X.2.1 12)]) := by
                          intro  H locs ls h hW hl
                          have h := hk138 h
                          refine lv_iconst (v := 0) (pc := 138) hx hcb dX11_game_138 rfl ?_
                          exact hK139 0 _ _ _ h hW (lv_sub hl [0, 1, 2, 3, 4] rfl)
                        refine lv_if_eq (tgt := 138) (pc := 119) hx hcb dX11_game_119 (by decide) (fun c119 => ?_) (fun c119 => ?_)
                        · have h := h.1 c119
                          exact hK138  _ _ _ h hW (lv_sub hl [0, 1, 2, 3, 4] rfl)
                        · have h := h.2 c119
                          refine lv_aload_n (pc := 122) hx hcb dX11_game_122 rfl (lv_at hl 0 rfl) ?_
                          refine lv_iload (pc := 123) hx hcb dX11_game_123 (lv_at hl 4 rfl) ?_
                          refine lv_iload (pc := 125) hx hcb dX11_game_125 (lv_at hl 3 rfl) ?_
                          refine lv_iload_n (pc := 127) hx hcb dX11_game_127 rfl (lv_at hl 1 rfl) ?_
                          refine kci (krunV (As := [.int x6_31, .int x5_22, .int x3]) (rest := [.int x6_31, .ref (X.2.1 12)]) (pc := 128) hx hcb hml hown hts hS hW (c_X11_canWin l X σ30 x6_31 x5_22 x3 _ h) mf_X11_canWin q1090 kOM_0 rfl ⟨rfl, rfl⟩ ⟨Nat.le_of_ble_eq_true rfl, Nat.le_of_ble_eq_true rfl⟩ rfl hl.1 rfl (Nat.le_of_ble_eq_true rfl) dX11_game_128 ⟨Nat.zero_le _, Nat.zero_le _⟩) hS hW (fun r38 σ37 H locs h hW => ?_)
                          obtain ⟨h, rfl⟩ := h
                          refine lv_if_eq (tgt := 138) (pc := 131) hx hcb dX11_game_131 (by decide) (fun c131 => ?_) (fun c131 => ?_)
                          · have h := h.1 c131
                            exact hK138  _ _ _ h hW (lv_sub hl [0, 1, 2, 3, 4] rfl)
                          · have h := h.2 c131
                            refine lv_iconst (v := 1) (pc := 134) hx hcb dX11_game_134 rfl ?_
                            refine lv_goto (tgt := 139) (pc := 135) hx hcb dX11_game_135 (by decide) ?_
                            exact hK139 1 _ _ _ h hW (lv_sub hl [0, 1, 2, 3, 4] rfl)
                  obtain ⟨n, h⟩ := h
                  exact hL99 n σ21 0 _ _ _ h hW (lv_sub hl [1, 2, 3, 4, 0] rfl)
            obtain ⟨n, h⟩ := h
            exact hL91 n σ9 x5_10 _ _ _ h hW (lv_sub hl [1, 3, 4, 0] rfl)
          have hL51 : ∀ (n : Nat) (σ39 : Mm) (x5_40 : Int32) (H : Heap) (locs : List Loc) (ls : Array Slot), wp_X11_game_L51 x2 K86 n σ39 x5_40 → kW kZM X (kA kZM X) s σ39 H locs → lv_has ls 7 [(0, .ref (X.2.1 0)), (1, .int x1), (2, .int x2), (3, .int x3), (4, .int x4), (5, .int x5_40)] → W p l e rm_X11_game s m args below meth c H locs 0 0 Q (F0 m 51 ls []) := by
            intro n
            induction n with
            | zero =>
              intro σ39 x5_40 H locs ls h
              exact False.elim h
            | succ n ih =>
              intro σ39 x5_40 H locs ls h hW hl
              unfold wp_X11_game_L51 at h
              refine lv_iload (pc := 51) hx hcb dX11_game_51 (lv_at hl 5 rfl) ?_
              refine lv_sipush (v := 1008) (pc := 53) hx hcb dX11_game_53 rfl ?_
              refine lv_icmp_ge (tgt := 86) (pc := 56) hx hcb dX11_game_56 (by decide) (fun c56 => ?_) (fun c56 => ?_)
              · have h := h.1 c56
                exact hK86 σ39 _ _ _ h hW (lv_sub hl [0, 1, 3, 4] rfl)
              · have h := h.2 c56
                refine lv_aload_n (pc := 59) hx hcb dX11_game_59 rfl (lv_at hl 0 rfl) ?_
                refine kget (v := .ref (X.2.1 11)) (pc := 60) hx hcb hts hown hS hW iwX11 kOM_0 rfl 17 (by decide) q875 rfl rfl dX11_game_60 ?_
                refine lv_iload (pc := 63) hx hcb dX11_game_63 (lv_at hl 5 rfl) ?_
                refine lv_iload (pc := 65) hx hcb dX11_game_65 (lv_at hl 5 rfl) ?_
                refine kci (krunS (As := [.int x5_40]) (rest := [.int x5_40, .ref (X.2.1 11)]) (pc := 67) hx hcb hml hown hts hS hW (c_X11_yardOf l X σ39 x5_40 _ h) mf_X11_yardOf q1004 ⟨rfl, rfl⟩ ⟨Nat.le_of_ble_eq_true rfl, Nat.le_of_ble_eq_true rfl⟩ rfl hl.1 rfl (Nat.le_of_ble_eq_true rfl) dX11_game_67 ⟨Nat.zero_le _, Nat.zero_le _⟩) hS hW (fun r42 σ41 H locs h hW => ?_)
                obtain ⟨h, rfl⟩ := h
                refine lv_iload_n (pc := 70) hx hcb dX11_game_70 rfl (lv_at hl 2 rfl) ?_
                obtain ⟨K79, hk79, h⟩ := h
                have hK79 : ∀ (v43 : Int32) (H : Heap) (locs : List Loc) (ls : Array Slot), K79 v43 → kW kZM X (kA kZM X) s σ39 H locs → lv_has ls 7 [(0, .ref (X.2.1 0)), (1, .int x1), (2, .int x2), (3, .int x3), (4, .int x4), (5, .int x5_40)] → W p l e rm_X11_game s m args below meth c H locs 0 0 Q (F0 m 79 ls [.int v43, .int x5_40, .ref (X.2.1 11)]) := by
                  intro v43 H locs ls h hW hl
                  have h := hk79 v43 h
                  have hin44 := h.1
                  have h := h.2
                  refine kzast (x5_40.toNatClampNeg) (pc := 79) hx hcb hS hW kZM_11 rfl (kin_of hin44 (by decide)) dX11_game_79 (fun σ45 H locs eσ45 hW => ?_)
                  have h := h σ45 eσ45
                  refine lv_iinc (v := x5_40 + 1) (lv' := [(5, .int (x5_40 + 1)), (0, .ref (X.2.1 0)), (1, .int x1), (2, .int x2), (3, .int x3), (4, .int x4)]) (pc := 80) hx hcb dX11_game_80 hl (k := 5) rfl rfl (by decide) rfl (fun ls hl => ?_)
                  refine lv_goto (tgt := 51) (pc := 83) hx hcb dX11_game_83 (by decide) ?_
                  exact ih σ45 (x5_40 + 1) _ _ _ h hW (lv_sub hl [1, 2, 3, 4, 5, 0] rfl)
                refine lv_icmp_ne (tgt := 78) (pc := 71) hx hcb dX11_game_71 (by decide) (fun c71 => ?_) (fun c71 => ?_)
                · have h := h.1 c71
                  refine lv_iconst (v := 0) (pc := 78) hx hcb dX11_game_78 rfl ?_
                  exact hK79 0 _ _ _ h hW (lv_sub hl [0, 1, 2, 3, 4, 5] rfl)
                · have h := h.2 c71
                  refine lv_iconst (v := 1) (pc := 74) hx hcb dX11_game_74 rfl ?_
                  refine lv_goto (tgt := 79) (pc := 75) hx hcb dX11_game_75 (by decide) ?_
                  exact hK79 1 _ _ _ h hW (lv_sub hl [0, 1, 2, 3, 4, 5] rfl)
          obtain ⟨n, h⟩ := h
          exact hL51 n σ 0 _ _ _ h hW (lv_sub hl [1, 2, 3, 4, 5, 0] rfl)
        · have h := h.2 c43
          refine lv_iconst (v := (-1)) (pc := 46) hx hcb dX11_game_46 rfl ?_
          exact hret _ _ _ _ _ _ rfl h hW dX11_game_47
abbrev rm_X11_goal : Room := { frames := 2, cells := 0, slots := 0, locals := 43 }
set_option maxHeartbeats 4000000 in
set_option maxRecDepth 100000 in
theorem c_X11_goal (l : Launch) (X : KX) (σ : Mm) (x1 : Int32) (x2 : Int32) (Φ : Int32 → Mm → Prop) (h : wp_X11_goal σ x1 x2 Φ) : Met l yX11_goal (.code yX11_goal cX11_goal 3 (some .int) :: kT) rm_X11_goal (va_Pc [.ref (X.2.1 0), .int x1, .int x2] (kPre kZM X σ)) (va_Qi (fun r σ' => Φ r σ') (fun σ' t => kPre kZM X σ' t) (kA kZM X)) 0 0 (kA kZM X) := by
  refine kofI (by decide) (Nat.le_of_ble_eq_true rfl) ?_
  intro p e s m args below meth c ls Q hx hcb hml hown hts hS hW hl hret
  have hown : s.vm.findClass RX11 = some m.cls := hown
  have hl : lv_has ls 3 [(0, .ref (X.2.1 0)), (1, .int x1), (2, .int x2)] := hl
  unfold wp_X11_goal at h
  refine lv_aload_n (pc := 0) hx hcb dX11_goal_0 rfl (lv_at hl 0 rfl) ?_
  refine lv_iload_n (pc := 1) hx hcb dX11_goal_1 rfl (lv_at hl 1 rfl) ?_
  refine kci (krunV (As := [.int x1]) (rest := []) (pc := 2) hx hcb hml hown hts hS hW (c_X11_isYard l X σ x1 _ h) mf_X11_isYard q980 kOM_0 rfl ⟨rfl, rfl⟩ ⟨Nat.le_of_ble_eq_true rfl, Nat.le_of_ble_eq_true rfl⟩ rfl hl.1 rfl (Nat.le_of_ble_eq_true rfl) dX11_goal_2 ⟨Nat.zero_le _, Nat.zero_le _⟩) hS hW (fun r2 σ1 H locs h hW => ?_)
  obtain ⟨h, rfl⟩ := h
  refine lv_if_eq (tgt := 18) (pc := 5) hx hcb dX11_goal_5 (by decide) (fun c5 => ?_) (fun c5 => ?_)
  · have h := h.1 c5
    refine lv_iconst (v := (-1)) (pc := 18) hx hcb dX11_goal_18 rfl ?_
    exact hret _ _ _ _ _ _ rfl h hW dX11_goal_19
  · have h := h.2 c5
    refine lv_iload_n (pc := 8) hx hcb dX11_goal_8 rfl (lv_at hl 2 rfl) ?_
    refine lv_iconst (v := 0) (pc := 9) hx hcb dX11_goal_9 rfl ?_
    refine lv_bipush (v := 40) (pc := 10) hx hcb dX11_goal_10 rfl ?_
    refine kci (krunS (As := [.int x2, .int 0, .int 40]) (rest := []) (pc := 12) hx hcb hml hown hts hS hW (c_X11_in l X σ x2 0 40 _ h) mf_X11_in q936 ⟨rfl, rfl⟩ ⟨Nat.le_of_ble_eq_true rfl, Nat.le_of_ble_eq_true rfl⟩ rfl hl.1 rfl (Nat.le_of_ble_eq_true rfl) dX11_goal_12 ⟨Nat.zero_le _, Nat.zero_le _⟩) hS hW (fun r4 σ3 H locs h hW => ?_)
    obtain ⟨h, rfl⟩ := h
    refine lv_if_ne (tgt := 20) (pc := 15) hx hcb dX11_goal_15 (by decide) (fun c15 => ?_) (fun c15 => ?_)
    · have h := h.1 c15
      refine lv_aload_n (pc := 20) hx hcb dX11_goal_20 rfl (lv_at hl 0 rfl) ?_
      refine kget (v := .int (σ.1 0 14)) (pc := 21) hx hcb hts hown hS hW iwX11 kOM_0 rfl 14 (by decide) q872 rfl rfl dX11_goal_21 ?_
      refine lv_bipush (v := 6) (pc := 24) hx hcb dX11_goal_24 rfl ?_
      refine lv_icmp_ne (tgt := 32) (pc := 26) hx hcb dX11_goal_26 (by decide) (fun c26 => ?_) (fun c26 => ?_)
      · have h := h.1 c26
        refine lv_aload_n (pc := 32) hx hcb dX11_goal_32 rfl (lv_at hl 0 rfl) ?_
        refine kget (v := .ref (X.2.1 7)) (pc := 33) hx hcb hts hown hS hW iwX11 kOM_0 rfl 12 (by decide) q870 rfl rfl dX11_goal_33 ?_
        refine lv_aload_n (pc := 36) hx hcb dX11_goal_36 rfl (lv_at hl 0 rfl) ?_
        refine kget (v := .int (σ.1 0 14)) (pc := 37) hx hcb hts hown hS hW iwX11 kOM_0 rfl 14 (by decide) q872 rfl rfl dX11_goal_37 ?_
        refine lv_iload_n (pc := 40) hx hcb dX11_goal_40 rfl (lv_at hl 1 rfl) ?_
        have hin5 := h.1
        have h := h.2
        refine kiast ((σ.1 0 14).toNatClampNeg) (pc := 41) hx hcb hS hW kIM_7 rfl (kin_of hin5 (by decide)) dX11_goal_41 (fun σ6 H locs eσ6 hW => ?_)
        have h := h σ6 eσ6
        refine lv_aload_n (pc := 42) hx hcb dX11_goal_42 rfl (lv_at hl 0 rfl) ?_
        refine kget (v := .ref (X.2.1 8)) (pc := 43) hx hcb hts hown hS hW iwX11 kOM_0 rfl 13 (by decide) q871 rfl rfl dX11_goal_43 ?_
        refine lv_aload_n (pc := 46) hx hcb dX11_goal_46 rfl (lv_at hl 0 rfl) ?_
        refine kget (v := .int (σ6.1 0 14)) (pc := 47) hx hcb hts hown hS hW iwX11 kOM_0 rfl 14 (by decide) q872 rfl rfl dX11_goal_47 ?_
        refine lv_iload_n (pc := 50) hx hcb dX11_goal_50 rfl (lv_at hl 2 rfl) ?_
        have hin7 := h.1
        have h := h.2
        refine kiast ((σ6.1 0 14).toNatClampNeg) (pc := 51) hx hcb hS hW kIM_8 rfl (kin_of hin7 (by decide)) dX11_goal_51 (fun σ8 H locs eσ8 hW => ?_)
        have h := h σ8 eσ8
        refine lv_aload_n (pc := 52) hx hcb dX11_goal_52 rfl (lv_at hl 0 rfl) ?_
        refine lv_dup (pc := 53) hx hcb dX11_goal_53 rfl ?_
        refine kget (v := .int (σ8.1 0 14)) (pc := 54) hx hcb hts hown hS hW iwX11 kOM_0 rfl 14 (by decide) q872 rfl rfl dX11_goal_54 ?_
        refine lv_iconst (v := 1) (pc := 57) hx hcb dX11_goal_57 rfl ?_
        refine lv_iadd (pc := 58) hx hcb dX11_goal_58 ?_
        refine kput (ty := .int) (pc := 59) hx hcb hts hown hS hW iwX11 tyX11 tyX11_ok nmX11 kOM_0 rfl 14 (by decide) q872 rfl rfl rfl rfl rfl (Nat.le_of_ble_eq_true rfl) rfl dX11_goal_59 (fun σ9 H locs eσ9 hW => ?_)
        have h := h σ9 eσ9
        refine lv_aload_n (pc := 62) hx hcb dX11_goal_62 rfl (lv_at hl 0 rfl) ?_
        refine kget (v := .int (σ9.1 0 14)) (pc := 63) hx hcb hts hown hS hW iwX11 kOM_0 rfl 14 (by decide) q872 rfl rfl dX11_goal_63 ?_
        exact hret _ _ _ _ _ _ rfl h hW dX11_goal_66
      · have h := h.2 c26
        refine lv_bipush (v := (-3)) (pc := 29) hx hcb dX11_goal_29 rfl ?_
        exact hret _ _ _ _ _ _ rfl h hW dX11_goal_31
    · have h := h.2 c15
      refine lv_iconst (v := (-1)) (pc := 18) hx hcb dX11_goal_18 rfl ?_
      exact hret _ _ _ _ _ _ rfl h hW dX11_goal_19
abbrev rm_X11_howBut : Room := { frames := 3, cells := 0, slots := 0, locals := 76 }
set_option maxHeartbeats 4000000 in
set_option maxRecDepth 100000 in
theorem c_X11_howBut (l : Launch) (X : KX) (σ : Mm) (x1 : Int32) (Φ : Int64 → Mm → Prop) (h : wp_X11_howBut σ x1 Φ) : Met l yX11_howBut (.code yX11_howBut cX11_howBut 6 (some .long) :: kT) rm_X11_howBut (va_Pc [.ref (X.2.1 0), .int x1] (kPre kZM X σ)) (va_Ql (fun r σ' => Φ r σ') (fun σ' t => kPre kZM X σ' t) (kA kZM X)) 0 0 (kA kZM X) := by
  refine kofL (by decide) (Nat.le_of_ble_eq_true rfl) ?_
  intro p e s m args below meth c ls Q hx hcb hml hown hts hS hW hl hret
  have hown : s.vm.findClass RX11 = some m.cls := hown
  have hl : lv_has ls 6 [(0, .ref (X.2.1 0)), (1, .int x1)] := hl
  unfold wp_X11_howBut at h
  refine lv_iconst (v := 0) (pc := 0) hx hcb dX11_howBut_0 rfl ?_
  refine lv_istore_n (lv' := [(2, .int 0), (0, .ref (X.2.1 0)), (1, .int x1)]) (pc := 1) hx hcb dX11_howBut_1 rfl hl (by decide) rfl (fun ls hl => ?_)
  refine lv_iconst (v := 0) (pc := 2) hx hcb dX11_howBut_2 rfl ?_
  refine lv_istore_n (lv' := [(3, .int 0), (2, .int 0), (0, .ref (X.2.1 0)), (1, .int x1)]) (pc := 3) hx hcb dX11_howBut_3 rfl hl (by decide) rfl (fun ls hl => ?_)
  obtain ⟨K39, hk39, h⟩ := h
  have hK39 : ∀ (x2_1 : Int32) (H : Heap) (locs : List Loc) (ls : Array Slot), K39 x2_1 → kW kZM X (kA kZM X) s σ H locs → lv_has ls 6 [(0, .ref (X.2.1 0)), (1, .int x1), (2, .int x2_1)] → W p l e rm_X11_howBut s m args below meth c H locs 0 0 Q (F0 m 39 ls []) := by
    intro x2_1 H locs ls h hW hl
    have h := hk39 x2_1 h
    refine lv_aload_n (pc := 39) hx hcb dX11_howBut_39 rfl (lv_at hl 0 rfl) ?_
    refine lv_aload_n (pc := 40) hx hcb dX11_howBut_40 rfl (lv_at hl 0 rfl) ?_
    refine kget (v := .ref (X.2.1 1)) (pc := 41) hx hcb hts hown hS hW iwX11 kOM_0 rfl 0 (by decide) q858 rfl rfl dX11_howBut_41 ?_
    refine lv_iconst (v := 3) (pc := 44) hx hcb dX11_howBut_44 rfl ?_
    refine kiald 3 (pc := 45) hx hcb hS hW kIM_1 rfl (kin_of ⟨by decide, by decide⟩ (by decide)) dX11_howBut_45 ?_
    refine kcv (krunV (As := [.int (σ.1 1 3)]) (rest := []) (pc := 46) hx hcb hml hown hts hS hW (c_X11_startWays l X σ (σ.1 1 3) _ h) mf_X11_startWays q1114 kOM_0 rfl ⟨rfl, rfl⟩ ⟨Nat.le_of_ble_eq_true rfl, Nat.le_of_ble_eq_true rfl⟩ rfl hl.1 rfl (Nat.le_of_ble_eq_true rfl) dX11_howBut_46 ⟨Nat.zero_le _, Nat.zero_le _⟩) hS hW (fun σ2 H locs h hW => ?_)
    refine lv_iconst (v := 0) (pc := 49) hx hcb dX11_howBut_49 rfl ?_
    refine lv_istore_n (lv' := [(3, .int 0), (0, .ref (X.2.1 0)), (1, .int x1), (2, .int x2_1)]) (pc := 50) hx hcb dX11_howBut_50 rfl hl (by decide) rfl (fun ls hl => ?_)
    obtain ⟨K74, hk74, h⟩ := h
    have hK74 : ∀ (σ3 : Mm) (H : Heap) (locs : List Loc) (ls : Array Slot), K74 σ3 → kW kZM X (kA kZM X) s σ3 H locs → lv_has ls 6 [(0, .ref (X.2.1 0)), (2, .int x2_1)] → W p l e rm_X11_howBut s m args below meth c H locs 0 0 Q (F0 m 74 ls []) := by
      intro σ3 H locs ls h hW hl
      have h := hk74 σ3 h
      refine lv_aload_n (pc := 74) hx hcb dX11_howBut_74 rfl (lv_at hl 0 rfl) ?_
      refine lv_iload_n (pc := 75) hx hcb dX11_howBut_75 rfl (lv_at hl 1 rfl) ?_
      refine kcv (krunV (As := [.int x2_1]) (rest := []) (pc := 76) hx hcb hml hown hts hS hW (c_X11_bar l X σ3 x2_1 _ h) mf_X11_bar q1118 kOM_0 rfl ⟨rfl, rfl⟩ ⟨Nat.le_of_ble_eq_true rfl, Nat.le_of_ble_eq_true rfl⟩ rfl hl.1 rfl (Nat.le_of_ble_eq_true rfl) dX11_howBut_76 ⟨Nat.zero_le _, Nat.zero_le _⟩) hS hW (fun σ4 H locs h hW => ?_)
      refine lv_lconst (v := 0) (pc := 79) hx hcb dX11_howBut_79 rfl ?_
      refine lv_lstore_n (lv' := [(3, .long 0), (0, .ref (X.2.1 0)), (2, .int x2_1)]) (pc := 80) hx hcb dX11_howBut_80 rfl hl (by decide) rfl (fun ls hl => ?_)
      refine lv_iconst (v := 0) (pc := 81) hx hcb dX11_howBut_81 rfl ?_
      refine lv_istore (lv' := [(5, .int 0), (3, .long 0), (0, .ref (X.2.1 0)), (2, .int x2_1)]) (pc := 82) hx hcb dX11_howBut_82 hl (by decide) rfl (fun ls hl => ?_)
      have hL84 : ∀ (n : Nat) (x3_5 : Int64) (x5_6 : Int32) (H : Heap) (locs : List Loc) (ls : Array Slot), wp_X11_howBut_L84 Φ σ4 n x3_5 x5_6 → kW kZM X (kA kZM X) s σ4 H locs → lv_has ls 6 [(0, .ref (X.2.1 0)), (3, .long x3_5), (5, .int x5_6)] → W p l e rm_X11_howBut s m args below meth c H locs 0 0 Q (F0 m 84 ls []) := by
        intro n
        induction n with
        | zero =>
          intro x3_5 x5_6 H locs ls h
          exact False.elim h
        | succ n ih =>
          intro x3_5 x5_6 H locs ls h hW hl
          unfold wp_X11_howBut_L84 at h
          refine lv_iload (pc := 84) hx hcb dX11_howBut_84 (lv_at hl 2 rfl) ?_
          refine lv_sipush (v := 1008) (pc := 86) hx hcb dX11_howBut_86 rfl ?_
          refine lv_icmp_ge (tgt := 108) (pc := 89) hx hcb dX11_howBut_89 (by decide) (fun c89 => ?_) (fun c89 => ?_)
          · have h := h.1 c89
            refine lv_lload_n (pc := 108) hx hcb dX11_howBut_108 rfl (lv_at hl 1 rfl) ?_
            exact hret _ _ _ _ _ _ h hW dX11_howBut_109
          · have h := h.2 c89
            refine lv_lload_n (pc := 92) hx hcb dX11_howBut_92 rfl (lv_at hl 1 rfl) ?_
            refine lv_aload_n (pc := 93) hx hcb dX11_howBut_93 rfl (lv_at hl 0 rfl) ?_
            refine kget (v := .ref (X.2.1 15)) (pc := 94) hx hcb hts hown hS hW iwX11 kOM_0 rfl 22 (by decide) q880 rfl rfl dX11_howBut_94 ?_
            refine lv_iload (pc := 97) hx hcb dX11_howBut_97 (lv_at hl 2 rfl) ?_
            have hin7 := h.1
            have h := h.2
            refine klald (x5_6.toNatClampNeg) (pc := 99) hx hcb hS hW kJM_15 rfl (kin_of hin7 (by decide)) dX11_howBut_99 ?_
            refine lv_ladd (pc := 100) hx hcb dX11_howBut_100 ?_
            refine lv_topl (fun x3_8 ex3_8 => ?_)
            have h := h x3_8 ex3_8
            refine lv_lstore_n (lv' := [(3, .long x3_8), (0, .ref (X.2.1 0)), (5, .int x5_6)]) (pc := 101) hx hcb dX11_howBut_101 rfl hl (by decide) rfl (fun ls hl => ?_)
            refine lv_iinc (v := x5_6 + 1) (lv' := [(5, .int (x5_6 + 1)), (3, .long x3_8), (0, .ref (X.2.1 0))]) (pc := 102) hx hcb dX11_howBut_102 hl (k := 2) rfl rfl (by decide) rfl (fun ls hl => ?_)
            refine lv_goto (tgt := 84) (pc := 105) hx hcb dX11_howBut_105 (by decide) ?_
            exact ih x3_8 (x5_6 + 1) _ _ _ h hW (lv_sub hl [2, 1, 0] rfl)
      obtain ⟨n, h⟩ := h
      exact hL84 n 0 0 _ _ _ h hW (lv_sub hl [2, 1, 0] rfl)
    have hL51 : ∀ (n : Nat) (σ9 : Mm) (x3_10 : Int32) (H : Heap) (locs : List Loc) (ls : Array Slot), wp_X11_howBut_L51 x1 x2_1 K74 n σ9 x3_10 → kW kZM X (kA kZM X) s σ9 H locs → lv_has ls 6 [(0, .ref (X.2.1 0)), (1, .int x1), (2, .int x2_1), (3, .int x3_10)] → W p l e rm_X11_howBut s m args below meth c H locs 0 0 Q (F0 m 51 ls []) := by
      intro n
      induction n with
      | zero =>
        intro σ9 x3_10 H locs ls h
        exact False.elim h
      | succ n ih =>
        intro σ9 x3_10 H locs ls h hW hl
        unfold wp_X11_howBut_L51 at h
        refine lv_iload_n (pc := 51) hx hcb dX11_howBut_51 rfl (lv_at hl 3 rfl) ?_
        refine lv_iload_n (pc := 52) hx hcb dX11_howBut_52 rfl (lv_at hl 2 rfl) ?_
        refine lv_icmp_ge (tgt := 74) (pc := 53) hx hcb dX11_howBut_53 (by decide) (fun c53 => ?_) (fun c53 => ?_)
        · have h := h.1 c53
          exact hK74 σ9 _ _ _ h hW (lv_sub hl [0, 2] rfl)
        · have h := h.2 c53
          refine lv_aload_n (pc := 56) hx hcb dX11_howBut_56 rfl (lv_at hl 0 rfl) ?_
          refine lv_iload_n (pc := 57) hx hcb dX11_howBut_57 rfl (lv_at hl 3 rfl) ?_
          refine kcv (krunV (As := [.int x3_10]) (rest := []) (pc := 58) hx hcb hml hown hts hS hW (c_X11_bar l X σ9 x3_10 _ h) mf_X11_bar q1118 kOM_0 rfl ⟨rfl, rfl⟩ ⟨Nat.le_of_ble_eq_true rfl, Nat.le_of_ble_eq_true rfl⟩ rfl hl.1 rfl (Nat.le_of_ble_eq_true rfl) dX11_howBut_58 ⟨Nat.zero_le _, Nat.zero_le _⟩) hS hW (fun σ11 H locs h hW => ?_)
          refine lv_aload_n (pc := 61) hx hcb dX11_howBut_61 rfl (lv_at hl 0 rfl) ?_
          refine lv_iload_n (pc := 62) hx hcb dX11_howBut_62 rfl (lv_at hl 3 rfl) ?_
          refine lv_iload_n (pc := 63) hx hcb dX11_howBut_63 rfl (lv_at hl 1 rfl) ?_
          refine lv_iconst (v := 0) (pc := 64) hx hcb dX11_howBut_64 rfl ?_
          refine kcv (krunV (As := [.int x3_10, .int x1, .int 0]) (rest := []) (pc := 65) hx hcb hml hown hts hS hW (c_X11_goOn l X σ11 x3_10 x1 0 _ h) mf_X11_goOn q1122 kOM_0 rfl ⟨rfl, rfl⟩ ⟨Nat.le_of_ble_eq_true rfl, Nat.le_of_ble_eq_true rfl⟩ rfl hl.1 rfl (Nat.le_of_ble_eq_true rfl) dX11_howBut_65 ⟨Nat.zero_le _, Nat.zero_le _⟩) hS hW (fun σ12 H locs h hW => ?_)
          refine lv_iinc (v := x3_10 + 1) (lv' := [(3, .int (x3_10 + 1)), (0, .ref (X.2.1 0)), (1, .int x1), (2, .int x2_1)]) (pc := 68) hx hcb dX11_howBut_68 hl (k := 3) rfl rfl (by decide) rfl (fun ls hl => ?_)
          refine lv_goto (tgt := 51) (pc := 71) hx hcb dX11_howBut_71 (by decide) ?_
          exact ih σ12 (x3_10 + 1) _ _ _ h hW (lv_sub hl [1, 2, 3, 0] rfl)
    obtain ⟨n, h⟩ := h
    exact hL51 n σ2 0 _ _ _ h hW (lv_sub hl [1, 2, 3, 0] rfl)
  have hL4 : ∀ (n : Nat) (x2_13 : Int32) (x3_14 : Int32) (H : Heap) (locs : List Loc) (ls : Array Slot), wp_X11_howBut_L4 σ K39 n x2_13 x3_14 → kW kZM X (kA kZM X) s σ H locs → lv_has ls 6 [(0, .ref (X.2.1 0)), (1, .int x1), (2, .int x2_13), (3, .int x3_14)] → W p l e rm_X11_howBut s m args below meth c H locs 0 0 Q (F0 m 4 ls []) := by
    intro n
    induction n with
    | zero =>
      intro x2_13 x3_14 H locs ls h
      exact False.elim h
    | succ n ih =>
      intro x2_13 x3_14 H locs ls h hW hl
      unfold wp_X11_howBut_L4 at h
      refine lv_iload_n (pc := 4) hx hcb dX11_howBut_4 rfl (lv_at hl 3 rfl) ?_
      refine lv_aload_n (pc := 5) hx hcb dX11_howBut_5 rfl (lv_at hl 0 rfl) ?_
      refine kget (v := .int (σ.1 0 21)) (pc := 6) hx hcb hts hown hS hW iwX11 kOM_0 rfl 21 (by decide) q879 rfl rfl dX11_howBut_6 ?_
      refine lv_icmp_ge (tgt := 39) (pc := 9) hx hcb dX11_howBut_9 (by decide) (fun c9 => ?_) (fun c9 => ?_)
      · have h := h.1 c9
        exact hK39 x2_13 _ _ _ h hW (lv_sub hl [0, 1, 2] rfl)
      · have h := h.2 c9
        refine lv_aload_n (pc := 12) hx hcb dX11_howBut_12 rfl (lv_at hl 0 rfl) ?_
        refine kget (v := .ref (X.2.1 14)) (pc := 13) hx hcb hts hown hS hW iwX11 kOM_0 rfl 20 (by decide) q878 rfl rfl dX11_howBut_13 ?_
        refine lv_iload_n (pc := 16) hx hcb dX11_howBut_16 rfl (lv_at hl 3 rfl) ?_
        have hin15 := h.1
        have h := h.2
        refine kiald (x3_14.toNatClampNeg) (pc := 17) hx hcb hS hW kIM_14 rfl (kin_of hin15 (by decide)) dX11_howBut_17 ?_
        refine lv_iload_n (pc := 18) hx hcb dX11_howBut_18 rfl (lv_at hl 2 rfl) ?_
        obtain ⟨K32, hk32, h⟩ := h
        have hK32 : ∀ (v16 : Int32) (H : Heap) (locs : List Loc) (ls : Array Slot), K32 v16 → kW kZM X (kA kZM X) s σ H locs → lv_has ls 6 [(0, .ref (X.2.1 0)), (1, .int x1), (3, .int x3_14)] → W p l e rm_X11_howBut s m args below meth c H locs 0 0 Q (F0 m 32 ls [.int v16]) := by
          intro v16 H locs ls h hW hl
          have h := hk32 v16 h
          refine lv_istore_n (lv' := [(2, .int v16), (0, .ref (X.2.1 0)), (1, .int x1), (3, .int x3_14)]) (pc := 32) hx hcb dX11_howBut_32 rfl hl (by decide) rfl (fun ls hl => ?_)
          refine lv_iinc (v := x3_14 + 1) (lv' := [(3, .int (x3_14 + 1)), (2, .int v16), (0, .ref (X.2.1 0)), (1, .int x1)]) (pc := 33) hx hcb dX11_howBut_33 hl (k := 3) rfl rfl (by decide) rfl (fun ls hl => ?_)
          refine lv_goto (tgt := 4) (pc := 36) hx hcb dX11_howBut_36 (by decide) ?_
          exact ih v16 (x3_14 + 1) _ _ _ h hW (lv_sub hl [2, 3, 1, 0] rfl)
        refine lv_icmp_le (tgt := 31) (pc := 19) hx hcb dX11_howBut_19 (by decide) (fun c19 => ?_) (fun c19 => ?_)
        · have h := h.1 c19
          refine lv_iload_n (pc := 31) hx hcb dX11_howBut_31 rfl (lv_at hl 2 rfl) ?_
          exact hK32 x2_13 _ _ _ h hW (lv_sub hl [0, 1, 3] rfl)
        · have h := h.2 c19
          refine lv_aload_n (pc := 22) hx hcb dX11_howBut_22 rfl (lv_at hl 0 rfl) ?_
          refine kget (v := .ref (X.2.1 14)) (pc := 23) hx hcb hts hown hS hW iwX11 kOM_0 rfl 20 (by decide) q878 rfl rfl dX11_howBut_23 ?_
          refine lv_iload_n (pc := 26) hx hcb dX11_howBut_26 rfl (lv_at hl 3 rfl) ?_
          have hin17 := h.1
          have h := h.2
          refine kiald (x3_14.toNatClampNeg) (pc := 27) hx hcb hS hW kIM_14 rfl (kin_of hin17 (by decide)) dX11_howBut_27 ?_
          refine lv_goto (tgt := 32) (pc := 28) hx hcb dX11_howBut_28 (by decide) ?_
          exact hK32 (σ.1 14 (x3_14.toNatClampNeg)) _ _ _ h hW (lv_sub hl [0, 1, 3] rfl)
  obtain ⟨n, h⟩ := h
  exact hL4 n 0 0 _ _ _ h hW (lv_sub hl [2, 3, 1, 0] rfl)
