theorem e64 : Cond.initialized RJ0 ∈ kT := kT_in 64 (by decide +kernel) (by decide +kernel)
theorem e65 : Cond.initialized RJ1 ∈ kT := kT_in 65 (by decide +kernel) (by decide +kernel)
theorem e66 : Cond.initialized RJ3 ∈ kT := kT_in 66 (by decide +kernel) (by decide +kernel)
theorem e269 : Cond.instanceMethod yJ0_length_8abf5 ∈ kT := kT_in 269 (by decide +kernel) (by decide +kernel)
theorem e270 : Cond.selects RJ0 yJ0_length_8abf5 yJ0_length_8abf5 ∈ kT := kT_in 270 (by decide +kernel) (by decide +kernel)
theorem e271 : Cond.code yJ0_length_8abf5 cJ0_length_8abf5 1 (some .int) ∈ kT := kT_in 271 (by decide +kernel) (by decide +kernel)
theorem e273 : Cond.instanceMethod yJ0_coder_7d493 ∈ kT := kT_in 273 (by decide +kernel) (by decide +kernel)
theorem e274 : Cond.selects RJ0 yJ0_coder_7d493 yJ0_coder_7d493 ∈ kT := kT_in 274 (by decide +kernel) (by decide +kernel)
theorem e275 : Cond.code yJ0_coder_7d493 cJ0_coder_7d493 1 (some .byte) ∈ kT := kT_in 275 (by decide +kernel) (by decide +kernel)
theorem e276 : Cond.fieldLink RJ0 38 RJ0 "COMPACT_STRINGS" "Z" ∈ kT := kT_in 276 (by decide +kernel) (by decide +kernel)
theorem e279 : Cond.instanceMethod yJ0_charAt_5068e ∈ kT := kT_in 279 (by decide +kernel) (by decide +kernel)
theorem e280 : Cond.selects RJ0 yJ0_charAt_5068e yJ0_charAt_5068e ∈ kT := kT_in 280 (by decide +kernel) (by decide +kernel)
theorem e281 : Cond.code yJ0_charAt_5068e cJ0_charAt_5068e 2 (some .char) ∈ kT := kT_in 281 (by decide +kernel) (by decide +kernel)
theorem e283 : Cond.instanceMethod yJ0_isLatin1_aae02 ∈ kT := kT_in 283 (by decide +kernel) (by decide +kernel)
theorem e284 : Cond.selects RJ0 yJ0_isLatin1_aae02 yJ0_isLatin1_aae02 ∈ kT := kT_in 284 (by decide +kernel) (by decide +kernel)
theorem e285 : Cond.code yJ0_isLatin1_aae02 cJ0_isLatin1_aae02 1 (some .boolean) ∈ kT := kT_in 285 (by decide +kernel) (by decide +kernel)
theorem e287 : Cond.static yJ1_charAt_3b067 ∈ kT := kT_in 287 (by decide +kernel) (by decide +kernel)
theorem e288 : Cond.code yJ1_charAt_3b067 cJ1_charAt_3b067 2 (some .char) ∈ kT := kT_in 288 (by decide +kernel) (by decide +kernel)
theorem e290 : Cond.static yJ0_checkIndex_df160 ∈ kT := kT_in 290 (by decide +kernel) (by decide +kernel)
theorem e291 : Cond.code yJ0_checkIndex_df160 cJ0_checkIndex_df160 2 none ∈ kT := kT_in 291 (by decide +kernel) (by decide +kernel)
theorem e295 : Cond.static yJ3_checkIndex_8e157 ∈ kT := kT_in 295 (by decide +kernel) (by decide +kernel)
theorem e296 : Cond.code yJ3_checkIndex_8e157 cJ3_checkIndex_8e157 3 (some .int) ∈ kT := kT_in 296 (by decide +kernel) (by decide +kernel)
theorem e1157 : Cond.fieldLink RJ0 15 RJ0 "coder" "B" ∈ kT := kT_in 1157 (by decide +kernel) (by decide +kernel)
theorem mfs_J0_length_8abf5 : kMV yJ0_length_8abf5 RJ0 cJ0_length_8abf5 1 (some .int) 0 := ⟨e271, e64, e269, e270, ⟨by decide +kernel, by decide +kernel⟩, by decide +kernel⟩
theorem mfs_J0_coder_7d493 : kMV yJ0_coder_7d493 RJ0 cJ0_coder_7d493 1 (some .byte) 0 := ⟨e275, e64, e273, e274, ⟨by decide +kernel, by decide +kernel⟩, by decide +kernel⟩
theorem mfs_J0_isLatin1_aae02 : kMV yJ0_isLatin1_aae02 RJ0 cJ0_isLatin1_aae02 1 (some .boolean) 0 := ⟨e285, e64, e283, e284, ⟨by decide +kernel, by decide +kernel⟩, by decide +kernel⟩
theorem mfs_J0_charAt_5068e : kMV yJ0_charAt_5068e RJ0 cJ0_charAt_5068e 2 (some .char) 1 := ⟨e281, e64, e279, e280, ⟨by decide +kernel, by decide +kernel⟩, by decide +kernel⟩
theorem mfs_J0_checkIndex_df160 : kMS yJ0_checkIndex_df160 cJ0_checkIndex_df160 2 none 2 := ⟨e291, e64, e290, ⟨by decide +kernel, by decide +kernel⟩, by decide +kernel⟩
theorem mfs_J1_charAt_3b067 : kMS yJ1_charAt_3b067 cJ1_charAt_3b067 2 (some .char) 2 := ⟨e288, e65, e287, ⟨by decide +kernel, by decide +kernel⟩, by decide +kernel⟩
theorem mfs_J3_checkIndex_8e157 : kMS yJ3_checkIndex_8e157 cJ3_checkIndex_8e157 3 (some .int) 3 := ⟨e296, e66, e295, ⟨by decide +kernel, by decide +kernel⟩, by decide +kernel⟩
theorem s_coder (l : Launch) (a b f : Nat) : kSI l yJ0_coder_7d493 cJ0_coder_7d493 1 .byte { frames := 0, cells := 0, slots := 0, locals := 0 } a b f [.ref a] 0 := by
  refine ksI (by decide) (Nat.le_of_ble_eq_true rfl) ?_
  intro p e s m args below meth c ls Q hx hcb hml hown hts hE hS hl hret
  have hown : s.vm.findClass RJ0 = some m.cls := hown
  have hl : lv_has ls 1 [(0, .ref a)] := hl
  refine va_gets (pc := 0) hx hcb hE.2.2.2.2.1 hS hown (hts _ e276) (fun _ h => h) dJ0_coder_7d493_0 ?_
  refine lv_if_eq (tgt := 13) (pc := 3) hx hcb dJ0_coder_7d493_3 (by decide) (fun c1 => absurd c1 (by decide)) (fun _ => ?_)
  refine lv_aload_n (pc := 6) hx hcb dJ0_coder_7d493_6 rfl (lv_at hl 0 rfl) ?_
  refine vk_getf (pc := 7) hx hcb hE.2.1 hS hown (hts _ e1157) (fun _ h => h) dJ0_coder_7d493_7 ?_
  refine lv_goto (tgt := 14) (pc := 10) hx hcb dJ0_coder_7d493_10 (by decide) ?_
  exact hret _ _ _ _ rfl hS dJ0_coder_7d493_14
theorem s_latin (l : Launch) (a b f : Nat) : kSI l yJ0_isLatin1_aae02 cJ0_isLatin1_aae02 1 .boolean { frames := 0, cells := 0, slots := 0, locals := 0 } a b f [.ref a] 1 := by
  refine ksI (by decide) (Nat.le_of_ble_eq_true rfl) ?_
  intro p e s m args below meth c ls Q hx hcb hml hown hts hE hS hl hret
  have hown : s.vm.findClass RJ0 = some m.cls := hown
  have hl : lv_has ls 1 [(0, .ref a)] := hl
  refine va_gets (pc := 0) hx hcb hE.2.2.2.2.1 hS hown (hts _ e276) (fun _ h => h) dJ0_isLatin1_aae02_0 ?_
  refine lv_if_eq (tgt := 17) (pc := 3) hx hcb dJ0_isLatin1_aae02_3 (by decide) (fun c1 => absurd c1 (by decide)) (fun _ => ?_)
  refine lv_aload_n (pc := 6) hx hcb dJ0_isLatin1_aae02_6 rfl (lv_at hl 0 rfl) ?_
  refine vk_getf (pc := 7) hx hcb hE.2.1 hS hown (hts _ e1157) (fun _ h => h) dJ0_isLatin1_aae02_7 ?_
  refine lv_if_ne (tgt := 17) (pc := 10) hx hcb dJ0_isLatin1_aae02_10 (by decide) (fun c1 => absurd rfl c1) (fun _ => ?_)
  refine lv_iconst (v := 1) (pc := 13) hx hcb dJ0_isLatin1_aae02_13 rfl ?_
  refine lv_goto (tgt := 18) (pc := 14) hx hcb dJ0_isLatin1_aae02_14 (by decide) ?_
  exact hret _ _ _ _ rfl hS dJ0_isLatin1_aae02_18
theorem s_pre (l : Launch) (a b f : Nat) (k : Nat) (hk : k < 33) : kSI l yJ3_checkIndex_8e157 cJ3_checkIndex_8e157 3 .int { frames := 0, cells := 0, slots := 0, locals := 0 } a b f [.int (nI k), .int (nI 33), .ref f] (nI k) := by
  refine ksI (by decide) (Nat.le_of_ble_eq_true rfl) ?_
  intro p e s m args below meth c ls Q hx hcb hml hown hts hE hS hl hret
  have hl : lv_has ls 3 [(0, .int (nI k)), (1, .int (nI 33)), (2, .ref f)] := hl
  refine lv_iload_n (pc := 0) hx hcb dJ3_checkIndex_8e157_0 rfl (lv_at hl 0 rfl) ?_
  refine lv_if_lt (tgt := 9) (pc := 1) hx hcb dJ3_checkIndex_8e157_1 (by decide) (fun c1 => absurd c1 (nI_pos (by omega))) (fun _ => ?_)
  refine lv_iload_n (pc := 4) hx hcb dJ3_checkIndex_8e157_4 rfl (lv_at hl 0 rfl) ?_
  refine lv_iload_n (pc := 5) hx hcb dJ3_checkIndex_8e157_5 rfl (lv_at hl 1 rfl) ?_
  refine lv_icmp_lt (tgt := 16) (pc := 6) hx hcb dJ3_checkIndex_8e157_6 (by decide) (fun _ => ?_) (fun c1 => absurd (nI_lt hk (by omega)) c1)
  refine lv_iload_n (pc := 16) hx hcb dJ3_checkIndex_8e157_16 rfl (lv_at hl 0 rfl) ?_
  exact hret _ _ _ _ rfl hS dJ3_checkIndex_8e157_17
