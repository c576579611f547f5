theorem e63 : Cond.initialized RJ0 ∈ kT := kT_in 63 (by decide +kernel) (by decide +kernel)
theorem e64 : Cond.initialized RJ1 ∈ kT := kT_in 64 (by decide +kernel) (by decide +kernel)
theorem e65 : Cond.initialized RJ3 ∈ kT := kT_in 65 (by decide +kernel) (by decide +kernel)
theorem e268 : Cond.instanceMethod yJ0_length_8abf5 ∈ kT := kT_in 268 (by decide +kernel) (by decide +kernel)
theorem e269 : Cond.selects RJ0 yJ0_length_8abf5 yJ0_length_8abf5 ∈ kT := kT_in 269 (by decide +kernel) (by decide +kernel)
theorem e270 : Cond.code yJ0_length_8abf5 cJ0_length_8abf5 1 (some .int) ∈ kT := kT_in 270 (by decide +kernel) (by decide +kernel)
theorem e271 : Cond.methodLink RJ0 335 yJ0_coder_7d493 ∈ kT := kT_in 271 (by decide +kernel) (by decide +kernel)
theorem e272 : Cond.instanceMethod yJ0_coder_7d493 ∈ kT := kT_in 272 (by decide +kernel) (by decide +kernel)
theorem e273 : Cond.selects RJ0 yJ0_coder_7d493 yJ0_coder_7d493 ∈ kT := kT_in 273 (by decide +kernel) (by decide +kernel)
theorem e274 : Cond.code yJ0_coder_7d493 cJ0_coder_7d493 1 (some .byte) ∈ kT := kT_in 274 (by decide +kernel) (by decide +kernel)
theorem e275 : Cond.fieldLink RJ0 38 RJ0 "COMPACT_STRINGS" "Z" ∈ kT := kT_in 275 (by decide +kernel) (by decide +kernel)
theorem e278 : Cond.instanceMethod yJ0_charAt_5068e ∈ kT := kT_in 278 (by decide +kernel) (by decide +kernel)
theorem e279 : Cond.selects RJ0 yJ0_charAt_5068e yJ0_charAt_5068e ∈ kT := kT_in 279 (by decide +kernel) (by decide +kernel)
theorem e280 : Cond.code yJ0_charAt_5068e cJ0_charAt_5068e 2 (some .char) ∈ kT := kT_in 280 (by decide +kernel) (by decide +kernel)
theorem e281 : Cond.methodLink RJ0 492 yJ0_isLatin1_aae02 ∈ kT := kT_in 281 (by decide +kernel) (by decide +kernel)
theorem e282 : Cond.instanceMethod yJ0_isLatin1_aae02 ∈ kT := kT_in 282 (by decide +kernel) (by decide +kernel)
theorem e283 : Cond.selects RJ0 yJ0_isLatin1_aae02 yJ0_isLatin1_aae02 ∈ kT := kT_in 283 (by decide +kernel) (by decide +kernel)
theorem e284 : Cond.code yJ0_isLatin1_aae02 cJ0_isLatin1_aae02 1 (some .boolean) ∈ kT := kT_in 284 (by decide +kernel) (by decide +kernel)
theorem e285 : Cond.methodLink RJ0 495 yJ1_charAt_3b067 ∈ kT := kT_in 285 (by decide +kernel) (by decide +kernel)
theorem e286 : Cond.static yJ1_charAt_3b067 ∈ kT := kT_in 286 (by decide +kernel) (by decide +kernel)
theorem e287 : Cond.code yJ1_charAt_3b067 cJ1_charAt_3b067 2 (some .char) ∈ kT := kT_in 287 (by decide +kernel) (by decide +kernel)
theorem e288 : Cond.methodLink RJ1 9 yJ0_checkIndex_df160 ∈ kT := kT_in 288 (by decide +kernel) (by decide +kernel)
theorem e289 : Cond.static yJ0_checkIndex_df160 ∈ kT := kT_in 289 (by decide +kernel) (by decide +kernel)
theorem e290 : Cond.code yJ0_checkIndex_df160 cJ0_checkIndex_df160 2 none ∈ kT := kT_in 290 (by decide +kernel) (by decide +kernel)
theorem e291 : Cond.fieldLink RJ0 1053 RJ3 "SIOOBE_FORMATTER" "Ljava/util/function/BiFunction;" ∈ kT := kT_in 291 (by decide +kernel) (by decide +kernel)
theorem e293 : Cond.methodLink RJ0 1059 yJ3_checkIndex_8e157 ∈ kT := kT_in 293 (by decide +kernel) (by decide +kernel)
theorem e294 : Cond.static yJ3_checkIndex_8e157 ∈ kT := kT_in 294 (by decide +kernel) (by decide +kernel)
theorem e295 : Cond.code yJ3_checkIndex_8e157 cJ3_checkIndex_8e157 3 (some .int) ∈ kT := kT_in 295 (by decide +kernel) (by decide +kernel)
theorem e1156 : Cond.fieldLink RJ0 9 RJ0 "value" "[B" ∈ kT := kT_in 1156 (by decide +kernel) (by decide +kernel)
theorem e1157 : Cond.fieldLink RJ0 15 RJ0 "coder" "B" ∈ kT := kT_in 1157 (by decide +kernel) (by decide +kernel)
theorem mfs_J0_length_8abf5 : kMV yJ0_length_8abf5 RJ0 cJ0_length_8abf5 1 (some .int) 0 := ⟨e270, e63, e268, e269, ⟨by decide +kernel, by decide +kernel⟩, by decide +kernel⟩
theorem mfs_J0_coder_7d493 : kMV yJ0_coder_7d493 RJ0 cJ0_coder_7d493 1 (some .byte) 0 := ⟨e274, e63, e272, e273, ⟨by decide +kernel, by decide +kernel⟩, by decide +kernel⟩
theorem mfs_J0_isLatin1_aae02 : kMV yJ0_isLatin1_aae02 RJ0 cJ0_isLatin1_aae02 1 (some .boolean) 0 := ⟨e284, e63, e282, e283, ⟨by decide +kernel, by decide +kernel⟩, by decide +kernel⟩
theorem mfs_J0_charAt_5068e : kMV yJ0_charAt_5068e RJ0 cJ0_charAt_5068e 2 (some .char) 1 := ⟨e280, e63, e278, e279, ⟨by decide +kernel, by decide +kernel⟩, by decide +kernel⟩
theorem mfs_J0_checkIndex_df160 : kMS yJ0_checkIndex_df160 cJ0_checkIndex_df160 2 none 2 := ⟨e290, e63, e289, ⟨by decide +kernel, by decide +kernel⟩, by decide +kernel⟩
theorem mfs_J1_charAt_3b067 : kMS yJ1_charAt_3b067 cJ1_charAt_3b067 2 (some .char) 2 := ⟨e287, e64, e286, ⟨by decide +kernel, by decide +kernel⟩, by decide +kernel⟩
theorem mfs_J3_checkIndex_8e157 : kMS yJ3_checkIndex_8e157 cJ3_checkIndex_8e157 3 (some .int) 3 := ⟨e295, e65, e294, ⟨by decide +kernel, by decide +kernel⟩, by decide +kernel⟩
theorem s_coder (l : Launch) (a b f : Nat) : kSI l yJ0_coder_7d493 cJ0_coder_7d493 1 .byte { frames := 0, cells := 0, slots := 0, locals := 0 } a b f [.ref a] 0 := by
  refine ksI (by decide) (Nat.le_of_ble_eq_true rfl) ?_
  intro p e s m args below meth c ls Q hx hcb hml hown hts hE hS hl hret
  have hown : s.vm.findClass RJ0 = some m.cls := hown
  have hl : lv_has ls 1 [(0, .ref a)] := hl
  refine va_gets (pc := 0) hx hcb hE.2.2.2.2.1 hS hown (hts _ e275) (fun _ h => h) dJ0_coder_7d493_0 ?_
  refine lv_if_eq (tgt := 13) (pc := 3) hx hcb dJ0_coder_7d493_3 (by decide) (fun c1 => absurd c1 (by decide)) (fun _ => ?_)
  refine lv_aload_n (pc := 6) hx hcb dJ0_coder_7d493_6 rfl (lv_at hl 0 rfl) ?_
  refine vk_getf (pc := 7) hx hcb hE.2.1 hS hown (hts _ e1157) (fun _ h => h) dJ0_coder_7d493_7 ?_
  refine lv_goto (tgt := 14) (pc := 10) hx hcb dJ0_coder_7d493_10 (by decide) ?_
  exact hret _ _ _ _ rfl hS dJ0_coder_7d493_14
theorem s_latin (l : Launch) (a b f : Nat) : kSI l yJ0_isLatin1_aae02 cJ0_isLatin1_aae02 1 .boolean { frames := 0, cells := 0, slots := 0, locals := 0 } a b f [.ref a] 1 := by
  refine ksI (by decide) (Nat.le_of_ble_eq_true rfl) ?_
  intro p e s m args below meth c ls Q hx hcb hml hown hts hE hS hl hret
  have hown : s.vm.findClass RJ0 = some m.cls := hown
  have hl : lv_has ls 1 [(0, .ref a)] := hl
  refine va_gets (pc := 0) hx hcb hE.2.2.2.2.1 hS hown (hts _ e275) (fun _ h => h) dJ0_isLatin1_aae02_0 ?_
  refine lv_if_eq (tgt := 17) (pc := 3) hx hcb dJ0_isLatin1_aae02_3 (by decide) (fun c1 => absurd c1 (by decide)) (fun _ => ?_)
  refine lv_aload_n (pc := 6) hx hcb dJ0_isLatin1_aae02_6 rfl (lv_at hl 0 rfl) ?_
  refine vk_getf (pc := 7) hx hcb hE.2.1 hS hown (hts _ e1157) (fun _ h => h) dJ0_isLatin1_aae02_7 ?_
  refine lv_if_ne (tgt := 17) (pc := 10) hx hcb dJ0_isLatin1_aae02_10 (by decide) (fun c1 => absurd rfl c1) (fun _ => ?_)
  refine lv_iconst (v := 1) (pc := 13) hx hcb dJ0_isLatin1_aae02_13 rfl ?_
  refine lv_goto (tgt := 18) (pc := 14) hx hcb dJ0_isLatin1_aae02_14 (by decide) ?_
  exact hret _ _ _ _ rfl hS dJ0_isLatin1_aae02_18
theorem s_pre (l : Launch) (a b f : Nat) (k : Nat) (hk : k < 33) : kSI l yJ3_checkIndex_8e157 cJ3_checkIndex_8e157 3 .int { frames := 0, cells := 0, slots := 0, locals := 0 } a b f [.int (nI k), .int (nI 33), kfv f] (nI k) := by
  refine ksI (by decide) (by cases f <;> exact (Nat.le_of_ble_eq_true rfl)) ?_
  intro p e s m args below meth c ls Q hx hcb hml hown hts hE hS hl hret
  have hl : lv_has ls 3 [(0, .int (nI k)), (1, .int (nI 33)), (2, kfv f)] := by cases f <;> exact hl
  refine lv_iload_n (pc := 0) hx hcb dJ3_checkIndex_8e157_0 rfl (lv_at hl 0 rfl) ?_
  refine lv_if_lt (tgt := 9) (pc := 1) hx hcb dJ3_checkIndex_8e157_1 (by decide) (fun c1 => absurd c1 (nI_pos (by omega))) (fun _ => ?_)
  refine lv_iload_n (pc := 4) hx hcb dJ3_checkIndex_8e157_4 rfl (lv_at hl 0 rfl) ?_
  refine lv_iload_n (pc := 5) hx hcb dJ3_checkIndex_8e157_5 rfl (lv_at hl 1 rfl) ?_
  refine lv_icmp_lt (tgt := 16) (pc := 6) hx hcb dJ3_checkIndex_8e157_6 (by decide) (fun _ => ?_) (fun c1 => absurd (nI_lt hk (by omega)) c1)
  refine lv_iload_n (pc := 16) hx hcb dJ3_checkIndex_8e157_16 rfl (lv_at hl 0 rfl) ?_
  exact hret _ _ _ _ rfl hS dJ3_checkIndex_8e157_17
theorem s_chk (l : Launch) (a b f : Nat) (k : Nat) (hk : k < 33) : kSV l yJ0_checkIndex_df160 cJ0_checkIndex_df160 2 { frames := 1, cells := 0, slots := 0, locals := 22 } a b f [.int (nI k), .int (nI 33)] := by
  refine ksV (by decide) (Nat.le_of_ble_eq_true rfl) ?_
  intro p e s m args below meth c ls Q hx hcb hml hown hts hE hS hl hret
  have hown : s.vm.findClass RJ0 = some m.cls := hown
  have hl : lv_has ls 2 [(0, .int (nI k)), (1, .int (nI 33))] := hl
  refine lv_iload_n (pc := 0) hx hcb dJ0_checkIndex_df160_0 rfl (lv_at hl 0 rfl) ?_
  refine lv_iload_n (pc := 1) hx hcb dJ0_checkIndex_df160_1 rfl (lv_at hl 1 rfl) ?_
  refine va_gets (pc := 2) hx hcb hE.2.2.2.2.2 hS hown (hts _ e291) (fun _ h => h) dJ0_checkIndex_df160_2 ?_
  refine ksS (As := [.int (nI k), .int (nI 33), kfv f]) (rest := []) (pc := 5) hx hcb hml hown hts hE hS (s_pre l a b f k hk) mfs_J3_checkIndex_8e157 e293 ⟨rfl, rfl⟩ ⟨(Nat.le_of_ble_eq_true rfl), (Nat.le_of_ble_eq_true rfl)⟩ rfl hl.1 rfl (Nat.le_of_ble_eq_true rfl) dJ0_checkIndex_df160_5 ⟨(Nat.le_of_ble_eq_true rfl), (Nat.le_of_ble_eq_true rfl)⟩ (fun H locs hS _ _ hE2 => ?_)
  refine lv_pop (pc := 8) hx hcb dJ0_checkIndex_df160_8 rfl ?_
  exact hret _ _ _ _ hS dJ0_checkIndex_df160_9
theorem T1_c : ∀ k, k < 33 → ((nI (T1 k) &&& 255).toUInt32 % 65536).toInt32 = nI (T1 k) := by decide +kernel
theorem T1_n : ∀ k, k < 33 → narrow .char (.int (nI (T1 k))) = .int (nI (T1 k)) := by decide +kernel
theorem s_lat1 (l : Launch) (a b f : Nat) (k : Nat) (hk : k < 33) : kSI l yJ1_charAt_3b067 cJ1_charAt_3b067 2 .char { frames := 2, cells := 0, slots := 0, locals := 43 } a b f [.ref b, .int (nI k)] (nI (T1 k)) := by
  refine ksI (by decide) (Nat.le_of_ble_eq_true rfl) ?_
  intro p e s m args below meth c ls Q hx hcb hml hown hts hE hS hl hret
  have hown : s.vm.findClass RJ1 = some m.cls := hown
  have hl : lv_has ls 2 [(0, .ref b), (1, .int (nI k))] := hl
  refine lv_iload_n (pc := 0) hx hcb dJ1_charAt_3b067_0 rfl (lv_at hl 1 rfl) ?_
  refine lv_aload_n (pc := 1) hx hcb dJ1_charAt_3b067_1 rfl (lv_at hl 0 rfl) ?_
  refine va_tlen (pc := 2) (v := nI 33) hx hcb hE.2.2.2.1 hS rfl dJ1_charAt_3b067_2 ?_
  refine ksSV (As := [.int (nI k), .int (nI 33)]) (rest := []) (pc := 3) hx hcb hml hown hts hE hS (s_chk l a b f k hk) mfs_J0_checkIndex_df160 e288 ⟨rfl, rfl⟩ ⟨(Nat.le_of_ble_eq_true rfl), (Nat.le_of_ble_eq_true rfl)⟩ rfl hl.1 rfl (Nat.le_of_ble_eq_true rfl) dJ1_charAt_3b067_3 ⟨(Nat.le_of_ble_eq_true rfl), (Nat.le_of_ble_eq_true rfl)⟩ (fun H locs hS _ _ hE2 => ?_)
  refine lv_aload_n (pc := 6) hx hcb dJ1_charAt_3b067_6 rfl (lv_at hl 0 rfl) ?_
  refine lv_iload_n (pc := 7) hx hcb dJ1_charAt_3b067_7 rfl (lv_at hl 1 rfl) ?_
  refine va_tb (pc := 8) (v := .int (nI (T1 k))) hx hcb hE.2.2.2.1 hS (vp_in_nI hk (by omega)) (by rw [nI_clamp (by omega)]) dJ1_charAt_3b067_8 ?_
  refine lv_sipush (v := 255) (pc := 9) hx hcb dJ1_charAt_3b067_9 rfl ?_
  refine lv_iand (pc := 12) hx hcb dJ1_charAt_3b067_12 ?_
  refine lv_i2c (v := nI (T1 k)) (pc := 13) hx hcb dJ1_charAt_3b067_13 (T1_c k hk) ?_
  exact hret _ _ _ _ (T1_n k hk) hS dJ1_charAt_3b067_14
theorem s_len (l : Launch) (a b f : Nat) : kSI l yJ0_length_8abf5 cJ0_length_8abf5 1 .int { frames := 1, cells := 0, slots := 0, locals := 20 } a b f [.ref a] (nI 33) := by
  refine ksI (by decide) (Nat.le_of_ble_eq_true rfl) ?_
  intro p e s m args below meth c ls Q hx hcb hml hown hts hE hS hl hret
  have hown : s.vm.findClass RJ0 = some m.cls := hown
  have hl : lv_has ls 1 [(0, .ref a)] := hl
  refine lv_aload_n (pc := 0) hx hcb dJ0_length_8abf5_0 rfl (lv_at hl 0 rfl) ?_
  refine vk_getf (pc := 1) hx hcb hE.2.2.1 hS hown (hts _ e1156) (fun _ h => h) dJ0_length_8abf5_1 ?_
  refine va_tlen (pc := 4) (v := nI 33) hx hcb hE.2.2.2.1 hS rfl dJ0_length_8abf5_4 ?_
  refine lv_aload_n (pc := 5) hx hcb dJ0_length_8abf5_5 rfl (lv_at hl 0 rfl) ?_
  refine ksV1 (As := []) (rest := [.int (nI 33)]) (pc := 6) hx hcb hml hown hts hE hS (s_coder l a b f) mfs_J0_coder_7d493 e271 ⟨rfl, rfl⟩ ⟨(Nat.le_of_ble_eq_true rfl), (Nat.le_of_ble_eq_true rfl)⟩ rfl hl.1 rfl (Nat.le_of_ble_eq_true rfl) dJ0_length_8abf5_6 ⟨(Nat.le_of_ble_eq_true rfl), (Nat.le_of_ble_eq_true rfl)⟩ (fun H locs hS _ _ hE2 => ?_)
  refine lv_ishr (pc := 9) hx hcb dJ0_length_8abf5_9 ?_
  have e9 : nI 33 >>> ((0 : Int32) &&& 31) = nI 33 := by decide
  rw [e9]
  exact hret _ _ _ _ rfl hS dJ0_length_8abf5_10
theorem s_chr (l : Launch) (a b f : Nat) (k : Nat) (hk : k < 33) : kSI l yJ0_charAt_5068e cJ0_charAt_5068e 2 .char { frames := 3, cells := 0, slots := 0, locals := 64 } a b f [.ref a, .int (nI k)] (nI (T1 k)) := by
  refine ksI (by decide) (Nat.le_of_ble_eq_true rfl) ?_
  intro p e s m args below meth c ls Q hx hcb hml hown hts hE hS hl hret
  have hown : s.vm.findClass RJ0 = some m.cls := hown
  have hl : lv_has ls 2 [(0, .ref a), (1, .int (nI k))] := hl
  refine lv_aload_n (pc := 0) hx hcb dJ0_charAt_5068e_0 rfl (lv_at hl 0 rfl) ?_
  refine ksV1 (As := []) (rest := []) (pc := 1) hx hcb hml hown hts hE hS (s_latin l a b f) mfs_J0_isLatin1_aae02 e281 ⟨rfl, rfl⟩ ⟨(Nat.le_of_ble_eq_true rfl), (Nat.le_of_ble_eq_true rfl)⟩ rfl hl.1 rfl (Nat.le_of_ble_eq_true rfl) dJ0_charAt_5068e_1 ⟨(Nat.le_of_ble_eq_true rfl), (Nat.le_of_ble_eq_true rfl)⟩ (fun H locs hS _ _ hE2 => ?_)
  refine lv_if_eq (tgt := 16) (pc := 4) hx hcb dJ0_charAt_5068e_4 (by decide) (fun c1 => absurd c1 (by decide)) (fun _ => ?_)
  refine lv_aload_n (pc := 7) hx hcb dJ0_charAt_5068e_7 rfl (lv_at hl 0 rfl) ?_
  refine vk_getf (pc := 8) hx hcb hE.2.2.1 hS hown (hts _ e1156) (fun _ h => h) dJ0_charAt_5068e_8 ?_
  refine lv_iload_n (pc := 11) hx hcb dJ0_charAt_5068e_11 rfl (lv_at hl 1 rfl) ?_
  refine ksS (As := [.ref b, .int (nI k)]) (rest := []) (pc := 12) hx hcb hml hown hts hE2 hS (s_lat1 l a b f k hk) mfs_J1_charAt_3b067 e285 ⟨rfl, rfl⟩ ⟨(Nat.le_of_ble_eq_true rfl), (Nat.le_of_ble_eq_true rfl)⟩ rfl hl.1 rfl (Nat.le_of_ble_eq_true rfl) dJ0_charAt_5068e_12 ⟨(Nat.le_of_ble_eq_true rfl), (Nat.le_of_ble_eq_true rfl)⟩ (fun H locs hS _ _ hE3 => ?_)
  exact hret _ _ _ _ (T1_n k hk) hS dJ0_charAt_5068e_15
