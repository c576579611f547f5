theorem e75 : Cond.instanceMethod objectInit ∈ kT := kT_in 75 (by decide +kernel) (by decide +kernel)
theorem e76 : Cond.code objectInit ⟨#[0xb1]⟩ 1 none ∈ kT := kT_in 76 (by decide +kernel) (by decide +kernel)
theorem e80 : Cond.instanceMethod yX8_init ∈ kT := kT_in 80 (by decide +kernel) (by decide +kernel)
theorem e81 : Cond.code yX8_init cX8_init 1 none ∈ kT := kT_in 81 (by decide +kernel) (by decide +kernel)
theorem e82 : Cond.methodLink RX8 3 objectInit ∈ kT := kT_in 82 (by decide +kernel) (by decide +kernel)
theorem e90 : Cond.arrayClass .byte ∈ kT := kT_in 90 (by decide +kernel) (by decide +kernel)
theorem e94 : Cond.instanceMethod yX5_init ∈ kT := kT_in 94 (by decide +kernel) (by decide +kernel)
theorem e95 : Cond.code yX5_init cX5_init 2 none ∈ kT := kT_in 95 (by decide +kernel) (by decide +kernel)
theorem e96 : Cond.methodLink RX5 3 objectInit ∈ kT := kT_in 96 (by decide +kernel) (by decide +kernel)
theorem e107 : Cond.instanceMethod yX1_init ∈ kT := kT_in 107 (by decide +kernel) (by decide +kernel)
theorem e108 : Cond.code yX1_init cX1_init 1 none ∈ kT := kT_in 108 (by decide +kernel) (by decide +kernel)
theorem e109 : Cond.methodLink RX1 3 objectInit ∈ kT := kT_in 109 (by decide +kernel) (by decide +kernel)
theorem e141 : Cond.arrayClass .int ∈ kT := kT_in 141 (by decide +kernel) (by decide +kernel)
theorem e145 : Cond.instanceMethod yX3_init ∈ kT := kT_in 145 (by decide +kernel) (by decide +kernel)
theorem e146 : Cond.code yX3_init cX3_init 1 none ∈ kT := kT_in 146 (by decide +kernel) (by decide +kernel)
theorem e147 : Cond.methodLink RX3 1 objectInit ∈ kT := kT_in 147 (by decide +kernel) (by decide +kernel)
theorem e171 : Cond.instanceMethod yX4_init ∈ kT := kT_in 171 (by decide +kernel) (by decide +kernel)
theorem e172 : Cond.code yX4_init cX4_init 1 none ∈ kT := kT_in 172 (by decide +kernel) (by decide +kernel)
theorem e173 : Cond.methodLink RX4 3 objectInit ∈ kT := kT_in 173 (by decide +kernel) (by decide +kernel)
theorem e190 : Cond.instanceMethod yX9_init ∈ kT := kT_in 190 (by decide +kernel) (by decide +kernel)
theorem e191 : Cond.code yX9_init cX9_init 1 none ∈ kT := kT_in 191 (by decide +kernel) (by decide +kernel)
theorem e192 : Cond.methodLink RX9 3 objectInit ∈ kT := kT_in 192 (by decide +kernel) (by decide +kernel)
theorem e206 : Cond.instanceMethod yX7_init ∈ kT := kT_in 206 (by decide +kernel) (by decide +kernel)
theorem e207 : Cond.code yX7_init cX7_init 1 none ∈ kT := kT_in 207 (by decide +kernel) (by decide +kernel)
theorem e208 : Cond.methodLink RX7 3 objectInit ∈ kT := kT_in 208 (by decide +kernel) (by decide +kernel)
theorem e209 : Cond.classLink RX7 9 RX2 ∈ kT := kT_in 209 (by decide +kernel) (by decide +kernel)
theorem e210 : Cond.instantiable RX2 3 ∈ kT := kT_in 210 (by decide +kernel) (by decide +kernel)
theorem e211 : Cond.methodLink RX7 11 yX2_init ∈ kT := kT_in 211 (by decide +kernel) (by decide +kernel)
theorem e212 : Cond.instanceMethod yX2_init ∈ kT := kT_in 212 (by decide +kernel) (by decide +kernel)
theorem e213 : Cond.code yX2_init cX2_init 1 none ∈ kT := kT_in 213 (by decide +kernel) (by decide +kernel)
theorem e214 : Cond.methodLink RX2 3 objectInit ∈ kT := kT_in 214 (by decide +kernel) (by decide +kernel)
theorem e216 : Cond.methodLink RX2 21 yJ7_fill_d0a16 ∈ kT := kT_in 216 (by decide +kernel) (by decide +kernel)
theorem e217 : Cond.static yJ7_fill_d0a16 ∈ kT := kT_in 217 (by decide +kernel) (by decide +kernel)
theorem e218 : Cond.code yJ7_fill_d0a16 cJ7_fill_d0a16 5 none ∈ kT := kT_in 218 (by decide +kernel) (by decide +kernel)
theorem e229 : Cond.arrayClass .long ∈ kT := kT_in 229 (by decide +kernel) (by decide +kernel)
theorem e249 : Cond.instanceMethod yX0_init ∈ kT := kT_in 249 (by decide +kernel) (by decide +kernel)
theorem e250 : Cond.code yX0_init cX0_init 1 none ∈ kT := kT_in 250 (by decide +kernel) (by decide +kernel)
theorem e251 : Cond.methodLink RX0 3 objectInit ∈ kT := kT_in 251 (by decide +kernel) (by decide +kernel)
theorem e252 : Cond.classLink RX0 9 RX6 ∈ kT := kT_in 252 (by decide +kernel) (by decide +kernel)
theorem e253 : Cond.instantiable RX6 1 ∈ kT := kT_in 253 (by decide +kernel) (by decide +kernel)
theorem e254 : Cond.methodLinkNest RX0 11 yX6_init RX10 ∈ kT := kT_in 254 (by decide +kernel) (by decide +kernel)
theorem e255 : Cond.instanceMethod yX6_init ∈ kT := kT_in 255 (by decide +kernel) (by decide +kernel)
theorem e256 : Cond.code yX6_init cX6_init 1 none ∈ kT := kT_in 256 (by decide +kernel) (by decide +kernel)
theorem e257 : Cond.methodLink RX6 3 objectInit ∈ kT := kT_in 257 (by decide +kernel) (by decide +kernel)
abbrev rmi_X8_init : Room := { frames := 1, cells := 1, slots := 300, locals := 12 }
set_option maxHeartbeats 4000000 in
set_option maxRecDepth 100000 in
theorem i_X8_init (l : Launch) (X : KX) (h0 : Nat) : kIM l yX8_init cX8_init 1 rmi_X8_init X [.ref h0] [(h0, .inr (8, [.null, .int 0]))] (fun u => [(h0, .inr (8, [.ref (u 0), .int 0])), ((u 0), .inl (X.2.2.1, 300, .inl (fun _ => 0)))]) := by
  refine kIof (by decide) rfl (Nat.le_of_ble_eq_true rfl) ?_
  intro p e s m args below meth c ls Q A hx hcb hml hown hts hin hK hP hD hS hA hl hret
  have hown : s.vm.findClass RX8 = some m.cls := hown
  have hl : lv_has ls 1 [(0, .ref h0)] := hl
  refine lv_aload_n (pc := 0) hx hcb dX8_init_0 rfl (lv_at hl 0 rfl) ?_
  refine W.objInit hx hcb hown (hts _ e82) (hts _ e75) (hts _ e76) rfl (by rw [hml]; exact hl.1) rfl dX8_init_1 (Nat.le_of_ble_eq_true rfl) (Nat.le_of_ble_eq_true rfl) ?_
  refine W.eq (g2 := F0 m 4 ls []) rfl ?_
  refine lv_aload_n (pc := 4) hx hcb dX8_init_4 rfl (lv_at hl 0 rfl) ?_
  refine lv_sipush (v := 300) (pc := 5) hx hcb dX8_init_5 rfl ?_
  refine kna (atype := .byte) (ty := .byte) (a0 := (300, .inl (fun _ => 0))) (N' := 300) (pc := 8) hx hcb 0 hts e90 rfl (fun _ h => h) hK rfl hP hD hS hA (fun _ => rfl) (by decide) rfl (Nat.le_of_ble_eq_true rfl) (Nat.le_of_ble_eq_true rfl) (Nat.le_of_ble_eq_true rfl) dX8_init_8 (fun q8 H hP hD hS => ?_)
  have hP : va_P X.1 vwCl [(h0, .inr (8, [.null, .int 0])), (q8, .inl (X.2.2.1, 300, .inl (fun _ => 0)))] H := hP
  have hD : va_D A [(h0, .inr (8, [.null, .int 0])), (q8, .inl (X.2.2.1, 300, .inl (fun _ => 0)))] := hD
  refine va_putF (ci := 8) (ty := .array .byte) (v := .ref q8) (T := TX8) (N := 2) (pc := 10) hx hcb hts iwX8 tyX8 tyX8_ok nmX8 hown hK hP hD hS 0 rfl rfl 0 (by decide) (hts _ q83) (fun _ h => h) rfl hin rfl (by decide +kernel) rfl rfl (Nat.le_of_ble_eq_true rfl) dX8_init_10 (fun H locs hP hD hS => ?_)
  have hP : va_P X.1 vwCl [(h0, .inr (8, [.ref q8, .int 0])), (q8, .inl (X.2.2.1, 300, .inl (fun _ => 0)))] H := hP
  have hD : va_D A [(h0, .inr (8, [.ref q8, .int 0])), (q8, .inl (X.2.2.1, 300, .inl (fun _ => 0)))] := hD
  exact hret (fun j => match j with | 0 => q8 | _ => 0) _ _ _ _ hP hD hS dX8_init_13
theorem mi_X8_init : kMI yX8_init cX8_init 1 0 := ⟨e81, q52, e80, rfl, ⟨by decide +kernel, by decide +kernel⟩, by decide +kernel⟩
abbrev rmi_X5_init : Room := { frames := 1, cells := 0, slots := 0, locals := 12 }
set_option maxHeartbeats 4000000 in
set_option maxRecDepth 100000 in
theorem i_X5_init (l : Launch) (X : KX) (h0 a1 : Nat) : kIM l yX5_init cX5_init 2 rmi_X5_init X [.ref h0, .ref a1] [(h0, .inr (5, [.null, .int 0]))] (fun u => [(h0, .inr (5, [.ref a1, .int 0]))]) := by
  refine kIof (by decide) rfl (Nat.le_of_ble_eq_true rfl) ?_
  intro p e s m args below meth c ls Q A hx hcb hml hown hts hin hK hP hD hS hA hl hret
  have hown : s.vm.findClass RX5 = some m.cls := hown
  have hl : lv_has ls 2 [(0, .ref h0), (1, .ref a1)] := hl
  refine lv_aload_n (pc := 0) hx hcb dX5_init_0 rfl (lv_at hl 0 rfl) ?_
  refine W.objInit hx hcb hown (hts _ e96) (hts _ e75) (hts _ e76) rfl (by rw [hml]; exact hl.1) rfl dX5_init_1 (Nat.le_of_ble_eq_true rfl) (Nat.le_of_ble_eq_true rfl) ?_
  refine W.eq (g2 := F0 m 4 ls []) rfl ?_
  refine lv_aload_n (pc := 4) hx hcb dX5_init_4 rfl (lv_at hl 0 rfl) ?_
  refine lv_aload_n (pc := 5) hx hcb dX5_init_5 rfl (lv_at hl 1 rfl) ?_
  refine va_putF (ci := 5) (ty := .object "FollowingCalf$Text") (v := .ref a1) (T := TX5) (N := 2) (pc := 6) hx hcb hts iwX5 tyX5 tyX5_ok nmX5 hown hK hP hD hS 0 rfl rfl 0 (by decide) (hts _ q97) (fun _ h => h) rfl hin rfl (by decide +kernel) rfl rfl (Nat.le_of_ble_eq_true rfl) dX5_init_6 (fun H locs hP hD hS => ?_)
  have hP : va_P X.1 vwCl [(h0, .inr (5, [.ref a1, .int 0]))] H := hP
  have hD : va_D A [(h0, .inr (5, [.ref a1, .int 0]))] := hD
  exact hret (fun j => match j with  | _ => 0) _ _ _ _ hP hD hS dX5_init_9
theorem mi_X5_init : kMI yX5_init cX5_init 2 1 := ⟨e95, q53, e94, rfl, ⟨by decide +kernel, by decide +kernel⟩, by decide +kernel⟩
abbrev rmi_X1_init : Room := { frames := 1, cells := 5, slots := 198, locals := 12 }
set_option maxHeartbeats 4000000 in
set_option maxRecDepth 100000 in
theorem i_X1_init (l : Launch) (X : KX) (h0 : Nat) : kIM l yX1_init cX1_init 1 rmi_X1_init X [.ref h0] [(h0, .inr (1, [.null, .null, .null, .null, .null, .int 0, .int 0, .int 0, .int 0, .int 0]))] (fun u => [(h0, .inr (1, [.ref (u 0), .ref (u 1), .ref (u 2), .ref (u 3), .ref (u 4), .int 0, .int 0, .int 0, .int 0, .int 0])), ((u 0), .inl (X.2.2.2.1, 64, .inl (fun _ => 0))), ((u 1), .inl (X.2.2.2.1, 64, .inl (fun _ => 0))), ((u 2), .inl (X.2.2.2.1, 5, .inl (fun _ => 0))), ((u 3), .inl (X.2.2.2.1, 60, .inl (fun _ => 0))), ((u 4), .inl (X.2.2.2.1, 5, .inl (fun _ => 0)))]) := by
  refine kIof (by decide) rfl (Nat.le_of_ble_eq_true rfl) ?_
  intro p e s m args below meth c ls Q A hx hcb hml hown hts hin hK hP hD hS hA hl hret
  have hown : s.vm.findClass RX1 = some m.cls := hown
  have hl : lv_has ls 1 [(0, .ref h0)] := hl
  refine lv_aload_n (pc := 0) hx hcb dX1_init_0 rfl (lv_at hl 0 rfl) ?_
  refine W.objInit hx hcb hown (hts _ e109) (hts _ e75) (hts _ e76) rfl (by rw [hml]; exact hl.1) rfl dX1_init_1 (Nat.le_of_ble_eq_true rfl) (Nat.le_of_ble_eq_true rfl) ?_
  refine W.eq (g2 := F0 m 4 ls []) rfl ?_
  refine lv_aload_n (pc := 4) hx hcb dX1_init_4 rfl (lv_at hl 0 rfl) ?_
  refine lv_bipush (v := 64) (pc := 5) hx hcb dX1_init_5 rfl ?_
  refine kna (atype := .int) (ty := .int) (a0 := (64, .inl (fun _ => 0))) (N' := 64) (pc := 7) hx hcb 1 hts e141 rfl (fun _ h => h) hK rfl hP hD hS hA (fun _ => rfl) (by decide) rfl (Nat.le_of_ble_eq_true rfl) (Nat.le_of_ble_eq_true rfl) (Nat.le_of_ble_eq_true rfl) dX1_init_7 (fun q7 H hP hD hS => ?_)
  have hP : va_P X.1 vwCl [(h0, .inr (1, [.null, .null, .null, .null, .null, .int 0, .int 0, .int 0, .int 0, .int 0])), (q7, .inl (X.2.2.2.1, 64, .inl (fun _ => 0)))] H := hP
  have hD : va_D A [(h0, .inr (1, [.null, .null, .null, .null, .null, .int 0, .int 0, .int 0, .int 0, .int 0])), (q7, .inl (X.2.2.2.1, 64, .inl (fun _ => 0)))] := hD
  refine va_putF (ci := 1) (ty := .array .int) (v := .ref q7) (T := TX1) (N := 10) (pc := 9) hx hcb hts iwX1 tyX1 tyX1_ok nmX1 hown hK hP hD hS 0 rfl rfl 0 (by decide) (hts _ q110) (fun _ h => h) rfl hin rfl (by decide +kernel) rfl rfl (Nat.le_of_ble_eq_true rfl) dX1_init_9 (fun H locs hP hD hS => ?_)
  have hP : va_P X.1 vwCl [(h0, .inr (1, [.ref q7, .null, .null, .null, .null, .int 0, .int 0, .int 0, .int 0, .int 0])), (q7, .inl (X.2.2.2.1, 64, .inl (fun _ => 0)))] H := hP
  have hD : va_D A [(h0, .inr (1, [.ref q7, .null, .null, .null, .null, .int 0, .int 0, .int 0, .int 0, .int 0])), (q7, .inl (X.2.2.2.1, 64, .inl (fun _ => 0)))] := hD
  refine lv_aload_n (pc := 12) hx hcb dX1_init_12 rfl (lv_at hl 0 rfl) ?_
  refine lv_bipush (v := 64) (pc := 13) hx hcb dX1_init_13 rfl ?_
  refine kna (atype := .int) (ty := .int) (a0 := (64, .inl (fun _ => 0))) (N' := 64) (pc := 15) hx hcb 1 hts e141 rfl (fun _ h => h) hK rfl hP hD hS hA (fun _ => rfl) (by decide) rfl (Nat.le_of_ble_eq_true rfl) (Nat.le_of_ble_eq_true rfl) (Nat.le_of_ble_eq_true rfl) dX1_init_15 (fun q15 H hP hD hS => ?_)
  have hP : va_P X.1 vwCl [(h0, .inr (1, [.ref q7, .null, .null, .null, .null, .int 0, .int 0, .int 0, .int 0, .int 0])), (q7, .inl (X.2.2.2.1, 64, .inl (fun _ => 0))), (q15, .inl (X.2.2.2.1, 64, .inl (fun _ => 0)))] H := hP
  have hD : va_D A [(h0, .inr (1, [.ref q7, .null, .null, .null, .null, .int 0, .int 0, .int 0, .int 0, .int 0])), (q7, .inl (X.2.2.2.1, 64, .inl (fun _ => 0))), (q15, .inl (X.2.2.2.1, 64, .inl (fun _ => 0)))] := hD
  refine va_putF (ci := 1) (ty := .array .int) (v := .ref q15) (T := TX1) (N := 10) (pc := 17) hx hcb hts iwX1 tyX1 tyX1_ok nmX1 hown hK hP hD hS 0 rfl rfl 1 (by decide) (hts _ q111) (fun _ h => h) rfl hin rfl (by decide +kernel) rfl rfl (Nat.le_of_ble_eq_true rfl) dX1_init_17 (fun H locs hP hD hS => ?_)
  have hP : va_P X.1 vwCl [(h0, .inr (1, [.ref q7, .ref q15, .null, .null, .null, .int 0, .int 0, .int 0, .int 0, .int 0])), (q7, .inl (X.2.2.2.1, 64, .inl (fun _ => 0))), (q15, .inl (X.2.2.2.1, 64, .inl (fun _ => 0)))] H := hP
  have hD : va_D A [(h0, .inr (1, [.ref q7, .ref q15, .null, .null, .null, .int 0, .int 0, .int 0, .int 0, .int 0])), (q7, .inl (X.2.2.2.1, 64, .inl (fun _ => 0))), (q15, .inl (X.2.2.2.1, 64, .inl (fun _ => 0)))] := hD
  refine lv_aload_n (pc := 20) hx hcb dX1_init_20 rfl (lv_at hl 0 rfl) ?_
  refine lv_iconst (v := 5) (pc := 21) hx hcb dX1_init_21 rfl ?_
  refine kna (atype := .int) (ty := .int) (a0 := (5, .inl (fun _ => 0))) (N' := 5) (pc := 22) hx hcb 1 hts e141 rfl (fun _ h => h) hK rfl hP hD hS hA (fun _ => rfl) (by decide) rfl (Nat.le_of_ble_eq_true rfl) (Nat.le_of_ble_eq_true rfl) (Nat.le_of_ble_eq_true rfl) dX1_init_22 (fun q22 H hP hD hS => ?_)
  have hP : va_P X.1 vwCl [(h0, .inr (1, [.ref q7, .ref q15, .null, .null, .null, .int 0, .int 0, .int 0, .int 0, .int 0])), (q7, .inl (X.2.2.2.1, 64, .inl (fun _ => 0))), (q15, .inl (X.2.2.2.1, 64, .inl (fun _ => 0))), (q22, .inl (X.2.2.2.1, 5, .inl (fun _ => 0)))] H := hP
  have hD : va_D A [(h0, .inr (1, [.ref q7, .ref q15, .null, .null, .null, .int 0, .int 0, .int 0, .int 0, .int 0])), (q7, .inl (X.2.2.2.1, 64, .inl (fun _ => 0))), (q15, .inl (X.2.2.2.1, 64, .inl (fun _ => 0))), (q22, .inl (X.2.2.2.1, 5, .inl (fun _ => 0)))] := hD
  refine va_putF (ci := 1) (ty := .array .int) (v := .ref q22) (T := TX1) (N := 10) (pc := 24) hx hcb hts iwX1 tyX1 tyX1_ok nmX1 hown hK hP hD hS 0 rfl rfl 2 (by decide) (hts _ q112) (fun _ h => h) rfl hin rfl (by decide +kernel) rfl rfl (Nat.le_of_ble_eq_true rfl) dX1_init_24 (fun H locs hP hD hS => ?_)
  have hP : va_P X.1 vwCl [(h0, .inr (1, [.ref q7, .ref q15, .ref q22, .null, .null, .int 0, .int 0, .int 0, .int 0, .int 0])), (q7, .inl (X.2.2.2.1, 64, .inl (fun _ => 0))), (q15, .inl (X.2.2.2.1, 64, .inl (fun _ => 0))), (q22, .inl (X.2.2.2.1, 5, .inl (fun _ => 0)))] H := hP
  have hD : va_D A [(h0, .inr (1, [.ref q7, .ref q15, .ref q22, .null, .null, .int 0, .int 0, .int 0, .int 0, .int 0])), (q7, .inl (X.2.2.2.1, 64, .inl (fun _ => 0))), (q15, .inl (X.2.2.2.1, 64, .inl (fun _ => 0))), (q22, .inl (X.2.2.2.1, 5, .inl (fun _ => 0)))] := hD
  refine lv_aload_n (pc := 27) hx hcb dX1_init_27 rfl (lv_at hl 0 rfl) ?_
  refine lv_bipush (v := 60) (pc := 28) hx hcb dX1_init_28 rfl ?_
  refine kna (atype := .int) (ty := .int) (a0 := (60, .inl (fun _ => 0))) (N' := 60) (pc := 30) hx hcb 1 hts e141 rfl (fun _ h => h) hK rfl hP hD hS hA (fun _ => rfl) (by decide) rfl (Nat.le_of_ble_eq_true rfl) (Nat.le_of_ble_eq_true rfl) (Nat.le_of_ble_eq_true rfl) dX1_init_30 (fun q30 H hP hD hS => ?_)
  have hP : va_P X.1 vwCl [(h0, .inr (1, [.ref q7, .ref q15, .ref q22, .null, .null, .int 0, .int 0, .int 0, .int 0, .int 0])), (q7, .inl (X.2.2.2.1, 64, .inl (fun _ => 0))), (q15, .inl (X.2.2.2.1, 64, .inl (fun _ => 0))), (q22, .inl (X.2.2.2.1, 5, .inl (fun _ => 0))), (q30, .inl (X.2.2.2.1, 60, .inl (fun _ => 0)))] H := hP
  have hD : va_D A [(h0, .inr (1, [.ref q7, .ref q15, .ref q22, .null, .null, .int 0, .int 0, .int 0, .int 0, .int 0])), (q7, .inl (X.2.2.2.1, 64, .inl (fun _ => 0))), (q15, .inl (X.2.2.2.1, 64, .inl (fun _ => 0))), (q22, .inl (X.2.2.2.1, 5, .inl (fun _ => 0))), (q30, .inl (X.2.2.2.1, 60, .inl (fun _ => 0)))] := hD
  refine va_putF (ci := 1) (ty := .array .int) (v := .ref q30) (T := TX1) (N := 10) (pc := 32) hx hcb hts iwX1 tyX1 tyX1_ok nmX1 hown hK hP hD hS 0 rfl rfl 3 (by decide) (hts _ q113) (fun _ h => h) rfl hin rfl (by decide +kernel) rfl rfl (Nat.le_of_ble_eq_true rfl) dX1_init_32 (fun H locs hP hD hS => ?_)
  have hP : va_P X.1 vwCl [(h0, .inr (1, [.ref q7, .ref q15, .ref q22, .ref q30, .null, .int 0, .int 0, .int 0, .int 0, .int 0])), (q7, .inl (X.2.2.2.1, 64, .inl (fun _ => 0))), (q15, .inl (X.2.2.2.1, 64, .inl (fun _ => 0))), (q22, .inl (X.2.2.2.1, 5, .inl (fun _ => 0))), (q30, .inl (X.2.2.2.1, 60, .inl (fun _ => 0)))] H := hP
  have hD : va_D A [(h0, .inr (1, [.ref q7, .ref q15, .ref q22, .ref q30, .null, .int 0, .int 0, .int 0, .int 0, .int 0])), (q7, .inl (X.2.2.2.1, 64, .inl (fun _ => 0))), (q15, .inl (X.2.2.2.1, 64, .inl (fun _ => 0))), (q22, .inl (X.2.2.2.1, 5, .inl (fun _ => 0))), (q30, .inl (X.2.2.2.1, 60, .inl (fun _ => 0)))] := hD
  refine lv_aload_n (pc := 35) hx hcb dX1_init_35 rfl (lv_at hl 0 rfl) ?_
  refine lv_iconst (v := 5) (pc := 36) hx hcb dX1_init_36 rfl ?_
  refine kna (atype := .int) (ty := .int) (a0 := (5, .inl (fun _ => 0))) (N' := 5) (pc := 37) hx hcb 1 hts e141 rfl (fun _ h => h) hK rfl hP hD hS hA (fun _ => rfl) (by decide) rfl (Nat.le_of_ble_eq_true rfl) (Nat.le_of_ble_eq_true rfl) (Nat.le_of_ble_eq_true rfl) dX1_init_37 (fun q37 H hP hD hS => ?_)
  have hP : va_P X.1 vwCl [(h0, .inr (1, [.ref q7, .ref q15, .ref q22, .ref q30, .null, .int 0, .int 0, .int 0, .int 0, .int 0])), (q7, .inl (X.2.2.2.1, 64, .inl (fun _ => 0))), (q15, .inl (X.2.2.2.1, 64, .inl (fun _ => 0))), (q22, .inl (X.2.2.2.1, 5, .inl (fun _ => 0))), (q30, .inl (X.2.2.2.1, 60, .inl (fun _ => 0))), (q37, .inl (X.2.2.2.1, 5, .inl (fun _ => 0)))] H := hP
  have hD : va_D A [(h0, .inr (1, [.ref q7, .ref q15, .ref q22, .ref q30, .null, .int 0, .int 0, .int 0, .int 0, .int 0])), (q7, .inl (X.2.2.2.1, 64, .inl (fun _ => 0))), (q15, .inl (X.2.2.2.1, 64, .inl (fun _ => 0))), (q22, .inl (X.2.2.2.1, 5, .inl (fun _ => 0))), (q30, .inl (X.2.2.2.1, 60, .inl (fun _ => 0))), (q37, .inl (X.2.2.2.1, 5, .inl (fun _ => 0)))] := hD
  refine va_putF (ci := 1) (ty := .array .int) (v := .ref q37) (T := TX1) (N := 10) (pc := 39) hx hcb hts iwX1 tyX1 tyX1_ok nmX1 hown hK hP hD hS 0 rfl rfl 4 (by decide) (hts _ q114) (fun _ h => h) rfl hin rfl (by decide +kernel) rfl rfl (Nat.le_of_ble_eq_true rfl) dX1_init_39 (fun H locs hP hD hS => ?_)
  have hP : va_P X.1 vwCl [(h0, .inr (1, [.ref q7, .ref q15, .ref q22, .ref q30, .ref q37, .int 0, .int 0, .int 0, .int 0, .int 0])), (q7, .inl (X.2.2.2.1, 64, .inl (fun _ => 0))), (q15, .inl (X.2.2.2.1, 64, .inl (fun _ => 0))), (q22, .inl (X.2.2.2.1, 5, .inl (fun _ => 0))), (q30, .inl (X.2.2.2.1, 60, .inl (fun _ => 0))), (q37, .inl (X.2.2.2.1, 5, .inl (fun _ => 0)))] H := hP
  have hD : va_D A [(h0, .inr (1, [.ref q7, .ref q15, .ref q22, .ref q30, .ref q37, .int 0, .int 0, .int 0, .int 0, .int 0])), (q7, .inl (X.2.2.2.1, 64, .inl (fun _ => 0))), (q15, .inl (X.2.2.2.1, 64, .inl (fun _ => 0))), (q22, .inl (X.2.2.2.1, 5, .inl (fun _ => 0))), (q30, .inl (X.2.2.2.1, 60, .inl (fun _ => 0))), (q37, .inl (X.2.2.2.1, 5, .inl (fun _ => 0)))] := hD
  exact hret (fun j => match j with | 0 => q7 | 1 => q15 | 2 => q22 | 3 => q30 | 4 => q37 | _ => 0) _ _ _ _ hP hD hS dX1_init_42
theorem mi_X1_init : kMI yX1_init cX1_init 1 0 := ⟨e108, q54, e107, rfl, ⟨by decide +kernel, by decide +kernel⟩, by decide +kernel⟩
abbrev rmi_X3_init : Room := { frames := 1, cells := 0, slots := 0, locals := 12 }
set_option maxHeartbeats 4000000 in
set_option maxRecDepth 100000 in
theorem i_X3_init (l : Launch) (X : KX) (h0 : Nat) : kIM l yX3_init cX3_init 1 rmi_X3_init X [.ref h0] [(h0, .inr (3, [.int 0, .int 0, .int 0]))] (fun u => [(h0, .inr (3, [.int 0, .int 0, .int 0]))]) := by
  refine kIof (by decide) rfl (Nat.le_of_ble_eq_true rfl) ?_
  intro p e s m args below meth c ls Q A hx hcb hml hown hts hin hK hP hD hS hA hl hret
  have hown : s.vm.findClass RX3 = some m.cls := hown
  have hl : lv_has ls 1 [(0, .ref h0)] := hl
  refine lv_aload_n (pc := 0) hx hcb dX3_init_0 rfl (lv_at hl 0 rfl) ?_
  refine W.objInit hx hcb hown (hts _ e147) (hts _ e75) (hts _ e76) rfl (by rw [hml]; exact hl.1) rfl dX3_init_1 (Nat.le_of_ble_eq_true rfl) (Nat.le_of_ble_eq_true rfl) ?_
  refine W.eq (g2 := F0 m 4 ls []) rfl ?_
  exact hret (fun j => match j with  | _ => 0) _ _ _ _ hP hD hS dX3_init_4
theorem mi_X3_init : kMI yX3_init cX3_init 1 0 := ⟨e146, q55, e145, rfl, ⟨by decide +kernel, by decide +kernel⟩, by decide +kernel⟩
abbrev rmi_X4_init : Room := { frames := 1, cells := 3, slots := 24, locals := 12 }
set_option maxHeartbeats 4000000 in
set_option maxRecDepth 100000 in
theorem i_X4_init (l : Launch) (X : KX) (h0 : Nat) : kIM l yX4_init cX4_init 1 rmi_X4_init X [.ref h0] [(h0, .inr (4, [.null, .null, .null, .int 0]))] (fun u => [(h0, .inr (4, [.ref (u 0), .ref (u 1), .ref (u 2), .int 0])), ((u 0), .inl (X.2.2.2.1, 8, .inl (fun _ => 0))), ((u 1), .inl (X.2.2.2.1, 8, .inl (fun _ => 0))), ((u 2), .inl (X.2.2.2.1, 8, .inl (fun _ => 0)))]) := by
  refine kIof (by decide) rfl (Nat.le_of_ble_eq_true rfl) ?_
  intro p e s m args below meth c ls Q A hx hcb hml hown hts hin hK hP hD hS hA hl hret
  have hown : s.vm.findClass RX4 = some m.cls := hown
  have hl : lv_has ls 1 [(0, .ref h0)] := hl
  refine lv_aload_n (pc := 0) hx hcb dX4_init_0 rfl (lv_at hl 0 rfl) ?_
  refine W.objInit hx hcb hown (hts _ e173) (hts _ e75) (hts _ e76) rfl (by rw [hml]; exact hl.1) rfl dX4_init_1 (Nat.le_of_ble_eq_true rfl) (Nat.le_of_ble_eq_true rfl) ?_
  refine W.eq (g2 := F0 m 4 ls []) rfl ?_
  refine lv_aload_n (pc := 4) hx hcb dX4_init_4 rfl (lv_at hl 0 rfl) ?_
  refine lv_bipush (v := 8) (pc := 5) hx hcb dX4_init_5 rfl ?_
  refine kna (atype := .int) (ty := .int) (a0 := (8, .inl (fun _ => 0))) (N' := 8) (pc := 7) hx hcb 1 hts e141 rfl (fun _ h => h) hK rfl hP hD hS hA (fun _ => rfl) (by decide) rfl (Nat.le_of_ble_eq_true rfl) (Nat.le_of_ble_eq_true rfl) (Nat.le_of_ble_eq_true rfl) dX4_init_7 (fun q7 H hP hD hS => ?_)
  have hP : va_P X.1 vwCl [(h0, .inr (4, [.null, .null, .null, .int 0])), (q7, .inl (X.2.2.2.1, 8, .inl (fun _ => 0)))] H := hP
  have hD : va_D A [(h0, .inr (4, [.null, .null, .null, .int 0])), (q7, .inl (X.2.2.2.1, 8, .inl (fun _ => 0)))] := hD
  refine va_putF (ci := 4) (ty := .array .int) (v := .ref q7) (T := TX4) (N := 4) (pc := 9) hx hcb hts iwX4 tyX4 tyX4_ok nmX4 hown hK hP hD hS 0 rfl rfl 0 (by decide) (hts _ q174) (fun _ h => h) rfl hin rfl (by decide +kernel) rfl rfl (Nat.le_of_ble_eq_true rfl) dX4_init_9 (fun H locs hP hD hS => ?_)
  have hP : va_P X.1 vwCl [(h0, .inr (4, [.ref q7, .null, .null, .int 0])), (q7, .inl (X.2.2.2.1, 8, .inl (fun _ => 0)))] H := hP
  have hD : va_D A [(h0, .inr (4, [.ref q7, .null, .null, .int 0])), (q7, .inl (X.2.2.2.1, 8, .inl (fun _ => 0)))] := hD
  refine lv_aload_n (pc := 12) hx hcb dX4_init_12 rfl (lv_at hl 0 rfl) ?_
  refine lv_bipush (v := 8) (pc := 13) hx hcb dX4_init_13 rfl ?_
  refine kna (atype := .int) (ty := .int) (a0 := (8, .inl (fun _ => 0))) (N' := 8) (pc := 15) hx hcb 1 hts e141 rfl (fun _ h => h) hK rfl hP hD hS hA (fun _ => rfl) (by decide) rfl (Nat.le_of_ble_eq_true rfl) (Nat.le_of_ble_eq_true rfl) (Nat.le_of_ble_eq_true rfl) dX4_init_15 (fun q15 H hP hD hS => ?_)
  have hP : va_P X.1 vwCl [(h0, .inr (4, [.ref q7, .null, .null, .int 0])), (q7, .inl (X.2.2.2.1, 8, .inl (fun _ => 0))), (q15, .inl (X.2.2.2.1, 8, .inl (fun _ => 0)))] H := hP
  have hD : va_D A [(h0, .inr (4, [.ref q7, .null, .null, .int 0])), (q7, .inl (X.2.2.2.1, 8, .inl (fun _ => 0))), (q15, .inl (X.2.2.2.1, 8, .inl (fun _ => 0)))] := hD
  refine va_putF (ci := 4) (ty := .array .int) (v := .ref q15) (T := TX4) (N := 4) (pc := 17) hx hcb hts iwX4 tyX4 tyX4_ok nmX4 hown hK hP hD hS 0 rfl rfl 1 (by decide) (hts _ q175) (fun _ h => h) rfl hin rfl (by decide +kernel) rfl rfl (Nat.le_of_ble_eq_true rfl) dX4_init_17 (fun H locs hP hD hS => ?_)
  have hP : va_P X.1 vwCl [(h0, .inr (4, [.ref q7, .ref q15, .null, .int 0])), (q7, .inl (X.2.2.2.1, 8, .inl (fun _ => 0))), (q15, .inl (X.2.2.2.1, 8, .inl (fun _ => 0)))] H := hP
  have hD : va_D A [(h0, .inr (4, [.ref q7, .ref q15, .null, .int 0])), (q7, .inl (X.2.2.2.1, 8, .inl (fun _ => 0))), (q15, .inl (X.2.2.2.1, 8, .inl (fun _ => 0)))] := hD
  refine lv_aload_n (pc := 20) hx hcb dX4_init_20 rfl (lv_at hl 0 rfl) ?_
  refine lv_bipush (v := 8) (pc := 21) hx hcb dX4_init_21 rfl ?_
  refine kna (atype := .int) (ty := .int) (a0 := (8, .inl (fun _ => 0))) (N' := 8) (pc := 23) hx hcb 1 hts e141 rfl (fun _ h => h) hK rfl hP hD hS hA (fun _ => rfl) (by decide) rfl (Nat.le_of_ble_eq_true rfl) (Nat.le_of_ble_eq_true rfl) (Nat.le_of_ble_eq_true rfl) dX4_init_23 (fun q23 H hP hD hS => ?_)
  have hP : va_P X.1 vwCl [(h0, .inr (4, [.ref q7, .ref q15, .null, .int 0])), (q7, .inl (X.2.2.2.1, 8, .inl (fun _ => 0))), (q15, .inl (X.2.2.2.1, 8, .inl (fun _ => 0))), (q23, .inl (X.2.2.2.1, 8, .inl (fun _ => 0)))] H := hP
  have hD : va_D A [(h0, .inr (4, [.ref q7, .ref q15, .null, .int 0])), (q7, .inl (X.2.2.2.1, 8, .inl (fun _ => 0))), (q15, .inl (X.2.2.2.1, 8, .inl (fun _ => 0))), (q23, .inl (X.2.2.2.1, 8, .inl (fun _ => 0)))] := hD
  refine va_putF (ci := 4) (ty := .array .int) (v := .ref q23) (T := TX4) (N := 4) (pc := 25) hx hcb hts iwX4 tyX4 tyX4_ok nmX4 hown hK hP hD hS 0 rfl rfl 2 (by decide) (hts _ q176) (fun _ h => h) rfl hin rfl (by decide +kernel) rfl rfl (Nat.le_of_ble_eq_true rfl) dX4_init_25 (fun H locs hP hD hS => ?_)
  have hP : va_P X.1 vwCl [(h0, .inr (4, [.ref q7, .ref q15, .ref q23, .int 0])), (q7, .inl (X.2.2.2.1, 8, .inl (fun _ => 0))), (q15, .inl (X.2.2.2.1, 8, .inl (fun _ => 0))), (q23, .inl (X.2.2.2.1, 8, .inl (fun _ => 0)))] H := hP
  have hD : va_D A [(h0, .inr (4, [.ref q7, .ref q15, .ref q23, .int 0])), (q7, .inl (X.2.2.2.1, 8, .inl (fun _ => 0))), (q15, .inl (X.2.2.2.1, 8, .inl (fun _ => 0))), (q23, .inl (X.2.2.2.1, 8, .inl (fun _ => 0)))] := hD
  exact hret (fun j => match j with | 0 => q7 | 1 => q15 | 2 => q23 | _ => 0) _ _ _ _ hP hD hS dX4_init_28
theorem mi_X4_init : kMI yX4_init cX4_init 1 0 := ⟨e172, q56, e171, rfl, ⟨by decide +kernel, by decide +kernel⟩, by decide +kernel⟩
abbrev rmi_X9_init : Room := { frames := 1, cells := 2, slots := 12, locals := 12 }
set_option maxHeartbeats 4000000 in
set_option maxRecDepth 100000 in
theorem i_X9_init (l : Launch) (X : KX) (h0 : Nat) : kIM l yX9_init cX9_init 1 rmi_X9_init X [.ref h0] [(h0, .inr (9, [.null, .null, .int 0]))] (fun u => [(h0, .inr (9, [.ref (u 0), .ref (u 1), .int 0])), ((u 0), .inl (X.2.2.2.1, 6, .inl (fun _ => 0))), ((u 1), .inl (X.2.2.2.1, 6, .inl (fun _ => 0)))]) := by
  refine kIof (by decide) rfl (Nat.le_of_ble_eq_true rfl) ?_
  intro p e s m args below meth c ls Q A hx hcb hml hown hts hin hK hP hD hS hA hl hret
  have hown : s.vm.findClass RX9 = some m.cls := hown
  have hl : lv_has ls 1 [(0, .ref h0)] := hl
  refine lv_aload_n (pc := 0) hx hcb dX9_init_0 rfl (lv_at hl 0 rfl) ?_
  refine W.objInit hx hcb hown (hts _ e192) (hts _ e75) (hts _ e76) rfl (by rw [hml]; exact hl.1) rfl dX9_init_1 (Nat.le_of_ble_eq_true rfl) (Nat.le_of_ble_eq_true rfl) ?_
  refine W.eq (g2 := F0 m 4 ls []) rfl ?_
  refine lv_aload_n (pc := 4) hx hcb dX9_init_4 rfl (lv_at hl 0 rfl) ?_
  refine lv_bipush (v := 6) (pc := 5) hx hcb dX9_init_5 rfl ?_
  refine kna (atype := .int) (ty := .int) (a0 := (6, .inl (fun _ => 0))) (N' := 6) (pc := 7) hx hcb 1 hts e141 rfl (fun _ h => h) hK rfl hP hD hS hA (fun _ => rfl) (by decide) rfl (Nat.le_of_ble_eq_true rfl) (Nat.le_of_ble_eq_true rfl) (Nat.le_of_ble_eq_true rfl) dX9_init_7 (fun q7 H hP hD hS => ?_)
  have hP : va_P X.1 vwCl [(h0, .inr (9, [.null, .null, .int 0])), (q7, .inl (X.2.2.2.1, 6, .inl (fun _ => 0)))] H := hP
  have hD : va_D A [(h0, .inr (9, [.null, .null, .int 0])), (q7, .inl (X.2.2.2.1, 6, .inl (fun _ => 0)))] := hD
  refine va_putF (ci := 9) (ty := .array .int) (v := .ref q7) (T := TX9) (N := 3) (pc := 9) hx hcb hts iwX9 tyX9 tyX9_ok nmX9 hown hK hP hD hS 0 rfl rfl 0 (by decide) (hts _ q193) (fun _ h => h) rfl hin rfl (by decide +kernel) rfl rfl (Nat.le_of_ble_eq_true rfl) dX9_init_9 (fun H locs hP hD hS => ?_)
  have hP : va_P X.1 vwCl [(h0, .inr (9, [.ref q7, .null, .int 0])), (q7, .inl (X.2.2.2.1, 6, .inl (fun _ => 0)))] H := hP
  have hD : va_D A [(h0, .inr (9, [.ref q7, .null, .int 0])), (q7, .inl (X.2.2.2.1, 6, .inl (fun _ => 0)))] := hD
  refine lv_aload_n (pc := 12) hx hcb dX9_init_12 rfl (lv_at hl 0 rfl) ?_
  refine lv_bipush (v := 6) (pc := 13) hx hcb dX9_init_13 rfl ?_
  refine kna (atype := .int) (ty := .int) (a0 := (6, .inl (fun _ => 0))) (N' := 6) (pc := 15) hx hcb 1 hts e141 rfl (fun _ h => h) hK rfl hP hD hS hA (fun _ => rfl) (by decide) rfl (Nat.le_of_ble_eq_true rfl) (Nat.le_of_ble_eq_true rfl) (Nat.le_of_ble_eq_true rfl) dX9_init_15 (fun q15 H hP hD hS => ?_)
  have hP : va_P X.1 vwCl [(h0, .inr (9, [.ref q7, .null, .int 0])), (q7, .inl (X.2.2.2.1, 6, .inl (fun _ => 0))), (q15, .inl (X.2.2.2.1, 6, .inl (fun _ => 0)))] H := hP
  have hD : va_D A [(h0, .inr (9, [.ref q7, .null, .int 0])), (q7, .inl (X.2.2.2.1, 6, .inl (fun _ => 0))), (q15, .inl (X.2.2.2.1, 6, .inl (fun _ => 0)))] := hD
  refine va_putF (ci := 9) (ty := .array .int) (v := .ref q15) (T := TX9) (N := 3) (pc := 17) hx hcb hts iwX9 tyX9 tyX9_ok nmX9 hown hK hP hD hS 0 rfl rfl 1 (by decide) (hts _ q194) (fun _ h => h) rfl hin rfl (by decide +kernel) rfl rfl (Nat.le_of_ble_eq_true rfl) dX9_init_17 (fun H locs hP hD hS => ?_)
  have hP : va_P X.1 vwCl [(h0, .inr (9, [.ref q7, .ref q15, .int 0])), (q7, .inl (X.2.2.2.1, 6, .inl (fun _ => 0))), (q15, .inl (X.2.2.2.1, 6, .inl (fun _ => 0)))] H := hP
  have hD : va_D A [(h0, .inr (9, [.ref q7, .ref q15, .int 0])), (q7, .inl (X.2.2.2.1, 6, .inl (fun _ => 0))), (q15, .inl (X.2.2.2.1, 6, .inl (fun _ => 0)))] := hD
  exact hret (fun j => match j with | 0 => q7 | 1 => q15 | _ => 0) _ _ _ _ hP hD hS dX9_init_20
theorem mi_X9_init : kMI yX9_init cX9_init 1 0 := ⟨e191, q57, e190, rfl, ⟨by decide +kernel, by decide +kernel⟩, by decide +kernel⟩
abbrev rmi_X6_init : Room := { frames := 1, cells := 1, slots := 390, locals := 12 }
set_option maxHeartbeats 4000000 in
set_option maxRecDepth 100000 in
theorem i_X6_init (l : Launch) (X : KX) (h0 : Nat) : kIM l yX6_init cX6_init 1 rmi_X6_init X [.ref h0] [(h0, .inr (6, [.null]))] (fun u => [(h0, .inr (6, [.ref (u 0)])), ((u 0), .inl (X.2.2.2.1, 390, .inl (fun _ => 0)))]) := by
  refine kIof (by decide) rfl (Nat.le_of_ble_eq_true rfl) ?_
  intro p e s m args below meth c ls Q A hx hcb hml hown hts hin hK hP hD hS hA hl hret
  have hown : s.vm.findClass RX6 = some m.cls := hown
  have hl : lv_has ls 1 [(0, .ref h0)] := hl
  refine lv_aload_n (pc := 0) hx hcb dX6_init_0 rfl (lv_at hl 0 rfl) ?_
  refine W.objInit hx hcb hown (hts _ e257) (hts _ e75) (hts _ e76) rfl (by rw [hml]; exact hl.1) rfl dX6_init_1 (Nat.le_of_ble_eq_true rfl) (Nat.le_of_ble_eq_true rfl) ?_
  refine W.eq (g2 := F0 m 4 ls []) rfl ?_
  refine lv_aload_n (pc := 4) hx hcb dX6_init_4 rfl (lv_at hl 0 rfl) ?_
  refine lv_sipush (v := 390) (pc := 5) hx hcb dX6_init_5 rfl ?_
  refine kna (atype := .int) (ty := .int) (a0 := (390, .inl (fun _ => 0))) (N' := 390) (pc := 8) hx hcb 1 hts e141 rfl (fun _ h => h) hK rfl hP hD hS hA (fun _ => rfl) (by decide) rfl (Nat.le_of_ble_eq_true rfl) (Nat.le_of_ble_eq_true rfl) (Nat.le_of_ble_eq_true rfl) dX6_init_8 (fun q8 H hP hD hS => ?_)
  have hP : va_P X.1 vwCl [(h0, .inr (6, [.null])), (q8, .inl (X.2.2.2.1, 390, .inl (fun _ => 0)))] H := hP
  have hD : va_D A [(h0, .inr (6, [.null])), (q8, .inl (X.2.2.2.1, 390, .inl (fun _ => 0)))] := hD
  refine va_putF (ci := 6) (ty := .array .int) (v := .ref q8) (T := TX6) (N := 1) (pc := 10) hx hcb hts iwX6 tyX6 tyX6_ok nmX6 hown hK hP hD hS 0 rfl rfl 0 (by decide) (hts _ q258) (fun _ h => h) rfl hin rfl (by decide +kernel) rfl rfl (Nat.le_of_ble_eq_true rfl) dX6_init_10 (fun H locs hP hD hS => ?_)
  have hP : va_P X.1 vwCl [(h0, .inr (6, [.ref q8])), (q8, .inl (X.2.2.2.1, 390, .inl (fun _ => 0)))] H := hP
  have hD : va_D A [(h0, .inr (6, [.ref q8])), (q8, .inl (X.2.2.2.1, 390, .inl (fun _ => 0)))] := hD
  exact hret (fun j => match j with | 0 => q8 | _ => 0) _ _ _ _ hP hD hS dX6_init_13
theorem mi_X6_init : kMI yX6_init cX6_init 1 0 := ⟨e256, q62, e255, rfl, ⟨by decide +kernel, by decide +kernel⟩, by decide +kernel⟩
abbrev rmi_X0_init : Room := { frames := 2, cells := 2, slots := 391, locals := 32 }
set_option maxHeartbeats 4000000 in
set_option maxRecDepth 100000 in
theorem i_X0_init (l : Launch) (X : KX) (h0 : Nat) : kIM l yX0_init cX0_init 1 rmi_X0_init X [.ref h0] [(h0, .inr (0, [.null]))] (fun u => [(h0, .inr (0, [.ref (u 0)])), ((u 0), .inr (6, [.ref (u 1)])), ((u 1), .inl (X.2.2.2.1, 390, .inl (fun _ => 0)))]) := by
  refine kIof (by decide) rfl (Nat.le_of_ble_eq_true rfl) ?_
  intro p e s m args below meth c ls Q A hx hcb hml hown hts hin hK hP hD hS hA hl hret
  have hown : s.vm.findClass RX0 = some m.cls := hown
  have hl : lv_has ls 1 [(0, .ref h0)] := hl
  refine lv_aload_n (pc := 0) hx hcb dX0_init_0 rfl (lv_at hl 0 rfl) ?_
  refine W.objInit hx hcb hown (hts _ e251) (hts _ e75) (hts _ e76) rfl (by rw [hml]; exact hl.1) rfl dX0_init_1 (Nat.le_of_ble_eq_true rfl) (Nat.le_of_ble_eq_true rfl) ?_
  refine W.eq (g2 := F0 m 4 ls []) rfl ?_
  refine lv_aload_n (pc := 4) hx hcb dX0_init_4 rfl (lv_at hl 0 rfl) ?_
  refine va_new (ci := 6) (fs := [.null]) (T := TX6) (N := 1) (pc := 5) hx hcb hts iwX6 tyX6 tyX6_ok hown (hts _ e252) (hts _ e253) (hts _ q62) hK hP hD hS hA rfl (fun j hj => by rcases (show j = 0 by omega) with rfl <;> rfl) (Nat.le_of_ble_eq_true rfl) (Nat.le_of_ble_eq_true rfl) dX0_init_5 (fun q5 H hP hD hS => ?_)
  have hP : va_P X.1 vwCl [(h0, .inr (0, [.null])), (q5, .inr (6, [.null]))] H := hP
  have hD : va_D A [(h0, .inr (0, [.null])), (q5, .inr (6, [.null]))] := hD
  refine lv_dup (pc := 8) hx hcb dX0_init_8 rfl ?_
  refine kicallN (pc := 9) (rest := [.ref q5, .ref h0]) (As := []) (wr := [(h0, .inr (0, [.null]))]) [1] [0] hx hcb hml hown hts (i_X6_init l X q5) mi_X6_init e254 hK hP hD hS hA rfl rfl (by decide) rfl (by decide) (by decide) ⟨(Nat.le_of_ble_eq_true rfl), (Nat.le_of_ble_eq_true rfl)⟩ rfl hl.1 rfl (Nat.le_of_ble_eq_true rfl) dX0_init_9 ⟨(Nat.le_of_ble_eq_true rfl), (Nat.le_of_ble_eq_true rfl)⟩ (fun u9 H locs hP hD hS => ?_)
  have hP : va_P X.1 vwCl [(h0, .inr (0, [.null])), (q5, .inr (6, [.ref (u9 0)])), ((u9 0), .inl (X.2.2.2.1, 390, .inl (fun _ => 0)))] H := hP
  have hD : va_D A [(h0, .inr (0, [.null])), (q5, .inr (6, [.ref (u9 0)])), ((u9 0), .inl (X.2.2.2.1, 390, .inl (fun _ => 0)))] := hD
  refine va_putF (ci := 0) (ty := .object "FollowingCalf$Rounds") (v := .ref q5) (T := TX0) (N := 1) (pc := 12) hx hcb hts iwX0 tyX0 tyX0_ok nmX0 hown hK hP hD hS 0 rfl rfl 0 (by decide) (hts _ q262) (fun _ h => h) rfl hin rfl (by decide +kernel) rfl rfl (Nat.le_of_ble_eq_true rfl) dX0_init_12 (fun H locs hP hD hS => ?_)
  have hP : va_P X.1 vwCl [(h0, .inr (0, [.ref q5])), (q5, .inr (6, [.ref (u9 0)])), ((u9 0), .inl (X.2.2.2.1, 390, .inl (fun _ => 0)))] H := hP
  have hD : va_D A [(h0, .inr (0, [.ref q5])), (q5, .inr (6, [.ref (u9 0)])), ((u9 0), .inl (X.2.2.2.1, 390, .inl (fun _ => 0)))] := hD
  exact hret (fun j => match j with | 0 => q5 | 1 => (u9 0) | _ => 0) _ _ _ _ hP hD hS dX0_init_15
theorem mi_X0_init : kMI yX0_init cX0_init 1 0 := ⟨e250, q61, e249, rfl, ⟨by decide +kernel, by decide +kernel⟩, by decide +kernel⟩
abbrev rmi_X2_init : Room := { frames := 1, cells := 2, slots := 1920, locals := 24 }
set_option maxHeartbeats 4000000 in
set_option maxRecDepth 100000 in
theorem i_X2_init (l : Launch) (X : KX) (h0 : Nat) : kIM l yX2_init cX2_init 1 rmi_X2_init X [.ref h0] [(h0, .inr (2, [.null, .null, .int 0]))] (fun u => [(h0, .inr (2, [.ref (u 0), .ref (u 1), .int 0])), ((u 0), .inl (X.2.2.2.1, 960, .inl (fun _ => 0))), ((u 1), .inl (X.2.2.2.2.1, 960, .inr (.inl (fun j => if j < 960 then -1 else 0))))]) := by
  refine kIof (by decide) rfl (Nat.le_of_ble_eq_true rfl) ?_
  intro p e s m args below meth c ls Q A hx hcb hml hown hts hin hK hP hD hS hA hl hret
  have hown : s.vm.findClass RX2 = some m.cls := hown
  have hl : lv_has ls 1 [(0, .ref h0)] := hl
  refine lv_aload_n (pc := 0) hx hcb dX2_init_0 rfl (lv_at hl 0 rfl) ?_
  refine W.objInit hx hcb hown (hts _ e214) (hts _ e75) (hts _ e76) rfl (by rw [hml]; exact hl.1) rfl dX2_init_1 (Nat.le_of_ble_eq_true rfl) (Nat.le_of_ble_eq_true rfl) ?_
  refine W.eq (g2 := F0 m 4 ls []) rfl ?_
  refine lv_aload_n (pc := 4) hx hcb dX2_init_4 rfl (lv_at hl 0 rfl) ?_
  refine lv_sipush (v := 960) (pc := 5) hx hcb dX2_init_5 rfl ?_
  refine kna (atype := .int) (ty := .int) (a0 := (960, .inl (fun _ => 0))) (N' := 960) (pc := 8) hx hcb 1 hts e141 rfl (fun _ h => h) hK rfl hP hD hS hA (fun _ => rfl) (by decide) rfl (Nat.le_of_ble_eq_true rfl) (Nat.le_of_ble_eq_true rfl) (Nat.le_of_ble_eq_true rfl) dX2_init_8 (fun q8 H hP hD hS => ?_)
  have hP : va_P X.1 vwCl [(h0, .inr (2, [.null, .null, .int 0])), (q8, .inl (X.2.2.2.1, 960, .inl (fun _ => 0)))] H := hP
  have hD : va_D A [(h0, .inr (2, [.null, .null, .int 0])), (q8, .inl (X.2.2.2.1, 960, .inl (fun _ => 0)))] := hD
  refine va_putF (ci := 2) (ty := .array .int) (v := .ref q8) (T := TX2) (N := 3) (pc := 10) hx hcb hts iwX2 tyX2 tyX2_ok nmX2 hown hK hP hD hS 0 rfl rfl 0 (by decide) (hts _ q219) (fun _ h => h) rfl hin rfl (by decide +kernel) rfl rfl (Nat.le_of_ble_eq_true rfl) dX2_init_10 (fun H locs hP hD hS => ?_)
  have hP : va_P X.1 vwCl [(h0, .inr (2, [.ref q8, .null, .int 0])), (q8, .inl (X.2.2.2.1, 960, .inl (fun _ => 0)))] H := hP
  have hD : va_D A [(h0, .inr (2, [.ref q8, .null, .int 0])), (q8, .inl (X.2.2.2.1, 960, .inl (fun _ => 0)))] := hD
  refine lv_aload_n (pc := 13) hx hcb dX2_init_13 rfl (lv_at hl 0 rfl) ?_
  refine lv_sipush (v := 960) (pc := 14) hx hcb dX2_init_14 rfl ?_
  refine kna (atype := .long) (ty := .long) (a0 := (960, .inr (.inl (fun _ => 0)))) (N' := 960) (pc := 17) hx hcb 2 hts e229 rfl (fun _ h => h) hK rfl hP hD hS hA (fun _ => rfl) (by decide) rfl (Nat.le_of_ble_eq_true rfl) (Nat.le_of_ble_eq_true rfl) (Nat.le_of_ble_eq_true rfl) dX2_init_17 (fun q17 H hP hD hS => ?_)
  have hP : va_P X.1 vwCl [(h0, .inr (2, [.ref q8, .null, .int 0])), (q8, .inl (X.2.2.2.1, 960, .inl (fun _ => 0))), (q17, .inl (X.2.2.2.2.1, 960, .inr (.inl (fun _ => 0))))] H := hP
  have hD : va_D A [(h0, .inr (2, [.ref q8, .null, .int 0])), (q8, .inl (X.2.2.2.1, 960, .inl (fun _ => 0))), (q17, .inl (X.2.2.2.2.1, 960, .inr (.inl (fun _ => 0))))] := hD
  refine va_putF (ci := 2) (ty := .array .long) (v := .ref q17) (T := TX2) (N := 3) (pc := 19) hx hcb hts iwX2 tyX2 tyX2_ok nmX2 hown hK hP hD hS 0 rfl rfl 1 (by decide) (hts _ q220) (fun _ h => h) rfl hin rfl (by decide +kernel) rfl rfl (Nat.le_of_ble_eq_true rfl) dX2_init_19 (fun H locs hP hD hS => ?_)
  have hP : va_P X.1 vwCl [(h0, .inr (2, [.ref q8, .ref q17, .int 0])), (q8, .inl (X.2.2.2.1, 960, .inl (fun _ => 0))), (q17, .inl (X.2.2.2.2.1, 960, .inr (.inl (fun _ => 0))))] H := hP
  have hD : va_D A [(h0, .inr (2, [.ref q8, .ref q17, .int 0])), (q8, .inl (X.2.2.2.1, 960, .inl (fun _ => 0))), (q17, .inl (X.2.2.2.2.1, 960, .inr (.inl (fun _ => 0))))] := hD
  refine lv_aload_n (pc := 22) hx hcb dX2_init_22 rfl (lv_at hl 0 rfl) ?_
  refine va_get (ci := 2) (v := .ref q17) (T := TX2) (N := 3) (pc := 23) hx hcb hts iwX2 hown hK hP 0 rfl rfl 1 (by decide) (hts _ q220) (fun _ h => h) rfl dX2_init_23 ?_
  refine kldc2 (pc := 26) hx hcb hown hts q215 dX2_init_26 ?_
  refine kfcall (pc := 29) (n := 960) (v := -1) (f := fun _ => 0) (rest := []) (wr := [(h0, .inr (2, [.ref q8, .ref q17, .int 0])), (q8, .inl (X.2.2.2.1, 960, .inl (fun _ => 0)))]) [2] [0, 1] hx hcb hml hown hts ⟨e218, q60, e217, ⟨by decide +kernel, by decide +kernel⟩, by decide +kernel⟩ e216 (by decide) hK hP hD hS hA rfl rfl (by decide) rfl (by decide) (by decide) ⟨(Nat.le_of_ble_eq_true rfl), (Nat.le_of_ble_eq_true rfl)⟩ hl.1 rfl (Nat.le_of_ble_eq_true rfl) dX2_init_29 ⟨(Nat.le_of_ble_eq_true rfl), (Nat.le_of_ble_eq_true rfl)⟩ (fun H locs hP hD hS => ?_)
  have hP : va_P X.1 vwCl [(h0, .inr (2, [.ref q8, .ref q17, .int 0])), (q8, .inl (X.2.2.2.1, 960, .inl (fun _ => 0))), (q17, .inl (X.2.2.2.2.1, 960, .inr (.inl (fun j => if j < 960 then -1 else 0))))] H := hP
  have hD : va_D A [(h0, .inr (2, [.ref q8, .ref q17, .int 0])), (q8, .inl (X.2.2.2.1, 960, .inl (fun _ => 0))), (q17, .inl (X.2.2.2.2.1, 960, .inr (.inl (fun j => if j < 960 then -1 else 0))))] := hD
  exact hret (fun j => match j with | 0 => q8 | 1 => q17 | _ => 0) _ _ _ _ hP hD hS dX2_init_32
theorem mi_X2_init : kMI yX2_init cX2_init 1 0 := ⟨e213, q59, e212, rfl, ⟨by decide +kernel, by decide +kernel⟩, by decide +kernel⟩
abbrev rmi_X7_init : Room := { frames := 2, cells := 6, slots := 3846, locals := 44 }
set_option maxHeartbeats 4000000 in
set_option maxRecDepth 100000 in
theorem i_X7_init (l : Launch) (X : KX) (h0 : Nat) : kIM l yX7_init cX7_init 1 rmi_X7_init X [.ref h0] [(h0, .inr (7, [.null, .null, .int 0, .int 0, .int 0]))] (fun u => [(h0, .inr (7, [.ref (u 0), .ref (u 3), .int 0, .int 0, .int 0])), ((u 0), .inr (2, [.ref (u 1), .ref (u 2), .int 0])), ((u 1), .inl (X.2.2.2.1, 960, .inl (fun _ => 0))), ((u 2), .inl (X.2.2.2.2.1, 960, .inr (.inl (fun j => if j < 960 then -1 else 0)))), ((u 3), .inr (2, [.ref (u 4), .ref (u 5), .int 0])), ((u 4), .inl (X.2.2.2.1, 960, .inl (fun _ => 0))), ((u 5), .inl (X.2.2.2.2.1, 960, .inr (.inl (fun j => if j < 960 then -1 else 0))))]) := by
  refine kIof (by decide) rfl (Nat.le_of_ble_eq_true rfl) ?_
  intro p e s m args below meth c ls Q A hx hcb hml hown hts hin hK hP hD hS hA hl hret
  have hown : s.vm.findClass RX7 = some m.cls := hown
  have hl : lv_has ls 1 [(0, .ref h0)] := hl
  refine lv_aload_n (pc := 0) hx hcb dX7_init_0 rfl (lv_at hl 0 rfl) ?_
  refine W.objInit hx hcb hown (hts _ e208) (hts _ e75) (hts _ e76) rfl (by rw [hml]; exact hl.1) rfl dX7_init_1 (Nat.le_of_ble_eq_true rfl) (Nat.le_of_ble_eq_true rfl) ?_
  refine W.eq (g2 := F0 m 4 ls []) rfl ?_
  refine lv_aload_n (pc := 4) hx hcb dX7_init_4 rfl (lv_at hl 0 rfl) ?_
  refine va_new (ci := 2) (fs := [.null, .null, .int 0]) (T := TX2) (N := 3) (pc := 5) hx hcb hts iwX2 tyX2 tyX2_ok hown (hts _ e209) (hts _ e210) (hts _ q59) hK hP hD hS hA rfl (fun j hj => by rcases (show j = 0 ∨ j = 1 ∨ j = 2 by omega) with rfl | rfl | rfl <;> rfl) (Nat.le_of_ble_eq_true rfl) (Nat.le_of_ble_eq_true rfl) dX7_init_5 (fun q5 H hP hD hS => ?_)
  have hP : va_P X.1 vwCl [(h0, .inr (7, [.null, .null, .int 0, .int 0, .int 0])), (q5, .inr (2, [.null, .null, .int 0]))] H := hP
  have hD : va_D A [(h0, .inr (7, [.null, .null, .int 0, .int 0, .int 0])), (q5, .inr (2, [.null, .null, .int 0]))] := hD
  refine lv_dup (pc := 8) hx hcb dX7_init_8 rfl ?_
  refine kicall (pc := 9) (rest := [.ref q5, .ref h0]) (As := []) (wr := [(h0, .inr (7, [.null, .null, .int 0, .int 0, .int 0]))]) [1] [0] hx hcb hml hown hts (i_X2_init l X q5) mi_X2_init e211 hK hP hD hS hA rfl rfl (by decide) rfl (by decide) (by decide) ⟨(Nat.le_of_ble_eq_true rfl), (Nat.le_of_ble_eq_true rfl)⟩ rfl hl.1 rfl (Nat.le_of_ble_eq_true rfl) dX7_init_9 ⟨(Nat.le_of_ble_eq_true rfl), (Nat.le_of_ble_eq_true rfl)⟩ (fun u9 H locs hP hD hS => ?_)
  have hP : va_P X.1 vwCl [(h0, .inr (7, [.null, .null, .int 0, .int 0, .int 0])), (q5, .inr (2, [.ref (u9 0), .ref (u9 1), .int 0])), ((u9 0), .inl (X.2.2.2.1, 960, .inl (fun _ => 0))), ((u9 1), .inl (X.2.2.2.2.1, 960, .inr (.inl (fun j => if j < 960 then -1 else 0))))] H := hP
  have hD : va_D A [(h0, .inr (7, [.null, .null, .int 0, .int 0, .int 0])), (q5, .inr (2, [.ref (u9 0), .ref (u9 1), .int 0])), ((u9 0), .inl (X.2.2.2.1, 960, .inl (fun _ => 0))), ((u9 1), .inl (X.2.2.2.2.1, 960, .inr (.inl (fun j => if j < 960 then -1 else 0))))] := hD
  refine va_put (ci := 7) (ty := .object "FollowingCalf$Front") (v := .ref q5) (T := TX7) (N := 5) (pc := 12) hx hcb hts iwX7 tyX7 tyX7_ok nmX7 hown hK hP hD hS 0 rfl rfl 0 (by decide) (hts _ q230) (fun _ h => h) rfl (by decide +kernel) rfl rfl (Nat.le_of_ble_eq_true rfl) dX7_init_12 (fun H locs hP hD hS => ?_)
  have hP : va_P X.1 vwCl [(h0, .inr (7, [.ref q5, .null, .int 0, .int 0, .int 0])), (q5, .inr (2, [.ref (u9 0), .ref (u9 1), .int 0])), ((u9 0), .inl (X.2.2.2.1, 960, .inl (fun _ => 0))), ((u9 1), .inl (X.2.2.2.2.1, 960, .inr (.inl (fun j => if j < 960 then -1 else 0))))] H := hP
  have hD : va_D A [(h0, .inr (7, [.ref q5, .null, .int 0, .int 0, .int 0])), (q5, .inr (2, [.ref (u9 0), .ref (u9 1), .int 0])), ((u9 0), .inl (X.2.2.2.1, 960, .inl (fun _ => 0))), ((u9 1), .inl (X.2.2.2.2.1, 960, .inr (.inl (fun j => if j < 960 then -1 else 0))))] := hD
  refine lv_aload_n (pc := 15) hx hcb dX7_init_15 rfl (lv_at hl 0 rfl) ?_
  refine va_new (ci := 2) (fs := [.null, .null, .int 0]) (T := TX2) (N := 3) (pc := 16) hx hcb hts iwX2 tyX2 tyX2_ok hown (hts _ e209) (hts _ e210) (hts _ q59) hK hP hD hS hA rfl (fun j hj => by rcases (show j = 0 ∨ j = 1 ∨ j = 2 by omega) with rfl | rfl | rfl <;> rfl) (Nat.le_of_ble_eq_true rfl) (Nat.le_of_ble_eq_true rfl) dX7_init_16 (fun q16 H hP hD hS => ?_)
  have hP : va_P X.1 vwCl [(h0, .inr (7, [.ref q5, .null, .int 0, .int 0, .int 0])), (q5, .inr (2, [.ref (u9 0), .ref (u9 1), .int 0])), ((u9 0), .inl (X.2.2.2.1, 960, .inl (fun _ => 0))), ((u9 1), .inl (X.2.2.2.2.1, 960, .inr (.inl (fun j => if j < 960 then -1 else 0)))), (q16, .inr (2, [.null, .null, .int 0]))] H := hP
  have hD : va_D A [(h0, .inr (7, [.ref q5, .null, .int 0, .int 0, .int 0])), (q5, .inr (2, [.ref (u9 0), .ref (u9 1), .int 0])), ((u9 0), .inl (X.2.2.2.1, 960, .inl (fun _ => 0))), ((u9 1), .inl (X.2.2.2.2.1, 960, .inr (.inl (fun j => if j < 960 then -1 else 0)))), (q16, .inr (2, [.null, .null, .int 0]))] := hD
  refine lv_dup (pc := 19) hx hcb dX7_init_19 rfl ?_
  refine kicall (pc := 20) (rest := [.ref q16, .ref h0]) (As := []) (wr := [(h0, .inr (7, [.ref q5, .null, .int 0, .int 0, .int 0])), (q5, .inr (2, [.ref (u9 0), .ref (u9 1), .int 0])), ((u9 0), .inl (X.2.2.2.1, 960, .inl (fun _ => 0))), ((u9 1), .inl (X.2.2.2.2.1, 960, .inr (.inl (fun j => if j < 960 then -1 else 0))))]) [4] [0, 1, 2, 3] hx hcb hml hown hts (i_X2_init l X q16) mi_X2_init e211 hK hP hD hS hA rfl rfl (by decide) rfl (by decide) (by decide) ⟨(Nat.le_of_ble_eq_true rfl), (Nat.le_of_ble_eq_true rfl)⟩ rfl hl.1 rfl (Nat.le_of_ble_eq_true rfl) dX7_init_20 ⟨(Nat.le_of_ble_eq_true rfl), (Nat.le_of_ble_eq_true rfl)⟩ (fun u20 H locs hP hD hS => ?_)
  have hP : va_P X.1 vwCl [(h0, .inr (7, [.ref q5, .null, .int 0, .int 0, .int 0])), (q5, .inr (2, [.ref (u9 0), .ref (u9 1), .int 0])), ((u9 0), .inl (X.2.2.2.1, 960, .inl (fun _ => 0))), ((u9 1), .inl (X.2.2.2.2.1, 960, .inr (.inl (fun j => if j < 960 then -1 else 0)))), (q16, .inr (2, [.ref (u20 0), .ref (u20 1), .int 0])), ((u20 0), .inl (X.2.2.2.1, 960, .inl (fun _ => 0))), ((u20 1), .inl (X.2.2.2.2.1, 960, .inr (.inl (fun j => if j < 960 then -1 else 0))))] H := hP
  have hD : va_D A [(h0, .inr (7, [.ref q5, .null, .int 0, .int 0, .int 0])), (q5, .inr (2, [.ref (u9 0), .ref (u9 1), .int 0])), ((u9 0), .inl (X.2.2.2.1, 960, .inl (fun _ => 0))), ((u9 1), .inl (X.2.2.2.2.1, 960, .inr (.inl (fun j => if j < 960 then -1 else 0)))), (q16, .inr (2, [.ref (u20 0), .ref (u20 1), .int 0])), ((u20 0), .inl (X.2.2.2.1, 960, .inl (fun _ => 0))), ((u20 1), .inl (X.2.2.2.2.1, 960, .inr (.inl (fun j => if j < 960 then -1 else 0))))] := hD
  refine va_put (ci := 7) (ty := .object "FollowingCalf$Front") (v := .ref q16) (T := TX7) (N := 5) (pc := 23) hx hcb hts iwX7 tyX7 tyX7_ok nmX7 hown hK hP hD hS 0 rfl rfl 1 (by decide) (hts _ q231) (fun _ h => h) rfl (by decide +kernel) rfl rfl (Nat.le_of_ble_eq_true rfl) dX7_init_23 (fun H locs hP hD hS => ?_)
  have hP : va_P X.1 vwCl [(h0, .inr (7, [.ref q5, .ref q16, .int 0, .int 0, .int 0])), (q5, .inr (2, [.ref (u9 0), .ref (u9 1), .int 0])), ((u9 0), .inl (X.2.2.2.1, 960, .inl (fun _ => 0))), ((u9 1), .inl (X.2.2.2.2.1, 960, .inr (.inl (fun j => if j < 960 then -1 else 0)))), (q16, .inr (2, [.ref (u20 0), .ref (u20 1), .int 0])), ((u20 0), .inl (X.2.2.2.1, 960, .inl (fun _ => 0))), ((u20 1), .inl (X.2.2.2.2.1, 960, .inr (.inl (fun j => if j < 960 then -1 else 0))))] H := hP
  have hD : va_D A [(h0, .inr (7, [.ref q5, .ref q16, .int 0, .int 0, .int 0])), (q5, .inr (2, [.ref (u9 0), .ref (u9 1), .int 0])), ((u9 0), .inl (X.2.2.2.1, 960, .inl (fun _ => 0))), ((u9 1), .inl (X.2.2.2.2.1, 960, .inr (.inl (fun j => if j < 960 then -1 else 0)))), (q16, .inr (2, [.ref (u20 0), .ref (u20 1), .int 0])), ((u20 0), .inl (X.2.2.2.1, 960, .inl (fun _ => 0))), ((u20 1), .inl (X.2.2.2.2.1, 960, .inr (.inl (fun j => if j < 960 then -1 else 0))))] := hD
  exact hret (fun j => match j with | 0 => q5 | 1 => (u9 0) | 2 => (u9 1) | 3 => q16 | 4 => (u20 0) | 5 => (u20 1) | _ => 0) _ _ _ _ hP hD hS dX7_init_26
theorem mi_X7_init : kMI yX7_init cX7_init 1 0 := ⟨e207, q58, e206, rfl, ⟨by decide +kernel, by decide +kernel⟩, by decide +kernel⟩
