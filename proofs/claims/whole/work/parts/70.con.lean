abbrev rm_X10_yardOf : Room := { frames := 0, cells := 0, slots := 0, locals := 0 }
set_option maxHeartbeats 4000000 in
set_option maxRecDepth 100000 in
theorem c_X10_yardOf (l : Launch) (X : KX) (σ : Mm) (x0 : Int32) (Φ : Int32 → Prop) (h : wp_X10_yardOf x0 Φ) : Met l yX10_yardOf (.code yX10_yardOf cX10_yardOf 1 (some .int) :: kT) rm_X10_yardOf (va_Pc [.int x0] (kPre kZC X σ)) (va_Qi (fun r σ' => Φ r ∧ σ = σ') (fun σ' t => kPre kZC X σ' t) (kA kZC X)) 0 0 (kA kZC X) := by
  refine kofI (by decide) (Nat.le_of_ble_eq_true rfl) ?_
  intro p e s m args below meth c ls Q hx hcb hml hown hts hS hW hl hret
  have hown : s.vm.findClass RX10 = some m.cls := hown
  have hl : lv_has ls 1 [(0, .int x0)] := hl
  unfold wp_X10_yardOf at h
  refine lv_iload_n (pc := 0) hx hcb dX10_yardOf_0 rfl (lv_at hl 0 rfl) ?_
  refine lv_bipush (v := 8) (pc := 1) hx hcb dX10_yardOf_1 rfl ?_
  refine lv_irem (pc := 3) hx hcb dX10_yardOf_3 (by decide) ?_
  exact hret _ _ _ _ _ _ rfl ⟨h, rfl⟩ hW dX10_yardOf_4
abbrev rm_X10_followedIn : Room := { frames := 0, cells := 0, slots := 0, locals := 0 }
set_option maxHeartbeats 4000000 in
set_option maxRecDepth 100000 in
theorem c_X10_followedIn (l : Launch) (X : KX) (σ : Mm) (x0 : Int32) (Φ : Int32 → Prop) (h : wp_X10_followedIn x0 Φ) : Met l yX10_followedIn (.code yX10_followedIn cX10_followedIn 1 (some .int) :: kT) rm_X10_followedIn (va_Pc [.int x0] (kPre kZC X σ)) (va_Qi (fun r σ' => Φ r ∧ σ = σ') (fun σ' t => kPre kZC X σ' t) (kA kZC X)) 0 0 (kA kZC X) := by
  refine kofI (by decide) (Nat.le_of_ble_eq_true rfl) ?_
  intro p e s m args below meth c ls Q hx hcb hml hown hts hS hW hl hret
  have hown : s.vm.findClass RX10 = some m.cls := hown
  have hl : lv_has ls 1 [(0, .int x0)] := hl
  unfold wp_X10_followedIn at h
  refine lv_iload_n (pc := 0) hx hcb dX10_followedIn_0 rfl (lv_at hl 0 rfl) ?_
  refine lv_bipush (v := 8) (pc := 1) hx hcb dX10_followedIn_1 rfl ?_
  refine lv_idiv (pc := 3) hx hcb dX10_followedIn_3 (by decide) ?_
  refine lv_bipush (v := 6) (pc := 4) hx hcb dX10_followedIn_4 rfl ?_
  refine lv_irem (pc := 6) hx hcb dX10_followedIn_6 (by decide) ?_
  refine lv_iconst (v := 1) (pc := 7) hx hcb dX10_followedIn_7 rfl ?_
  refine lv_isub (pc := 8) hx hcb dX10_followedIn_8 ?_
  exact hret _ _ _ _ _ _ rfl ⟨h, rfl⟩ hW dX10_followedIn_9
abbrev rm_X10_ageIn : Room := { frames := 0, cells := 0, slots := 0, locals := 0 }
set_option maxHeartbeats 4000000 in
set_option maxRecDepth 100000 in
theorem c_X10_ageIn (l : Launch) (X : KX) (σ : Mm) (x0 : Int32) (Φ : Int32 → Prop) (h : wp_X10_ageIn x0 Φ) : Met l yX10_ageIn (.code yX10_ageIn cX10_ageIn 1 (some .int) :: kT) rm_X10_ageIn (va_Pc [.int x0] (kPre kZC X σ)) (va_Qi (fun r σ' => Φ r ∧ σ = σ') (fun σ' t => kPre kZC X σ' t) (kA kZC X)) 0 0 (kA kZC X) := by
  refine kofI (by decide) (Nat.le_of_ble_eq_true rfl) ?_
  intro p e s m args below meth c ls Q hx hcb hml hown hts hS hW hl hret
  have hown : s.vm.findClass RX10 = some m.cls := hown
  have hl : lv_has ls 1 [(0, .int x0)] := hl
  unfold wp_X10_ageIn at h
  refine lv_iload_n (pc := 0) hx hcb dX10_ageIn_0 rfl (lv_at hl 0 rfl) ?_
  refine lv_bipush (v := 48) (pc := 1) hx hcb dX10_ageIn_1 rfl ?_
  refine lv_idiv (pc := 3) hx hcb dX10_ageIn_3 (by decide) ?_
  exact hret _ _ _ _ _ _ rfl ⟨h, rfl⟩ hW dX10_ageIn_4
abbrev rm_X10_packed : Room := { frames := 0, cells := 0, slots := 0, locals := 0 }
set_option maxHeartbeats 4000000 in
set_option maxRecDepth 100000 in
theorem c_X10_packed (l : Launch) (X : KX) (σ : Mm) (x0 : Int32) (x1 : Int32) (x2 : Int32) (Φ : Int32 → Prop) (h : wp_X10_packed x0 x1 x2 Φ) : Met l yX10_packed (.code yX10_packed cX10_packed 3 (some .int) :: kT) rm_X10_packed (va_Pc [.int x0, .int x1, .int x2] (kPre kZC X σ)) (va_Qi (fun r σ' => Φ r ∧ σ = σ') (fun σ' t => kPre kZC X σ' t) (kA kZC X)) 0 0 (kA kZC X) := by
  refine kofI (by decide) (Nat.le_of_ble_eq_true rfl) ?_
  intro p e s m args below meth c ls Q hx hcb hml hown hts hS hW hl hret
  have hown : s.vm.findClass RX10 = some m.cls := hown
  have hl : lv_has ls 3 [(0, .int x0), (1, .int x1), (2, .int x2)] := hl
  unfold wp_X10_packed at h
  refine lv_iload_n (pc := 0) hx hcb dX10_packed_0 rfl (lv_at hl 2 rfl) ?_
  refine lv_bipush (v := 6) (pc := 1) hx hcb dX10_packed_1 rfl ?_
  refine lv_imul (pc := 3) hx hcb dX10_packed_3 ?_
  refine lv_iload_n (pc := 4) hx hcb dX10_packed_4 rfl (lv_at hl 1 rfl) ?_
  refine lv_iadd (pc := 5) hx hcb dX10_packed_5 ?_
  refine lv_iconst (v := 1) (pc := 6) hx hcb dX10_packed_6 rfl ?_
  refine lv_iadd (pc := 7) hx hcb dX10_packed_7 ?_
  refine lv_bipush (v := 8) (pc := 8) hx hcb dX10_packed_8 rfl ?_
  refine lv_imul (pc := 10) hx hcb dX10_packed_10 ?_
  refine lv_iload_n (pc := 11) hx hcb dX10_packed_11 rfl (lv_at hl 0 rfl) ?_
  refine lv_iadd (pc := 12) hx hcb dX10_packed_12 ?_
  exact hret _ _ _ _ _ _ rfl ⟨h, rfl⟩ hW dX10_packed_13
abbrev rm_X1_yardAt : Room := { frames := 0, cells := 0, slots := 0, locals := 0 }
set_option maxHeartbeats 4000000 in
set_option maxRecDepth 100000 in
theorem c_X1_yardAt (l : Launch) (X : KX) (σ : Mm) (b0 : Nat) (hb0 : kFm b0) (x1 : Int32) (x2 : Int32) (Φ : Int32 → Prop) (h : wp_X1_yardAt σ b0 x1 x2 Φ) : Met l yX1_yardAt (.code yX1_yardAt cX1_yardAt 4 (some .int) :: kT) rm_X1_yardAt (va_Pc [.ref (X.2.1 b0), .int x1, .int x2] (kPre kZC X σ)) (va_Qi (fun r σ' => Φ r ∧ σ = σ') (fun σ' t => kPre kZC X σ' t) (kA kZC X)) 0 0 (kA kZC X) := by
  refine kofI (by decide) (Nat.le_of_ble_eq_true rfl) ?_
  intro p e s m args below meth c ls Q hx hcb hml hown hts hS hW hl hret
  have hown : s.vm.findClass RX1 = some m.cls := hown
  have hl : lv_has ls 4 [(0, .ref (X.2.1 b0)), (1, .int x1), (2, .int x2)] := hl
  unfold wp_X1_yardAt at h
  refine lv_iload_n (pc := 0) hx hcb dX1_yardAt_0 rfl (lv_at hl 1 rfl) ?_
  refine lv_if_lt (tgt := 16) (pc := 1) hx hcb dX1_yardAt_1 (by decide) (fun c1 => ?_) (fun c1 => ?_)
  · have h := h.1 c1
    refine lv_iconst (v := 0) (pc := 16) hx hcb dX1_yardAt_16 rfl ?_
    exact hret _ _ _ _ _ _ rfl ⟨h, rfl⟩ hW dX1_yardAt_17
  · have h := h.2 c1
    refine lv_iload_n (pc := 4) hx hcb dX1_yardAt_4 rfl (lv_at hl 1 rfl) ?_
    refine lv_aload_n (pc := 5) hx hcb dX1_yardAt_5 rfl (lv_at hl 0 rfl) ?_
    refine kget (v := .int (σ.1 b0 6)) (pc := 6) hx hcb hts hown hS hW iwX1 (kO_X1 hb0) rfl 6 (by decide) q116 rfl rfl dX1_yardAt_6 ?_
    refine lv_icmp_ge (tgt := 16) (pc := 9) hx hcb dX1_yardAt_9 (by decide) (fun c9 => ?_) (fun c9 => ?_)
    · have h := h.1 c9
      refine lv_iconst (v := 0) (pc := 16) hx hcb dX1_yardAt_16 rfl ?_
      exact hret _ _ _ _ _ _ rfl ⟨h, rfl⟩ hW dX1_yardAt_17
    · have h := h.2 c9
      refine lv_iload_n (pc := 12) hx hcb dX1_yardAt_12 rfl (lv_at hl 2 rfl) ?_
      refine lv_if_ge (tgt := 18) (pc := 13) hx hcb dX1_yardAt_13 (by decide) (fun c13 => ?_) (fun c13 => ?_)
      · have h := h.1 c13
        refine lv_aload_n (pc := 18) hx hcb dX1_yardAt_18 rfl (lv_at hl 0 rfl) ?_
        refine kget (v := .ref (X.2.1 (b0 + 5))) (pc := 19) hx hcb hts hown hS hW iwX1 (kO_X1 hb0) rfl 4 (by decide) q114 rfl rfl dX1_yardAt_19 ?_
        refine lv_iload_n (pc := 22) hx hcb dX1_yardAt_22 rfl (lv_at hl 1 rfl) ?_
        have hin1 := h.1
        have h := h.2
        refine kiald (x1.toNatClampNeg) (pc := 23) hx hcb hS hW (kA_X1_4 hb0) rfl (kin_of hin1 (by decide)) dX1_yardAt_23 ?_
        refine lv_topi (fun x3_2 ex3_2 => ?_)
        have h := h x3_2 ex3_2
        refine lv_istore_n (lv' := [(3, .int x3_2), (0, .ref (X.2.1 b0)), (1, .int x1), (2, .int x2)]) (pc := 24) hx hcb dX1_yardAt_24 rfl hl (by decide) rfl (fun ls hl => ?_)
        refine lv_iload_n (pc := 25) hx hcb dX1_yardAt_25 rfl (lv_at hl 0 rfl) ?_
        refine lv_iconst (v := 1) (pc := 26) hx hcb dX1_yardAt_26 rfl ?_
        refine lv_icmp_ge (tgt := 32) (pc := 27) hx hcb dX1_yardAt_27 (by decide) (fun c27 => ?_) (fun c27 => ?_)
        · have h := h.1 c27
          refine lv_aload_n (pc := 32) hx hcb dX1_yardAt_32 rfl (lv_at hl 1 rfl) ?_
          refine kget (v := .ref (X.2.1 (b0 + 4))) (pc := 33) hx hcb hts hown hS hW iwX1 (kO_X1 hb0) rfl 3 (by decide) q113 rfl rfl dX1_yardAt_33 ?_
          refine lv_iload_n (pc := 36) hx hcb dX1_yardAt_36 rfl (lv_at hl 2 rfl) ?_
          refine lv_bipush (v := 12) (pc := 37) hx hcb dX1_yardAt_37 rfl ?_
          refine lv_imul (pc := 39) hx hcb dX1_yardAt_39 ?_
          refine lv_iload_n (pc := 40) hx hcb dX1_yardAt_40 rfl (lv_at hl 3 rfl) ?_
          refine lv_iload_n (pc := 41) hx hcb dX1_yardAt_41 rfl (lv_at hl 0 rfl) ?_
          have hne42 := h.1
          have h := h.2
          refine lv_irem (pc := 42) hx hcb dX1_yardAt_42 hne42 ?_
          refine lv_iadd (pc := 43) hx hcb dX1_yardAt_43 ?_
          have hin3 := h.1
          have h := h.2
          refine kiald (((x1 * 12) + (x2 - x2 / x3_2 * x3_2)).toNatClampNeg) (pc := 44) hx hcb hS hW (kA_X1_3 hb0) rfl (kin_of hin3 (by decide)) dX1_yardAt_44 ?_
          exact hret _ _ _ _ _ _ rfl ⟨h, rfl⟩ hW dX1_yardAt_45
        · have h := h.2 c27
          refine lv_iconst (v := 0) (pc := 30) hx hcb dX1_yardAt_30 rfl ?_
          exact hret _ _ _ _ _ _ rfl ⟨h, rfl⟩ hW dX1_yardAt_31
      · have h := h.2 c13
        refine lv_iconst (v := 0) (pc := 16) hx hcb dX1_yardAt_16 rfl ?_
        exact hret _ _ _ _ _ _ rfl ⟨h, rfl⟩ hW dX1_yardAt_17
abbrev rm_X1_towards : Room := { frames := 0, cells := 0, slots := 0, locals := 0 }
set_option maxHeartbeats 4000000 in
set_option maxRecDepth 100000 in
theorem c_X1_towards (l : Launch) (X : KX) (σ : Mm) (b0 : Nat) (hb0 : kFm b0) (x1 : Int32) (x2 : Int32) (Φ : Int32 → Prop) (h : wp_X1_towards σ b0 x1 x2 Φ) : Met l yX1_towards (.code yX1_towards cX1_towards 3 (some .int) :: kT) rm_X1_towards (va_Pc [.ref (X.2.1 b0), .int x1, .int x2] (kPre kZC X σ)) (va_Qi (fun r σ' => Φ r ∧ σ = σ') (fun σ' t => kPre kZC X σ' t) (kA kZC X)) 0 0 (kA kZC X) := by
  refine kofI (by decide) (Nat.le_of_ble_eq_true rfl) ?_
  intro p e s m args below meth c ls Q hx hcb hml hown hts hS hW hl hret
  have hown : s.vm.findClass RX1 = some m.cls := hown
  have hl : lv_has ls 3 [(0, .ref (X.2.1 b0)), (1, .int x1), (2, .int x2)] := hl
  unfold wp_X1_towards at h
  refine lv_iload_n (pc := 0) hx hcb dX1_towards_0 rfl (lv_at hl 1 rfl) ?_
  refine lv_if_lt (tgt := 20) (pc := 1) hx hcb dX1_towards_1 (by decide) (fun c1 => ?_) (fun c1 => ?_)
  · have h := h.1 c1
    refine lv_iload_n (pc := 20) hx hcb dX1_towards_20 rfl (lv_at hl 1 rfl) ?_
    exact hret _ _ _ _ _ _ rfl ⟨h, rfl⟩ hW dX1_towards_21
  · have h := h.2 c1
    refine lv_iload_n (pc := 4) hx hcb dX1_towards_4 rfl (lv_at hl 1 rfl) ?_
    refine lv_bipush (v := 8) (pc := 5) hx hcb dX1_towards_5 rfl ?_
    refine lv_icmp_ge (tgt := 20) (pc := 7) hx hcb dX1_towards_7 (by decide) (fun c7 => ?_) (fun c7 => ?_)
    · have h := h.1 c7
      refine lv_iload_n (pc := 20) hx hcb dX1_towards_20 rfl (lv_at hl 1 rfl) ?_
      exact hret _ _ _ _ _ _ rfl ⟨h, rfl⟩ hW dX1_towards_21
    · have h := h.2 c7
      refine lv_iload_n (pc := 10) hx hcb dX1_towards_10 rfl (lv_at hl 2 rfl) ?_
      refine lv_if_lt (tgt := 20) (pc := 11) hx hcb dX1_towards_11 (by decide) (fun c11 => ?_) (fun c11 => ?_)
      · have h := h.1 c11
        refine lv_iload_n (pc := 20) hx hcb dX1_towards_20 rfl (lv_at hl 1 rfl) ?_
        exact hret _ _ _ _ _ _ rfl ⟨h, rfl⟩ hW dX1_towards_21
      · have h := h.2 c11
        refine lv_iload_n (pc := 14) hx hcb dX1_towards_14 rfl (lv_at hl 2 rfl) ?_
        refine lv_bipush (v := 8) (pc := 15) hx hcb dX1_towards_15 rfl ?_
        refine lv_icmp_lt (tgt := 22) (pc := 17) hx hcb dX1_towards_17 (by decide) (fun c17 => ?_) (fun c17 => ?_)
        · have h := h.1 c17
          refine lv_aload_n (pc := 22) hx hcb dX1_towards_22 rfl (lv_at hl 0 rfl) ?_
          refine kget (v := .ref (X.2.1 (b0 + 2))) (pc := 23) hx hcb hts hown hS hW iwX1 (kO_X1 hb0) rfl 1 (by decide) q111 rfl rfl dX1_towards_23 ?_
          refine lv_iload_n (pc := 26) hx hcb dX1_towards_26 rfl (lv_at hl 1 rfl) ?_
          refine lv_bipush (v := 8) (pc := 27) hx hcb dX1_towards_27 rfl ?_
          refine lv_imul (pc := 29) hx hcb dX1_towards_29 ?_
          refine lv_iload_n (pc := 30) hx hcb dX1_towards_30 rfl (lv_at hl 2 rfl) ?_
          refine lv_iadd (pc := 31) hx hcb dX1_towards_31 ?_
          have hin1 := h.1
          have h := h.2
          refine kiald (((x1 * 8) + x2).toNatClampNeg) (pc := 32) hx hcb hS hW (kA_X1_1 hb0) rfl (kin_of hin1 (by decide)) dX1_towards_32 ?_
          exact hret _ _ _ _ _ _ rfl ⟨h, rfl⟩ hW dX1_towards_33
        · have h := h.2 c17
          refine lv_iload_n (pc := 20) hx hcb dX1_towards_20 rfl (lv_at hl 1 rfl) ?_
          exact hret _ _ _ _ _ _ rfl ⟨h, rfl⟩ hW dX1_towards_21
abbrev rm_X1_onward : Room := { frames := 1, cells := 0, slots := 0, locals := 23 }
set_option maxHeartbeats 4000000 in
set_option maxRecDepth 100000 in
theorem c_X1_onward (l : Launch) (X : KX) (σ : Mm) (b0 : Nat) (hb0 : kFm b0) (x1 : Int32) (x2 : Int32) (Φ : Int32 → Prop) (h : wp_X1_onward σ b0 x1 x2 Φ) : Met l yX1_onward (.code yX1_onward cX1_onward 6 (some .int) :: kT) rm_X1_onward (va_Pc [.ref (X.2.1 b0), .int x1, .int x2] (kPre kZC X σ)) (va_Qi (fun r σ' => Φ r ∧ σ = σ') (fun σ' t => kPre kZC X σ' t) (kA kZC X)) 0 0 (kA kZC X) := by
  refine kofI (by decide) (Nat.le_of_ble_eq_true rfl) ?_
  intro p e s m args below meth c ls Q hx hcb hml hown hts hS hW hl hret
  have hown : s.vm.findClass RX1 = some m.cls := hown
  have hl : lv_has ls 6 [(0, .ref (X.2.1 b0)), (1, .int x1), (2, .int x2)] := hl
  unfold wp_X1_onward at h
  refine lv_iload_n (pc := 0) hx hcb dX1_onward_0 rfl (lv_at hl 1 rfl) ?_
  refine kci (krunSN (As := [.int x1]) (rest := []) (pc := 1) hx hcb hml hown hts hS hW (c_X10_yardOf l X σ x1 _ h) mf_X10_yardOf q519 ⟨rfl, rfl⟩ ⟨Nat.le_of_ble_eq_true rfl, Nat.le_of_ble_eq_true rfl⟩ rfl hl.1 rfl (Nat.le_of_ble_eq_true rfl) dX1_onward_1 ⟨Nat.zero_le _, Nat.zero_le _⟩) hS hW (fun r2 σ1 H locs h hW => ?_)
  obtain ⟨h, rfl⟩ := h
  refine lv_istore_n (lv' := [(3, .int r2), (0, .ref (X.2.1 b0)), (1, .int x1), (2, .int x2)]) (pc := 4) hx hcb dX1_onward_4 rfl hl (by decide) rfl (fun ls hl => ?_)
  refine lv_iload_n (pc := 5) hx hcb dX1_onward_5 rfl (lv_at hl 2 rfl) ?_
  refine kci (krunSN (As := [.int x1]) (rest := []) (pc := 6) hx hcb hml hown hts hS hW (c_X10_followedIn l X σ x1 _ h) mf_X10_followedIn q547 ⟨rfl, rfl⟩ ⟨Nat.le_of_ble_eq_true rfl, Nat.le_of_ble_eq_true rfl⟩ rfl hl.1 rfl (Nat.le_of_ble_eq_true rfl) dX1_onward_6 ⟨Nat.zero_le _, Nat.zero_le _⟩) hS hW (fun r4 σ3 H locs h hW => ?_)
  obtain ⟨h, rfl⟩ := h
  refine lv_istore (lv' := [(4, .int r4), (3, .int r2), (0, .ref (X.2.1 b0)), (1, .int x1), (2, .int x2)]) (pc := 9) hx hcb dX1_onward_9 hl (by decide) rfl (fun ls hl => ?_)
  refine lv_iload (pc := 11) hx hcb dX1_onward_11 (lv_at hl 0 rfl) ?_
  refine lv_iconst (v := (-1)) (pc := 13) hx hcb dX1_onward_13 rfl ?_
  refine lv_icmp_ne (tgt := 19) (pc := 14) hx hcb dX1_onward_14 (by decide) (fun c14 => ?_) (fun c14 => ?_)
  · have h := h.1 c14
    refine lv_aload_n (pc := 19) hx hcb dX1_onward_19 rfl (lv_at hl 2 rfl) ?_
    refine kget (v := .int (σ.1 b0 7)) (pc := 20) hx hcb hts hown hS hW iwX1 (kO_X1 hb0) rfl 7 (by decide) q117 rfl rfl dX1_onward_20 ?_
    obtain ⟨K36, hk36, h⟩ := h
    have hK36 : ∀ (v5 : Int32) (H : Heap) (locs : List Loc) (ls : Array Slot), K36 v5 → kW kZC X (kA kZC X) s σ H locs → lv_has ls 6 [(0, .ref (X.2.1 b0)), (2, .int x2), (3, .int r2), (4, .int r4)] → W p l e rm_X1_onward s m args below meth c H locs 0 0 Q (F0 m 36 ls [.int v5]) := by
      intro v5 H locs ls h hW hl
      have h := hk36 v5 h
      refine lv_istore (lv' := [(5, .int v5), (0, .ref (X.2.1 b0)), (2, .int x2), (3, .int r2), (4, .int r4)]) (pc := 36) hx hcb dX1_onward_36 hl (by decide) rfl (fun ls hl => ?_)
      refine lv_aload_n (pc := 38) hx hcb dX1_onward_38 rfl (lv_at hl 1 rfl) ?_
      refine kget (v := .int (σ.1 b0 7)) (pc := 39) hx hcb hts hown hS hW iwX1 (kO_X1 hb0) rfl 7 (by decide) q117 rfl rfl dX1_onward_39 ?_
      obtain ⟨K61, hk61, h⟩ := h
      have hK61 : ∀  (H : Heap) (locs : List Loc) (ls : Array Slot), K61 → kW kZC X (kA kZC X) s σ H locs → lv_has ls 6 [(0, .ref (X.2.1 b0)), (2, .int x2), (3, .int r2), (4, .int r4), (5, .int v5)] → W p l e rm_X1_onward s m args below meth c H locs 0 0 Q (F0 m 61 ls []) := by
        intro  H locs ls h hW hl
        have h := hk61 h
        refine lv_aload_n (pc := 61) hx hcb dX1_onward_61 rfl (lv_at hl 0 rfl) ?_
        refine lv_iload_n (pc := 62) hx hcb dX1_onward_62 rfl (lv_at hl 2 rfl) ?_
        refine lv_aload_n (pc := 63) hx hcb dX1_onward_63 rfl (lv_at hl 0 rfl) ?_
        refine lv_iload (pc := 64) hx hcb dX1_onward_64 (lv_at hl 3 rfl) ?_
        refine lv_iload_n (pc := 66) hx hcb dX1_onward_66 rfl (lv_at hl 1 rfl) ?_
        refine kci (krunV (As := [.int r4, .int x2]) (rest := [.int r2, .ref (X.2.1 b0)]) (pc := 67) hx hcb hml hown hts hS hW (c_X1_yardAt l X σ b0 hb0 r4 x2 _ h) mf_X1_yardAt q518 (kO_X1 hb0) rfl ⟨rfl, rfl⟩ ⟨Nat.le_of_ble_eq_true rfl, Nat.le_of_ble_eq_true rfl⟩ rfl hl.1 rfl (Nat.le_of_ble_eq_true rfl) dX1_onward_67 ⟨Nat.zero_le _, Nat.zero_le _⟩) hS hW (fun r7 σ6 H locs h hW => ?_)
        obtain ⟨h, rfl⟩ := h
        refine kci (krunV (As := [.int r2, .int r7]) (rest := []) (pc := 70) hx hcb hml hown hts hS hW (c_X1_towards l X σ b0 hb0 r2 r7 _ h) mf_X1_towards q553 (kO_X1 hb0) rfl ⟨rfl, rfl⟩ ⟨Nat.le_of_ble_eq_true rfl, Nat.le_of_ble_eq_true rfl⟩ rfl hl.1 rfl (Nat.le_of_ble_eq_true rfl) dX1_onward_70 ⟨Nat.zero_le _, Nat.zero_le _⟩) hS hW (fun r9 σ8 H locs h hW => ?_)
        obtain ⟨h, rfl⟩ := h
        refine lv_iload (pc := 73) hx hcb dX1_onward_73 (lv_at hl 3 rfl) ?_
        refine lv_iload (pc := 75) hx hcb dX1_onward_75 (lv_at hl 4 rfl) ?_
        refine kci (krunSN (As := [.int r9, .int r4, .int v5]) (rest := []) (pc := 77) hx hcb hml hown hts hS hW (c_X10_packed l X σ r9 r4 v5 _ h) mf_X10_packed q418 ⟨rfl, rfl⟩ ⟨Nat.le_of_ble_eq_true rfl, Nat.le_of_ble_eq_true rfl⟩ rfl hl.1 rfl (Nat.le_of_ble_eq_true rfl) dX1_onward_77 ⟨Nat.zero_le _, Nat.zero_le _⟩) hS hW (fun r11 σ10 H locs h hW => ?_)
        obtain ⟨h, rfl⟩ := h
        exact hret _ _ _ _ _ _ rfl ⟨h, rfl⟩ hW dX1_onward_80
      refine lv_if_le (tgt := 61) (pc := 42) hx hcb dX1_onward_42 (by decide) (fun c42 => ?_) (fun c42 => ?_)
      · have h := h.1 c42
        exact hK61  _ _ _ h hW (lv_sub hl [1, 2, 3, 4, 0] rfl)
      · have h := h.2 c42
        refine lv_iload (pc := 45) hx hcb dX1_onward_45 (lv_at hl 0 rfl) ?_
        refine lv_aload_n (pc := 47) hx hcb dX1_onward_47 rfl (lv_at hl 1 rfl) ?_
        refine kget (v := .int (σ.1 b0 7)) (pc := 48) hx hcb hts hown hS hW iwX1 (kO_X1 hb0) rfl 7 (by decide) q117 rfl rfl dX1_onward_48 ?_
        refine lv_icmp_lt (tgt := 61) (pc := 51) hx hcb dX1_onward_51 (by decide) (fun c51 => ?_) (fun c51 => ?_)
        · have h := h.1 c51
          exact hK61  _ _ _ h hW (lv_sub hl [1, 2, 3, 4, 0] rfl)
        · have h := h.2 c51
          refine lv_iload_n (pc := 54) hx hcb dX1_onward_54 rfl (lv_at hl 3 rfl) ?_
          refine lv_iconst (v := (-1)) (pc := 55) hx hcb dX1_onward_55 rfl ?_
          refine lv_iconst (v := 0) (pc := 56) hx hcb dX1_onward_56 rfl ?_
          refine kci (krunSN (As := [.int r2, .int (-1), .int 0]) (rest := []) (pc := 57) hx hcb hml hown hts hS hW (c_X10_packed l X σ r2 (-1) 0 _ h) mf_X10_packed q418 ⟨rfl, rfl⟩ ⟨Nat.le_of_ble_eq_true rfl, Nat.le_of_ble_eq_true rfl⟩ rfl hl.1 rfl (Nat.le_of_ble_eq_true rfl) dX1_onward_57 ⟨Nat.zero_le _, Nat.zero_le _⟩) hS hW (fun r13 σ12 H locs h hW => ?_)
          obtain ⟨h, rfl⟩ := h
          exact hret _ _ _ _ _ _ rfl ⟨h, rfl⟩ hW dX1_onward_60
    refine lv_if_le (tgt := 35) (pc := 23) hx hcb dX1_onward_23 (by decide) (fun c23 => ?_) (fun c23 => ?_)
    · have h := h.1 c23
      refine lv_iconst (v := 0) (pc := 35) hx hcb dX1_onward_35 rfl ?_
      exact hK36 0 _ _ _ h hW (lv_sub hl [2, 4, 1, 0] rfl)
    · have h := h.2 c23
      refine lv_iload_n (pc := 26) hx hcb dX1_onward_26 rfl (lv_at hl 3 rfl) ?_
      refine kci (krunSN (As := [.int x1]) (rest := []) (pc := 27) hx hcb hml hown hts hS hW (c_X10_ageIn l X σ x1 _ h) mf_X10_ageIn q550 ⟨rfl, rfl⟩ ⟨Nat.le_of_ble_eq_true rfl, Nat.le_of_ble_eq_true rfl⟩ rfl hl.1 rfl (Nat.le_of_ble_eq_true rfl) dX1_onward_27 ⟨Nat.zero_le _, Nat.zero_le _⟩) hS hW (fun r15 σ14 H locs h hW => ?_)
      obtain ⟨h, rfl⟩ := h
      refine lv_iconst (v := 1) (pc := 30) hx hcb dX1_onward_30 rfl ?_
      refine lv_iadd (pc := 31) hx hcb dX1_onward_31 ?_
      refine lv_goto (tgt := 36) (pc := 32) hx hcb dX1_onward_32 (by decide) ?_
      exact hK36 (r15 + 1) _ _ _ h hW (lv_sub hl [2, 4, 1, 0] rfl)
  · have h := h.2 c14
    refine lv_iload_n (pc := 17) hx hcb dX1_onward_17 rfl (lv_at hl 3 rfl) ?_
    exact hret _ _ _ _ _ _ rfl ⟨h, rfl⟩ hW dX1_onward_18
abbrev rm_X6_isOne : Room := { frames := 0, cells := 0, slots := 0, locals := 0 }
set_option maxHeartbeats 4000000 in
set_option maxRecDepth 100000 in
theorem c_X6_isOne (l : Launch) (X : KX) (σ : Mm) (x0 : Int32) (x1 : Int32) (Φ : Int32 → Prop) (h : wp_X6_isOne x0 x1 Φ) : Met l yX6_isOne (.code yX6_isOne cX6_isOne 2 (some .boolean) :: kT) rm_X6_isOne (va_Pc [.int x0, .int x1] (kPre kZC X σ)) (va_Qi (fun r σ' => Φ r ∧ σ = σ') (fun σ' t => kPre kZC X σ' t) (kA kZC X)) 0 0 (kA kZC X) := by
  refine kofI (by decide) (Nat.le_of_ble_eq_true rfl) ?_
  intro p e s m args below meth c ls Q hx hcb hml hown hts hS hW hl hret
  have hown : s.vm.findClass RX6 = some m.cls := hown
  have hl : lv_has ls 2 [(0, .int x0), (1, .int x1)] := hl
  unfold wp_X6_isOne at h
  refine lv_iload_n (pc := 0) hx hcb dX6_isOne_0 rfl (lv_at hl 0 rfl) ?_
  refine lv_if_lt (tgt := 25) (pc := 1) hx hcb dX6_isOne_1 (by decide) (fun c1 => ?_) (fun c1 => ?_)
  · have h := h.1 c1
    refine lv_iconst (v := 0) (pc := 25) hx hcb dX6_isOne_25 rfl ?_
    exact hret _ _ _ _ _ _ rfl ⟨h, rfl⟩ hW dX6_isOne_26
  · have h := h.2 c1
    refine lv_iload_n (pc := 4) hx hcb dX6_isOne_4 rfl (lv_at hl 0 rfl) ?_
    refine lv_bipush (v := 12) (pc := 5) hx hcb dX6_isOne_5 rfl ?_
    refine lv_icmp_gt (tgt := 25) (pc := 7) hx hcb dX6_isOne_7 (by decide) (fun c7 => ?_) (fun c7 => ?_)
    · have h := h.1 c7
      refine lv_iconst (v := 0) (pc := 25) hx hcb dX6_isOne_25 rfl ?_
      exact hret _ _ _ _ _ _ rfl ⟨h, rfl⟩ hW dX6_isOne_26
    · have h := h.2 c7
      refine lv_iload_n (pc := 10) hx hcb dX6_isOne_10 rfl (lv_at hl 1 rfl) ?_
      refine lv_if_lt (tgt := 25) (pc := 11) hx hcb dX6_isOne_11 (by decide) (fun c11 => ?_) (fun c11 => ?_)
      · have h := h.1 c11
        refine lv_iconst (v := 0) (pc := 25) hx hcb dX6_isOne_25 rfl ?_
        exact hret _ _ _ _ _ _ rfl ⟨h, rfl⟩ hW dX6_isOne_26
      · have h := h.2 c11
        refine lv_iload_n (pc := 14) hx hcb dX6_isOne_14 rfl (lv_at hl 1 rfl) ?_
        refine lv_sipush (v := 960) (pc := 15) hx hcb dX6_isOne_15 rfl ?_
        refine lv_icmp_ge (tgt := 25) (pc := 18) hx hcb dX6_isOne_18 (by decide) (fun c18 => ?_) (fun c18 => ?_)
        · have h := h.1 c18
          refine lv_iconst (v := 0) (pc := 25) hx hcb dX6_isOne_25 rfl ?_
          exact hret _ _ _ _ _ _ rfl ⟨h, rfl⟩ hW dX6_isOne_26
        · have h := h.2 c18
          refine lv_iconst (v := 1) (pc := 21) hx hcb dX6_isOne_21 rfl ?_
          refine lv_goto (tgt := 26) (pc := 22) hx hcb dX6_isOne_22 (by decide) ?_
          exact hret _ _ _ _ _ _ rfl ⟨h, rfl⟩ hW dX6_isOne_26
abbrev rm_X6_add : Room := { frames := 1, cells := 0, slots := 0, locals := 21 }
set_option maxHeartbeats 4000000 in
set_option maxRecDepth 100000 in
theorem c_X6_add (l : Launch) (X : KX) (σ : Mm) (x1 : Int32) (x2 : Int32) (Φ : Mm → Prop) (h : wp_X6_add σ x1 x2 Φ) : Met l yX6_add (.code yX6_add cX6_add 3 none :: kT) rm_X6_add (va_Pc [.ref (X.2.1 39), .int x1, .int x2] (kPre kZC X σ)) (va_Qv (fun σ' => Φ σ') (fun σ' t => kPre kZC X σ' t) (kA kZC X)) 0 0 (kA kZC X) := by
  refine kofV (by decide) (Nat.le_of_ble_eq_true rfl) ?_
  intro p e s m args below meth c ls Q hx hcb hml hown hts hS hW hl hret
  have hown : s.vm.findClass RX6 = some m.cls := hown
  have hl : lv_has ls 3 [(0, .ref (X.2.1 39)), (1, .int x1), (2, .int x2)] := hl
  unfold wp_X6_add at h
  refine lv_iload_n (pc := 0) hx hcb dX6_add_0 rfl (lv_at hl 1 rfl) ?_
  refine lv_iload_n (pc := 1) hx hcb dX6_add_1 rfl (lv_at hl 2 rfl) ?_
  refine kci (krunS (As := [.int x1, .int x2]) (rest := []) (pc := 2) hx hcb hml hown hts hS hW (c_X6_isOne l X σ x1 x2 _ h) mf_X6_isOne q729 ⟨rfl, rfl⟩ ⟨Nat.le_of_ble_eq_true rfl, Nat.le_of_ble_eq_true rfl⟩ rfl hl.1 rfl (Nat.le_of_ble_eq_true rfl) dX6_add_2 ⟨Nat.zero_le _, Nat.zero_le _⟩) hS hW (fun r2 σ1 H locs h hW => ?_)
  obtain ⟨h, rfl⟩ := h
  refine lv_if_eq (tgt := 31) (pc := 5) hx hcb dX6_add_5 (by decide) (fun c5 => ?_) (fun c5 => ?_)
  · have h := h.1 c5
    exact hret _ _ _ _ _ h hW dX6_add_31
  · have h := h.2 c5
    refine lv_aload_n (pc := 8) hx hcb dX6_add_8 rfl (lv_at hl 0 rfl) ?_
    refine kget (v := .ref (X.2.1 40)) (pc := 9) hx hcb hts hown hS hW iwX6 kOC_39 rfl 0 (by decide) q258 rfl rfl dX6_add_9 ?_
    refine lv_iload_n (pc := 12) hx hcb dX6_add_12 rfl (lv_at hl 1 rfl) ?_
    refine lv_bipush (v := 30) (pc := 13) hx hcb dX6_add_13 rfl ?_
    refine lv_imul (pc := 15) hx hcb dX6_add_15 ?_
    refine lv_iload_n (pc := 16) hx hcb dX6_add_16 rfl (lv_at hl 2 rfl) ?_
    refine lv_bipush (v := 32) (pc := 17) hx hcb dX6_add_17 rfl ?_
    refine lv_idiv (pc := 19) hx hcb dX6_add_19 (by decide) ?_
    refine lv_iadd (pc := 20) hx hcb dX6_add_20 ?_
    refine lv_dup2_11 (pc := 21) hx hcb dX6_add_21 rfl rfl ?_
    have hin3 := h.1
    have h := h.2
    refine kiald (((x1 * 30) + (x2 / 32)).toNatClampNeg) (pc := 22) hx hcb hS hW kIC_40 rfl (kin_of hin3 (by decide)) dX6_add_22 ?_
    refine lv_iconst (v := 1) (pc := 23) hx hcb dX6_add_23 rfl ?_
    refine lv_iload_n (pc := 24) hx hcb dX6_add_24 rfl (lv_at hl 2 rfl) ?_
    refine lv_bipush (v := 32) (pc := 25) hx hcb dX6_add_25 rfl ?_
    refine lv_irem (pc := 27) hx hcb dX6_add_27 (by decide) ?_
    refine lv_ishl (pc := 28) hx hcb dX6_add_28 ?_
    refine lv_ior (pc := 29) hx hcb dX6_add_29 ?_
    have hin4 := h.1
    have h := h.2
    refine kiast (((x1 * 30) + (x2 / 32)).toNatClampNeg) (pc := 30) hx hcb hS hW kIC_40 rfl (kin_of hin4 (by decide)) dX6_add_30 (fun σ5 H locs eσ5 hW => ?_)
    have h := h σ5 eσ5
    exact hret _ _ _ _ _ h hW dX6_add_31
abbrev rm_X1_persons : Room := { frames := 0, cells := 0, slots := 0, locals := 0 }
set_option maxHeartbeats 4000000 in
set_option maxRecDepth 100000 in
theorem c_X1_persons (l : Launch) (X : KX) (σ : Mm) (b0 : Nat) (hb0 : kFm b0) (Φ : Int32 → Prop) (h : wp_X1_persons σ b0 Φ) : Met l yX1_persons (.code yX1_persons cX1_persons 1 (some .int) :: kT) rm_X1_persons (va_Pc [.ref (X.2.1 b0)] (kPre kZC X σ)) (va_Qi (fun r σ' => Φ r ∧ σ = σ') (fun σ' t => kPre kZC X σ' t) (kA kZC X)) 0 0 (kA kZC X) := by
  refine kofI (by decide) (Nat.le_of_ble_eq_true rfl) ?_
  intro p e s m args below meth c ls Q hx hcb hml hown hts hS hW hl hret
  have hown : s.vm.findClass RX1 = some m.cls := hown
  have hl : lv_has ls 1 [(0, .ref (X.2.1 b0))] := hl
  unfold wp_X1_persons at h
  refine lv_aload_n (pc := 0) hx hcb dX1_persons_0 rfl (lv_at hl 0 rfl) ?_
  refine kget (v := .int (σ.1 b0 6)) (pc := 1) hx hcb hts hown hS hW iwX1 (kO_X1 hb0) rfl 6 (by decide) q116 rfl rfl dX1_persons_1 ?_
  exact hret _ _ _ _ _ _ rfl ⟨h, rfl⟩ hW dX1_persons_4
abbrev rm_X1_canFeed : Room := { frames := 1, cells := 0, slots := 0, locals := 23 }
set_option maxHeartbeats 4000000 in
set_option maxRecDepth 100000 in
theorem c_X1_canFeed (l : Launch) (X : KX) (σ : Mm) (b0 : Nat) (hb0 : kFm b0) (x1 : Int32) (x2 : Int32) (x3 : Int32) (Φ : Int32 → Prop) (h : wp_X1_canFeed σ b0 x1 x2 x3 Φ) : Met l yX1_canFeed (.code yX1_canFeed cX1_canFeed 4 (some .boolean) :: kT) rm_X1_canFeed (va_Pc [.ref (X.2.1 b0), .int x1, .int x2, .int x3] (kPre kZC X σ)) (va_Qi (fun r σ' => Φ r ∧ σ = σ') (fun σ' t => kPre kZC X σ' t) (kA kZC X)) 0 0 (kA kZC X) := by
  refine kofI (by decide) (Nat.le_of_ble_eq_true rfl) ?_
  intro p e s m args below meth c ls Q hx hcb hml hown hts hS hW hl hret
  have hown : s.vm.findClass RX1 = some m.cls := hown
  have hl : lv_has ls 4 [(0, .ref (X.2.1 b0)), (1, .int x1), (2, .int x2), (3, .int x3)] := hl
  unfold wp_X1_canFeed at h
  refine lv_iload_n (pc := 0) hx hcb dX1_canFeed_0 rfl (lv_at hl 1 rfl) ?_
  refine lv_if_lt (tgt := 29) (pc := 1) hx hcb dX1_canFeed_1 (by decide) (fun c1 => ?_) (fun c1 => ?_)
  · have h := h.1 c1
    refine lv_iconst (v := 0) (pc := 29) hx hcb dX1_canFeed_29 rfl ?_
    exact hret _ _ _ _ _ _ rfl ⟨h, rfl⟩ hW dX1_canFeed_30
  · have h := h.2 c1
    refine lv_iload_n (pc := 4) hx hcb dX1_canFeed_4 rfl (lv_at hl 1 rfl) ?_
    refine lv_aload_n (pc := 5) hx hcb dX1_canFeed_5 rfl (lv_at hl 0 rfl) ?_
    refine kget (v := .int (σ.1 b0 6)) (pc := 6) hx hcb hts hown hS hW iwX1 (kO_X1 hb0) rfl 6 (by decide) q116 rfl rfl dX1_canFeed_6 ?_
    refine lv_icmp_ge (tgt := 29) (pc := 9) hx hcb dX1_canFeed_9 (by decide) (fun c9 => ?_) (fun c9 => ?_)
    · have h := h.1 c9
      refine lv_iconst (v := 0) (pc := 29) hx hcb dX1_canFeed_29 rfl ?_
      exact hret _ _ _ _ _ _ rfl ⟨h, rfl⟩ hW dX1_canFeed_30
    · have h := h.2 c9
      refine lv_aload_n (pc := 12) hx hcb dX1_canFeed_12 rfl (lv_at hl 0 rfl) ?_
      refine lv_iload_n (pc := 13) hx hcb dX1_canFeed_13 rfl (lv_at hl 1 rfl) ?_
      refine lv_iload_n (pc := 14) hx hcb dX1_canFeed_14 rfl (lv_at hl 3 rfl) ?_
      refine kci (krunV (As := [.int x1, .int x3]) (rest := []) (pc := 15) hx hcb hml hown hts hS hW (c_X1_yardAt l X σ b0 hb0 x1 x3 _ h) mf_X1_yardAt q518 (kO_X1 hb0) rfl ⟨rfl, rfl⟩ ⟨Nat.le_of_ble_eq_true rfl, Nat.le_of_ble_eq_true rfl⟩ rfl hl.1 rfl (Nat.le_of_ble_eq_true rfl) dX1_canFeed_15 ⟨Nat.zero_le _, Nat.zero_le _⟩) hS hW (fun r2 σ1 H locs h hW => ?_)
      obtain ⟨h, rfl⟩ := h
      refine lv_iload_n (pc := 18) hx hcb dX1_canFeed_18 rfl (lv_at hl 2 rfl) ?_
      refine kci (krunSN (As := [.int x2]) (rest := [.int r2]) (pc := 19) hx hcb hml hown hts hS hW (c_X10_yardOf l X σ x2 _ h) mf_X10_yardOf q519 ⟨rfl, rfl⟩ ⟨Nat.le_of_ble_eq_true rfl, Nat.le_of_ble_eq_true rfl⟩ rfl hl.1 rfl (Nat.le_of_ble_eq_true rfl) dX1_canFeed_19 ⟨Nat.zero_le _, Nat.zero_le _⟩) hS hW (fun r4 σ3 H locs h hW => ?_)
      obtain ⟨h, rfl⟩ := h
      refine lv_icmp_ne (tgt := 29) (pc := 22) hx hcb dX1_canFeed_22 (by decide) (fun c22 => ?_) (fun c22 => ?_)
      · have h := h.1 c22
        refine lv_iconst (v := 0) (pc := 29) hx hcb dX1_canFeed_29 rfl ?_
        exact hret _ _ _ _ _ _ rfl ⟨h, rfl⟩ hW dX1_canFeed_30
      · have h := h.2 c22
        refine lv_iconst (v := 1) (pc := 25) hx hcb dX1_canFeed_25 rfl ?_
        refine lv_goto (tgt := 30) (pc := 26) hx hcb dX1_canFeed_26 (by decide) ?_
        exact hret _ _ _ _ _ _ rfl ⟨h, rfl⟩ hW dX1_canFeed_30
abbrev rm_X10_fedState : Room := { frames := 1, cells := 0, slots := 0, locals := 22 }
set_option maxHeartbeats 4000000 in
set_option maxRecDepth 100000 in
theorem c_X10_fedState (l : Launch) (X : KX) (σ : Mm) (x0 : Int32) (x1 : Int32) (Φ : Int32 → Prop) (h : wp_X10_fedState x0 x1 Φ) : Met l yX10_fedState (.code yX10_fedState cX10_fedState 2 (some .int) :: kT) rm_X10_fedState (va_Pc [.int x0, .int x1] (kPre kZC X σ)) (va_Qi (fun r σ' => Φ r ∧ σ = σ') (fun σ' t => kPre kZC X σ' t) (kA kZC X)) 0 0 (kA kZC X) := by
  refine kofI (by decide) (Nat.le_of_ble_eq_true rfl) ?_
  intro p e s m args below meth c ls Q hx hcb hml hown hts hS hW hl hret
  have hown : s.vm.findClass RX10 = some m.cls := hown
  have hl : lv_has ls 2 [(0, .int x0), (1, .int x1)] := hl
  unfold wp_X10_fedState at h
  refine lv_iload_n (pc := 0) hx hcb dX10_fedState_0 rfl (lv_at hl 0 rfl) ?_
  refine kci (krunS (As := [.int x0]) (rest := []) (pc := 1) hx hcb hml hown hts hS hW (c_X10_yardOf l X σ x0 _ h) mf_X10_yardOf q533 ⟨rfl, rfl⟩ ⟨Nat.le_of_ble_eq_true rfl, Nat.le_of_ble_eq_true rfl⟩ rfl hl.1 rfl (Nat.le_of_ble_eq_true rfl) dX10_fedState_1 ⟨Nat.zero_le _, Nat.zero_le _⟩) hS hW (fun r2 σ1 H locs h hW => ?_)
  obtain ⟨h, rfl⟩ := h
  refine lv_iload_n (pc := 4) hx hcb dX10_fedState_4 rfl (lv_at hl 1 rfl) ?_
  refine lv_iconst (v := 0) (pc := 5) hx hcb dX10_fedState_5 rfl ?_
  refine kci (krunS (As := [.int r2, .int x1, .int 0]) (rest := []) (pc := 6) hx hcb hml hown hts hS hW (c_X10_packed l X σ r2 x1 0 _ h) mf_X10_packed q534 ⟨rfl, rfl⟩ ⟨Nat.le_of_ble_eq_true rfl, Nat.le_of_ble_eq_true rfl⟩ rfl hl.1 rfl (Nat.le_of_ble_eq_true rfl) dX10_fedState_6 ⟨Nat.zero_le _, Nat.zero_le _⟩) hS hW (fun r4 σ3 H locs h hW => ?_)
  obtain ⟨h, rfl⟩ := h
  exact hret _ _ _ _ _ _ rfl ⟨h, rfl⟩ hW dX10_fedState_9
abbrev rm_X0_addNext : Room := { frames := 2, cells := 0, slots := 0, locals := 48 }
set_option maxHeartbeats 4000000 in
set_option maxRecDepth 100000 in
theorem c_X0_addNext (l : Launch) (X : KX) (σ : Mm) (b1 : Nat) (hb1 : kFm b1) (x2 : Int32) (x3 : Int32) (x4 : Int32) (x5 : Int32) (Φ : Mm → Prop) (h : wp_X0_addNext σ b1 x2 x3 x4 x5 Φ) : Met l yX0_addNext (.code yX0_addNext cX0_addNext 7 none :: kT) rm_X0_addNext (va_Pc [.ref (X.2.1 38), .ref (X.2.1 b1), .int x2, .int x3, .int x4, .int x5] (kPre kZC X σ)) (va_Qv (fun σ' => Φ σ') (fun σ' t => kPre kZC X σ' t) (kA kZC X)) 0 0 (kA kZC X) := by
  refine kofV (by decide) (Nat.le_of_ble_eq_true rfl) ?_
  intro p e s m args below meth c ls Q hx hcb hml hown hts hS hW hl hret
  have hown : s.vm.findClass RX0 = some m.cls := hown
  have hl : lv_has ls 7 [(0, .ref (X.2.1 38)), (1, .ref (X.2.1 b1)), (2, .int x2), (3, .int x3), (4, .int x4), (5, .int x5)] := hl
  unfold wp_X0_addNext at h
  refine lv_aload_n (pc := 0) hx hcb dX0_addNext_0 rfl (lv_at hl 0 rfl) ?_
  refine kget (v := .ref (X.2.1 39)) (pc := 1) hx hcb hts hown hS hW iwX0 kOC_38 rfl 0 (by decide) q262 rfl rfl dX0_addNext_1 ?_
  refine lv_iload_n (pc := 4) hx hcb dX0_addNext_4 rfl (lv_at hl 3 rfl) ?_
  refine lv_iconst (v := 1) (pc := 5) hx hcb dX0_addNext_5 rfl ?_
  refine lv_iadd (pc := 6) hx hcb dX0_addNext_6 ?_
  refine lv_aload_n (pc := 7) hx hcb dX0_addNext_7 rfl (lv_at hl 1 rfl) ?_
  refine lv_iload_n (pc := 8) hx hcb dX0_addNext_8 rfl (lv_at hl 2 rfl) ?_
  refine lv_iload (pc := 9) hx hcb dX0_addNext_9 (lv_at hl 4 rfl) ?_
  refine lv_iconst (v := 1) (pc := 11) hx hcb dX0_addNext_11 rfl ?_
  refine lv_iadd (pc := 12) hx hcb dX0_addNext_12 ?_
  refine kci (krunV (As := [.int x2, .int (x4 + 1)]) (rest := [.int (x3 + 1), .ref (X.2.1 39)]) (pc := 13) hx hcb hml hown hts hS hW (c_X1_onward l X σ b1 hb1 x2 (x4 + 1) _ h) mf_X1_onward q753 (kO_X1 hb1) rfl ⟨rfl, rfl⟩ ⟨Nat.le_of_ble_eq_true rfl, Nat.le_of_ble_eq_true rfl⟩ rfl hl.1 rfl (Nat.le_of_ble_eq_true rfl) dX0_addNext_13 ⟨Nat.zero_le _, Nat.zero_le _⟩) hS hW (fun r2 σ1 H locs h hW => ?_)
  obtain ⟨h, rfl⟩ := h
  refine kcv (krunV (As := [.int (x3 + 1), .int r2]) (rest := []) (pc := 16) hx hcb hml hown hts hS hW (c_X6_add l X σ (x3 + 1) r2 _ h) mf_X6_add q725 kOC_39 rfl ⟨rfl, rfl⟩ ⟨Nat.le_of_ble_eq_true rfl, Nat.le_of_ble_eq_true rfl⟩ rfl hl.1 rfl (Nat.le_of_ble_eq_true rfl) dX0_addNext_16 ⟨Nat.zero_le _, Nat.zero_le _⟩) hS hW (fun σ3 H locs h hW => ?_)
  refine lv_iconst (v := 0) (pc := 19) hx hcb dX0_addNext_19 rfl ?_
  refine lv_istore (lv' := [(6, .int 0), (0, .ref (X.2.1 38)), (1, .ref (X.2.1 b1)), (2, .int x2), (3, .int x3), (4, .int x4), (5, .int x5)]) (pc := 20) hx hcb dX0_addNext_20 hl (by decide) rfl (fun ls hl => ?_)
  have hL22 : ∀ (n : Nat) (σ4 : Mm) (x6_5 : Int32) (H : Heap) (locs : List Loc) (ls : Array Slot), wp_X0_addNext_L22 b1 x2 x3 x4 x5 Φ n σ4 x6_5 → kW kZC X (kA kZC X) s σ4 H locs → lv_has ls 7 [(0, .ref (X.2.1 38)), (1, .ref (X.2.1 b1)), (2, .int x2), (3, .int x3), (4, .int x4), (5, .int x5), (6, .int x6_5)] → W p l e rm_X0_addNext s m args below meth c H locs 0 0 Q (F0 m 22 ls []) := by
    intro n
    induction n with
    | zero =>
      intro σ4 x6_5 H locs ls h
      exact False.elim h
    | succ n ih =>
      intro σ4 x6_5 H locs ls h hW hl
      unfold wp_X0_addNext_L22 at h
      refine lv_iload (pc := 22) hx hcb dX0_addNext_22 (lv_at hl 6 rfl) ?_
      refine lv_aload_n (pc := 24) hx hcb dX0_addNext_24 rfl (lv_at hl 1 rfl) ?_
      refine kci (krunV (As := []) (rest := [.int x6_5]) (pc := 25) hx hcb hml hown hts hS hW (c_X1_persons l X σ4 b1 hb1 _ h) mf_X1_persons q754 (kO_X1 hb1) rfl ⟨rfl, rfl⟩ ⟨Nat.le_of_ble_eq_true rfl, Nat.le_of_ble_eq_true rfl⟩ rfl hl.1 rfl (Nat.le_of_ble_eq_true rfl) dX0_addNext_25 ⟨Nat.zero_le _, Nat.zero_le _⟩) hS hW (fun r7 σ6 H locs h hW => ?_)
      obtain ⟨h, rfl⟩ := h
      refine lv_icmp_ge (tgt := 83) (pc := 28) hx hcb dX0_addNext_28 (by decide) (fun c28 => ?_) (fun c28 => ?_)
      · have h := h.1 c28
        exact hret _ _ _ _ _ h hW dX0_addNext_83
      · have h := h.2 c28
        refine lv_iload (pc := 31) hx hcb dX0_addNext_31 (lv_at hl 5 rfl) ?_
        refine lv_iload (pc := 33) hx hcb dX0_addNext_33 (lv_at hl 6 rfl) ?_
        refine lv_ishr (pc := 35) hx hcb dX0_addNext_35 ?_
        refine lv_iconst (v := 1) (pc := 36) hx hcb dX0_addNext_36 rfl ?_
        refine lv_iand (pc := 37) hx hcb dX0_addNext_37 ?_
        obtain ⟨K77, hk77, h⟩ := h
        have hK77 : ∀ (σ8 : Mm) (H : Heap) (locs : List Loc) (ls : Array Slot), K77 σ8 → kW kZC X (kA kZC X) s σ8 H locs → lv_has ls 7 [(0, .ref (X.2.1 38)), (1, .ref (X.2.1 b1)), (2, .int x2), (3, .int x3), (4, .int x4), (5, .int x5), (6, .int x6_5)] → W p l e rm_X0_addNext s m args below meth c H locs 0 0 Q (F0 m 77 ls []) := by
          intro σ8 H locs ls h hW hl
          have h := hk77 σ8 h
          refine lv_iinc (v := x6_5 + 1) (lv' := [(6, .int (x6_5 + 1)), (0, .ref (X.2.1 38)), (1, .ref (X.2.1 b1)), (2, .int x2), (3, .int x3), (4, .int x4), (5, .int x5)]) (pc := 77) hx hcb dX0_addNext_77 hl (k := 6) rfl rfl (by decide) rfl (fun ls hl => ?_)
          refine lv_goto (tgt := 22) (pc := 80) hx hcb dX0_addNext_80 (by decide) ?_
          exact ih σ8 (x6_5 + 1) _ _ _ h hW (lv_sub hl [1, 2, 3, 4, 5, 6, 0] rfl)
        refine lv_if_eq (tgt := 77) (pc := 38) hx hcb dX0_addNext_38 (by decide) (fun c38 => ?_) (fun c38 => ?_)
        · have h := h.1 c38
          exact hK77 σ4 _ _ _ h hW (lv_sub hl [0, 1, 2, 3, 4, 5, 6] rfl)
        · have h := h.2 c38
          refine lv_aload_n (pc := 41) hx hcb dX0_addNext_41 rfl (lv_at hl 1 rfl) ?_
          refine lv_iload (pc := 42) hx hcb dX0_addNext_42 (lv_at hl 6 rfl) ?_
          refine lv_iload_n (pc := 44) hx hcb dX0_addNext_44 rfl (lv_at hl 2 rfl) ?_
          refine lv_iload (pc := 45) hx hcb dX0_addNext_45 (lv_at hl 4 rfl) ?_
          refine kci (krunV (As := [.int x6_5, .int x2, .int x4]) (rest := []) (pc := 47) hx hcb hml hown hts hS hW (c_X1_canFeed l X σ4 b1 hb1 x6_5 x2 x4 _ h) mf_X1_canFeed q755 (kO_X1 hb1) rfl ⟨rfl, rfl⟩ ⟨Nat.le_of_ble_eq_true rfl, Nat.le_of_ble_eq_true rfl⟩ rfl hl.1 rfl (Nat.le_of_ble_eq_true rfl) dX0_addNext_47 ⟨Nat.zero_le _, Nat.zero_le _⟩) hS hW (fun r10 σ9 H locs h hW => ?_)
          obtain ⟨h, rfl⟩ := h
          refine lv_if_eq (tgt := 77) (pc := 50) hx hcb dX0_addNext_50 (by decide) (fun c50 => ?_) (fun c50 => ?_)
          · have h := h.1 c50
            exact hK77 σ4 _ _ _ h hW (lv_sub hl [0, 1, 2, 3, 4, 5, 6] rfl)
          · have h := h.2 c50
            refine lv_aload_n (pc := 53) hx hcb dX0_addNext_53 rfl (lv_at hl 0 rfl) ?_
            refine kget (v := .ref (X.2.1 39)) (pc := 54) hx hcb hts hown hS hW iwX0 kOC_38 rfl 0 (by decide) q262 rfl rfl dX0_addNext_54 ?_
            refine lv_iload_n (pc := 57) hx hcb dX0_addNext_57 rfl (lv_at hl 3 rfl) ?_
            refine lv_iconst (v := 1) (pc := 58) hx hcb dX0_addNext_58 rfl ?_
            refine lv_iadd (pc := 59) hx hcb dX0_addNext_59 ?_
            refine lv_aload_n (pc := 60) hx hcb dX0_addNext_60 rfl (lv_at hl 1 rfl) ?_
            refine lv_iload_n (pc := 61) hx hcb dX0_addNext_61 rfl (lv_at hl 2 rfl) ?_
            refine lv_iload (pc := 62) hx hcb dX0_addNext_62 (lv_at hl 6 rfl) ?_
            refine kci (krunSN (As := [.int x2, .int x6_5]) (rest := [.ref (X.2.1 b1), .int (x3 + 1), .ref (X.2.1 39)]) (pc := 64) hx hcb hml hown hts hS hW (c_X10_fedState l X σ4 x2 x6_5 _ h) mf_X10_fedState q756 ⟨rfl, rfl⟩ ⟨Nat.le_of_ble_eq_true rfl, Nat.le_of_ble_eq_true rfl⟩ rfl hl.1 rfl (Nat.le_of_ble_eq_true rfl) dX0_addNext_64 ⟨Nat.zero_le _, Nat.zero_le _⟩) hS hW (fun r12 σ11 H locs h hW => ?_)
            obtain ⟨h, rfl⟩ := h
            refine lv_iload (pc := 67) hx hcb dX0_addNext_67 (lv_at hl 4 rfl) ?_
            refine lv_iconst (v := 1) (pc := 69) hx hcb dX0_addNext_69 rfl ?_
            refine lv_iadd (pc := 70) hx hcb dX0_addNext_70 ?_
            refine kci (krunV (As := [.int r12, .int (x4 + 1)]) (rest := [.int (x3 + 1), .ref (X.2.1 39)]) (pc := 71) hx hcb hml hown hts hS hW (c_X1_onward l X σ4 b1 hb1 r12 (x4 + 1) _ h) mf_X1_onward q753 (kO_X1 hb1) rfl ⟨rfl, rfl⟩ ⟨Nat.le_of_ble_eq_true rfl, Nat.le_of_ble_eq_true rfl⟩ rfl hl.1 rfl (Nat.le_of_ble_eq_true rfl) dX0_addNext_71 ⟨Nat.zero_le _, Nat.zero_le _⟩) hS hW (fun r14 σ13 H locs h hW => ?_)
            obtain ⟨h, rfl⟩ := h
            refine kcv (krunV (As := [.int (x3 + 1), .int r14]) (rest := []) (pc := 74) hx hcb hml hown hts hS hW (c_X6_add l X σ4 (x3 + 1) r14 _ h) mf_X6_add q725 kOC_39 rfl ⟨rfl, rfl⟩ ⟨Nat.le_of_ble_eq_true rfl, Nat.le_of_ble_eq_true rfl⟩ rfl hl.1 rfl (Nat.le_of_ble_eq_true rfl) dX0_addNext_74 ⟨Nat.zero_le _, Nat.zero_le _⟩) hS hW (fun σ15 H locs h hW => ?_)
            exact hK77 σ15 _ _ _ h hW (lv_sub hl [0, 1, 2, 3, 4, 5, 6] rfl)
  obtain ⟨n, h⟩ := h
  exact hL22 n σ3 0 _ _ _ h hW (lv_sub hl [1, 2, 3, 4, 5, 6, 0] rfl)
abbrev rm_X6_has : Room := { frames := 1, cells := 0, slots := 0, locals := 21 }
set_option maxHeartbeats 4000000 in
set_option maxRecDepth 100000 in
theorem c_X6_has (l : Launch) (X : KX) (σ : Mm) (x1 : Int32) (x2 : Int32) (Φ : Int32 → Prop) (h : wp_X6_has σ x1 x2 Φ) : Met l yX6_has (.code yX6_has cX6_has 3 (some .boolean) :: kT) rm_X6_has (va_Pc [.ref (X.2.1 39), .int x1, .int x2] (kPre kZC X σ)) (va_Qi (fun r σ' => Φ r ∧ σ = σ') (fun σ' t => kPre kZC X σ' t) (kA kZC X)) 0 0 (kA kZC X) := by
  refine kofI (by decide) (Nat.le_of_ble_eq_true rfl) ?_
  intro p e s m args below meth c ls Q hx hcb hml hown hts hS hW hl hret
  have hown : s.vm.findClass RX6 = some m.cls := hown
  have hl : lv_has ls 3 [(0, .ref (X.2.1 39)), (1, .int x1), (2, .int x2)] := hl
  unfold wp_X6_has at h
  refine lv_iload_n (pc := 0) hx hcb dX6_has_0 rfl (lv_at hl 1 rfl) ?_
  refine lv_iload_n (pc := 1) hx hcb dX6_has_1 rfl (lv_at hl 2 rfl) ?_
  refine kci (krunS (As := [.int x1, .int x2]) (rest := []) (pc := 2) hx hcb hml hown hts hS hW (c_X6_isOne l X σ x1 x2 _ h) mf_X6_isOne q729 ⟨rfl, rfl⟩ ⟨Nat.le_of_ble_eq_true rfl, Nat.le_of_ble_eq_true rfl⟩ rfl hl.1 rfl (Nat.le_of_ble_eq_true rfl) dX6_has_2 ⟨Nat.zero_le _, Nat.zero_le _⟩) hS hW (fun r2 σ1 H locs h hW => ?_)
  obtain ⟨h, rfl⟩ := h
  refine lv_if_eq (tgt := 36) (pc := 5) hx hcb dX6_has_5 (by decide) (fun c5 => ?_) (fun c5 => ?_)
  · have h := h.1 c5
    refine lv_iconst (v := 0) (pc := 36) hx hcb dX6_has_36 rfl ?_
    exact hret _ _ _ _ _ _ rfl ⟨h, rfl⟩ hW dX6_has_37
  · have h := h.2 c5
    refine lv_aload_n (pc := 8) hx hcb dX6_has_8 rfl (lv_at hl 0 rfl) ?_
    refine kget (v := .ref (X.2.1 40)) (pc := 9) hx hcb hts hown hS hW iwX6 kOC_39 rfl 0 (by decide) q258 rfl rfl dX6_has_9 ?_
    refine lv_iload_n (pc := 12) hx hcb dX6_has_12 rfl (lv_at hl 1 rfl) ?_
    refine lv_bipush (v := 30) (pc := 13) hx hcb dX6_has_13 rfl ?_
    refine lv_imul (pc := 15) hx hcb dX6_has_15 ?_
    refine lv_iload_n (pc := 16) hx hcb dX6_has_16 rfl (lv_at hl 2 rfl) ?_
    refine lv_bipush (v := 32) (pc := 17) hx hcb dX6_has_17 rfl ?_
    refine lv_idiv (pc := 19) hx hcb dX6_has_19 (by decide) ?_
    refine lv_iadd (pc := 20) hx hcb dX6_has_20 ?_
    have hin3 := h.1
    have h := h.2
    refine kiald (((x1 * 30) + (x2 / 32)).toNatClampNeg) (pc := 21) hx hcb hS hW kIC_40 rfl (kin_of hin3 (by decide)) dX6_has_21 ?_
    refine lv_iload_n (pc := 22) hx hcb dX6_has_22 rfl (lv_at hl 2 rfl) ?_
    refine lv_bipush (v := 32) (pc := 23) hx hcb dX6_has_23 rfl ?_
    refine lv_irem (pc := 25) hx hcb dX6_has_25 (by decide) ?_
    refine lv_iushr (pc := 26) hx hcb dX6_has_26 rfl ?_
    refine lv_iconst (v := 1) (pc := 27) hx hcb dX6_has_27 rfl ?_
    refine lv_iand (pc := 28) hx hcb dX6_has_28 ?_
    refine lv_if_eq (tgt := 36) (pc := 29) hx hcb dX6_has_29 (by decide) (fun c29 => ?_) (fun c29 => ?_)
    · have h := h.1 c29
      refine lv_iconst (v := 0) (pc := 36) hx hcb dX6_has_36 rfl ?_
      exact hret _ _ _ _ _ _ rfl ⟨h, rfl⟩ hW dX6_has_37
    · have h := h.2 c29
      refine lv_iconst (v := 1) (pc := 32) hx hcb dX6_has_32 rfl ?_
      refine lv_goto (tgt := 37) (pc := 33) hx hcb dX6_has_33 (by decide) ?_
      exact hret _ _ _ _ _ _ rfl ⟨h, rfl⟩ hW dX6_has_37
abbrev rm_X0_choice : Room := { frames := 2, cells := 0, slots := 0, locals := 48 }
set_option maxHeartbeats 4000000 in
set_option maxRecDepth 100000 in
theorem c_X0_choice (l : Launch) (X : KX) (σ : Mm) (b1 : Nat) (hb1 : kFm b1) (x2 : Int32) (x3 : Int32) (x4 : Int32) (x5 : Int32) (x6 : Int32) (Φ : Int32 → Prop) (h : wp_X0_choice σ b1 x2 x3 x4 x5 x6 Φ) : Met l yX0_choice (.code yX0_choice cX0_choice 8 (some .int) :: kT) rm_X0_choice (va_Pc [.ref (X.2.1 38), .ref (X.2.1 b1), .int x2, .int x3, .int x4, .int x5, .int x6] (kPre kZC X σ)) (va_Qi (fun r σ' => Φ r ∧ σ = σ') (fun σ' t => kPre kZC X σ' t) (kA kZC X)) 0 0 (kA kZC X) := by
  refine kofI (by decide) (Nat.le_of_ble_eq_true rfl) ?_
  intro p e s m args below meth c ls Q hx hcb hml hown hts hS hW hl hret
  have hown : s.vm.findClass RX0 = some m.cls := hown
  have hl : lv_has ls 8 [(0, .ref (X.2.1 38)), (1, .ref (X.2.1 b1)), (2, .int x2), (3, .int x3), (4, .int x4), (5, .int x5), (6, .int x6)] := hl
  unfold wp_X0_choice at h
  refine lv_aload_n (pc := 0) hx hcb dX0_choice_0 rfl (lv_at hl 0 rfl) ?_
  refine kget (v := .ref (X.2.1 39)) (pc := 1) hx hcb hts hown hS hW iwX0 kOC_38 rfl 0 (by decide) q262 rfl rfl dX0_choice_1 ?_
  refine lv_iload_n (pc := 4) hx hcb dX0_choice_4 rfl (lv_at hl 3 rfl) ?_
  refine lv_iconst (v := 1) (pc := 5) hx hcb dX0_choice_5 rfl ?_
  refine lv_iadd (pc := 6) hx hcb dX0_choice_6 ?_
  refine lv_aload_n (pc := 7) hx hcb dX0_choice_7 rfl (lv_at hl 1 rfl) ?_
  refine lv_iload_n (pc := 8) hx hcb dX0_choice_8 rfl (lv_at hl 2 rfl) ?_
  refine lv_iload (pc := 9) hx hcb dX0_choice_9 (lv_at hl 4 rfl) ?_
  refine lv_iconst (v := 1) (pc := 11) hx hcb dX0_choice_11 rfl ?_
  refine lv_iadd (pc := 12) hx hcb dX0_choice_12 ?_
  refine kci (krunV (As := [.int x2, .int (x4 + 1)]) (rest := [.int (x3 + 1), .ref (X.2.1 39)]) (pc := 13) hx hcb hml hown hts hS hW (c_X1_onward l X σ b1 hb1 x2 (x4 + 1) _ h) mf_X1_onward q753 (kO_X1 hb1) rfl ⟨rfl, rfl⟩ ⟨Nat.le_of_ble_eq_true rfl, Nat.le_of_ble_eq_true rfl⟩ rfl hl.1 rfl (Nat.le_of_ble_eq_true rfl) dX0_choice_13 ⟨Nat.zero_le _, Nat.zero_le _⟩) hS hW (fun r2 σ1 H locs h hW => ?_)
  obtain ⟨h, rfl⟩ := h
  refine kci (krunV (As := [.int (x3 + 1), .int r2]) (rest := []) (pc := 16) hx hcb hml hown hts hS hW (c_X6_has l X σ (x3 + 1) r2 _ h) mf_X6_has q745 kOC_39 rfl ⟨rfl, rfl⟩ ⟨Nat.le_of_ble_eq_true rfl, Nat.le_of_ble_eq_true rfl⟩ rfl hl.1 rfl (Nat.le_of_ble_eq_true rfl) dX0_choice_16 ⟨Nat.zero_le _, Nat.zero_le _⟩) hS hW (fun r4 σ3 H locs h hW => ?_)
  obtain ⟨h, rfl⟩ := h
  refine lv_iload (pc := 19) hx hcb dX0_choice_19 (lv_at hl 6 rfl) ?_
  refine lv_icmp_ne (tgt := 26) (pc := 21) hx hcb dX0_choice_21 (by decide) (fun c21 => ?_) (fun c21 => ?_)
  · have h := h.1 c21
    refine lv_iconst (v := 0) (pc := 26) hx hcb dX0_choice_26 rfl ?_
    refine lv_istore (lv' := [(7, .int 0), (0, .ref (X.2.1 38)), (1, .ref (X.2.1 b1)), (2, .int x2), (3, .int x3), (4, .int x4), (5, .int x5), (6, .int x6)]) (pc := 27) hx hcb dX0_choice_27 hl (by decide) rfl (fun ls hl => ?_)
    have hL29 : ∀ (n : Nat) (x7_5 : Int32) (H : Heap) (locs : List Loc) (ls : Array Slot), wp_X0_choice_L29 b1 x2 x3 x4 x5 x6 σ Φ n x7_5 → kW kZC X (kA kZC X) s σ H locs → lv_has ls 8 [(0, .ref (X.2.1 38)), (1, .ref (X.2.1 b1)), (2, .int x2), (3, .int x3), (4, .int x4), (5, .int x5), (6, .int x6), (7, .int x7_5)] → W p l e rm_X0_choice s m args below meth c H locs 0 0 Q (F0 m 29 ls []) := by
      intro n
      induction n with
      | zero =>
        intro x7_5 H locs ls h
        exact False.elim h
      | succ n ih =>
        intro x7_5 H locs ls h hW hl
        unfold wp_X0_choice_L29 at h
        refine lv_iload (pc := 29) hx hcb dX0_choice_29 (lv_at hl 7 rfl) ?_
        refine lv_aload_n (pc := 31) hx hcb dX0_choice_31 rfl (lv_at hl 1 rfl) ?_
        refine kci (krunV (As := []) (rest := [.int x7_5]) (pc := 32) hx hcb hml hown hts hS hW (c_X1_persons l X σ b1 hb1 _ h) mf_X1_persons q754 (kO_X1 hb1) rfl ⟨rfl, rfl⟩ ⟨Nat.le_of_ble_eq_true rfl, Nat.le_of_ble_eq_true rfl⟩ rfl hl.1 rfl (Nat.le_of_ble_eq_true rfl) dX0_choice_32 ⟨Nat.zero_le _, Nat.zero_le _⟩) hS hW (fun r7 σ6 H locs h hW => ?_)
        obtain ⟨h, rfl⟩ := h
        refine lv_icmp_ge (tgt := 98) (pc := 35) hx hcb dX0_choice_35 (by decide) (fun c35 => ?_) (fun c35 => ?_)
        · have h := h.1 c35
          refine lv_bipush (v := (-2)) (pc := 98) hx hcb dX0_choice_98 rfl ?_
          exact hret _ _ _ _ _ _ rfl ⟨h, rfl⟩ hW dX0_choice_100
        · have h := h.2 c35
          refine lv_iload (pc := 38) hx hcb dX0_choice_38 (lv_at hl 5 rfl) ?_
          refine lv_iload (pc := 40) hx hcb dX0_choice_40 (lv_at hl 7 rfl) ?_
          refine lv_ishr (pc := 42) hx hcb dX0_choice_42 ?_
          refine lv_iconst (v := 1) (pc := 43) hx hcb dX0_choice_43 rfl ?_
          refine lv_iand (pc := 44) hx hcb dX0_choice_44 ?_
          obtain ⟨K92, hk92, h⟩ := h
          have hK92 : ∀  (H : Heap) (locs : List Loc) (ls : Array Slot), K92 → kW kZC X (kA kZC X) s σ H locs → lv_has ls 8 [(0, .ref (X.2.1 38)), (1, .ref (X.2.1 b1)), (2, .int x2), (3, .int x3), (4, .int x4), (5, .int x5), (6, .int x6), (7, .int x7_5)] → W p l e rm_X0_choice s m args below meth c H locs 0 0 Q (F0 m 92 ls []) := by
            intro  H locs ls h hW hl
            have h := hk92 h
            refine lv_iinc (v := x7_5 + 1) (lv' := [(7, .int (x7_5 + 1)), (0, .ref (X.2.1 38)), (1, .ref (X.2.1 b1)), (2, .int x2), (3, .int x3), (4, .int x4), (5, .int x5), (6, .int x6)]) (pc := 92) hx hcb dX0_choice_92 hl (k := 7) rfl rfl (by decide) rfl (fun ls hl => ?_)
            refine lv_goto (tgt := 29) (pc := 95) hx hcb dX0_choice_95 (by decide) ?_
            exact ih (x7_5 + 1) _ _ _ h hW (lv_sub hl [1, 2, 3, 4, 5, 6, 7, 0] rfl)
          refine lv_if_eq (tgt := 92) (pc := 45) hx hcb dX0_choice_45 (by decide) (fun c45 => ?_) (fun c45 => ?_)
          · have h := h.1 c45
            exact hK92  _ _ _ h hW (lv_sub hl [0, 1, 2, 3, 4, 5, 6, 7] rfl)
          · have h := h.2 c45
            refine lv_aload_n (pc := 48) hx hcb dX0_choice_48 rfl (lv_at hl 1 rfl) ?_
            refine lv_iload (pc := 49) hx hcb dX0_choice_49 (lv_at hl 7 rfl) ?_
            refine lv_iload_n (pc := 51) hx hcb dX0_choice_51 rfl (lv_at hl 2 rfl) ?_
            refine lv_iload (pc := 52) hx hcb dX0_choice_52 (lv_at hl 4 rfl) ?_
            refine kci (krunV (As := [.int x7_5, .int x2, .int x4]) (rest := []) (pc := 54) hx hcb hml hown hts hS hW (c_X1_canFeed l X σ b1 hb1 x7_5 x2 x4 _ h) mf_X1_canFeed q755 (kO_X1 hb1) rfl ⟨rfl, rfl⟩ ⟨Nat.le_of_ble_eq_true rfl, Nat.le_of_ble_eq_true rfl⟩ rfl hl.1 rfl (Nat.le_of_ble_eq_true rfl) dX0_choice_54 ⟨Nat.zero_le _, Nat.zero_le _⟩) hS hW (fun r9 σ8 H locs h hW => ?_)
            obtain ⟨h, rfl⟩ := h
            refine lv_if_eq (tgt := 92) (pc := 57) hx hcb dX0_choice_57 (by decide) (fun c57 => ?_) (fun c57 => ?_)
            · have h := h.1 c57
              exact hK92  _ _ _ h hW (lv_sub hl [0, 1, 2, 3, 4, 5, 6, 7] rfl)
            · have h := h.2 c57
              refine lv_aload_n (pc := 60) hx hcb dX0_choice_60 rfl (lv_at hl 0 rfl) ?_
              refine kget (v := .ref (X.2.1 39)) (pc := 61) hx hcb hts hown hS hW iwX0 kOC_38 rfl 0 (by decide) q262 rfl rfl dX0_choice_61 ?_
              refine lv_iload_n (pc := 64) hx hcb dX0_choice_64 rfl (lv_at hl 3 rfl) ?_
              refine lv_iconst (v := 1) (pc := 65) hx hcb dX0_choice_65 rfl ?_
              refine lv_iadd (pc := 66) hx hcb dX0_choice_66 ?_
              refine lv_aload_n (pc := 67) hx hcb dX0_choice_67 rfl (lv_at hl 1 rfl) ?_
              refine lv_iload_n (pc := 68) hx hcb dX0_choice_68 rfl (lv_at hl 2 rfl) ?_
              refine lv_iload (pc := 69) hx hcb dX0_choice_69 (lv_at hl 7 rfl) ?_
              refine kci (krunSN (As := [.int x2, .int x7_5]) (rest := [.ref (X.2.1 b1), .int (x3 + 1), .ref (X.2.1 39)]) (pc := 71) hx hcb hml hown hts hS hW (c_X10_fedState l X σ x2 x7_5 _ h) mf_X10_fedState q756 ⟨rfl, rfl⟩ ⟨Nat.le_of_ble_eq_true rfl, Nat.le_of_ble_eq_true rfl⟩ rfl hl.1 rfl (Nat.le_of_ble_eq_true rfl) dX0_choice_71 ⟨Nat.zero_le _, Nat.zero_le _⟩) hS hW (fun r11 σ10 H locs h hW => ?_)
              obtain ⟨h, rfl⟩ := h
              refine lv_iload (pc := 74) hx hcb dX0_choice_74 (lv_at hl 4 rfl) ?_
              refine lv_iconst (v := 1) (pc := 76) hx hcb dX0_choice_76 rfl ?_
              refine lv_iadd (pc := 77) hx hcb dX0_choice_77 ?_
              refine kci (krunV (As := [.int r11, .int (x4 + 1)]) (rest := [.int (x3 + 1), .ref (X.2.1 39)]) (pc := 78) hx hcb hml hown hts hS hW (c_X1_onward l X σ b1 hb1 r11 (x4 + 1) _ h) mf_X1_onward q753 (kO_X1 hb1) rfl ⟨rfl, rfl⟩ ⟨Nat.le_of_ble_eq_true rfl, Nat.le_of_ble_eq_true rfl⟩ rfl hl.1 rfl (Nat.le_of_ble_eq_true rfl) dX0_choice_78 ⟨Nat.zero_le _, Nat.zero_le _⟩) hS hW (fun r13 σ12 H locs h hW => ?_)
              obtain ⟨h, rfl⟩ := h
              refine kci (krunV (As := [.int (x3 + 1), .int r13]) (rest := []) (pc := 81) hx hcb hml hown hts hS hW (c_X6_has l X σ (x3 + 1) r13 _ h) mf_X6_has q745 kOC_39 rfl ⟨rfl, rfl⟩ ⟨Nat.le_of_ble_eq_true rfl, Nat.le_of_ble_eq_true rfl⟩ rfl hl.1 rfl (Nat.le_of_ble_eq_true rfl) dX0_choice_81 ⟨Nat.zero_le _, Nat.zero_le _⟩) hS hW (fun r15 σ14 H locs h hW => ?_)
              obtain ⟨h, rfl⟩ := h
              refine lv_iload (pc := 84) hx hcb dX0_choice_84 (lv_at hl 6 rfl) ?_
              refine lv_icmp_ne (tgt := 92) (pc := 86) hx hcb dX0_choice_86 (by decide) (fun c86 => ?_) (fun c86 => ?_)
              · have h := h.1 c86
                exact hK92  _ _ _ h hW (lv_sub hl [0, 1, 2, 3, 4, 5, 6, 7] rfl)
              · have h := h.2 c86
                refine lv_iload (pc := 89) hx hcb dX0_choice_89 (lv_at hl 7 rfl) ?_
                exact hret _ _ _ _ _ _ rfl ⟨h, rfl⟩ hW dX0_choice_91
    obtain ⟨n, h⟩ := h
    exact hL29 n 0 _ _ _ h hW (lv_sub hl [1, 2, 3, 4, 5, 6, 7, 0] rfl)
  · have h := h.2 c21
    refine lv_iconst (v := (-1)) (pc := 24) hx hcb dX0_choice_24 rfl ?_
    exact hret _ _ _ _ _ _ rfl ⟨h, rfl⟩ hW dX0_choice_25
abbrev rm_X1_states : Room := { frames := 1, cells := 0, slots := 0, locals := 23 }
set_option maxHeartbeats 4000000 in
set_option maxRecDepth 100000 in
theorem c_X1_states (l : Launch) (X : KX) (σ : Mm) (b0 : Nat) (hb0 : kFm b0) (Φ : Int32 → Prop) (h : wp_X1_states σ b0 Φ) : Met l yX1_states (.code yX1_states cX1_states 1 (some .int) :: kT) rm_X1_states (va_Pc [.ref (X.2.1 b0)] (kPre kZC X σ)) (va_Qi (fun r σ' => Φ r ∧ σ = σ') (fun σ' t => kPre kZC X σ' t) (kA kZC X)) 0 0 (kA kZC X) := by
  refine kofI (by decide) (Nat.le_of_ble_eq_true rfl) ?_
  intro p e s m args below meth c ls Q hx hcb hml hown hts hS hW hl hret
  have hown : s.vm.findClass RX1 = some m.cls := hown
  have hl : lv_has ls 1 [(0, .ref (X.2.1 b0))] := hl
  unfold wp_X1_states at h
  refine lv_aload_n (pc := 0) hx hcb dX1_states_0 rfl (lv_at hl 0 rfl) ?_
  refine kget (v := .int (σ.1 b0 7)) (pc := 1) hx hcb hts hown hS hW iwX1 (kO_X1 hb0) rfl 7 (by decide) q117 rfl rfl dX1_states_1 ?_
  refine lv_iconst (v := 1) (pc := 4) hx hcb dX1_states_4 rfl ?_
  refine va_mmax (pc := 5) hx hcb (hml.trans hl.1.symm) hown (hts _ q744) (hts _ q624) (hts _ q68) (hts _ q625) (Nat.le_of_ble_eq_true rfl) (Nat.le_of_ble_eq_true rfl) (Nat.zero_le _) (Nat.zero_le _) dX1_states_5 ?_
  refine lv_bipush (v := 6) (pc := 8) hx hcb dX1_states_8 rfl ?_
  refine lv_imul (pc := 10) hx hcb dX1_states_10 ?_
  refine lv_bipush (v := 8) (pc := 11) hx hcb dX1_states_11 rfl ?_
  refine lv_imul (pc := 13) hx hcb dX1_states_13 ?_
  exact hret _ _ _ _ _ _ rfl ⟨h, rfl⟩ hW dX1_states_14
abbrev rm_X6_remove : Room := { frames := 1, cells := 0, slots := 0, locals := 21 }
set_option maxHeartbeats 4000000 in
set_option maxRecDepth 100000 in
theorem c_X6_remove (l : Launch) (X : KX) (σ : Mm) (x1 : Int32) (x2 : Int32) (Φ : Mm → Prop) (h : wp_X6_remove σ x1 x2 Φ) : Met l yX6_remove (.code yX6_remove cX6_remove 3 none :: kT) rm_X6_remove (va_Pc [.ref (X.2.1 39), .int x1, .int x2] (kPre kZC X σ)) (va_Qv (fun σ' => Φ σ') (fun σ' t => kPre kZC X σ' t) (kA kZC X)) 0 0 (kA kZC X) := by
  refine kofV (by decide) (Nat.le_of_ble_eq_true rfl) ?_
  intro p e s m args below meth c ls Q hx hcb hml hown hts hS hW hl hret
  have hown : s.vm.findClass RX6 = some m.cls := hown
  have hl : lv_has ls 3 [(0, .ref (X.2.1 39)), (1, .int x1), (2, .int x2)] := hl
  unfold wp_X6_remove at h
  refine lv_iload_n (pc := 0) hx hcb dX6_remove_0 rfl (lv_at hl 1 rfl) ?_
  refine lv_iload_n (pc := 1) hx hcb dX6_remove_1 rfl (lv_at hl 2 rfl) ?_
  refine kci (krunS (As := [.int x1, .int x2]) (rest := []) (pc := 2) hx hcb hml hown hts hS hW (c_X6_isOne l X σ x1 x2 _ h) mf_X6_isOne q729 ⟨rfl, rfl⟩ ⟨Nat.le_of_ble_eq_true rfl, Nat.le_of_ble_eq_true rfl⟩ rfl hl.1 rfl (Nat.le_of_ble_eq_true rfl) dX6_remove_2 ⟨Nat.zero_le _, Nat.zero_le _⟩) hS hW (fun r2 σ1 H locs h hW => ?_)
  obtain ⟨h, rfl⟩ := h
  refine lv_if_eq (tgt := 33) (pc := 5) hx hcb dX6_remove_5 (by decide) (fun c5 => ?_) (fun c5 => ?_)
  · have h := h.1 c5
    exact hret _ _ _ _ _ h hW dX6_remove_33
  · have h := h.2 c5
    refine lv_aload_n (pc := 8) hx hcb dX6_remove_8 rfl (lv_at hl 0 rfl) ?_
    refine kget (v := .ref (X.2.1 40)) (pc := 9) hx hcb hts hown hS hW iwX6 kOC_39 rfl 0 (by decide) q258 rfl rfl dX6_remove_9 ?_
    refine lv_iload_n (pc := 12) hx hcb dX6_remove_12 rfl (lv_at hl 1 rfl) ?_
    refine lv_bipush (v := 30) (pc := 13) hx hcb dX6_remove_13 rfl ?_
    refine lv_imul (pc := 15) hx hcb dX6_remove_15 ?_
    refine lv_iload_n (pc := 16) hx hcb dX6_remove_16 rfl (lv_at hl 2 rfl) ?_
    refine lv_bipush (v := 32) (pc := 17) hx hcb dX6_remove_17 rfl ?_
    refine lv_idiv (pc := 19) hx hcb dX6_remove_19 (by decide) ?_
    refine lv_iadd (pc := 20) hx hcb dX6_remove_20 ?_
    refine lv_dup2_11 (pc := 21) hx hcb dX6_remove_21 rfl rfl ?_
    have hin3 := h.1
    have h := h.2
    refine kiald (((x1 * 30) + (x2 / 32)).toNatClampNeg) (pc := 22) hx hcb hS hW kIC_40 rfl (kin_of hin3 (by decide)) dX6_remove_22 ?_
    refine lv_iconst (v := 1) (pc := 23) hx hcb dX6_remove_23 rfl ?_
    refine lv_iload_n (pc := 24) hx hcb dX6_remove_24 rfl (lv_at hl 2 rfl) ?_
    refine lv_bipush (v := 32) (pc := 25) hx hcb dX6_remove_25 rfl ?_
    refine lv_irem (pc := 27) hx hcb dX6_remove_27 (by decide) ?_
    refine lv_ishl (pc := 28) hx hcb dX6_remove_28 ?_
    refine lv_iconst (v := (-1)) (pc := 29) hx hcb dX6_remove_29 rfl ?_
    refine lv_ixor (pc := 30) hx hcb dX6_remove_30 ?_
    refine lv_iand (pc := 31) hx hcb dX6_remove_31 ?_
    have hin4 := h.1
    have h := h.2
    refine kiast (((x1 * 30) + (x2 / 32)).toNatClampNeg) (pc := 32) hx hcb hS hW kIC_40 rfl (kin_of hin4 (by decide)) dX6_remove_32 (fun σ5 H locs eσ5 hW => ?_)
    have h := h σ5 eσ5
    exact hret _ _ _ _ _ h hW dX6_remove_33
abbrev rm_X0_goBack : Room := { frames := 3, cells := 0, slots := 0, locals := 75 }
set_option maxHeartbeats 4000000 in
set_option maxRecDepth 100000 in
theorem c_X0_goBack (l : Launch) (X : KX) (σ : Mm) (b1 : Nat) (hb1 : kFm b1) (x2 : Int32) (x3 : Int32) (x4 : Int32) (Φ : Mm → Prop) (h : wp_X0_goBack σ b1 x2 x3 x4 Φ) : Met l yX0_goBack (.code yX0_goBack cX0_goBack 8 none :: kT) rm_X0_goBack (va_Pc [.ref (X.2.1 38), .ref (X.2.1 b1), .int x2, .int x3, .int x4] (kPre kZC X σ)) (va_Qv (fun σ' => Φ σ') (fun σ' t => kPre kZC X σ' t) (kA kZC X)) 0 0 (kA kZC X) := by
  refine kofV (by decide) (Nat.le_of_ble_eq_true rfl) ?_
  intro p e s m args below meth c ls Q hx hcb hml hown hts hS hW hl hret
  have hown : s.vm.findClass RX0 = some m.cls := hown
  have hl : lv_has ls 8 [(0, .ref (X.2.1 38)), (1, .ref (X.2.1 b1)), (2, .int x2), (3, .int x3), (4, .int x4)] := hl
  unfold wp_X0_goBack at h
  refine lv_iload_n (pc := 0) hx hcb dX0_goBack_0 rfl (lv_at hl 2 rfl) ?_
  refine lv_iconst (v := 2) (pc := 1) hx hcb dX0_goBack_1 rfl ?_
  refine lv_irem (pc := 2) hx hcb dX0_goBack_2 (by decide) ?_
  obtain ⟨K11, hk11, h⟩ := h
  have hK11 : ∀ (v1 : Int32) (H : Heap) (locs : List Loc) (ls : Array Slot), K11 v1 → kW kZC X (kA kZC X) s σ H locs → lv_has ls 8 [(0, .ref (X.2.1 38)), (1, .ref (X.2.1 b1)), (2, .int x2), (3, .int x3), (4, .int x4)] → W p l e rm_X0_goBack s m args below meth c H locs 0 0 Q (F0 m 11 ls [.int v1]) := by
    intro v1 H locs ls h hW hl
    have h := hk11 v1 h
    refine lv_istore (lv' := [(5, .int v1), (0, .ref (X.2.1 38)), (1, .ref (X.2.1 b1)), (2, .int x2), (3, .int x3), (4, .int x4)]) (pc := 11) hx hcb dX0_goBack_11 hl (by decide) rfl (fun ls hl => ?_)
    refine lv_iconst (v := 0) (pc := 13) hx hcb dX0_goBack_13 rfl ?_
    refine lv_istore (lv' := [(6, .int 0), (5, .int v1), (0, .ref (X.2.1 38)), (1, .ref (X.2.1 b1)), (2, .int x2), (3, .int x3), (4, .int x4)]) (pc := 14) hx hcb dX0_goBack_14 hl (by decide) rfl (fun ls hl => ?_)
    have hL16 : ∀ (n : Nat) (σ2 : Mm) (x6_3 : Int32) (H : Heap) (locs : List Loc) (ls : Array Slot), wp_X0_goBack_L16 b1 x2 x3 x4 Φ v1 n σ2 x6_3 → kW kZC X (kA kZC X) s σ2 H locs → lv_has ls 8 [(0, .ref (X.2.1 38)), (1, .ref (X.2.1 b1)), (2, .int x2), (3, .int x3), (4, .int x4), (5, .int v1), (6, .int x6_3)] → W p l e rm_X0_goBack s m args below meth c H locs 0 0 Q (F0 m 16 ls []) := by
      intro n
      induction n with
      | zero =>
        intro σ2 x6_3 H locs ls h
        exact False.elim h
      | succ n ih =>
        intro σ2 x6_3 H locs ls h hW hl
        unfold wp_X0_goBack_L16 at h
        refine lv_iload (pc := 16) hx hcb dX0_goBack_16 (lv_at hl 6 rfl) ?_
        refine lv_aload_n (pc := 18) hx hcb dX0_goBack_18 rfl (lv_at hl 1 rfl) ?_
        refine kci (krunV (As := []) (rest := [.int x6_3]) (pc := 19) hx hcb hml hown hts hS hW (c_X1_states l X σ2 b1 hb1 _ h) mf_X1_states q740 (kO_X1 hb1) rfl ⟨rfl, rfl⟩ ⟨Nat.le_of_ble_eq_true rfl, Nat.le_of_ble_eq_true rfl⟩ rfl hl.1 rfl (Nat.le_of_ble_eq_true rfl) dX0_goBack_19 ⟨Nat.zero_le _, Nat.zero_le _⟩) hS hW (fun r5 σ4 H locs h hW => ?_)
        obtain ⟨h, rfl⟩ := h
        refine lv_icmp_ge (tgt := 86) (pc := 22) hx hcb dX0_goBack_22 (by decide) (fun c22 => ?_) (fun c22 => ?_)
        · have h := h.1 c22
          exact hret _ _ _ _ _ h hW dX0_goBack_86
        · have h := h.2 c22
          refine lv_aload_n (pc := 25) hx hcb dX0_goBack_25 rfl (lv_at hl 0 rfl) ?_
          refine kget (v := .ref (X.2.1 39)) (pc := 26) hx hcb hts hown hS hW iwX0 kOC_38 rfl 0 (by decide) q262 rfl rfl dX0_goBack_26 ?_
          refine lv_iload_n (pc := 29) hx hcb dX0_goBack_29 rfl (lv_at hl 2 rfl) ?_
          refine lv_iload (pc := 30) hx hcb dX0_goBack_30 (lv_at hl 6 rfl) ?_
          refine kci (krunV (As := [.int x2, .int x6_3]) (rest := []) (pc := 32) hx hcb hml hown hts hS hW (c_X6_has l X σ2 x2 x6_3 _ h) mf_X6_has q745 kOC_39 rfl ⟨rfl, rfl⟩ ⟨Nat.le_of_ble_eq_true rfl, Nat.le_of_ble_eq_true rfl⟩ rfl hl.1 rfl (Nat.le_of_ble_eq_true rfl) dX0_goBack_32 ⟨Nat.zero_le _, Nat.zero_le _⟩) hS hW (fun r7 σ6 H locs h hW => ?_)
          obtain ⟨h, rfl⟩ := h
          obtain ⟨K80, hk80, h⟩ := h
          have hK80 : ∀ (σ8 : Mm) (H : Heap) (locs : List Loc) (ls : Array Slot), K80 σ8 → kW kZC X (kA kZC X) s σ8 H locs → lv_has ls 8 [(0, .ref (X.2.1 38)), (1, .ref (X.2.1 b1)), (2, .int x2), (3, .int x3), (4, .int x4), (5, .int v1), (6, .int x6_3)] → W p l e rm_X0_goBack s m args below meth c H locs 0 0 Q (F0 m 80 ls []) := by
            intro σ8 H locs ls h hW hl
            have h := hk80 σ8 h
            refine lv_iinc (v := x6_3 + 1) (lv' := [(6, .int (x6_3 + 1)), (0, .ref (X.2.1 38)), (1, .ref (X.2.1 b1)), (2, .int x2), (3, .int x3), (4, .int x4), (5, .int v1)]) (pc := 80) hx hcb dX0_goBack_80 hl (k := 6) rfl rfl (by decide) rfl (fun ls hl => ?_)
            refine lv_goto (tgt := 16) (pc := 83) hx hcb dX0_goBack_83 (by decide) ?_
            exact ih σ8 (x6_3 + 1) _ _ _ h hW (lv_sub hl [1, 2, 3, 4, 5, 6, 0] rfl)
          refine lv_if_eq (tgt := 80) (pc := 35) hx hcb dX0_goBack_35 (by decide) (fun c35 => ?_) (fun c35 => ?_)
          · have h := h.1 c35
            exact hK80 σ2 _ _ _ h hW (lv_sub hl [0, 1, 2, 3, 4, 5, 6] rfl)
          · have h := h.2 c35
            refine lv_aload_n (pc := 38) hx hcb dX0_goBack_38 rfl (lv_at hl 0 rfl) ?_
            refine lv_aload_n (pc := 39) hx hcb dX0_goBack_39 rfl (lv_at hl 1 rfl) ?_
            refine lv_iload (pc := 40) hx hcb dX0_goBack_40 (lv_at hl 6 rfl) ?_
            refine lv_iload_n (pc := 42) hx hcb dX0_goBack_42 rfl (lv_at hl 2 rfl) ?_
            refine lv_iload_n (pc := 43) hx hcb dX0_goBack_43 rfl (lv_at hl 3 rfl) ?_
            refine lv_iload (pc := 44) hx hcb dX0_goBack_44 (lv_at hl 4 rfl) ?_
            refine lv_iload (pc := 46) hx hcb dX0_goBack_46 (lv_at hl 5 rfl) ?_
            refine kci (krunV (As := [.ref (X.2.1 b1), .int x6_3, .int x2, .int x3, .int x4, .int v1]) (rest := []) (pc := 48) hx hcb hml hown hts hS hW (c_X0_choice l X σ2 b1 hb1 x6_3 x2 x3 x4 v1 _ h) mf_X0_choice q770 kOC_38 rfl ⟨rfl, rfl⟩ ⟨Nat.le_of_ble_eq_true rfl, Nat.le_of_ble_eq_true rfl⟩ rfl hl.1 rfl (Nat.le_of_ble_eq_true rfl) dX0_goBack_48 ⟨Nat.zero_le _, Nat.zero_le _⟩) hS hW (fun r10 σ9 H locs h hW => ?_)
            obtain ⟨h, rfl⟩ := h
            refine lv_bipush (v := (-2)) (pc := 51) hx hcb dX0_goBack_51 rfl ?_
            obtain ⟨K61, hk61, h⟩ := h
            have hK61 : ∀ (v11 : Int32) (H : Heap) (locs : List Loc) (ls : Array Slot), K61 v11 → kW kZC X (kA kZC X) s σ2 H locs → lv_has ls 8 [(0, .ref (X.2.1 38)), (1, .ref (X.2.1 b1)), (2, .int x2), (3, .int x3), (4, .int x4), (5, .int v1), (6, .int x6_3)] → W p l e rm_X0_goBack s m args below meth c H locs 0 0 Q (F0 m 61 ls [.int v11]) := by
              intro v11 H locs ls h hW hl
              have h := hk61 v11 h
              refine lv_istore (lv' := [(7, .int v11), (0, .ref (X.2.1 38)), (1, .ref (X.2.1 b1)), (2, .int x2), (3, .int x3), (4, .int x4), (5, .int v1), (6, .int x6_3)]) (pc := 61) hx hcb dX0_goBack_61 hl (by decide) rfl (fun ls hl => ?_)
              refine lv_iload (pc := 63) hx hcb dX0_goBack_63 (lv_at hl 0 rfl) ?_
              refine lv_iload (pc := 65) hx hcb dX0_goBack_65 (lv_at hl 6 rfl) ?_
              refine lv_icmp_eq (tgt := 80) (pc := 67) hx hcb dX0_goBack_67 (by decide) (fun c67 => ?_) (fun c67 => ?_)
              · have h := h.1 c67
                exact hK80 σ2 _ _ _ h hW (lv_sub hl [1, 2, 3, 4, 5, 6, 7] rfl)
              · have h := h.2 c67
                refine lv_aload_n (pc := 70) hx hcb dX0_goBack_70 rfl (lv_at hl 1 rfl) ?_
                refine kget (v := .ref (X.2.1 39)) (pc := 71) hx hcb hts hown hS hW iwX0 kOC_38 rfl 0 (by decide) q262 rfl rfl dX0_goBack_71 ?_
                refine lv_iload_n (pc := 74) hx hcb dX0_goBack_74 rfl (lv_at hl 3 rfl) ?_
                refine lv_iload (pc := 75) hx hcb dX0_goBack_75 (lv_at hl 7 rfl) ?_
                refine kcv (krunV (As := [.int x2, .int x6_3]) (rest := []) (pc := 77) hx hcb hml hown hts hS hW (c_X6_remove l X σ2 x2 x6_3 _ h) mf_X6_remove q762 kOC_39 rfl ⟨rfl, rfl⟩ ⟨Nat.le_of_ble_eq_true rfl, Nat.le_of_ble_eq_true rfl⟩ rfl hl.1 rfl (Nat.le_of_ble_eq_true rfl) dX0_goBack_77 ⟨Nat.zero_le _, Nat.zero_le _⟩) hS hW (fun σ12 H locs h hW => ?_)
                exact hK80 σ12 _ _ _ h hW (lv_sub hl [1, 2, 3, 4, 5, 6, 7] rfl)
            refine lv_icmp_eq (tgt := 60) (pc := 53) hx hcb dX0_goBack_53 (by decide) (fun c53 => ?_) (fun c53 => ?_)
            · have h := h.1 c53
              refine lv_iconst (v := 0) (pc := 60) hx hcb dX0_goBack_60 rfl ?_
              exact hK61 0 _ _ _ h hW (lv_sub hl [0, 1, 2, 3, 4, 5, 6] rfl)
            · have h := h.2 c53
              refine lv_iconst (v := 1) (pc := 56) hx hcb dX0_goBack_56 rfl ?_
              refine lv_goto (tgt := 61) (pc := 57) hx hcb dX0_goBack_57 (by decide) ?_
              exact hK61 1 _ _ _ h hW (lv_sub hl [0, 1, 2, 3, 4, 5, 6] rfl)
    obtain ⟨n, h⟩ := h
    exact hL16 n σ 0 _ _ _ h hW (lv_sub hl [2, 3, 4, 5, 6, 1, 0] rfl)
  refine lv_if_ne (tgt := 10) (pc := 3) hx hcb dX0_goBack_3 (by decide) (fun c3 => ?_) (fun c3 => ?_)
  · have h := h.1 c3
    refine lv_iconst (v := 0) (pc := 10) hx hcb dX0_goBack_10 rfl ?_
    exact hK11 0 _ _ _ h hW (lv_sub hl [0, 1, 2, 3, 4] rfl)
  · have h := h.2 c3
    refine lv_iconst (v := 1) (pc := 6) hx hcb dX0_goBack_6 rfl ?_
    refine lv_goto (tgt := 11) (pc := 7) hx hcb dX0_goBack_7 (by decide) ?_
    exact hK11 1 _ _ _ h hW (lv_sub hl [0, 1, 2, 3, 4] rfl)
abbrev rm_X0_goForth : Room := { frames := 3, cells := 0, slots := 0, locals := 74 }
set_option maxHeartbeats 4000000 in
set_option maxRecDepth 100000 in
theorem c_X0_goForth (l : Launch) (X : KX) (σ : Mm) (b1 : Nat) (hb1 : kFm b1) (x2 : Int32) (x3 : Int32) (x4 : Int32) (Φ : Mm → Prop) (h : wp_X0_goForth σ b1 x2 x3 x4 Φ) : Met l yX0_goForth (.code yX0_goForth cX0_goForth 6 none :: kT) rm_X0_goForth (va_Pc [.ref (X.2.1 38), .ref (X.2.1 b1), .int x2, .int x3, .int x4] (kPre kZC X σ)) (va_Qv (fun σ' => Φ σ') (fun σ' t => kPre kZC X σ' t) (kA kZC X)) 0 0 (kA kZC X) := by
  refine kofV (by decide) (Nat.le_of_ble_eq_true rfl) ?_
  intro p e s m args below meth c ls Q hx hcb hml hown hts hS hW hl hret
  have hown : s.vm.findClass RX0 = some m.cls := hown
  have hl : lv_has ls 6 [(0, .ref (X.2.1 38)), (1, .ref (X.2.1 b1)), (2, .int x2), (3, .int x3), (4, .int x4)] := hl
  unfold wp_X0_goForth at h
  refine lv_iconst (v := 0) (pc := 0) hx hcb dX0_goForth_0 rfl ?_
  refine lv_istore (lv' := [(5, .int 0), (0, .ref (X.2.1 38)), (1, .ref (X.2.1 b1)), (2, .int x2), (3, .int x3), (4, .int x4)]) (pc := 1) hx hcb dX0_goForth_1 hl (by decide) rfl (fun ls hl => ?_)
  have hL3 : ∀ (n : Nat) (σ1 : Mm) (x5_2 : Int32) (H : Heap) (locs : List Loc) (ls : Array Slot), wp_X0_goForth_L3 b1 x2 x3 x4 Φ n σ1 x5_2 → kW kZC X (kA kZC X) s σ1 H locs → lv_has ls 6 [(0, .ref (X.2.1 38)), (1, .ref (X.2.1 b1)), (2, .int x2), (3, .int x3), (4, .int x4), (5, .int x5_2)] → W p l e rm_X0_goForth s m args below meth c H locs 0 0 Q (F0 m 3 ls []) := by
    intro n
    induction n with
    | zero =>
      intro σ1 x5_2 H locs ls h
      exact False.elim h
    | succ n ih =>
      intro σ1 x5_2 H locs ls h hW hl
      unfold wp_X0_goForth_L3 at h
      refine lv_iload (pc := 3) hx hcb dX0_goForth_3 (lv_at hl 5 rfl) ?_
      refine lv_aload_n (pc := 5) hx hcb dX0_goForth_5 rfl (lv_at hl 1 rfl) ?_
      refine kci (krunV (As := []) (rest := [.int x5_2]) (pc := 6) hx hcb hml hown hts hS hW (c_X1_states l X σ1 b1 hb1 _ h) mf_X1_states q740 (kO_X1 hb1) rfl ⟨rfl, rfl⟩ ⟨Nat.le_of_ble_eq_true rfl, Nat.le_of_ble_eq_true rfl⟩ rfl hl.1 rfl (Nat.le_of_ble_eq_true rfl) dX0_goForth_6 ⟨Nat.zero_le _, Nat.zero_le _⟩) hS hW (fun r4 σ3 H locs h hW => ?_)
      obtain ⟨h, rfl⟩ := h
      refine lv_icmp_ge (tgt := 42) (pc := 9) hx hcb dX0_goForth_9 (by decide) (fun c9 => ?_) (fun c9 => ?_)
      · have h := h.1 c9
        exact hret _ _ _ _ _ h hW dX0_goForth_42
      · have h := h.2 c9
        refine lv_aload_n (pc := 12) hx hcb dX0_goForth_12 rfl (lv_at hl 0 rfl) ?_
        refine kget (v := .ref (X.2.1 39)) (pc := 13) hx hcb hts hown hS hW iwX0 kOC_38 rfl 0 (by decide) q262 rfl rfl dX0_goForth_13 ?_
        refine lv_iload_n (pc := 16) hx hcb dX0_goForth_16 rfl (lv_at hl 2 rfl) ?_
        refine lv_iload (pc := 17) hx hcb dX0_goForth_17 (lv_at hl 5 rfl) ?_
        refine kci (krunV (As := [.int x2, .int x5_2]) (rest := []) (pc := 19) hx hcb hml hown hts hS hW (c_X6_has l X σ1 x2 x5_2 _ h) mf_X6_has q745 kOC_39 rfl ⟨rfl, rfl⟩ ⟨Nat.le_of_ble_eq_true rfl, Nat.le_of_ble_eq_true rfl⟩ rfl hl.1 rfl (Nat.le_of_ble_eq_true rfl) dX0_goForth_19 ⟨Nat.zero_le _, Nat.zero_le _⟩) hS hW (fun r6 σ5 H locs h hW => ?_)
        obtain ⟨h, rfl⟩ := h
        obtain ⟨K36, hk36, h⟩ := h
        have hK36 : ∀ (σ7 : Mm) (H : Heap) (locs : List Loc) (ls : Array Slot), K36 σ7 → kW kZC X (kA kZC X) s σ7 H locs → lv_has ls 6 [(0, .ref (X.2.1 38)), (1, .ref (X.2.1 b1)), (2, .int x2), (3, .int x3), (4, .int x4), (5, .int x5_2)] → W p l e rm_X0_goForth s m args below meth c H locs 0 0 Q (F0 m 36 ls []) := by
          intro σ7 H locs ls h hW hl
          have h := hk36 σ7 h
          refine lv_iinc (v := x5_2 + 1) (lv' := [(5, .int (x5_2 + 1)), (0, .ref (X.2.1 38)), (1, .ref (X.2.1 b1)), (2, .int x2), (3, .int x3), (4, .int x4)]) (pc := 36) hx hcb dX0_goForth_36 hl (k := 5) rfl rfl (by decide) rfl (fun ls hl => ?_)
          refine lv_goto (tgt := 3) (pc := 39) hx hcb dX0_goForth_39 (by decide) ?_
          exact ih σ7 (x5_2 + 1) _ _ _ h hW (lv_sub hl [1, 2, 3, 4, 5, 0] rfl)
        refine lv_if_eq (tgt := 36) (pc := 22) hx hcb dX0_goForth_22 (by decide) (fun c22 => ?_) (fun c22 => ?_)
        · have h := h.1 c22
          exact hK36 σ1 _ _ _ h hW (lv_sub hl [0, 1, 2, 3, 4, 5] rfl)
        · have h := h.2 c22
          refine lv_aload_n (pc := 25) hx hcb dX0_goForth_25 rfl (lv_at hl 0 rfl) ?_
          refine lv_aload_n (pc := 26) hx hcb dX0_goForth_26 rfl (lv_at hl 1 rfl) ?_
          refine lv_iload (pc := 27) hx hcb dX0_goForth_27 (lv_at hl 5 rfl) ?_
          refine lv_iload_n (pc := 29) hx hcb dX0_goForth_29 rfl (lv_at hl 2 rfl) ?_
          refine lv_iload_n (pc := 30) hx hcb dX0_goForth_30 rfl (lv_at hl 3 rfl) ?_
          refine lv_iload (pc := 31) hx hcb dX0_goForth_31 (lv_at hl 4 rfl) ?_
          refine kcv (krunV (As := [.ref (X.2.1 b1), .int x5_2, .int x2, .int x3, .int x4]) (rest := []) (pc := 33) hx hcb hml hown hts hS hW (c_X0_addNext l X σ1 b1 hb1 x5_2 x2 x3 x4 _ h) mf_X0_addNext q749 kOC_38 rfl ⟨rfl, rfl⟩ ⟨Nat.le_of_ble_eq_true rfl, Nat.le_of_ble_eq_true rfl⟩ rfl hl.1 rfl (Nat.le_of_ble_eq_true rfl) dX0_goForth_33 ⟨Nat.zero_le _, Nat.zero_le _⟩) hS hW (fun σ8 H locs h hW => ?_)
          exact hK36 σ8 _ _ _ h hW (lv_sub hl [0, 1, 2, 3, 4, 5] rfl)
  obtain ⟨n, h⟩ := h
  exact hL3 n σ 0 _ _ _ h hW (lv_sub hl [1, 2, 3, 4, 5, 0] rfl)
abbrev rm_X0_leaveThoseAt : Room := { frames := 2, cells := 0, slots := 0, locals := 43 }
set_option maxHeartbeats 4000000 in
set_option maxRecDepth 100000 in
theorem c_X0_leaveThoseAt (l : Launch) (X : KX) (σ : Mm) (b1 : Nat) (hb1 : kFm b1) (x2 : Int32) (x3 : Int32) (Φ : Mm → Prop) (h : wp_X0_leaveThoseAt σ b1 x2 x3 Φ) : Met l yX0_leaveThoseAt (.code yX0_leaveThoseAt cX0_leaveThoseAt 5 none :: kT) rm_X0_leaveThoseAt (va_Pc [.ref (X.2.1 38), .ref (X.2.1 b1), .int x2, .int x3] (kPre kZC X σ)) (va_Qv (fun σ' => Φ σ') (fun σ' t => kPre kZC X σ' t) (kA kZC X)) 0 0 (kA kZC X) := by
  refine kofV (by decide) (Nat.le_of_ble_eq_true rfl) ?_
  intro p e s m args below meth c ls Q hx hcb hml hown hts hS hW hl hret
  have hown : s.vm.findClass RX0 = some m.cls := hown
  have hl : lv_has ls 5 [(0, .ref (X.2.1 38)), (1, .ref (X.2.1 b1)), (2, .int x2), (3, .int x3)] := hl
  unfold wp_X0_leaveThoseAt at h
  refine lv_iconst (v := 0) (pc := 0) hx hcb dX0_leaveThoseAt_0 rfl ?_
  refine lv_istore (lv' := [(4, .int 0), (0, .ref (X.2.1 38)), (1, .ref (X.2.1 b1)), (2, .int x2), (3, .int x3)]) (pc := 1) hx hcb dX0_leaveThoseAt_1 hl (by decide) rfl (fun ls hl => ?_)
  have hL3 : ∀ (n : Nat) (σ1 : Mm) (x4_2 : Int32) (H : Heap) (locs : List Loc) (ls : Array Slot), wp_X0_leaveThoseAt_L3 b1 x2 x3 Φ n σ1 x4_2 → kW kZC X (kA kZC X) s σ1 H locs → lv_has ls 5 [(0, .ref (X.2.1 38)), (1, .ref (X.2.1 b1)), (2, .int x2), (3, .int x3), (4, .int x4_2)] → W p l e rm_X0_leaveThoseAt s m args below meth c H locs 0 0 Q (F0 m 3 ls []) := by
    intro n
    induction n with
    | zero =>
      intro σ1 x4_2 H locs ls h
      exact False.elim h
    | succ n ih =>
      intro σ1 x4_2 H locs ls h hW hl
      unfold wp_X0_leaveThoseAt_L3 at h
      refine lv_iload (pc := 3) hx hcb dX0_leaveThoseAt_3 (lv_at hl 4 rfl) ?_
      refine lv_aload_n (pc := 5) hx hcb dX0_leaveThoseAt_5 rfl (lv_at hl 1 rfl) ?_
      refine kci (krunV (As := []) (rest := [.int x4_2]) (pc := 6) hx hcb hml hown hts hS hW (c_X1_states l X σ1 b1 hb1 _ h) mf_X1_states q740 (kO_X1 hb1) rfl ⟨rfl, rfl⟩ ⟨Nat.le_of_ble_eq_true rfl, Nat.le_of_ble_eq_true rfl⟩ rfl hl.1 rfl (Nat.le_of_ble_eq_true rfl) dX0_leaveThoseAt_6 ⟨Nat.zero_le _, Nat.zero_le _⟩) hS hW (fun r4 σ3 H locs h hW => ?_)
      obtain ⟨h, rfl⟩ := h
      refine lv_icmp_ge (tgt := 37) (pc := 9) hx hcb dX0_leaveThoseAt_9 (by decide) (fun c9 => ?_) (fun c9 => ?_)
      · have h := h.1 c9
        exact hret _ _ _ _ _ h hW dX0_leaveThoseAt_37
      · have h := h.2 c9
        refine lv_iload (pc := 12) hx hcb dX0_leaveThoseAt_12 (lv_at hl 4 rfl) ?_
        refine kci (krunSN (As := [.int x4_2]) (rest := []) (pc := 14) hx hcb hml hown hts hS hW (c_X10_yardOf l X σ1 x4_2 _ h) mf_X10_yardOf q761 ⟨rfl, rfl⟩ ⟨Nat.le_of_ble_eq_true rfl, Nat.le_of_ble_eq_true rfl⟩ rfl hl.1 rfl (Nat.le_of_ble_eq_true rfl) dX0_leaveThoseAt_14 ⟨Nat.zero_le _, Nat.zero_le _⟩) hS hW (fun r6 σ5 H locs h hW => ?_)
        obtain ⟨h, rfl⟩ := h
        refine lv_iload_n (pc := 17) hx hcb dX0_leaveThoseAt_17 rfl (lv_at hl 3 rfl) ?_
        obtain ⟨K31, hk31, h⟩ := h
        have hK31 : ∀ (σ7 : Mm) (H : Heap) (locs : List Loc) (ls : Array Slot), K31 σ7 → kW kZC X (kA kZC X) s σ7 H locs → lv_has ls 5 [(0, .ref (X.2.1 38)), (1, .ref (X.2.1 b1)), (2, .int x2), (3, .int x3), (4, .int x4_2)] → W p l e rm_X0_leaveThoseAt s m args below meth c H locs 0 0 Q (F0 m 31 ls []) := by
          intro σ7 H locs ls h hW hl
          have h := hk31 σ7 h
          refine lv_iinc (v := x4_2 + 1) (lv' := [(4, .int (x4_2 + 1)), (0, .ref (X.2.1 38)), (1, .ref (X.2.1 b1)), (2, .int x2), (3, .int x3)]) (pc := 31) hx hcb dX0_leaveThoseAt_31 hl (k := 4) rfl rfl (by decide) rfl (fun ls hl => ?_)
          refine lv_goto (tgt := 3) (pc := 34) hx hcb dX0_leaveThoseAt_34 (by decide) ?_
          exact ih σ7 (x4_2 + 1) _ _ _ h hW (lv_sub hl [1, 2, 3, 4, 0] rfl)
        refine lv_icmp_eq (tgt := 31) (pc := 18) hx hcb dX0_leaveThoseAt_18 (by decide) (fun c18 => ?_) (fun c18 => ?_)
        · have h := h.1 c18
          exact hK31 σ1 _ _ _ h hW (lv_sub hl [0, 1, 2, 3, 4] rfl)
        · have h := h.2 c18
          refine lv_aload_n (pc := 21) hx hcb dX0_leaveThoseAt_21 rfl (lv_at hl 0 rfl) ?_
          refine kget (v := .ref (X.2.1 39)) (pc := 22) hx hcb hts hown hS hW iwX0 kOC_38 rfl 0 (by decide) q262 rfl rfl dX0_leaveThoseAt_22 ?_
          refine lv_iload_n (pc := 25) hx hcb dX0_leaveThoseAt_25 rfl (lv_at hl 2 rfl) ?_
          refine lv_iload (pc := 26) hx hcb dX0_leaveThoseAt_26 (lv_at hl 4 rfl) ?_
          refine kcv (krunV (As := [.int x2, .int x4_2]) (rest := []) (pc := 28) hx hcb hml hown hts hS hW (c_X6_remove l X σ1 x2 x4_2 _ h) mf_X6_remove q762 kOC_39 rfl ⟨rfl, rfl⟩ ⟨Nat.le_of_ble_eq_true rfl, Nat.le_of_ble_eq_true rfl⟩ rfl hl.1 rfl (Nat.le_of_ble_eq_true rfl) dX0_leaveThoseAt_28 ⟨Nat.zero_le _, Nat.zero_le _⟩) hS hW (fun σ8 H locs h hW => ?_)
          exact hK31 σ8 _ _ _ h hW (lv_sub hl [0, 1, 2, 3, 4] rfl)
  obtain ⟨n, h⟩ := h
  exact hL3 n σ 0 _ _ _ h hW (lv_sub hl [1, 2, 3, 4, 0] rfl)
abbrev rm_X1_everybody : Room := { frames := 0, cells := 0, slots := 0, locals := 0 }
set_option maxHeartbeats 4000000 in
set_option maxRecDepth 100000 in
theorem c_X1_everybody (l : Launch) (X : KX) (σ : Mm) (b0 : Nat) (hb0 : kFm b0) (Φ : Int32 → Prop) (h : wp_X1_everybody σ b0 Φ) : Met l yX1_everybody (.code yX1_everybody cX1_everybody 1 (some .int) :: kT) rm_X1_everybody (va_Pc [.ref (X.2.1 b0)] (kPre kZC X σ)) (va_Qi (fun r σ' => Φ r ∧ σ = σ') (fun σ' t => kPre kZC X σ' t) (kA kZC X)) 0 0 (kA kZC X) := by
  refine kofI (by decide) (Nat.le_of_ble_eq_true rfl) ?_
  intro p e s m args below meth c ls Q hx hcb hml hown hts hS hW hl hret
  have hown : s.vm.findClass RX1 = some m.cls := hown
  have hl : lv_has ls 1 [(0, .ref (X.2.1 b0))] := hl
  unfold wp_X1_everybody at h
  refine lv_iconst (v := 1) (pc := 0) hx hcb dX1_everybody_0 rfl ?_
  refine lv_aload_n (pc := 1) hx hcb dX1_everybody_1 rfl (lv_at hl 0 rfl) ?_
  refine kget (v := .int (σ.1 b0 6)) (pc := 2) hx hcb hts hown hS hW iwX1 (kO_X1 hb0) rfl 6 (by decide) q116 rfl rfl dX1_everybody_2 ?_
  refine lv_ishl (pc := 5) hx hcb dX1_everybody_5 ?_
  refine lv_iconst (v := 1) (pc := 6) hx hcb dX1_everybody_6 rfl ?_
  refine lv_isub (pc := 7) hx hcb dX1_everybody_7 ?_
  exact hret _ _ _ _ _ _ rfl ⟨h, rfl⟩ hW dX1_everybody_8
abbrev rm_X0_moversIn : Room := { frames := 1, cells := 0, slots := 0, locals := 20 }
set_option maxHeartbeats 4000000 in
set_option maxRecDepth 100000 in
theorem c_X0_moversIn (l : Launch) (X : KX) (σ : Mm) (b0 : Nat) (hb0 : kFm b0) (x1 : Int32) (x2 : Int32) (Φ : Int32 → Prop) (h : wp_X0_moversIn σ b0 x1 x2 Φ) : Met l yX0_moversIn (.code yX0_moversIn cX0_moversIn 3 (some .int) :: kT) rm_X0_moversIn (va_Pc [.ref (X.2.1 b0), .int x1, .int x2] (kPre kZC X σ)) (va_Qi (fun r σ' => Φ r ∧ σ = σ') (fun σ' t => kPre kZC X σ' t) (kA kZC X)) 0 0 (kA kZC X) := by
  refine kofI (by decide) (Nat.le_of_ble_eq_true rfl) ?_
  intro p e s m args below meth c ls Q hx hcb hml hown hts hS hW hl hret
  have hown : s.vm.findClass RX0 = some m.cls := hown
  have hl : lv_has ls 3 [(0, .ref (X.2.1 b0)), (1, .int x1), (2, .int x2)] := hl
  unfold wp_X0_moversIn at h
  refine lv_iload_n (pc := 0) hx hcb dX0_moversIn_0 rfl (lv_at hl 1 rfl) ?_
  refine lv_iconst (v := 2) (pc := 1) hx hcb dX0_moversIn_1 rfl ?_
  refine lv_irem (pc := 2) hx hcb dX0_moversIn_2 (by decide) ?_
  refine lv_if_ne (tgt := 10) (pc := 3) hx hcb dX0_moversIn_3 (by decide) (fun c3 => ?_) (fun c3 => ?_)
  · have h := h.1 c3
    refine lv_aload_n (pc := 10) hx hcb dX0_moversIn_10 rfl (lv_at hl 0 rfl) ?_
    refine kci (krunV (As := []) (rest := []) (pc := 11) hx hcb hml hown hts hS hW (c_X1_everybody l X σ b0 hb0 _ h) mf_X1_everybody q735 (kO_X1 hb0) rfl ⟨rfl, rfl⟩ ⟨Nat.le_of_ble_eq_true rfl, Nat.le_of_ble_eq_true rfl⟩ rfl hl.1 rfl (Nat.le_of_ble_eq_true rfl) dX0_moversIn_11 ⟨Nat.zero_le _, Nat.zero_le _⟩) hS hW (fun r2 σ1 H locs h hW => ?_)
    obtain ⟨h, rfl⟩ := h
    refine lv_iload_n (pc := 14) hx hcb dX0_moversIn_14 rfl (lv_at hl 2 rfl) ?_
    refine lv_iconst (v := (-1)) (pc := 15) hx hcb dX0_moversIn_15 rfl ?_
    refine lv_ixor (pc := 16) hx hcb dX0_moversIn_16 ?_
    refine lv_iand (pc := 17) hx hcb dX0_moversIn_17 ?_
    exact hret _ _ _ _ _ _ rfl ⟨h, rfl⟩ hW dX0_moversIn_18
  · have h := h.2 c3
    refine lv_iload_n (pc := 6) hx hcb dX0_moversIn_6 rfl (lv_at hl 2 rfl) ?_
    refine lv_goto (tgt := 18) (pc := 7) hx hcb dX0_moversIn_7 (by decide) ?_
    exact hret _ _ _ _ _ _ rfl ⟨h, rfl⟩ hW dX0_moversIn_18
abbrev rm_X6_clear : Room := { frames := 1, cells := 0, slots := 0, locals := 23 }
set_option maxHeartbeats 4000000 in
set_option maxRecDepth 100000 in
theorem c_X6_clear (l : Launch) (X : KX) (σ : Mm)  (Φ : Mm → Prop) (h : wp_X6_clear σ  Φ) : Met l yX6_clear (.code yX6_clear cX6_clear 1 none :: kT) rm_X6_clear (va_Pc [.ref (X.2.1 39)] (kPre kZC X σ)) (va_Qv (fun σ' => Φ σ') (fun σ' t => kPre kZC X σ' t) (kA kZC X)) 0 0 (kA kZC X) := by
  refine kofV (by decide) (Nat.le_of_ble_eq_true rfl) ?_
  intro p e s m args below meth c ls Q hx hcb hml hown hts hS hW hl hret
  have hown : s.vm.findClass RX6 = some m.cls := hown
  have hl : lv_has ls 1 [(0, .ref (X.2.1 39))] := hl
  unfold wp_X6_clear at h
  refine lv_aload_n (pc := 0) hx hcb dX6_clear_0 rfl (lv_at hl 0 rfl) ?_
  refine kget (v := .ref (X.2.1 40)) (pc := 1) hx hcb hts hown hS hW iwX6 kOC_39 rfl 0 (by decide) q258 rfl rfl dX6_clear_1 ?_
  refine lv_iconst (v := 0) (pc := 4) hx hcb dX6_clear_4 rfl ?_
  refine kcv (krunS (As := [.ref (X.2.1 40), .int 0]) (rest := []) (pc := 5) hx hcb hml hown hts hS hW (c_fillI l X σ 40 390 0 kIC_40 (by decide)) mf_J7_fill_53178 q724 ⟨rfl, rfl⟩ ⟨Nat.le_of_ble_eq_true rfl, Nat.le_of_ble_eq_true rfl⟩ rfl hl.1 rfl (Nat.le_of_ble_eq_true rfl) dX6_clear_5 ⟨Nat.zero_le _, Nat.zero_le _⟩) hS hW (fun σ1 H locs eσ1 hW => ?_)
  have h := h σ1 eσ1
  exact hret _ _ _ _ _ h hW dX6_clear_8
abbrev rm_X0_opening : Room := { frames := 4, cells := 0, slots := 0, locals := 102 }
set_option maxHeartbeats 4000000 in
set_option maxRecDepth 100000 in
theorem c_X0_opening (l : Launch) (X : KX) (σ : Mm) (b1 : Nat) (hb1 : kFm b1) (x3 : Int32) (x4 : Int32) (x5 : Int32) (Φ : Int32 → Mm → Prop) (h : wp_X0_opening σ b1 x3 x4 x5 Φ) : Met l yX0_opening (.code yX0_opening cX0_opening 7 (some .int) :: kT) rm_X0_opening (va_Pc [.ref (X.2.1 38), .ref (X.2.1 b1), .ref (X.2.1 16), .int x3, .int x4, .int x5] (kPre kZC X σ)) (va_Qi (fun r σ' => Φ r σ') (fun σ' t => kPre kZC X σ' t) (kA kZC X)) 0 0 (kA kZC X) := by
  refine kofI (by decide) (Nat.le_of_ble_eq_true rfl) ?_
  intro p e s m args below meth c ls Q hx hcb hml hown hts hS hW hl hret
  have hown : s.vm.findClass RX0 = some m.cls := hown
  have hl : lv_has ls 7 [(0, .ref (X.2.1 38)), (1, .ref (X.2.1 b1)), (2, .ref (X.2.1 16)), (3, .int x3), (4, .int x4), (5, .int x5)] := hl
  unfold wp_X0_opening at h
  refine lv_aload_n (pc := 0) hx hcb dX0_opening_0 rfl (lv_at hl 0 rfl) ?_
  refine kget (v := .ref (X.2.1 39)) (pc := 1) hx hcb hts hown hS hW iwX0 kOC_38 rfl 0 (by decide) q262 rfl rfl dX0_opening_1 ?_
  refine kcv (krunV (As := []) (rest := []) (pc := 4) hx hcb hml hown hts hS hW (c_X6_clear l X σ  _ h) mf_X6_clear q720 kOC_39 rfl ⟨rfl, rfl⟩ ⟨Nat.le_of_ble_eq_true rfl, Nat.le_of_ble_eq_true rfl⟩ rfl hl.1 rfl (Nat.le_of_ble_eq_true rfl) dX0_opening_4 ⟨Nat.zero_le _, Nat.zero_le _⟩) hS hW (fun σ1 H locs h hW => ?_)
  refine lv_aload_n (pc := 7) hx hcb dX0_opening_7 rfl (lv_at hl 0 rfl) ?_
  refine kget (v := .ref (X.2.1 39)) (pc := 8) hx hcb hts hown hS hW iwX0 kOC_38 rfl 0 (by decide) q262 rfl rfl dX0_opening_8 ?_
  refine lv_iconst (v := 0) (pc := 11) hx hcb dX0_opening_11 rfl ?_
  refine lv_aload_n (pc := 12) hx hcb dX0_opening_12 rfl (lv_at hl 2 rfl) ?_
  refine kgetN (v := .int (σ1.1 16 1)) (pc := 13) hx hcb hts hown hS hW iwX3 kOC_16 rfl 1 (by decide) q155 rfl rfl dX0_opening_13 ?_
  refine kcv (krunV (As := [.int 0, .int (σ1.1 16 1)]) (rest := []) (pc := 16) hx hcb hml hown hts hS hW (c_X6_add l X σ1 0 (σ1.1 16 1) _ h) mf_X6_add q725 kOC_39 rfl ⟨rfl, rfl⟩ ⟨Nat.le_of_ble_eq_true rfl, Nat.le_of_ble_eq_true rfl⟩ rfl hl.1 rfl (Nat.le_of_ble_eq_true rfl) dX0_opening_16 ⟨Nat.zero_le _, Nat.zero_le _⟩) hS hW (fun σ2 H locs h hW => ?_)
  refine lv_iconst (v := 0) (pc := 19) hx hcb dX0_opening_19 rfl ?_
  refine lv_istore (lv' := [(6, .int 0), (0, .ref (X.2.1 38)), (1, .ref (X.2.1 b1)), (2, .ref (X.2.1 16)), (3, .int x3), (4, .int x4), (5, .int x5)]) (pc := 20) hx hcb dX0_opening_20 hl (by decide) rfl (fun ls hl => ?_)
  obtain ⟨K56, hk56, h⟩ := h
  have hK56 : ∀ (σ3 : Mm) (H : Heap) (locs : List Loc) (ls : Array Slot), K56 σ3 → kW kZC X (kA kZC X) s σ3 H locs → lv_has ls 7 [(0, .ref (X.2.1 38)), (1, .ref (X.2.1 b1)), (2, .ref (X.2.1 16)), (3, .int x3), (4, .int x4), (5, .int x5)] → W p l e rm_X0_opening s m args below meth c H locs 0 0 Q (F0 m 56 ls []) := by
    intro σ3 H locs ls h hW hl
    have h := hk56 σ3 h
    refine lv_aload_n (pc := 56) hx hcb dX0_opening_56 rfl (lv_at hl 0 rfl) ?_
    refine lv_aload_n (pc := 57) hx hcb dX0_opening_57 rfl (lv_at hl 1 rfl) ?_
    refine lv_iload_n (pc := 58) hx hcb dX0_opening_58 rfl (lv_at hl 3 rfl) ?_
    refine lv_iload (pc := 59) hx hcb dX0_opening_59 (lv_at hl 4 rfl) ?_
    refine kcv (krunV (As := [.ref (X.2.1 b1), .int x3, .int x4]) (rest := []) (pc := 61) hx hcb hml hown hts hS hW (c_X0_leaveThoseAt l X σ3 b1 hb1 x3 x4 _ h) mf_X0_leaveThoseAt q757 kOC_38 rfl ⟨rfl, rfl⟩ ⟨Nat.le_of_ble_eq_true rfl, Nat.le_of_ble_eq_true rfl⟩ rfl hl.1 rfl (Nat.le_of_ble_eq_true rfl) dX0_opening_61 ⟨Nat.zero_le _, Nat.zero_le _⟩) hS hW (fun σ4 H locs h hW => ?_)
    refine lv_iload_n (pc := 64) hx hcb dX0_opening_64 rfl (lv_at hl 3 rfl) ?_
    refine lv_iconst (v := 1) (pc := 65) hx hcb dX0_opening_65 rfl ?_
    refine lv_isub (pc := 66) hx hcb dX0_opening_66 ?_
    refine lv_topi (fun x6_5 ex6_5 => ?_)
    have h := h x6_5 ex6_5
    refine lv_istore (lv' := [(6, .int x6_5), (0, .ref (X.2.1 38)), (1, .ref (X.2.1 b1)), (2, .ref (X.2.1 16)), (3, .int x3), (4, .int x4), (5, .int x5)]) (pc := 67) hx hcb dX0_opening_67 hl (by decide) rfl (fun ls hl => ?_)
    obtain ⟨K102, hk102, h⟩ := h
    have hK102 : ∀ (σ6 : Mm) (H : Heap) (locs : List Loc) (ls : Array Slot), K102 σ6 → kW kZC X (kA kZC X) s σ6 H locs → lv_has ls 7 [(0, .ref (X.2.1 38)), (1, .ref (X.2.1 b1)), (2, .ref (X.2.1 16)), (5, .int x5)] → W p l e rm_X0_opening s m args below meth c H locs 0 0 Q (F0 m 102 ls []) := by
      intro σ6 H locs ls h hW hl
      have h := hk102 σ6 h
      refine lv_aload_n (pc := 102) hx hcb dX0_opening_102 rfl (lv_at hl 0 rfl) ?_
      refine lv_aload_n (pc := 103) hx hcb dX0_opening_103 rfl (lv_at hl 1 rfl) ?_
      refine lv_aload_n (pc := 104) hx hcb dX0_opening_104 rfl (lv_at hl 2 rfl) ?_
      refine kgetN (v := .int (σ6.1 16 1)) (pc := 105) hx hcb hts hown hS hW iwX3 kOC_16 rfl 1 (by decide) q155 rfl rfl dX0_opening_105 ?_
      refine lv_iconst (v := 0) (pc := 108) hx hcb dX0_opening_108 rfl ?_
      refine lv_aload_n (pc := 109) hx hcb dX0_opening_109 rfl (lv_at hl 2 rfl) ?_
      refine kgetN (v := .int (σ6.1 16 0)) (pc := 110) hx hcb hts hown hS hW iwX3 kOC_16 rfl 0 (by decide) q150 rfl rfl dX0_opening_110 ?_
      refine lv_iload (pc := 113) hx hcb dX0_opening_113 (lv_at hl 3 rfl) ?_
      refine lv_iconst (v := 1) (pc := 115) hx hcb dX0_opening_115 rfl ?_
      refine kci (krunV (As := [.ref (X.2.1 b1), .int (σ6.1 16 1), .int 0, .int (σ6.1 16 0), .int x5, .int 1]) (rest := []) (pc := 116) hx hcb hml hown hts hS hW (c_X0_choice l X σ6 b1 hb1 (σ6.1 16 1) 0 (σ6.1 16 0) x5 1 _ h) mf_X0_choice q770 kOC_38 rfl ⟨rfl, rfl⟩ ⟨Nat.le_of_ble_eq_true rfl, Nat.le_of_ble_eq_true rfl⟩ rfl hl.1 rfl (Nat.le_of_ble_eq_true rfl) dX0_opening_116 ⟨Nat.zero_le _, Nat.zero_le _⟩) hS hW (fun r8 σ7 H locs h hW => ?_)
      obtain ⟨h, rfl⟩ := h
      exact hret _ _ _ _ _ _ rfl h hW dX0_opening_119
    have hL69 : ∀ (n : Nat) (σ9 : Mm) (x6_10 : Int32) (H : Heap) (locs : List Loc) (ls : Array Slot), wp_X0_opening_L69 b1 x5 K102 n σ9 x6_10 → kW kZC X (kA kZC X) s σ9 H locs → lv_has ls 7 [(0, .ref (X.2.1 38)), (1, .ref (X.2.1 b1)), (2, .ref (X.2.1 16)), (5, .int x5), (6, .int x6_10)] → W p l e rm_X0_opening s m args below meth c H locs 0 0 Q (F0 m 69 ls []) := by
      intro n
      induction n with
      | zero =>
        intro σ9 x6_10 H locs ls h
        exact False.elim h
      | succ n ih =>
        intro σ9 x6_10 H locs ls h hW hl
        unfold wp_X0_opening_L69 at h
        refine lv_iload (pc := 69) hx hcb dX0_opening_69 (lv_at hl 4 rfl) ?_
        refine lv_if_le (tgt := 102) (pc := 71) hx hcb dX0_opening_71 (by decide) (fun c71 => ?_) (fun c71 => ?_)
        · have h := h.1 c71
          exact hK102 σ9 _ _ _ h hW (lv_sub hl [0, 1, 2, 3] rfl)
        · have h := h.2 c71
          refine lv_aload_n (pc := 74) hx hcb dX0_opening_74 rfl (lv_at hl 0 rfl) ?_
          refine lv_aload_n (pc := 75) hx hcb dX0_opening_75 rfl (lv_at hl 1 rfl) ?_
          refine lv_iload (pc := 76) hx hcb dX0_opening_76 (lv_at hl 4 rfl) ?_
          refine lv_aload_n (pc := 78) hx hcb dX0_opening_78 rfl (lv_at hl 2 rfl) ?_
          refine kgetN (v := .int (σ9.1 16 0)) (pc := 79) hx hcb hts hown hS hW iwX3 kOC_16 rfl 0 (by decide) q150 rfl rfl dX0_opening_79 ?_
          refine lv_iload (pc := 82) hx hcb dX0_opening_82 (lv_at hl 4 rfl) ?_
          refine lv_iadd (pc := 84) hx hcb dX0_opening_84 ?_
          refine lv_aload_n (pc := 85) hx hcb dX0_opening_85 rfl (lv_at hl 1 rfl) ?_
          refine lv_iload (pc := 86) hx hcb dX0_opening_86 (lv_at hl 4 rfl) ?_
          refine lv_iload (pc := 88) hx hcb dX0_opening_88 (lv_at hl 3 rfl) ?_
          refine kci (krunS (As := [.ref (X.2.1 b1), .int x6_10, .int x5]) (rest := [.int ((σ9.1 16 0) + x6_10), .int x6_10, .ref (X.2.1 b1), .ref (X.2.1 38)]) (pc := 90) hx hcb hml hown hts hS hW (c_X0_moversIn l X σ9 b1 hb1 x6_10 x5 _ h) mf_X0_moversIn q732 ⟨rfl, rfl⟩ ⟨Nat.le_of_ble_eq_true rfl, Nat.le_of_ble_eq_true rfl⟩ rfl hl.1 rfl (Nat.le_of_ble_eq_true rfl) dX0_opening_90 ⟨Nat.zero_le _, Nat.zero_le _⟩) hS hW (fun r12 σ11 H locs h hW => ?_)
          obtain ⟨h, rfl⟩ := h
          refine kcv (krunV (As := [.ref (X.2.1 b1), .int x6_10, .int ((σ9.1 16 0) + x6_10), .int r12]) (rest := []) (pc := 93) hx hcb hml hown hts hS hW (c_X0_goBack l X σ9 b1 hb1 x6_10 ((σ9.1 16 0) + x6_10) r12 _ h) mf_X0_goBack q766 kOC_38 rfl ⟨rfl, rfl⟩ ⟨Nat.le_of_ble_eq_true rfl, Nat.le_of_ble_eq_true rfl⟩ rfl hl.1 rfl (Nat.le_of_ble_eq_true rfl) dX0_opening_93 ⟨Nat.zero_le _, Nat.zero_le _⟩) hS hW (fun σ13 H locs h hW => ?_)
          refine lv_iinc (v := x6_10 + (-1)) (lv' := [(6, .int (x6_10 + (-1))), (0, .ref (X.2.1 38)), (1, .ref (X.2.1 b1)), (2, .ref (X.2.1 16)), (5, .int x5)]) (pc := 96) hx hcb dX0_opening_96 hl (k := 4) rfl rfl (by decide) rfl (fun ls hl => ?_)
          refine lv_goto (tgt := 69) (pc := 99) hx hcb dX0_opening_99 (by decide) ?_
          exact ih σ13 (x6_10 + (-1)) _ _ _ h hW (lv_sub hl [1, 2, 3, 4, 0] rfl)
    obtain ⟨n, h⟩ := h
    exact hL69 n σ4 x6_5 _ _ _ h hW (lv_sub hl [1, 2, 3, 6, 0] rfl)
  have hL22 : ∀ (n : Nat) (σ14 : Mm) (x6_15 : Int32) (H : Heap) (locs : List Loc) (ls : Array Slot), wp_X0_opening_L22 b1 x3 x5 K56 n σ14 x6_15 → kW kZC X (kA kZC X) s σ14 H locs → lv_has ls 7 [(0, .ref (X.2.1 38)), (1, .ref (X.2.1 b1)), (2, .ref (X.2.1 16)), (3, .int x3), (4, .int x4), (5, .int x5), (6, .int x6_15)] → W p l e rm_X0_opening s m args below meth c H locs 0 0 Q (F0 m 22 ls []) := by
    intro n
    induction n with
    | zero =>
      intro σ14 x6_15 H locs ls h
      exact False.elim h
    | succ n ih =>
      intro σ14 x6_15 H locs ls h hW hl
      unfold wp_X0_opening_L22 at h
      refine lv_iload (pc := 22) hx hcb dX0_opening_22 (lv_at hl 6 rfl) ?_
      refine lv_iload_n (pc := 24) hx hcb dX0_opening_24 rfl (lv_at hl 3 rfl) ?_
      refine lv_icmp_ge (tgt := 56) (pc := 25) hx hcb dX0_opening_25 (by decide) (fun c25 => ?_) (fun c25 => ?_)
      · have h := h.1 c25
        exact hK56 σ14 _ _ _ h hW (lv_sub hl [0, 1, 2, 3, 4, 5] rfl)
      · have h := h.2 c25
        refine lv_aload_n (pc := 28) hx hcb dX0_opening_28 rfl (lv_at hl 0 rfl) ?_
        refine lv_aload_n (pc := 29) hx hcb dX0_opening_29 rfl (lv_at hl 1 rfl) ?_
        refine lv_iload (pc := 30) hx hcb dX0_opening_30 (lv_at hl 6 rfl) ?_
        refine lv_aload_n (pc := 32) hx hcb dX0_opening_32 rfl (lv_at hl 2 rfl) ?_
        refine kgetN (v := .int (σ14.1 16 0)) (pc := 33) hx hcb hts hown hS hW iwX3 kOC_16 rfl 0 (by decide) q150 rfl rfl dX0_opening_33 ?_
        refine lv_iload (pc := 36) hx hcb dX0_opening_36 (lv_at hl 6 rfl) ?_
        refine lv_iadd (pc := 38) hx hcb dX0_opening_38 ?_
        refine lv_aload_n (pc := 39) hx hcb dX0_opening_39 rfl (lv_at hl 1 rfl) ?_
        refine lv_iload (pc := 40) hx hcb dX0_opening_40 (lv_at hl 6 rfl) ?_
        refine lv_iload (pc := 42) hx hcb dX0_opening_42 (lv_at hl 5 rfl) ?_
        refine kci (krunS (As := [.ref (X.2.1 b1), .int x6_15, .int x5]) (rest := [.int ((σ14.1 16 0) + x6_15), .int x6_15, .ref (X.2.1 b1), .ref (X.2.1 38)]) (pc := 44) hx hcb hml hown hts hS hW (c_X0_moversIn l X σ14 b1 hb1 x6_15 x5 _ h) mf_X0_moversIn q732 ⟨rfl, rfl⟩ ⟨Nat.le_of_ble_eq_true rfl, Nat.le_of_ble_eq_true rfl⟩ rfl hl.1 rfl (Nat.le_of_ble_eq_true rfl) dX0_opening_44 ⟨Nat.zero_le _, Nat.zero_le _⟩) hS hW (fun r17 σ16 H locs h hW => ?_)
        obtain ⟨h, rfl⟩ := h
        refine kcv (krunV (As := [.ref (X.2.1 b1), .int x6_15, .int ((σ14.1 16 0) + x6_15), .int r17]) (rest := []) (pc := 47) hx hcb hml hown hts hS hW (c_X0_goForth l X σ14 b1 hb1 x6_15 ((σ14.1 16 0) + x6_15) r17 _ h) mf_X0_goForth q736 kOC_38 rfl ⟨rfl, rfl⟩ ⟨Nat.le_of_ble_eq_true rfl, Nat.le_of_ble_eq_true rfl⟩ rfl hl.1 rfl (Nat.le_of_ble_eq_true rfl) dX0_opening_47 ⟨Nat.zero_le _, Nat.zero_le _⟩) hS hW (fun σ18 H locs h hW => ?_)
        refine lv_iinc (v := x6_15 + 1) (lv' := [(6, .int (x6_15 + 1)), (0, .ref (X.2.1 38)), (1, .ref (X.2.1 b1)), (2, .ref (X.2.1 16)), (3, .int x3), (4, .int x4), (5, .int x5)]) (pc := 50) hx hcb dX0_opening_50 hl (k := 6) rfl rfl (by decide) rfl (fun ls hl => ?_)
        refine lv_goto (tgt := 22) (pc := 53) hx hcb dX0_opening_53 (by decide) ?_
        exact ih σ18 (x6_15 + 1) _ _ _ h hW (lv_sub hl [1, 2, 3, 4, 5, 6, 0] rfl)
  obtain ⟨n, h⟩ := h
  exact hL22 n σ2 0 _ _ _ h hW (lv_sub hl [1, 2, 3, 4, 5, 6, 0] rfl)
abbrev rm_X1_addToWay : Room := { frames := 0, cells := 0, slots := 0, locals := 0 }
set_option maxHeartbeats 4000000 in
set_option maxRecDepth 100000 in
theorem c_X1_addToWay (l : Launch) (X : KX) (σ : Mm) (b0 : Nat) (hb0 : kFm b0) (x1 : Int32) (Φ : Mm → Prop) (h : wp_X1_addToWay σ b0 x1 Φ) : Met l yX1_addToWay (.code yX1_addToWay cX1_addToWay 3 none :: kT) rm_X1_addToWay (va_Pc [.ref (X.2.1 b0), .int x1] (kPre kZC X σ)) (va_Qv (fun σ' => Φ σ') (fun σ' t => kPre kZC X σ' t) (kA kZC X)) 0 0 (kA kZC X) := by
  refine kofV (by decide) (Nat.le_of_ble_eq_true rfl) ?_
  intro p e s m args below meth c ls Q hx hcb hml hown hts hS hW hl hret
  have hown : s.vm.findClass RX1 = some m.cls := hown
  have hl : lv_has ls 3 [(0, .ref (X.2.1 b0)), (1, .int x1)] := hl
  unfold wp_X1_addToWay at h
  refine lv_aload_n (pc := 0) hx hcb dX1_addToWay_0 rfl (lv_at hl 0 rfl) ?_
  refine kget (v := .int (σ.1 b0 6)) (pc := 1) hx hcb hts hown hS hW iwX1 (kO_X1 hb0) rfl 6 (by decide) q116 rfl rfl dX1_addToWay_1 ?_
  refine lv_iconst (v := 1) (pc := 4) hx hcb dX1_addToWay_4 rfl ?_
  refine lv_icmp_ge (tgt := 9) (pc := 5) hx hcb dX1_addToWay_5 (by decide) (fun c5 => ?_) (fun c5 => ?_)
  · have h := h.1 c5
    refine lv_aload_n (pc := 9) hx hcb dX1_addToWay_9 rfl (lv_at hl 0 rfl) ?_
    refine kget (v := .ref (X.2.1 (b0 + 5))) (pc := 10) hx hcb hts hown hS hW iwX1 (kO_X1 hb0) rfl 4 (by decide) q114 rfl rfl dX1_addToWay_10 ?_
    refine lv_aload_n (pc := 13) hx hcb dX1_addToWay_13 rfl (lv_at hl 0 rfl) ?_
    refine kget (v := .int (σ.1 b0 6)) (pc := 14) hx hcb hts hown hS hW iwX1 (kO_X1 hb0) rfl 6 (by decide) q116 rfl rfl dX1_addToWay_14 ?_
    refine lv_iconst (v := 1) (pc := 17) hx hcb dX1_addToWay_17 rfl ?_
    refine lv_isub (pc := 18) hx hcb dX1_addToWay_18 ?_
    have hin1 := h.1
    have h := h.2
    refine kiald (((σ.1 b0 6) - 1).toNatClampNeg) (pc := 19) hx hcb hS hW (kA_X1_4 hb0) rfl (kin_of hin1 (by decide)) dX1_addToWay_19 ?_
    refine lv_topi (fun x2_2 ex2_2 => ?_)
    have h := h x2_2 ex2_2
    refine lv_istore_n (lv' := [(2, .int x2_2), (0, .ref (X.2.1 b0)), (1, .int x1)]) (pc := 20) hx hcb dX1_addToWay_20 rfl hl (by decide) rfl (fun ls hl => ?_)
    refine lv_iload_n (pc := 21) hx hcb dX1_addToWay_21 rfl (lv_at hl 0 rfl) ?_
    refine lv_bipush (v := 12) (pc := 22) hx hcb dX1_addToWay_22 rfl ?_
    refine lv_icmp_ge (tgt := 58) (pc := 24) hx hcb dX1_addToWay_24 (by decide) (fun c24 => ?_) (fun c24 => ?_)
    · have h := h.1 c24
      exact hret _ _ _ _ _ h hW dX1_addToWay_58
    · have h := h.2 c24
      refine lv_aload_n (pc := 27) hx hcb dX1_addToWay_27 rfl (lv_at hl 1 rfl) ?_
      refine kget (v := .ref (X.2.1 (b0 + 4))) (pc := 28) hx hcb hts hown hS hW iwX1 (kO_X1 hb0) rfl 3 (by decide) q113 rfl rfl dX1_addToWay_28 ?_
      refine lv_aload_n (pc := 31) hx hcb dX1_addToWay_31 rfl (lv_at hl 1 rfl) ?_
      refine kget (v := .int (σ.1 b0 6)) (pc := 32) hx hcb hts hown hS hW iwX1 (kO_X1 hb0) rfl 6 (by decide) q116 rfl rfl dX1_addToWay_32 ?_
      refine lv_iconst (v := 1) (pc := 35) hx hcb dX1_addToWay_35 rfl ?_
      refine lv_isub (pc := 36) hx hcb dX1_addToWay_36 ?_
      refine lv_bipush (v := 12) (pc := 37) hx hcb dX1_addToWay_37 rfl ?_
      refine lv_imul (pc := 39) hx hcb dX1_addToWay_39 ?_
      refine lv_iload_n (pc := 40) hx hcb dX1_addToWay_40 rfl (lv_at hl 0 rfl) ?_
      refine lv_iadd (pc := 41) hx hcb dX1_addToWay_41 ?_
      refine lv_iload_n (pc := 42) hx hcb dX1_addToWay_42 rfl (lv_at hl 2 rfl) ?_
      have hin3 := h.1
      have h := h.2
      refine kiast (((((σ.1 b0 6) - 1) * 12) + x2_2).toNatClampNeg) (pc := 43) hx hcb hS hW (kA_X1_3 hb0) rfl (kin_of hin3 (by decide)) dX1_addToWay_43 (fun σ4 H locs eσ4 hW => ?_)
      have h := h σ4 eσ4
      refine lv_aload_n (pc := 44) hx hcb dX1_addToWay_44 rfl (lv_at hl 1 rfl) ?_
      refine kget (v := .ref (X.2.1 (b0 + 5))) (pc := 45) hx hcb hts hown hS hW iwX1 (kO_X1 hb0) rfl 4 (by decide) q114 rfl rfl dX1_addToWay_45 ?_
      refine lv_aload_n (pc := 48) hx hcb dX1_addToWay_48 rfl (lv_at hl 1 rfl) ?_
      refine kget (v := .int (σ4.1 b0 6)) (pc := 49) hx hcb hts hown hS hW iwX1 (kO_X1 hb0) rfl 6 (by decide) q116 rfl rfl dX1_addToWay_49 ?_
      refine lv_iconst (v := 1) (pc := 52) hx hcb dX1_addToWay_52 rfl ?_
      refine lv_isub (pc := 53) hx hcb dX1_addToWay_53 ?_
      refine lv_iload_n (pc := 54) hx hcb dX1_addToWay_54 rfl (lv_at hl 0 rfl) ?_
      refine lv_iconst (v := 1) (pc := 55) hx hcb dX1_addToWay_55 rfl ?_
      refine lv_iadd (pc := 56) hx hcb dX1_addToWay_56 ?_
      have hin5 := h.1
      have h := h.2
      refine kiast (((σ4.1 b0 6) - 1).toNatClampNeg) (pc := 57) hx hcb hS hW (kA_X1_4 hb0) rfl (kin_of hin5 (by decide)) dX1_addToWay_57 (fun σ6 H locs eσ6 hW => ?_)
      have h := h σ6 eσ6
      exact hret _ _ _ _ _ h hW dX1_addToWay_58
  · have h := h.2 c5
    exact hret _ _ _ _ _ h hW dX1_addToWay_8
abbrev rm_X1_beginWay : Room := { frames := 0, cells := 0, slots := 0, locals := 0 }
set_option maxHeartbeats 4000000 in
set_option maxRecDepth 100000 in
theorem c_X1_beginWay (l : Launch) (X : KX) (σ : Mm) (b0 : Nat) (hb0 : kFm b0) (Φ : Int32 → Mm → Prop) (h : wp_X1_beginWay σ b0 Φ) : Met l yX1_beginWay (.code yX1_beginWay cX1_beginWay 1 (some .boolean) :: kT) rm_X1_beginWay (va_Pc [.ref (X.2.1 b0)] (kPre kZC X σ)) (va_Qi (fun r σ' => Φ r σ') (fun σ' t => kPre kZC X σ' t) (kA kZC X)) 0 0 (kA kZC X) := by
  refine kofI (by decide) (Nat.le_of_ble_eq_true rfl) ?_
  intro p e s m args below meth c ls Q hx hcb hml hown hts hS hW hl hret
  have hown : s.vm.findClass RX1 = some m.cls := hown
  have hl : lv_has ls 1 [(0, .ref (X.2.1 b0))] := hl
  unfold wp_X1_beginWay at h
  refine lv_aload_n (pc := 0) hx hcb dX1_beginWay_0 rfl (lv_at hl 0 rfl) ?_
  refine kget (v := .int (σ.1 b0 6)) (pc := 1) hx hcb hts hown hS hW iwX1 (kO_X1 hb0) rfl 6 (by decide) q116 rfl rfl dX1_beginWay_1 ?_
  refine lv_iconst (v := 1) (pc := 4) hx hcb dX1_beginWay_4 rfl ?_
  refine lv_icmp_ge (tgt := 10) (pc := 5) hx hcb dX1_beginWay_5 (by decide) (fun c5 => ?_) (fun c5 => ?_)
  · have h := h.1 c5
    refine lv_aload_n (pc := 10) hx hcb dX1_beginWay_10 rfl (lv_at hl 0 rfl) ?_
    refine kget (v := .ref (X.2.1 (b0 + 5))) (pc := 11) hx hcb hts hown hS hW iwX1 (kO_X1 hb0) rfl 4 (by decide) q114 rfl rfl dX1_beginWay_11 ?_
    refine lv_aload_n (pc := 14) hx hcb dX1_beginWay_14 rfl (lv_at hl 0 rfl) ?_
    refine kget (v := .int (σ.1 b0 6)) (pc := 15) hx hcb hts hown hS hW iwX1 (kO_X1 hb0) rfl 6 (by decide) q116 rfl rfl dX1_beginWay_15 ?_
    refine lv_iconst (v := 1) (pc := 18) hx hcb dX1_beginWay_18 rfl ?_
    refine lv_isub (pc := 19) hx hcb dX1_beginWay_19 ?_
    refine lv_iconst (v := 0) (pc := 20) hx hcb dX1_beginWay_20 rfl ?_
    have hin1 := h.1
    have h := h.2
    refine kiast (((σ.1 b0 6) - 1).toNatClampNeg) (pc := 21) hx hcb hS hW (kA_X1_4 hb0) rfl (kin_of hin1 (by decide)) dX1_beginWay_21 (fun σ2 H locs eσ2 hW => ?_)
    have h := h σ2 eσ2
    refine lv_iconst (v := 1) (pc := 22) hx hcb dX1_beginWay_22 rfl ?_
    exact hret _ _ _ _ _ _ rfl h hW dX1_beginWay_23
  · have h := h.2 c5
    refine lv_iconst (v := 0) (pc := 8) hx hcb dX1_beginWay_8 rfl ?_
    exact hret _ _ _ _ _ _ rfl h hW dX1_beginWay_9
abbrev rm_X1_canBeLaid : Room := { frames := 0, cells := 0, slots := 0, locals := 0 }
set_option maxHeartbeats 4000000 in
set_option maxRecDepth 100000 in
theorem c_X1_canBeLaid (l : Launch) (X : KX) (σ : Mm) (b0 : Nat) (hb0 : kFm b0) (Φ : Int32 → Prop) (h : wp_X1_canBeLaid σ b0 Φ) : Met l yX1_canBeLaid (.code yX1_canBeLaid cX1_canBeLaid 3 (some .boolean) :: kT) rm_X1_canBeLaid (va_Pc [.ref (X.2.1 b0)] (kPre kZC X σ)) (va_Qi (fun r σ' => Φ r ∧ σ = σ') (fun σ' t => kPre kZC X σ' t) (kA kZC X)) 0 0 (kA kZC X) := by
  refine kofI (by decide) (Nat.le_of_ble_eq_true rfl) ?_
  intro p e s m args below meth c ls Q hx hcb hml hown hts hS hW hl hret
  have hown : s.vm.findClass RX1 = some m.cls := hown
  have hl : lv_has ls 3 [(0, .ref (X.2.1 b0))] := hl
  unfold wp_X1_canBeLaid at h
  refine lv_aload_n (pc := 0) hx hcb dX1_canBeLaid_0 rfl (lv_at hl 0 rfl) ?_
  refine kget (v := .int (σ.1 b0 6)) (pc := 1) hx hcb hts hown hS hW iwX1 (kO_X1 hb0) rfl 6 (by decide) q116 rfl rfl dX1_canBeLaid_1 ?_
  refine lv_iconst (v := 1) (pc := 4) hx hcb dX1_canBeLaid_4 rfl ?_
  refine lv_icmp_lt (tgt := 19) (pc := 5) hx hcb dX1_canBeLaid_5 (by decide) (fun c5 => ?_) (fun c5 => ?_)
  · have h := h.1 c5
    refine lv_iconst (v := 0) (pc := 19) hx hcb dX1_canBeLaid_19 rfl ?_
    exact hret _ _ _ _ _ _ rfl ⟨h, rfl⟩ hW dX1_canBeLaid_20
  · have h := h.2 c5
    refine lv_aload_n (pc := 8) hx hcb dX1_canBeLaid_8 rfl (lv_at hl 0 rfl) ?_
    refine kget (v := .int (σ.1 b0 8)) (pc := 9) hx hcb hts hown hS hW iwX1 (kO_X1 hb0) rfl 8 (by decide) q118 rfl rfl dX1_canBeLaid_9 ?_
    refine lv_aload_n (pc := 12) hx hcb dX1_canBeLaid_12 rfl (lv_at hl 0 rfl) ?_
    refine kget (v := .int (σ.1 b0 5)) (pc := 13) hx hcb hts hown hS hW iwX1 (kO_X1 hb0) rfl 5 (by decide) q115 rfl rfl dX1_canBeLaid_13 ?_
    refine lv_icmp_lt (tgt := 21) (pc := 16) hx hcb dX1_canBeLaid_16 (by decide) (fun c16 => ?_) (fun c16 => ?_)
    · have h := h.1 c16
      refine lv_iconst (v := 0) (pc := 21) hx hcb dX1_canBeLaid_21 rfl ?_
      refine lv_istore_n (lv' := [(1, .int 0), (0, .ref (X.2.1 b0))]) (pc := 22) hx hcb dX1_canBeLaid_22 rfl hl (by decide) rfl (fun ls hl => ?_)
      have hL23 : ∀ (n : Nat) (x1_1 : Int32) (H : Heap) (locs : List Loc) (ls : Array Slot), wp_X1_canBeLaid_L23 b0 σ Φ n x1_1 → kW kZC X (kA kZC X) s σ H locs → lv_has ls 3 [(0, .ref (X.2.1 b0)), (1, .int x1_1)] → W p l e rm_X1_canBeLaid s m args below meth c H locs 0 0 Q (F0 m 23 ls []) := by
        intro n
        induction n with
        | zero =>
          intro x1_1 H locs ls h
          exact False.elim h
        | succ n ih =>
          intro x1_1 H locs ls h hW hl
          unfold wp_X1_canBeLaid_L23 at h
          refine lv_iload_n (pc := 23) hx hcb dX1_canBeLaid_23 rfl (lv_at hl 1 rfl) ?_
          refine lv_aload_n (pc := 24) hx hcb dX1_canBeLaid_24 rfl (lv_at hl 0 rfl) ?_
          refine kget (v := .int (σ.1 b0 6)) (pc := 25) hx hcb hts hown hS hW iwX1 (kO_X1 hb0) rfl 6 (by decide) q116 rfl rfl dX1_canBeLaid_25 ?_
          refine lv_icmp_ge (tgt := 75) (pc := 28) hx hcb dX1_canBeLaid_28 (by decide) (fun c28 => ?_) (fun c28 => ?_)
          · have h := h.1 c28
            refine lv_iconst (v := 1) (pc := 75) hx hcb dX1_canBeLaid_75 rfl ?_
            exact hret _ _ _ _ _ _ rfl ⟨h, rfl⟩ hW dX1_canBeLaid_76
          · have h := h.2 c28
            refine lv_iconst (v := 0) (pc := 31) hx hcb dX1_canBeLaid_31 rfl ?_
            refine lv_istore_n (lv' := [(2, .int 0), (0, .ref (X.2.1 b0)), (1, .int x1_1)]) (pc := 32) hx hcb dX1_canBeLaid_32 rfl hl (by decide) rfl (fun ls hl => ?_)
            obtain ⟨K69, hk69, h⟩ := h
            have hK69 : ∀  (H : Heap) (locs : List Loc) (ls : Array Slot), K69 → kW kZC X (kA kZC X) s σ H locs → lv_has ls 3 [(0, .ref (X.2.1 b0)), (1, .int x1_1)] → W p l e rm_X1_canBeLaid s m args below meth c H locs 0 0 Q (F0 m 69 ls []) := by
              intro  H locs ls h hW hl
              have h := hk69 h
              refine lv_iinc (v := x1_1 + 1) (lv' := [(1, .int (x1_1 + 1)), (0, .ref (X.2.1 b0))]) (pc := 69) hx hcb dX1_canBeLaid_69 hl (k := 1) rfl rfl (by decide) rfl (fun ls hl => ?_)
              refine lv_goto (tgt := 23) (pc := 72) hx hcb dX1_canBeLaid_72 (by decide) ?_
              exact ih (x1_1 + 1) _ _ _ h hW (lv_sub hl [1, 0] rfl)
            have hL33 : ∀ (n : Nat) (x2_2 : Int32) (H : Heap) (locs : List Loc) (ls : Array Slot), wp_X1_canBeLaid_L33 b0 σ Φ x1_1 K69 n x2_2 → kW kZC X (kA kZC X) s σ H locs → lv_has ls 3 [(0, .ref (X.2.1 b0)), (1, .int x1_1), (2, .int x2_2)] → W p l e rm_X1_canBeLaid s m args below meth c H locs 0 0 Q (F0 m 33 ls []) := by
              intro n
              induction n with
              | zero =>
                intro x2_2 H locs ls h
                exact False.elim h
              | succ n ih =>
                intro x2_2 H locs ls h hW hl
                unfold wp_X1_canBeLaid_L33 at h
                refine lv_iload_n (pc := 33) hx hcb dX1_canBeLaid_33 rfl (lv_at hl 2 rfl) ?_
                refine lv_aload_n (pc := 34) hx hcb dX1_canBeLaid_34 rfl (lv_at hl 0 rfl) ?_
                refine kget (v := .ref (X.2.1 (b0 + 5))) (pc := 35) hx hcb hts hown hS hW iwX1 (kO_X1 hb0) rfl 4 (by decide) q114 rfl rfl dX1_canBeLaid_35 ?_
                refine lv_iload_n (pc := 38) hx hcb dX1_canBeLaid_38 rfl (lv_at hl 1 rfl) ?_
                have hin3 := h.1
                have h := h.2
                refine kiald (x1_1.toNatClampNeg) (pc := 39) hx hcb hS hW (kA_X1_4 hb0) rfl (kin_of hin3 (by decide)) dX1_canBeLaid_39 ?_
                refine lv_icmp_ge (tgt := 69) (pc := 40) hx hcb dX1_canBeLaid_40 (by decide) (fun c40 => ?_) (fun c40 => ?_)
                · have h := h.1 c40
                  exact hK69  _ _ _ h hW (lv_sub hl [0, 1] rfl)
                · have h := h.2 c40
                  refine lv_aload_n (pc := 43) hx hcb dX1_canBeLaid_43 rfl (lv_at hl 0 rfl) ?_
                  refine kget (v := .ref (X.2.1 (b0 + 4))) (pc := 44) hx hcb hts hown hS hW iwX1 (kO_X1 hb0) rfl 3 (by decide) q113 rfl rfl dX1_canBeLaid_44 ?_
                  refine lv_iload_n (pc := 47) hx hcb dX1_canBeLaid_47 rfl (lv_at hl 1 rfl) ?_
                  refine lv_bipush (v := 12) (pc := 48) hx hcb dX1_canBeLaid_48 rfl ?_
                  refine lv_imul (pc := 50) hx hcb dX1_canBeLaid_50 ?_
                  refine lv_iload_n (pc := 51) hx hcb dX1_canBeLaid_51 rfl (lv_at hl 2 rfl) ?_
                  refine lv_iadd (pc := 52) hx hcb dX1_canBeLaid_52 ?_
                  have hin4 := h.1
                  have h := h.2
                  refine kiald (((x1_1 * 12) + x2_2).toNatClampNeg) (pc := 53) hx hcb hS hW (kA_X1_3 hb0) rfl (kin_of hin4 (by decide)) dX1_canBeLaid_53 ?_
                  refine lv_aload_n (pc := 54) hx hcb dX1_canBeLaid_54 rfl (lv_at hl 0 rfl) ?_
                  refine kget (v := .int (σ.1 b0 5)) (pc := 55) hx hcb hts hown hS hW iwX1 (kO_X1 hb0) rfl 5 (by decide) q115 rfl rfl dX1_canBeLaid_55 ?_
                  refine lv_icmp_lt (tgt := 63) (pc := 58) hx hcb dX1_canBeLaid_58 (by decide) (fun c58 => ?_) (fun c58 => ?_)
                  · have h := h.1 c58
                    refine lv_iinc (v := x2_2 + 1) (lv' := [(2, .int (x2_2 + 1)), (0, .ref (X.2.1 b0)), (1, .int x1_1)]) (pc := 63) hx hcb dX1_canBeLaid_63 hl (k := 2) rfl rfl (by decide) rfl (fun ls hl => ?_)
                    refine lv_goto (tgt := 33) (pc := 66) hx hcb dX1_canBeLaid_66 (by decide) ?_
                    exact ih (x2_2 + 1) _ _ _ h hW (lv_sub hl [1, 2, 0] rfl)
                  · have h := h.2 c58
                    refine lv_iconst (v := 0) (pc := 61) hx hcb dX1_canBeLaid_61 rfl ?_
                    exact hret _ _ _ _ _ _ rfl ⟨h, rfl⟩ hW dX1_canBeLaid_62
            obtain ⟨n, h⟩ := h
            exact hL33 n 0 _ _ _ h hW (lv_sub hl [1, 2, 0] rfl)
      obtain ⟨n, h⟩ := h
      exact hL23 n 0 _ _ _ h hW (lv_sub hl [1, 0] rfl)
    · have h := h.2 c16
      refine lv_iconst (v := 0) (pc := 19) hx hcb dX1_canBeLaid_19 rfl ?_
      exact hret _ _ _ _ _ _ rfl ⟨h, rfl⟩ hW dX1_canBeLaid_20
abbrev rm_X1_clear : Room := { frames := 1, cells := 0, slots := 0, locals := 23 }
set_option maxHeartbeats 4000000 in
set_option maxRecDepth 100000 in
theorem c_X1_clear (l : Launch) (X : KX) (σ : Mm) (b0 : Nat) (hb0 : kFm b0) (Φ : Mm → Prop) (h : wp_X1_clear σ b0 Φ) : Met l yX1_clear (.code yX1_clear cX1_clear 2 none :: kT) rm_X1_clear (va_Pc [.ref (X.2.1 b0)] (kPre kZC X σ)) (va_Qv (fun σ' => Φ σ') (fun σ' t => kPre kZC X σ' t) (kA kZC X)) 0 0 (kA kZC X) := by
  refine kofV (by decide) (Nat.le_of_ble_eq_true rfl) ?_
  intro p e s m args below meth c ls Q hx hcb hml hown hts hS hW hl hret
  have hown : s.vm.findClass RX1 = some m.cls := hown
  have hl : lv_has ls 2 [(0, .ref (X.2.1 b0))] := hl
  unfold wp_X1_clear at h
  refine lv_aload_n (pc := 0) hx hcb dX1_clear_0 rfl (lv_at hl 0 rfl) ?_
  refine lv_iconst (v := 4) (pc := 1) hx hcb dX1_clear_1 rfl ?_
  refine kput (ty := .int) (pc := 2) hx hcb hts hown hS hW iwX1 tyX1 tyX1_ok nmX1 (kO_X1 hb0) rfl 5 (by decide) q115 rfl rfl rfl rfl rfl (Nat.le_of_ble_eq_true rfl) rfl dX1_clear_2 (fun σ1 H locs eσ1 hW => ?_)
  have h := h σ1 eσ1
  refine lv_aload_n (pc := 5) hx hcb dX1_clear_5 rfl (lv_at hl 0 rfl) ?_
  refine lv_iconst (v := 0) (pc := 6) hx hcb dX1_clear_6 rfl ?_
  refine kput (ty := .int) (pc := 7) hx hcb hts hown hS hW iwX1 tyX1 tyX1_ok nmX1 (kO_X1 hb0) rfl 6 (by decide) q116 rfl rfl rfl rfl rfl (Nat.le_of_ble_eq_true rfl) rfl dX1_clear_7 (fun σ2 H locs eσ2 hW => ?_)
  have h := h σ2 eσ2
  refine lv_aload_n (pc := 10) hx hcb dX1_clear_10 rfl (lv_at hl 0 rfl) ?_
  refine lv_iconst (v := 0) (pc := 11) hx hcb dX1_clear_11 rfl ?_
  refine kput (ty := .int) (pc := 12) hx hcb hts hown hS hW iwX1 tyX1 tyX1_ok nmX1 (kO_X1 hb0) rfl 7 (by decide) q117 rfl rfl rfl rfl rfl (Nat.le_of_ble_eq_true rfl) rfl dX1_clear_12 (fun σ3 H locs eσ3 hW => ?_)
  have h := h σ3 eσ3
  refine lv_aload_n (pc := 15) hx hcb dX1_clear_15 rfl (lv_at hl 0 rfl) ?_
  refine lv_iconst (v := 0) (pc := 16) hx hcb dX1_clear_16 rfl ?_
  refine kput (ty := .int) (pc := 17) hx hcb hts hown hS hW iwX1 tyX1 tyX1_ok nmX1 (kO_X1 hb0) rfl 8 (by decide) q118 rfl rfl rfl rfl rfl (Nat.le_of_ble_eq_true rfl) rfl dX1_clear_17 (fun σ4 H locs eσ4 hW => ?_)
  have h := h σ4 eσ4
  refine lv_aload_n (pc := 20) hx hcb dX1_clear_20 rfl (lv_at hl 0 rfl) ?_
  refine lv_iconst (v := 0) (pc := 21) hx hcb dX1_clear_21 rfl ?_
  refine kput (ty := .boolean) (pc := 22) hx hcb hts hown hS hW iwX1 tyX1 tyX1_ok nmX1 (kO_X1 hb0) rfl 9 (by decide) q119 rfl rfl rfl rfl rfl (Nat.le_of_ble_eq_true rfl) rfl dX1_clear_22 (fun σ5 H locs eσ5 hW => ?_)
  have h := h σ5 eσ5
  refine lv_aload_n (pc := 25) hx hcb dX1_clear_25 rfl (lv_at hl 0 rfl) ?_
  refine kget (v := .ref (X.2.1 (b0 + 1))) (pc := 26) hx hcb hts hown hS hW iwX1 (kO_X1 hb0) rfl 0 (by decide) q110 rfl rfl dX1_clear_26 ?_
  refine lv_bipush (v := 99) (pc := 29) hx hcb dX1_clear_29 rfl ?_
  refine kcv (krunS (As := [.ref (X.2.1 (b0 + 1)), .int 99]) (rest := []) (pc := 31) hx hcb hml hown hts hS hW (c_fillI l X σ5 (b0 + 1) 64 99 (kA_X1_0 hb0) (by decide)) mf_J7_fill_53178 q327 ⟨rfl, rfl⟩ ⟨Nat.le_of_ble_eq_true rfl, Nat.le_of_ble_eq_true rfl⟩ rfl hl.1 rfl (Nat.le_of_ble_eq_true rfl) dX1_clear_31 ⟨Nat.zero_le _, Nat.zero_le _⟩) hS hW (fun σ6 H locs eσ6 hW => ?_)
  have h := h σ6 eσ6
  refine lv_iconst (v := 0) (pc := 34) hx hcb dX1_clear_34 rfl ?_
  refine lv_istore_n (lv' := [(1, .int 0), (0, .ref (X.2.1 b0))]) (pc := 35) hx hcb dX1_clear_35 rfl hl (by decide) rfl (fun ls hl => ?_)
  have hL36 : ∀ (n : Nat) (σ7 : Mm) (x1_8 : Int32) (H : Heap) (locs : List Loc) (ls : Array Slot), wp_X1_clear_L36 b0 Φ n σ7 x1_8 → kW kZC X (kA kZC X) s σ7 H locs → lv_has ls 2 [(0, .ref (X.2.1 b0)), (1, .int x1_8)] → W p l e rm_X1_clear s m args below meth c H locs 0 0 Q (F0 m 36 ls []) := by
    intro n
    induction n with
    | zero =>
      intro σ7 x1_8 H locs ls h
      exact False.elim h
    | succ n ih =>
      intro σ7 x1_8 H locs ls h hW hl
      unfold wp_X1_clear_L36 at h
      refine lv_iload_n (pc := 36) hx hcb dX1_clear_36 rfl (lv_at hl 1 rfl) ?_
      refine lv_bipush (v := 8) (pc := 37) hx hcb dX1_clear_37 rfl ?_
      refine lv_icmp_ge (tgt := 60) (pc := 39) hx hcb dX1_clear_39 (by decide) (fun c39 => ?_) (fun c39 => ?_)
      · have h := h.1 c39
        exact hret _ _ _ _ _ h hW dX1_clear_60
      · have h := h.2 c39
        refine lv_aload_n (pc := 42) hx hcb dX1_clear_42 rfl (lv_at hl 0 rfl) ?_
        refine kget (v := .ref (X.2.1 (b0 + 1))) (pc := 43) hx hcb hts hown hS hW iwX1 (kO_X1 hb0) rfl 0 (by decide) q110 rfl rfl dX1_clear_43 ?_
        refine lv_iload_n (pc := 46) hx hcb dX1_clear_46 rfl (lv_at hl 1 rfl) ?_
        refine lv_bipush (v := 8) (pc := 47) hx hcb dX1_clear_47 rfl ?_
        refine lv_imul (pc := 49) hx hcb dX1_clear_49 ?_
        refine lv_iload_n (pc := 50) hx hcb dX1_clear_50 rfl (lv_at hl 1 rfl) ?_
        refine lv_iadd (pc := 51) hx hcb dX1_clear_51 ?_
        refine lv_iconst (v := 0) (pc := 52) hx hcb dX1_clear_52 rfl ?_
        have hin9 := h.1
        have h := h.2
        refine kiast (((x1_8 * 8) + x1_8).toNatClampNeg) (pc := 53) hx hcb hS hW (kA_X1_0 hb0) rfl (kin_of hin9 (by decide)) dX1_clear_53 (fun σ10 H locs eσ10 hW => ?_)
        have h := h σ10 eσ10
        refine lv_iinc (v := x1_8 + 1) (lv' := [(1, .int (x1_8 + 1)), (0, .ref (X.2.1 b0))]) (pc := 54) hx hcb dX1_clear_54 hl (k := 1) rfl rfl (by decide) rfl (fun ls hl => ?_)
        refine lv_goto (tgt := 36) (pc := 57) hx hcb dX1_clear_57 (by decide) ?_
        exact ih σ10 (x1_8 + 1) _ _ _ h hW (lv_sub hl [1, 0] rfl)
  obtain ⟨n, h⟩ := h
  exact hL36 n σ6 0 _ _ _ h hW (lv_sub hl [1, 0] rfl)
abbrev rm_X1_cost : Room := { frames := 0, cells := 0, slots := 0, locals := 0 }
set_option maxHeartbeats 4000000 in
set_option maxRecDepth 100000 in
theorem c_X1_cost (l : Launch) (X : KX) (σ : Mm) (b0 : Nat) (hb0 : kFm b0) (x1 : Int32) (Φ : Int32 → Prop) (h : wp_X1_cost σ b0 x1 Φ) : Met l yX1_cost (.code yX1_cost cX1_cost 2 (some .int) :: kT) rm_X1_cost (va_Pc [.ref (X.2.1 b0), .int x1] (kPre kZC X σ)) (va_Qi (fun r σ' => Φ r ∧ σ = σ') (fun σ' t => kPre kZC X σ' t) (kA kZC X)) 0 0 (kA kZC X) := by
  refine kofI (by decide) (Nat.le_of_ble_eq_true rfl) ?_
  intro p e s m args below meth c ls Q hx hcb hml hown hts hS hW hl hret
  have hown : s.vm.findClass RX1 = some m.cls := hown
  have hl : lv_has ls 2 [(0, .ref (X.2.1 b0)), (1, .int x1)] := hl
  unfold wp_X1_cost at h
  refine lv_iload_n (pc := 0) hx hcb dX1_cost_0 rfl (lv_at hl 1 rfl) ?_
  refine lv_if_lt (tgt := 21) (pc := 1) hx hcb dX1_cost_1 (by decide) (fun c1 => ?_) (fun c1 => ?_)
  · have h := h.1 c1
    refine lv_iconst (v := 0) (pc := 21) hx hcb dX1_cost_21 rfl ?_
    exact hret _ _ _ _ _ _ rfl ⟨h, rfl⟩ hW dX1_cost_22
  · have h := h.2 c1
    refine lv_iload_n (pc := 4) hx hcb dX1_cost_4 rfl (lv_at hl 1 rfl) ?_
    refine lv_aload_n (pc := 5) hx hcb dX1_cost_5 rfl (lv_at hl 0 rfl) ?_
    refine kget (v := .int (σ.1 b0 6)) (pc := 6) hx hcb hts hown hS hW iwX1 (kO_X1 hb0) rfl 6 (by decide) q116 rfl rfl dX1_cost_6 ?_
    refine lv_icmp_ge (tgt := 21) (pc := 9) hx hcb dX1_cost_9 (by decide) (fun c9 => ?_) (fun c9 => ?_)
    · have h := h.1 c9
      refine lv_iconst (v := 0) (pc := 21) hx hcb dX1_cost_21 rfl ?_
      exact hret _ _ _ _ _ _ rfl ⟨h, rfl⟩ hW dX1_cost_22
    · have h := h.2 c9
      refine lv_aload_n (pc := 12) hx hcb dX1_cost_12 rfl (lv_at hl 0 rfl) ?_
      refine kget (v := .ref (X.2.1 (b0 + 3))) (pc := 13) hx hcb hts hown hS hW iwX1 (kO_X1 hb0) rfl 2 (by decide) q112 rfl rfl dX1_cost_13 ?_
      refine lv_iload_n (pc := 16) hx hcb dX1_cost_16 rfl (lv_at hl 1 rfl) ?_
      have hin1 := h.1
      have h := h.2
      refine kiald (x1.toNatClampNeg) (pc := 17) hx hcb hS hW (kA_X1_2 hb0) rfl (kin_of hin1 (by decide)) dX1_cost_17 ?_
      refine lv_goto (tgt := 22) (pc := 18) hx hcb dX1_cost_18 (by decide) ?_
      exact hret _ _ _ _ _ _ rfl ⟨h, rfl⟩ hW dX1_cost_22
abbrev rm_X1_distance : Room := { frames := 0, cells := 0, slots := 0, locals := 0 }
set_option maxHeartbeats 4000000 in
set_option maxRecDepth 100000 in
theorem c_X1_distance (l : Launch) (X : KX) (σ : Mm) (b0 : Nat) (hb0 : kFm b0) (x1 : Int32) (x2 : Int32) (Φ : Int32 → Prop) (h : wp_X1_distance σ b0 x1 x2 Φ) : Met l yX1_distance (.code yX1_distance cX1_distance 3 (some .int) :: kT) rm_X1_distance (va_Pc [.ref (X.2.1 b0), .int x1, .int x2] (kPre kZC X σ)) (va_Qi (fun r σ' => Φ r ∧ σ = σ') (fun σ' t => kPre kZC X σ' t) (kA kZC X)) 0 0 (kA kZC X) := by
  refine kofI (by decide) (Nat.le_of_ble_eq_true rfl) ?_
  intro p e s m args below meth c ls Q hx hcb hml hown hts hS hW hl hret
  have hown : s.vm.findClass RX1 = some m.cls := hown
  have hl : lv_has ls 3 [(0, .ref (X.2.1 b0)), (1, .int x1), (2, .int x2)] := hl
  unfold wp_X1_distance at h
  refine lv_iload_n (pc := 0) hx hcb dX1_distance_0 rfl (lv_at hl 1 rfl) ?_
  refine lv_if_lt (tgt := 20) (pc := 1) hx hcb dX1_distance_1 (by decide) (fun c1 => ?_) (fun c1 => ?_)
  · have h := h.1 c1
    refine lv_bipush (v := 99) (pc := 20) hx hcb dX1_distance_20 rfl ?_
    exact hret _ _ _ _ _ _ rfl ⟨h, rfl⟩ hW dX1_distance_22
  · have h := h.2 c1
    refine lv_iload_n (pc := 4) hx hcb dX1_distance_4 rfl (lv_at hl 1 rfl) ?_
    refine lv_bipush (v := 8) (pc := 5) hx hcb dX1_distance_5 rfl ?_
    refine lv_icmp_ge (tgt := 20) (pc := 7) hx hcb dX1_distance_7 (by decide) (fun c7 => ?_) (fun c7 => ?_)
    · have h := h.1 c7
      refine lv_bipush (v := 99) (pc := 20) hx hcb dX1_distance_20 rfl ?_
      exact hret _ _ _ _ _ _ rfl ⟨h, rfl⟩ hW dX1_distance_22
    · have h := h.2 c7
      refine lv_iload_n (pc := 10) hx hcb dX1_distance_10 rfl (lv_at hl 2 rfl) ?_
      refine lv_if_lt (tgt := 20) (pc := 11) hx hcb dX1_distance_11 (by decide) (fun c11 => ?_) (fun c11 => ?_)
      · have h := h.1 c11
        refine lv_bipush (v := 99) (pc := 20) hx hcb dX1_distance_20 rfl ?_
        exact hret _ _ _ _ _ _ rfl ⟨h, rfl⟩ hW dX1_distance_22
      · have h := h.2 c11
        refine lv_iload_n (pc := 14) hx hcb dX1_distance_14 rfl (lv_at hl 2 rfl) ?_
        refine lv_bipush (v := 8) (pc := 15) hx hcb dX1_distance_15 rfl ?_
        refine lv_icmp_lt (tgt := 23) (pc := 17) hx hcb dX1_distance_17 (by decide) (fun c17 => ?_) (fun c17 => ?_)
        · have h := h.1 c17
          refine lv_aload_n (pc := 23) hx hcb dX1_distance_23 rfl (lv_at hl 0 rfl) ?_
          refine kget (v := .ref (X.2.1 (b0 + 1))) (pc := 24) hx hcb hts hown hS hW iwX1 (kO_X1 hb0) rfl 0 (by decide) q110 rfl rfl dX1_distance_24 ?_
          refine lv_iload_n (pc := 27) hx hcb dX1_distance_27 rfl (lv_at hl 1 rfl) ?_
          refine lv_bipush (v := 8) (pc := 28) hx hcb dX1_distance_28 rfl ?_
          refine lv_imul (pc := 30) hx hcb dX1_distance_30 ?_
          refine lv_iload_n (pc := 31) hx hcb dX1_distance_31 rfl (lv_at hl 2 rfl) ?_
          refine lv_iadd (pc := 32) hx hcb dX1_distance_32 ?_
          have hin1 := h.1
          have h := h.2
          refine kiald (((x1 * 8) + x2).toNatClampNeg) (pc := 33) hx hcb hS hW (kA_X1_0 hb0) rfl (kin_of hin1 (by decide)) dX1_distance_33 ?_
          exact hret _ _ _ _ _ _ rfl ⟨h, rfl⟩ hW dX1_distance_34
        · have h := h.2 c17
          refine lv_bipush (v := 99) (pc := 20) hx hcb dX1_distance_20 rfl ?_
          exact hret _ _ _ _ _ _ rfl ⟨h, rfl⟩ hW dX1_distance_22
