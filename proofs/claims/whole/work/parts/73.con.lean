abbrev rm_X10_calf : Room := { frames := 3, cells := 0, slots := 0, locals := 73 }
set_option maxHeartbeats 4000000 in
set_option maxRecDepth 100000 in
theorem c_X10_calf (l : Launch) (X : KX) (σ : Mm) (x1 : Int32) (x2 : Int32) (Φ : Int32 → Prop) (h : wp_X10_calf σ x1 x2 Φ) : Met l yX10_calf (.code yX10_calf cX10_calf 4 (some .int) :: kT) rm_X10_calf (va_Pc [.ref (X.2.1 0), .int x1, .int x2] (kPre kZC X σ)) (va_Qi (fun r σ' => Φ r ∧ σ = σ') (fun σ' t => kPre kZC X σ' t) (kA kZC X)) 0 0 (kA kZC X) := by
  refine kofI (by decide) (Nat.le_of_ble_eq_true rfl) ?_
  intro p e s m args below meth c ls Q hx hcb hml hown hts hS hW hl hret
  have hown : s.vm.findClass RX10 = some m.cls := hown
  have hl : lv_has ls 4 [(0, .ref (X.2.1 0)), (1, .int x1), (2, .int x2)] := hl
  unfold wp_X10_calf at h
  refine lv_iload_n (pc := 0) hx hcb dX10_calf_0 rfl (lv_at hl 1 rfl) ?_
  refine lv_if_lt (tgt := 18) (pc := 1) hx hcb dX10_calf_1 (by decide) (fun c1 => ?_) (fun c1 => ?_)
  · have h := h.1 c1
    refine lv_iconst (v := (-1)) (pc := 18) hx hcb dX10_calf_18 rfl ?_
    exact hret _ _ _ _ _ _ rfl ⟨h, rfl⟩ hW dX10_calf_19
  · have h := h.2 c1
    refine lv_iload_n (pc := 4) hx hcb dX10_calf_4 rfl (lv_at hl 1 rfl) ?_
    refine lv_sipush (v := 400) (pc := 5) hx hcb dX10_calf_5 rfl ?_
    refine lv_icmp_gt (tgt := 18) (pc := 8) hx hcb dX10_calf_8 (by decide) (fun c8 => ?_) (fun c8 => ?_)
    · have h := h.1 c8
      refine lv_iconst (v := (-1)) (pc := 18) hx hcb dX10_calf_18 rfl ?_
      exact hret _ _ _ _ _ _ rfl ⟨h, rfl⟩ hW dX10_calf_19
    · have h := h.2 c8
      refine lv_iload_n (pc := 11) hx hcb dX10_calf_11 rfl (lv_at hl 2 rfl) ?_
      refine kci (krunS (As := [.int x2]) (rest := []) (pc := 12) hx hcb hml hown hts hS hW (c_X10_isFlag l X σ x2 _ h) mf_X10_isFlag q573 ⟨rfl, rfl⟩ ⟨Nat.le_of_ble_eq_true rfl, Nat.le_of_ble_eq_true rfl⟩ rfl hl.1 rfl (Nat.le_of_ble_eq_true rfl) dX10_calf_12 ⟨Nat.zero_le _, Nat.zero_le _⟩) hS hW (fun r2 σ1 H locs h hW => ?_)
      obtain ⟨h, rfl⟩ := h
      refine lv_if_ne (tgt := 20) (pc := 15) hx hcb dX10_calf_15 (by decide) (fun c15 => ?_) (fun c15 => ?_)
      · have h := h.1 c15
        refine lv_aload_n (pc := 20) hx hcb dX10_calf_20 rfl (lv_at hl 0 rfl) ?_
        have hd3 : kFm (σ.2.2 0) := hW.2.2.1
        refine kget (v := .ref (X.2.1 (σ.2.2 0))) (pc := 21) hx hcb hts hown hS hW iwX10 kOC_0 rfl 2 (by decide) q423 rfl rfl dX10_calf_21 ?_
        refine lv_aload_n (pc := 24) hx hcb dX10_calf_24 rfl (lv_at hl 0 rfl) ?_
        refine kget (v := .ref (X.2.1 16)) (pc := 25) hx hcb hts hown hS hW iwX10 kOC_0 rfl 4 (by decide) q425 rfl rfl dX10_calf_25 ?_
        refine kgetN (v := .int (σ.1 16 1)) (pc := 28) hx hcb hts hown hS hW iwX3 kOC_16 rfl 1 (by decide) q157 rfl rfl dX10_calf_28 ?_
        refine lv_aload_n (pc := 31) hx hcb dX10_calf_31 rfl (lv_at hl 0 rfl) ?_
        refine kget (v := .ref (X.2.1 16)) (pc := 32) hx hcb hts hown hS hW iwX10 kOC_0 rfl 4 (by decide) q425 rfl rfl dX10_calf_32 ?_
        refine kgetN (v := .int (σ.1 16 0)) (pc := 35) hx hcb hts hown hS hW iwX3 kOC_16 rfl 0 (by decide) q152 rfl rfl dX10_calf_35 ?_
        refine lv_iload_n (pc := 38) hx hcb dX10_calf_38 rfl (lv_at hl 1 rfl) ?_
        refine kci (krunV (As := [.int (σ.1 16 1), .int (σ.1 16 0), .int x1]) (rest := []) (pc := 39) hx hcb hml hown hts hS hW (c_X1_unfed l X σ (σ.2.2 0) hd3 (σ.1 16 1) (σ.1 16 0) x1 _ h) mf_X1_unfed q539 (kO_X1 hd3) rfl ⟨rfl, rfl⟩ ⟨Nat.le_of_ble_eq_true rfl, Nat.le_of_ble_eq_true rfl⟩ rfl hl.1 rfl (Nat.le_of_ble_eq_true rfl) dX10_calf_39 ⟨Nat.zero_le _, Nat.zero_le _⟩) hS hW (fun r5 σ4 H locs h hW => ?_)
        obtain ⟨h, rfl⟩ := h
        refine lv_istore_n (lv' := [(3, .int r5), (0, .ref (X.2.1 0)), (1, .int x1), (2, .int x2)]) (pc := 42) hx hcb dX10_calf_42 rfl hl (by decide) rfl (fun ls hl => ?_)
        refine lv_iload_n (pc := 43) hx hcb dX10_calf_43 rfl (lv_at hl 3 rfl) ?_
        refine lv_if_ne (tgt := 54) (pc := 44) hx hcb dX10_calf_44 (by decide) (fun c44 => ?_) (fun c44 => ?_)
        · have h := h.1 c44
          refine lv_iload_n (pc := 54) hx hcb dX10_calf_54 rfl (lv_at hl 0 rfl) ?_
          refine kci (krunS (As := [.int r5]) (rest := []) (pc := 55) hx hcb hml hown hts hS hW (c_X10_followedIn l X σ r5 _ h) mf_X10_followedIn q576 ⟨rfl, rfl⟩ ⟨Nat.le_of_ble_eq_true rfl, Nat.le_of_ble_eq_true rfl⟩ rfl hl.1 rfl (Nat.le_of_ble_eq_true rfl) dX10_calf_55 ⟨Nat.zero_le _, Nat.zero_le _⟩) hS hW (fun r7 σ6 H locs h hW => ?_)
          obtain ⟨h, rfl⟩ := h
          refine kci (krunS (As := [.int r7]) (rest := []) (pc := 58) hx hcb hml hown hts hS hW (c_X10_orNone l X σ r7 _ h) mf_X10_orNone q577 ⟨rfl, rfl⟩ ⟨Nat.le_of_ble_eq_true rfl, Nat.le_of_ble_eq_true rfl⟩ rfl hl.1 rfl (Nat.le_of_ble_eq_true rfl) dX10_calf_58 ⟨Nat.zero_le _, Nat.zero_le _⟩) hS hW (fun r9 σ8 H locs h hW => ?_)
          obtain ⟨h, rfl⟩ := h
          exact hret _ _ _ _ _ _ rfl ⟨h, rfl⟩ hW dX10_calf_61
        · have h := h.2 c44
          refine lv_iload_n (pc := 47) hx hcb dX10_calf_47 rfl (lv_at hl 0 rfl) ?_
          refine kci (krunS (As := [.int r5]) (rest := []) (pc := 48) hx hcb hml hown hts hS hW (c_X10_yardOf l X σ r5 _ h) mf_X10_yardOf q533 ⟨rfl, rfl⟩ ⟨Nat.le_of_ble_eq_true rfl, Nat.le_of_ble_eq_true rfl⟩ rfl hl.1 rfl (Nat.le_of_ble_eq_true rfl) dX10_calf_48 ⟨Nat.zero_le _, Nat.zero_le _⟩) hS hW (fun r11 σ10 H locs h hW => ?_)
          obtain ⟨h, rfl⟩ := h
          refine lv_goto (tgt := 61) (pc := 51) hx hcb dX10_calf_51 (by decide) ?_
          exact hret _ _ _ _ _ _ rfl ⟨h, rfl⟩ hW dX10_calf_61
      · have h := h.2 c15
        refine lv_iconst (v := (-1)) (pc := 18) hx hcb dX10_calf_18 rfl ?_
        exact hret _ _ _ _ _ _ rfl ⟨h, rfl⟩ hW dX10_calf_19
abbrev rm_X10_commonDivisor : Room := { frames := 0, cells := 0, slots := 0, locals := 0 }
set_option maxHeartbeats 4000000 in
set_option maxRecDepth 100000 in
theorem c_X10_commonDivisor (l : Launch) (X : KX) (σ : Mm) (x0 : Int64) (x2 : Int64) (Φ : Int64 → Prop) (h : wp_X10_commonDivisor x0 x2 Φ) : Met l yX10_commonDivisor (.code yX10_commonDivisor cX10_commonDivisor 11 (some .long) :: kT) rm_X10_commonDivisor (va_Pc [.long x0, .long x2] (kPre kZC X σ)) (va_Ql (fun r σ' => Φ r ∧ σ = σ') (fun σ' t => kPre kZC X σ' t) (kA kZC X)) 0 0 (kA kZC X) := by
  refine kofL (by decide) (Nat.le_of_ble_eq_true rfl) ?_
  intro p e s m args below meth c ls Q hx hcb hml hown hts hS hW hl hret
  have hown : s.vm.findClass RX10 = some m.cls := hown
  have hl : lv_has ls 11 [(0, .long x0), (2, .long x2)] := hl
  unfold wp_X10_commonDivisor at h
  refine lv_lload_n (pc := 0) hx hcb dX10_commonDivisor_0 rfl (lv_at hl 0 rfl) ?_
  refine lv_lstore (lv' := [(4, .long x0), (0, .long x0), (2, .long x2)]) (pc := 1) hx hcb dX10_commonDivisor_1 hl (by decide) rfl (fun ls hl => ?_)
  refine lv_lload_n (pc := 3) hx hcb dX10_commonDivisor_3 rfl (lv_at hl 2 rfl) ?_
  refine lv_lstore (lv' := [(6, .long x2), (4, .long x0), (0, .long x0), (2, .long x2)]) (pc := 4) hx hcb dX10_commonDivisor_4 hl (by decide) rfl (fun ls hl => ?_)
  refine lv_iconst (v := 0) (pc := 6) hx hcb dX10_commonDivisor_6 rfl ?_
  refine lv_istore (lv' := [(8, .int 0), (6, .long x2), (4, .long x0), (0, .long x0), (2, .long x2)]) (pc := 7) hx hcb dX10_commonDivisor_7 hl (by decide) rfl (fun ls hl => ?_)
  have hL9 : ∀ (n : Nat) (x4_1 : Int64) (x6_2 : Int64) (x8_3 : Int32) (H : Heap) (locs : List Loc) (ls : Array Slot), wp_X10_commonDivisor_L9 Φ n x4_1 x6_2 x8_3 → kW kZC X (kA kZC X) s σ H locs → lv_has ls 11 [(4, .long x4_1), (6, .long x6_2), (8, .int x8_3)] → W p l e rm_X10_commonDivisor s m args below meth c H locs 0 0 Q (F0 m 9 ls []) := by
    intro n
    induction n with
    | zero =>
      intro x4_1 x6_2 x8_3 H locs ls h
      exact False.elim h
    | succ n ih =>
      intro x4_1 x6_2 x8_3 H locs ls h hW hl
      unfold wp_X10_commonDivisor_L9 at h
      refine lv_iload (pc := 9) hx hcb dX10_commonDivisor_9 (lv_at hl 2 rfl) ?_
      refine lv_sipush (v := 200) (pc := 11) hx hcb dX10_commonDivisor_11 rfl ?_
      refine lv_icmp_ge (tgt := 45) (pc := 14) hx hcb dX10_commonDivisor_14 (by decide) (fun c14 => ?_) (fun c14 => ?_)
      · have h := h.1 c14
        refine lv_lload (pc := 45) hx hcb dX10_commonDivisor_45 (lv_at hl 0 rfl) ?_
        exact hret _ _ _ _ _ _ ⟨h, rfl⟩ hW dX10_commonDivisor_47
      · have h := h.2 c14
        refine lv_lload (pc := 17) hx hcb dX10_commonDivisor_17 (lv_at hl 1 rfl) ?_
        refine lv_lconst (v := 0) (pc := 19) hx hcb dX10_commonDivisor_19 rfl ?_
        refine W.lcmp (pc := 20) hx hcb dX10_commonDivisor_20 ?_
        refine lv_if_eq (tgt := 45) (pc := 21) hx hcb dX10_commonDivisor_21 (by decide) (fun c21 => ?_) (fun c21 => ?_)
        · have h := h.1 c21
          refine lv_lload (pc := 45) hx hcb dX10_commonDivisor_45 (lv_at hl 0 rfl) ?_
          exact hret _ _ _ _ _ _ ⟨h, rfl⟩ hW dX10_commonDivisor_47
        · have h := h.2 c21
          refine lv_lload (pc := 24) hx hcb dX10_commonDivisor_24 (lv_at hl 0 rfl) ?_
          refine lv_lload (pc := 26) hx hcb dX10_commonDivisor_26 (lv_at hl 1 rfl) ?_
          have hne28 := h.1
          have h := h.2
          refine lv_lrem (pc := 28) hx hcb dX10_commonDivisor_28 hne28 ?_
          refine lv_topl (fun x9_4 ex9_4 => ?_)
          have h := h x9_4 ex9_4
          refine lv_lstore (lv' := [(9, .long x9_4), (4, .long x4_1), (6, .long x6_2), (8, .int x8_3)]) (pc := 29) hx hcb dX10_commonDivisor_29 hl (by decide) rfl (fun ls hl => ?_)
          refine lv_lload (pc := 31) hx hcb dX10_commonDivisor_31 (lv_at hl 2 rfl) ?_
          refine lv_lstore (lv' := [(4, .long x6_2), (9, .long x9_4), (6, .long x6_2), (8, .int x8_3)]) (pc := 33) hx hcb dX10_commonDivisor_33 hl (by decide) rfl (fun ls hl => ?_)
          refine lv_lload (pc := 35) hx hcb dX10_commonDivisor_35 (lv_at hl 1 rfl) ?_
          refine lv_lstore (lv' := [(6, .long x9_4), (4, .long x6_2), (9, .long x9_4), (8, .int x8_3)]) (pc := 37) hx hcb dX10_commonDivisor_37 hl (by decide) rfl (fun ls hl => ?_)
          refine lv_iinc (v := x8_3 + 1) (lv' := [(8, .int (x8_3 + 1)), (6, .long x9_4), (4, .long x6_2), (9, .long x9_4)]) (pc := 39) hx hcb dX10_commonDivisor_39 hl (k := 3) rfl rfl (by decide) rfl (fun ls hl => ?_)
          refine lv_goto (tgt := 9) (pc := 42) hx hcb dX10_commonDivisor_42 (by decide) ?_
          exact ih x6_2 x9_4 (x8_3 + 1) _ _ _ h hW (lv_sub hl [2, 1, 0] rfl)
  obtain ⟨n, h⟩ := h
  exact hL9 n x0 x2 0 _ _ _ h hW (lv_sub hl [2, 1, 0] rfl)
abbrev rm_X10_chance : Room := { frames := 5, cells := 0, slots := 0, locals := 125 }
set_option maxHeartbeats 4000000 in
set_option maxRecDepth 100000 in
theorem c_X10_chance (l : Launch) (X : KX) (σ : Mm) (x1 : Int32) (x2 : Int32) (x3 : Int32) (Φ : Int64 → Mm → Prop) (h : wp_X10_chance σ x1 x2 x3 Φ) : Met l yX10_chance (.code yX10_chance cX10_chance 10 (some .long) :: kT) rm_X10_chance (va_Pc [.ref (X.2.1 0), .int x1, .int x2, .int x3] (kPre kZC X σ)) (va_Ql (fun r σ' => Φ r σ') (fun σ' t => kPre kZC X σ' t) (kA kZC X)) 0 0 (kA kZC X) := by
  refine kofL (by decide) (Nat.le_of_ble_eq_true rfl) ?_
  intro p e s m args below meth c ls Q hx hcb hml hown hts hS hW hl hret
  have hown : s.vm.findClass RX10 = some m.cls := hown
  have hl : lv_has ls 10 [(0, .ref (X.2.1 0)), (1, .int x1), (2, .int x2), (3, .int x3)] := hl
  unfold wp_X10_chance at h
  refine lv_aload_n (pc := 0) hx hcb dX10_chance_0 rfl (lv_at hl 0 rfl) ?_
  have hd1 : kFm (σ.2.2 0) := hW.2.2.1
  refine kget (v := .ref (X.2.1 (σ.2.2 0))) (pc := 1) hx hcb hts hown hS hW iwX10 kOC_0 rfl 2 (by decide) q423 rfl rfl dX10_chance_1 ?_
  refine lv_iload_n (pc := 4) hx hcb dX10_chance_4 rfl (lv_at hl 1 rfl) ?_
  refine kci (krunV (As := [.int x1]) (rest := []) (pc := 5) hx hcb hml hown hts hS hW (c_X1_hasYard l X σ (σ.2.2 0) hd1 x1 _ h) mf_X1_hasYard q492 (kO_X1 hd1) rfl ⟨rfl, rfl⟩ ⟨Nat.le_of_ble_eq_true rfl, Nat.le_of_ble_eq_true rfl⟩ rfl hl.1 rfl (Nat.le_of_ble_eq_true rfl) dX10_chance_5 ⟨Nat.zero_le _, Nat.zero_le _⟩) hS hW (fun r3 σ2 H locs h hW => ?_)
  obtain ⟨h, rfl⟩ := h
  refine lv_if_eq (tgt := 28) (pc := 8) hx hcb dX10_chance_8 (by decide) (fun c8 => ?_) (fun c8 => ?_)
  · have h := h.1 c8
    refine kldc2 (v := (-1)) (pc := 28) hx hcb hown hts q803 dX10_chance_28 ?_
    exact hret _ _ _ _ _ _ h hW dX10_chance_31
  · have h := h.2 c8
    refine lv_iload_n (pc := 11) hx hcb dX10_chance_11 rfl (lv_at hl 2 rfl) ?_
    refine lv_if_lt (tgt := 28) (pc := 12) hx hcb dX10_chance_12 (by decide) (fun c12 => ?_) (fun c12 => ?_)
    · have h := h.1 c12
      refine kldc2 (v := (-1)) (pc := 28) hx hcb hown hts q803 dX10_chance_28 ?_
      exact hret _ _ _ _ _ _ h hW dX10_chance_31
    · have h := h.2 c12
      refine lv_iload_n (pc := 15) hx hcb dX10_chance_15 rfl (lv_at hl 2 rfl) ?_
      refine lv_bipush (v := 6) (pc := 16) hx hcb dX10_chance_16 rfl ?_
      refine lv_icmp_gt (tgt := 28) (pc := 18) hx hcb dX10_chance_18 (by decide) (fun c18 => ?_) (fun c18 => ?_)
      · have h := h.1 c18
        refine kldc2 (v := (-1)) (pc := 28) hx hcb hown hts q803 dX10_chance_28 ?_
        exact hret _ _ _ _ _ _ h hW dX10_chance_31
      · have h := h.2 c18
        refine lv_iload_n (pc := 21) hx hcb dX10_chance_21 rfl (lv_at hl 3 rfl) ?_
        refine kci (krunS (As := [.int x3]) (rest := []) (pc := 22) hx hcb hml hown hts hS hW (c_X10_isFlag l X σ x3 _ h) mf_X10_isFlag q573 ⟨rfl, rfl⟩ ⟨Nat.le_of_ble_eq_true rfl, Nat.le_of_ble_eq_true rfl⟩ rfl hl.1 rfl (Nat.le_of_ble_eq_true rfl) dX10_chance_22 ⟨Nat.zero_le _, Nat.zero_le _⟩) hS hW (fun r5 σ4 H locs h hW => ?_)
        obtain ⟨h, rfl⟩ := h
        refine lv_if_ne (tgt := 32) (pc := 25) hx hcb dX10_chance_25 (by decide) (fun c25 => ?_) (fun c25 => ?_)
        · have h := h.1 c25
          refine lv_aload_n (pc := 32) hx hcb dX10_chance_32 rfl (lv_at hl 0 rfl) ?_
          refine kget (v := .ref (X.2.1 31)) (pc := 33) hx hcb hts hown hS hW iwX10 kOC_0 rfl 9 (by decide) q430 rfl rfl dX10_chance_33 ?_
          refine lv_aload_n (pc := 36) hx hcb dX10_chance_36 rfl (lv_at hl 0 rfl) ?_
          have hd6 : kFm (σ.2.2 0) := hW.2.2.1
          refine kget (v := .ref (X.2.1 (σ.2.2 0))) (pc := 37) hx hcb hts hown hS hW iwX10 kOC_0 rfl 2 (by decide) q423 rfl rfl dX10_chance_37 ?_
          refine lv_aload_n (pc := 40) hx hcb dX10_chance_40 rfl (lv_at hl 0 rfl) ?_
          refine kget (v := .ref (X.2.1 16)) (pc := 41) hx hcb hts hown hS hW iwX10 kOC_0 rfl 4 (by decide) q425 rfl rfl dX10_chance_41 ?_
          refine lv_iload_n (pc := 44) hx hcb dX10_chance_44 rfl (lv_at hl 2 rfl) ?_
          refine lv_iload_n (pc := 45) hx hcb dX10_chance_45 rfl (lv_at hl 1 rfl) ?_
          refine kcl (krunV (As := [.ref (X.2.1 (σ.2.2 0)), .ref (X.2.1 16), .int x2, .int x1]) (rest := []) (pc := 46) hx hcb hml hown hts hS hW (c_X7_weight l X σ (σ.2.2 0) hd6 x2 x1 _ h) mf_X7_weight q804 kOC_31 rfl ⟨rfl, rfl⟩ ⟨Nat.le_of_ble_eq_true rfl, Nat.le_of_ble_eq_true rfl⟩ rfl hl.1 rfl (Nat.le_of_ble_eq_true rfl) dX10_chance_46 ⟨Nat.zero_le _, Nat.zero_le _⟩) hS hW (fun r8 σ7 H locs h hW => ?_)
          refine lv_lstore (lv' := [(4, .long r8), (0, .ref (X.2.1 0)), (1, .int x1), (2, .int x2), (3, .int x3)]) (pc := 49) hx hcb dX10_chance_49 hl (by decide) rfl (fun ls hl => ?_)
          refine lv_lconst (v := 1) (pc := 51) hx hcb dX10_chance_51 rfl ?_
          refine lv_lstore (lv' := [(6, .long 1), (4, .long r8), (0, .ref (X.2.1 0)), (1, .int x1), (2, .int x2), (3, .int x3)]) (pc := 52) hx hcb dX10_chance_52 hl (by decide) rfl (fun ls hl => ?_)
          refine lv_iconst (v := 0) (pc := 54) hx hcb dX10_chance_54 rfl ?_
          refine lv_istore (lv' := [(8, .int 0), (6, .long 1), (4, .long r8), (0, .ref (X.2.1 0)), (1, .int x1), (2, .int x2), (3, .int x3)]) (pc := 55) hx hcb dX10_chance_55 hl (by decide) rfl (fun ls hl => ?_)
          obtain ⟨K77, hk77, h⟩ := h
          have hK77 : ∀ (x6_9 : Int64) (H : Heap) (locs : List Loc) (ls : Array Slot), K77 x6_9 → kW kZC X (kA kZC X) s σ7 H locs → lv_has ls 10 [(3, .int x3), (4, .long r8), (6, .long x6_9)] → W p l e rm_X10_chance s m args below meth c H locs 0 0 Q (F0 m 77 ls []) := by
            intro x6_9 H locs ls h hW hl
            have h := hk77 x6_9 h
            refine lv_lload (pc := 77) hx hcb dX10_chance_77 (lv_at hl 2 rfl) ?_
            refine lv_lload (pc := 79) hx hcb dX10_chance_79 (lv_at hl 1 rfl) ?_
            refine kcl (krunS (As := [.long x6_9, .long r8]) (rest := []) (pc := 81) hx hcb hml hown hts hS hW (c_X10_commonDivisor l X σ7 x6_9 r8 _ h) mf_X10_commonDivisor q809 ⟨rfl, rfl⟩ ⟨Nat.le_of_ble_eq_true rfl, Nat.le_of_ble_eq_true rfl⟩ rfl hl.1 rfl (Nat.le_of_ble_eq_true rfl) dX10_chance_81 ⟨Nat.zero_le _, Nat.zero_le _⟩) hS hW (fun r11 σ10 H locs h hW => ?_)
            obtain ⟨h, rfl⟩ := h
            refine lv_lstore (lv' := [(8, .long r11), (3, .int x3), (4, .long r8), (6, .long x6_9)]) (pc := 84) hx hcb dX10_chance_84 hl (by decide) rfl (fun ls hl => ?_)
            refine lv_lload (pc := 86) hx hcb dX10_chance_86 (lv_at hl 0 rfl) ?_
            refine lv_lconst (v := 1) (pc := 88) hx hcb dX10_chance_88 rfl ?_
            refine W.lcmp (pc := 89) hx hcb dX10_chance_89 ?_
            refine lv_if_ge (tgt := 105) (pc := 90) hx hcb dX10_chance_90 (by decide) (fun c90 => ?_) (fun c90 => ?_)
            · have h := h.1 c90
              refine lv_iload_n (pc := 105) hx hcb dX10_chance_105 rfl (lv_at hl 1 rfl) ?_
              refine lv_if_ne (tgt := 117) (pc := 106) hx hcb dX10_chance_106 (by decide) (fun c106 => ?_) (fun c106 => ?_)
              · have h := h.1 c106
                refine lv_lload (pc := 117) hx hcb dX10_chance_117 (lv_at hl 3 rfl) ?_
                refine lv_lload (pc := 119) hx hcb dX10_chance_119 (lv_at hl 0 rfl) ?_
                have hne121 := h.1
                have h := h.2
                refine lv_ldiv (pc := 121) hx hcb dX10_chance_121 hne121 ?_
                exact hret _ _ _ _ _ _ h hW dX10_chance_122
              · have h := h.2 c106
                refine lv_lload (pc := 109) hx hcb dX10_chance_109 (lv_at hl 2 rfl) ?_
                refine lv_lload (pc := 111) hx hcb dX10_chance_111 (lv_at hl 0 rfl) ?_
                have hne113 := h.1
                have h := h.2
                refine lv_ldiv (pc := 113) hx hcb dX10_chance_113 hne113 ?_
                refine lv_goto (tgt := 122) (pc := 114) hx hcb dX10_chance_114 (by decide) ?_
                exact hret _ _ _ _ _ _ h hW dX10_chance_122
            · have h := h.2 c90
              refine lv_iload_n (pc := 93) hx hcb dX10_chance_93 rfl (lv_at hl 1 rfl) ?_
              refine lv_if_ne (tgt := 102) (pc := 94) hx hcb dX10_chance_94 (by decide) (fun c94 => ?_) (fun c94 => ?_)
              · have h := h.1 c94
                refine lv_lload (pc := 102) hx hcb dX10_chance_102 (lv_at hl 3 rfl) ?_
                exact hret _ _ _ _ _ _ h hW dX10_chance_104
              · have h := h.2 c94
                refine lv_lload (pc := 97) hx hcb dX10_chance_97 (lv_at hl 2 rfl) ?_
                refine lv_goto (tgt := 104) (pc := 99) hx hcb dX10_chance_99 (by decide) ?_
                exact hret _ _ _ _ _ _ h hW dX10_chance_104
          have hL57 : ∀ (n : Nat) (x6_12 : Int64) (x8_13 : Int32) (H : Heap) (locs : List Loc) (ls : Array Slot), wp_X10_chance_L57 x2 K77 n x6_12 x8_13 → kW kZC X (kA kZC X) s σ7 H locs → lv_has ls 10 [(2, .int x2), (3, .int x3), (4, .long r8), (6, .long x6_12), (8, .int x8_13)] → W p l e rm_X10_chance s m args below meth c H locs 0 0 Q (F0 m 57 ls []) := by
            intro n
            induction n with
            | zero =>
              intro x6_12 x8_13 H locs ls h
              exact False.elim h
            | succ n ih =>
              intro x6_12 x8_13 H locs ls h hW hl
              unfold wp_X10_chance_L57 at h
              refine lv_iload (pc := 57) hx hcb dX10_chance_57 (lv_at hl 4 rfl) ?_
              refine lv_iload_n (pc := 59) hx hcb dX10_chance_59 rfl (lv_at hl 0 rfl) ?_
              refine lv_icmp_ge (tgt := 77) (pc := 60) hx hcb dX10_chance_60 (by decide) (fun c60 => ?_) (fun c60 => ?_)
              · have h := h.1 c60
                exact hK77 x6_12 _ _ _ h hW (lv_sub hl [1, 2, 3] rfl)
              · have h := h.2 c60
                refine lv_lload (pc := 63) hx hcb dX10_chance_63 (lv_at hl 3 rfl) ?_
                refine kldc2 (v := 120) (pc := 65) hx hcb hown hts q808 dX10_chance_65 ?_
                refine lv_lmul (pc := 68) hx hcb dX10_chance_68 ?_
                refine lv_topl (fun x6_14 ex6_14 => ?_)
                have h := h x6_14 ex6_14
                refine lv_lstore (lv' := [(6, .long x6_14), (2, .int x2), (3, .int x3), (4, .long r8), (8, .int x8_13)]) (pc := 69) hx hcb dX10_chance_69 hl (by decide) rfl (fun ls hl => ?_)
                refine lv_iinc (v := x8_13 + 1) (lv' := [(8, .int (x8_13 + 1)), (6, .long x6_14), (2, .int x2), (3, .int x3), (4, .long r8)]) (pc := 71) hx hcb dX10_chance_71 hl (k := 4) rfl rfl (by decide) rfl (fun ls hl => ?_)
                refine lv_goto (tgt := 57) (pc := 74) hx hcb dX10_chance_74 (by decide) ?_
                exact ih x6_14 (x8_13 + 1) _ _ _ h hW (lv_sub hl [2, 3, 4, 1, 0] rfl)
          obtain ⟨n, h⟩ := h
          exact hL57 n 1 0 _ _ _ h hW (lv_sub hl [5, 6, 2, 1, 0] rfl)
        · have h := h.2 c25
          refine kldc2 (v := (-1)) (pc := 28) hx hcb hown hts q803 dX10_chance_28 ?_
          exact hret _ _ _ _ _ _ h hW dX10_chance_31
abbrev rm_X10_count : Room := { frames := 1, cells := 0, slots := 0, locals := 20 }
set_option maxHeartbeats 4000000 in
set_option maxRecDepth 100000 in
theorem c_X10_count (l : Launch) (X : KX) (σ : Mm) (x1 : Int32) (Φ : Int32 → Prop) (h : wp_X10_count σ x1 Φ) : Met l yX10_count (.code yX10_count cX10_count 2 (some .int) :: kT) rm_X10_count (va_Pc [.ref (X.2.1 0), .int x1] (kPre kZC X σ)) (va_Qi (fun r σ' => Φ r ∧ σ = σ') (fun σ' t => kPre kZC X σ' t) (kA kZC X)) 0 0 (kA kZC X) := by
  refine kofI (by decide) (Nat.le_of_ble_eq_true rfl) ?_
  intro p e s m args below meth c ls Q hx hcb hml hown hts hS hW hl hret
  have hown : s.vm.findClass RX10 = some m.cls := hown
  have hl : lv_has ls 2 [(0, .ref (X.2.1 0)), (1, .int x1)] := hl
  unfold wp_X10_count at h
  refine lv_iload_n (pc := 0) hx hcb dX10_count_0 rfl (lv_at hl 1 rfl) ?_
  refine lv_topi (fun w1 ew1 => ?_)
  have h := h w1 ew1
  by_cases hsw : w1.toInt < 0 ∨ 7 < w1.toInt
  · have h := h.2.2.2.2.2.2.2.2 hsw
    refine lv_tableOut (tgt := 112) (pc := 1) hx hcb dX10_count_1 hsw (by decide) ?_
    refine lv_iconst (v := (-1)) (pc := 112) hx hcb dX10_count_112 rfl ?_
    exact hret _ _ _ _ _ _ rfl ⟨h, rfl⟩ hW dX10_count_113
  · have hcs : w1.toInt = 0 ∨ w1.toInt = 1 ∨ w1.toInt = 2 ∨ w1.toInt = 3 ∨ w1.toInt = 4 ∨ w1.toInt = 5 ∨ w1.toInt = 6 ∨ w1.toInt = 7 := by omega
    rcases hcs with csw | csw | csw | csw | csw | csw | csw | csw
    · have h := h.1 (ksw csw rfl)
      refine lv_tableIn (off := 47) (tgt := 48) (pc := 1) hx hcb dX10_count_1 (fun q => hsw (Or.inl q)) (fun q => hsw (Or.inr q)) (by rw [csw]; rfl) (by decide) ?_
      refine lv_aload_n (pc := 48) hx hcb dX10_count_48 rfl (lv_at hl 0 rfl) ?_
      have hd2 : kFm (σ.2.2 0) := hW.2.2.1
      refine kget (v := .ref (X.2.1 (σ.2.2 0))) (pc := 49) hx hcb hts hown hS hW iwX10 kOC_0 rfl 2 (by decide) q423 rfl rfl dX10_count_49 ?_
      refine kci (krunV (As := []) (rest := []) (pc := 52) hx hcb hml hown hts hS hW (c_X1_yards l X σ (σ.2.2 0) hd2 _ h) mf_X1_yards q838 (kO_X1 hd2) rfl ⟨rfl, rfl⟩ ⟨Nat.le_of_ble_eq_true rfl, Nat.le_of_ble_eq_true rfl⟩ rfl hl.1 rfl (Nat.le_of_ble_eq_true rfl) dX10_count_52 ⟨Nat.zero_le _, Nat.zero_le _⟩) hS hW (fun r4 σ3 H locs h hW => ?_)
      obtain ⟨h, rfl⟩ := h
      exact hret _ _ _ _ _ _ rfl ⟨h, rfl⟩ hW dX10_count_55
    · have h := h.2.1 (ksw csw rfl)
      refine lv_tableIn (off := 55) (tgt := 56) (pc := 1) hx hcb dX10_count_1 (fun q => hsw (Or.inl q)) (fun q => hsw (Or.inr q)) (by rw [csw]; rfl) (by decide) ?_
      refine lv_aload_n (pc := 56) hx hcb dX10_count_56 rfl (lv_at hl 0 rfl) ?_
      have hd5 : kFm (σ.2.2 0) := hW.2.2.1
      refine kget (v := .ref (X.2.1 (σ.2.2 0))) (pc := 57) hx hcb hts hown hS hW iwX10 kOC_0 rfl 2 (by decide) q423 rfl rfl dX10_count_57 ?_
      refine kci (krunV (As := []) (rest := []) (pc := 60) hx hcb hml hown hts hS hW (c_X1_persons l X σ (σ.2.2 0) hd5 _ h) mf_X1_persons q484 (kO_X1 hd5) rfl ⟨rfl, rfl⟩ ⟨Nat.le_of_ble_eq_true rfl, Nat.le_of_ble_eq_true rfl⟩ rfl hl.1 rfl (Nat.le_of_ble_eq_true rfl) dX10_count_60 ⟨Nat.zero_le _, Nat.zero_le _⟩) hS hW (fun r7 σ6 H locs h hW => ?_)
      obtain ⟨h, rfl⟩ := h
      exact hret _ _ _ _ _ _ rfl ⟨h, rfl⟩ hW dX10_count_63
    · have h := h.2.2.1 (ksw csw rfl)
      refine lv_tableIn (off := 63) (tgt := 64) (pc := 1) hx hcb dX10_count_1 (fun q => hsw (Or.inl q)) (fun q => hsw (Or.inr q)) (by rw [csw]; rfl) (by decide) ?_
      refine lv_aload_n (pc := 64) hx hcb dX10_count_64 rfl (lv_at hl 0 rfl) ?_
      refine kget (v := .ref (X.2.1 16)) (pc := 65) hx hcb hts hown hS hW iwX10 kOC_0 rfl 4 (by decide) q425 rfl rfl dX10_count_65 ?_
      refine kgetN (v := .int (σ.1 16 0)) (pc := 68) hx hcb hts hown hS hW iwX3 kOC_16 rfl 0 (by decide) q152 rfl rfl dX10_count_68 ?_
      exact hret _ _ _ _ _ _ rfl ⟨h, rfl⟩ hW dX10_count_71
    · have h := h.2.2.2.1 (ksw csw rfl)
      refine lv_tableIn (off := 71) (tgt := 72) (pc := 1) hx hcb dX10_count_1 (fun q => hsw (Or.inl q)) (fun q => hsw (Or.inr q)) (by rw [csw]; rfl) (by decide) ?_
      refine lv_aload_n (pc := 72) hx hcb dX10_count_72 rfl (lv_at hl 0 rfl) ?_
      refine kget (v := .ref (X.2.1 25)) (pc := 73) hx hcb hts hown hS hW iwX10 kOC_0 rfl 7 (by decide) q428 rfl rfl dX10_count_73 ?_
      refine kci (krunV (As := []) (rest := []) (pc := 76) hx hcb hml hown hts hS hW (c_X9_size l X σ 25 (Or.inl rfl : kTd 25) _ h) mf_X9_size q842 (kO_X9 (Or.inl rfl : kTd 25)) rfl ⟨rfl, rfl⟩ ⟨Nat.le_of_ble_eq_true rfl, Nat.le_of_ble_eq_true rfl⟩ rfl hl.1 rfl (Nat.le_of_ble_eq_true rfl) dX10_count_76 ⟨Nat.zero_le _, Nat.zero_le _⟩) hS hW (fun r9 σ8 H locs h hW => ?_)
      obtain ⟨h, rfl⟩ := h
      exact hret _ _ _ _ _ _ rfl ⟨h, rfl⟩ hW dX10_count_79
    · have h := h.2.2.2.2.1 (ksw csw rfl)
      refine lv_tableIn (off := 79) (tgt := 80) (pc := 1) hx hcb dX10_count_1 (fun q => hsw (Or.inl q)) (fun q => hsw (Or.inr q)) (by rw [csw]; rfl) (by decide) ?_
      refine lv_aload_n (pc := 80) hx hcb dX10_count_80 rfl (lv_at hl 0 rfl) ?_
      refine kget (v := .ref (X.2.1 28)) (pc := 81) hx hcb hts hown hS hW iwX10 kOC_0 rfl 8 (by decide) q429 rfl rfl dX10_count_81 ?_
      refine kci (krunV (As := []) (rest := []) (pc := 84) hx hcb hml hown hts hS hW (c_X9_size l X σ 28 (Or.inr rfl : kTd 28) _ h) mf_X9_size q842 (kO_X9 (Or.inr rfl : kTd 28)) rfl ⟨rfl, rfl⟩ ⟨Nat.le_of_ble_eq_true rfl, Nat.le_of_ble_eq_true rfl⟩ rfl hl.1 rfl (Nat.le_of_ble_eq_true rfl) dX10_count_84 ⟨Nat.zero_le _, Nat.zero_le _⟩) hS hW (fun r11 σ10 H locs h hW => ?_)
      obtain ⟨h, rfl⟩ := h
      exact hret _ _ _ _ _ _ rfl ⟨h, rfl⟩ hW dX10_count_87
    · have h := h.2.2.2.2.2.1 (ksw csw rfl)
      refine lv_tableIn (off := 87) (tgt := 88) (pc := 1) hx hcb dX10_count_1 (fun q => hsw (Or.inl q)) (fun q => hsw (Or.inr q)) (by rw [csw]; rfl) (by decide) ?_
      refine lv_aload_n (pc := 88) hx hcb dX10_count_88 rfl (lv_at hl 0 rfl) ?_
      refine kget (v := .ref (X.2.1 17)) (pc := 89) hx hcb hts hown hS hW iwX10 kOC_0 rfl 5 (by decide) q426 rfl rfl dX10_count_89 ?_
      refine kci (krunV (As := []) (rest := []) (pc := 92) hx hcb hml hown hts hS hW (c_X4_size l X σ 17 (Or.inl rfl : kMs 17) _ h) mf_X4_size q561 (kO_X4 (Or.inl rfl : kMs 17)) rfl ⟨rfl, rfl⟩ ⟨Nat.le_of_ble_eq_true rfl, Nat.le_of_ble_eq_true rfl⟩ rfl hl.1 rfl (Nat.le_of_ble_eq_true rfl) dX10_count_92 ⟨Nat.zero_le _, Nat.zero_le _⟩) hS hW (fun r13 σ12 H locs h hW => ?_)
      obtain ⟨h, rfl⟩ := h
      exact hret _ _ _ _ _ _ rfl ⟨h, rfl⟩ hW dX10_count_95
    · have h := h.2.2.2.2.2.2.1 (ksw csw rfl)
      refine lv_tableIn (off := 95) (tgt := 96) (pc := 1) hx hcb dX10_count_1 (fun q => hsw (Or.inl q)) (fun q => hsw (Or.inr q)) (by rw [csw]; rfl) (by decide) ?_
      refine lv_aload_n (pc := 96) hx hcb dX10_count_96 rfl (lv_at hl 0 rfl) ?_
      refine kget (v := .ref (X.2.1 21)) (pc := 97) hx hcb hts hown hS hW iwX10 kOC_0 rfl 6 (by decide) q427 rfl rfl dX10_count_97 ?_
      refine kci (krunV (As := []) (rest := []) (pc := 100) hx hcb hml hown hts hS hW (c_X4_size l X σ 21 (Or.inr rfl : kMs 21) _ h) mf_X4_size q561 (kO_X4 (Or.inr rfl : kMs 21)) rfl ⟨rfl, rfl⟩ ⟨Nat.le_of_ble_eq_true rfl, Nat.le_of_ble_eq_true rfl⟩ rfl hl.1 rfl (Nat.le_of_ble_eq_true rfl) dX10_count_100 ⟨Nat.zero_le _, Nat.zero_le _⟩) hS hW (fun r15 σ14 H locs h hW => ?_)
      obtain ⟨h, rfl⟩ := h
      exact hret _ _ _ _ _ _ rfl ⟨h, rfl⟩ hW dX10_count_103
    · have h := h.2.2.2.2.2.2.2.1 (ksw csw rfl)
      refine lv_tableIn (off := 103) (tgt := 104) (pc := 1) hx hcb dX10_count_1 (fun q => hsw (Or.inl q)) (fun q => hsw (Or.inr q)) (by rw [csw]; rfl) (by decide) ?_
      refine lv_aload_n (pc := 104) hx hcb dX10_count_104 rfl (lv_at hl 0 rfl) ?_
      refine kget (v := .ref (X.2.1 1)) (pc := 105) hx hcb hts hown hS hW iwX10 kOC_0 rfl 0 (by decide) q421 rfl rfl dX10_count_105 ?_
      refine kci (krunV (As := []) (rest := []) (pc := 108) hx hcb hml hown hts hS hW (c_X8_length l X σ  _ h) mf_X8_length q459 kOC_1 rfl ⟨rfl, rfl⟩ ⟨Nat.le_of_ble_eq_true rfl, Nat.le_of_ble_eq_true rfl⟩ rfl hl.1 rfl (Nat.le_of_ble_eq_true rfl) dX10_count_108 ⟨Nat.zero_le _, Nat.zero_le _⟩) hS hW (fun r17 σ16 H locs h hW => ?_)
      obtain ⟨h, rfl⟩ := h
      exact hret _ _ _ _ _ _ rfl ⟨h, rfl⟩ hW dX10_count_111
abbrev rm_X10_drawnFeeder : Room := { frames := 0, cells := 0, slots := 0, locals := 0 }
set_option maxHeartbeats 4000000 in
set_option maxRecDepth 100000 in
theorem c_X10_drawnFeeder (l : Launch) (X : KX) (σ : Mm) (x0 : Int32) (x1 : Int32) (x2 : Int32) (Φ : Int32 → Prop) (h : wp_X10_drawnFeeder x0 x1 x2 Φ) : Met l yX10_drawnFeeder (.code yX10_drawnFeeder cX10_drawnFeeder 7 (some .int) :: kT) rm_X10_drawnFeeder (va_Pc [.int x0, .int x1, .int x2] (kPre kZC X σ)) (va_Qi (fun r σ' => Φ r ∧ σ = σ') (fun σ' t => kPre kZC X σ' t) (kA kZC X)) 0 0 (kA kZC X) := by
  refine kofI (by decide) (Nat.le_of_ble_eq_true rfl) ?_
  intro p e s m args below meth c ls Q hx hcb hml hown hts hS hW hl hret
  have hown : s.vm.findClass RX10 = some m.cls := hown
  have hl : lv_has ls 7 [(0, .int x0), (1, .int x1), (2, .int x2)] := hl
  unfold wp_X10_drawnFeeder at h
  refine kldc2 (v := 7919) (pc := 0) hx hcb hown hts q820 dX10_drawnFeeder_0 ?_
  refine lv_iload_n (pc := 3) hx hcb dX10_drawnFeeder_3 rfl (lv_at hl 0 rfl) ?_
  refine lv_i2l (pc := 4) hx hcb dX10_drawnFeeder_4 rfl ?_
  refine lv_lmul (pc := 5) hx hcb dX10_drawnFeeder_5 ?_
  refine kldc2 (v := 6151) (pc := 6) hx hcb hown hts q821 dX10_drawnFeeder_6 ?_
  refine lv_iload_n (pc := 9) hx hcb dX10_drawnFeeder_9 rfl (lv_at hl 1 rfl) ?_
  refine lv_i2l (pc := 10) hx hcb dX10_drawnFeeder_10 rfl ?_
  refine lv_lmul (pc := 11) hx hcb dX10_drawnFeeder_11 ?_
  refine lv_ladd (pc := 12) hx hcb dX10_drawnFeeder_12 ?_
  refine lv_lconst (v := 1) (pc := 13) hx hcb dX10_drawnFeeder_13 rfl ?_
  refine lv_ladd (pc := 14) hx hcb dX10_drawnFeeder_14 ?_
  refine lv_topl (fun x3_1 ex3_1 => ?_)
  have h := h x3_1 ex3_1
  refine lv_lstore_n (lv' := [(3, .long x3_1), (0, .int x0), (1, .int x1), (2, .int x2)]) (pc := 15) hx hcb dX10_drawnFeeder_15 rfl hl (by decide) rfl (fun ls hl => ?_)
  refine lv_lload_n (pc := 16) hx hcb dX10_drawnFeeder_16 rfl (lv_at hl 0 rfl) ?_
  refine lv_lload_n (pc := 17) hx hcb dX10_drawnFeeder_17 rfl (lv_at hl 0 rfl) ?_
  refine lv_lmul (pc := 18) hx hcb dX10_drawnFeeder_18 ?_
  refine kldc2 (v := 65521) (pc := 19) hx hcb hown hts q822 dX10_drawnFeeder_19 ?_
  refine lv_lrem (pc := 22) hx hcb dX10_drawnFeeder_22 (by decide) ?_
  refine lv_topl (fun x5_2 ex5_2 => ?_)
  have h := h x5_2 ex5_2
  refine lv_lstore (lv' := [(5, .long x5_2), (3, .long x3_1), (0, .int x0), (1, .int x1), (2, .int x2)]) (pc := 23) hx hcb dX10_drawnFeeder_23 hl (by decide) rfl (fun ls hl => ?_)
  refine lv_iload_n (pc := 25) hx hcb dX10_drawnFeeder_25 rfl (lv_at hl 4 rfl) ?_
  refine lv_iconst (v := 1) (pc := 26) hx hcb dX10_drawnFeeder_26 rfl ?_
  refine lv_icmp_lt (tgt := 45) (pc := 27) hx hcb dX10_drawnFeeder_27 (by decide) (fun c27 => ?_) (fun c27 => ?_)
  · have h := h.1 c27
    refine lv_iconst (v := (-1)) (pc := 45) hx hcb dX10_drawnFeeder_45 rfl ?_
    exact hret _ _ _ _ _ _ rfl ⟨h, rfl⟩ hW dX10_drawnFeeder_46
  · have h := h.2 c27
    refine lv_lload (pc := 30) hx hcb dX10_drawnFeeder_30 (lv_at hl 0 rfl) ?_
    refine kldc2 (v := 8) (pc := 32) hx hcb hown hts q823 dX10_drawnFeeder_32 ?_
    refine lv_ldiv (pc := 35) hx hcb dX10_drawnFeeder_35 (by decide) ?_
    refine kldc2 (v := 2) (pc := 36) hx hcb hown hts q824 dX10_drawnFeeder_36 ?_
    refine lv_lrem (pc := 39) hx hcb dX10_drawnFeeder_39 (by decide) ?_
    refine lv_lconst (v := 0) (pc := 40) hx hcb dX10_drawnFeeder_40 rfl ?_
    refine W.lcmp (pc := 41) hx hcb dX10_drawnFeeder_41 ?_
    refine lv_if_ne (tgt := 47) (pc := 42) hx hcb dX10_drawnFeeder_42 (by decide) (fun c42 => ?_) (fun c42 => ?_)
    · have h := h.1 c42
      refine lv_lload (pc := 47) hx hcb dX10_drawnFeeder_47 (lv_at hl 0 rfl) ?_
      refine lv_iload_n (pc := 49) hx hcb dX10_drawnFeeder_49 rfl (lv_at hl 4 rfl) ?_
      refine lv_i2l (pc := 50) hx hcb dX10_drawnFeeder_50 rfl ?_
      have hne51 := h.1
      have h := h.2
      refine lv_lrem (pc := 51) hx hcb dX10_drawnFeeder_51 hne51 ?_
      refine lv_l2i (pc := 52) hx hcb dX10_drawnFeeder_52 rfl ?_
      exact hret _ _ _ _ _ _ rfl ⟨h, rfl⟩ hW dX10_drawnFeeder_53
    · have h := h.2 c42
      refine lv_iconst (v := (-1)) (pc := 45) hx hcb dX10_drawnFeeder_45 rfl ?_
      exact hret _ _ _ _ _ _ rfl ⟨h, rfl⟩ hW dX10_drawnFeeder_46
abbrev rm_X10_far : Room := { frames := 1, cells := 0, slots := 0, locals := 22 }
set_option maxHeartbeats 4000000 in
set_option maxRecDepth 100000 in
theorem c_X10_far (l : Launch) (X : KX) (σ : Mm) (x1 : Int32) (x2 : Int32) (Φ : Int32 → Prop) (h : wp_X10_far σ x1 x2 Φ) : Met l yX10_far (.code yX10_far cX10_far 4 (some .int) :: kT) rm_X10_far (va_Pc [.ref (X.2.1 0), .int x1, .int x2] (kPre kZC X σ)) (va_Qi (fun r σ' => Φ r ∧ σ = σ') (fun σ' t => kPre kZC X σ' t) (kA kZC X)) 0 0 (kA kZC X) := by
  refine kofI (by decide) (Nat.le_of_ble_eq_true rfl) ?_
  intro p e s m args below meth c ls Q hx hcb hml hown hts hS hW hl hret
  have hown : s.vm.findClass RX10 = some m.cls := hown
  have hl : lv_has ls 4 [(0, .ref (X.2.1 0)), (1, .int x1), (2, .int x2)] := hl
  unfold wp_X10_far at h
  refine lv_aload_n (pc := 0) hx hcb dX10_far_0 rfl (lv_at hl 0 rfl) ?_
  have hd1 : kFm (σ.2.2 0) := hW.2.2.1
  refine kget (v := .ref (X.2.1 (σ.2.2 0))) (pc := 1) hx hcb hts hown hS hW iwX10 kOC_0 rfl 2 (by decide) q423 rfl rfl dX10_far_1 ?_
  refine lv_iload_n (pc := 4) hx hcb dX10_far_4 rfl (lv_at hl 1 rfl) ?_
  refine kci (krunV (As := [.int x1]) (rest := []) (pc := 5) hx hcb hml hown hts hS hW (c_X1_hasYard l X σ (σ.2.2 0) hd1 x1 _ h) mf_X1_hasYard q492 (kO_X1 hd1) rfl ⟨rfl, rfl⟩ ⟨Nat.le_of_ble_eq_true rfl, Nat.le_of_ble_eq_true rfl⟩ rfl hl.1 rfl (Nat.le_of_ble_eq_true rfl) dX10_far_5 ⟨Nat.zero_le _, Nat.zero_le _⟩) hS hW (fun r3 σ2 H locs h hW => ?_)
  obtain ⟨h, rfl⟩ := h
  refine lv_if_eq (tgt := 22) (pc := 8) hx hcb dX10_far_8 (by decide) (fun c8 => ?_) (fun c8 => ?_)
  · have h := h.1 c8
    refine lv_iconst (v := (-1)) (pc := 22) hx hcb dX10_far_22 rfl ?_
    exact hret _ _ _ _ _ _ rfl ⟨h, rfl⟩ hW dX10_far_23
  · have h := h.2 c8
    refine lv_aload_n (pc := 11) hx hcb dX10_far_11 rfl (lv_at hl 0 rfl) ?_
    have hd4 : kFm (σ.2.2 0) := hW.2.2.1
    refine kget (v := .ref (X.2.1 (σ.2.2 0))) (pc := 12) hx hcb hts hown hS hW iwX10 kOC_0 rfl 2 (by decide) q423 rfl rfl dX10_far_12 ?_
    refine lv_iload_n (pc := 15) hx hcb dX10_far_15 rfl (lv_at hl 2 rfl) ?_
    refine kci (krunV (As := [.int x2]) (rest := []) (pc := 16) hx hcb hml hown hts hS hW (c_X1_hasYard l X σ (σ.2.2 0) hd4 x2 _ h) mf_X1_hasYard q492 (kO_X1 hd4) rfl ⟨rfl, rfl⟩ ⟨Nat.le_of_ble_eq_true rfl, Nat.le_of_ble_eq_true rfl⟩ rfl hl.1 rfl (Nat.le_of_ble_eq_true rfl) dX10_far_16 ⟨Nat.zero_le _, Nat.zero_le _⟩) hS hW (fun r6 σ5 H locs h hW => ?_)
    obtain ⟨h, rfl⟩ := h
    refine lv_if_ne (tgt := 24) (pc := 19) hx hcb dX10_far_19 (by decide) (fun c19 => ?_) (fun c19 => ?_)
    · have h := h.1 c19
      refine lv_aload_n (pc := 24) hx hcb dX10_far_24 rfl (lv_at hl 0 rfl) ?_
      have hd7 : kFm (σ.2.2 0) := hW.2.2.1
      refine kget (v := .ref (X.2.1 (σ.2.2 0))) (pc := 25) hx hcb hts hown hS hW iwX10 kOC_0 rfl 2 (by decide) q423 rfl rfl dX10_far_25 ?_
      refine lv_iload_n (pc := 28) hx hcb dX10_far_28 rfl (lv_at hl 1 rfl) ?_
      refine lv_iload_n (pc := 29) hx hcb dX10_far_29 rfl (lv_at hl 2 rfl) ?_
      refine kci (krunV (As := [.int x1, .int x2]) (rest := []) (pc := 30) hx hcb hml hown hts hS hW (c_X1_distance l X σ (σ.2.2 0) hd7 x1 x2 _ h) mf_X1_distance q493 (kO_X1 hd7) rfl ⟨rfl, rfl⟩ ⟨Nat.le_of_ble_eq_true rfl, Nat.le_of_ble_eq_true rfl⟩ rfl hl.1 rfl (Nat.le_of_ble_eq_true rfl) dX10_far_30 ⟨Nat.zero_le _, Nat.zero_le _⟩) hS hW (fun r9 σ8 H locs h hW => ?_)
      obtain ⟨h, rfl⟩ := h
      refine lv_istore_n (lv' := [(3, .int r9), (0, .ref (X.2.1 0)), (1, .int x1), (2, .int x2)]) (pc := 33) hx hcb dX10_far_33 rfl hl (by decide) rfl (fun ls hl => ?_)
      refine lv_iload_n (pc := 34) hx hcb dX10_far_34 rfl (lv_at hl 0 rfl) ?_
      refine lv_bipush (v := 99) (pc := 35) hx hcb dX10_far_35 rfl ?_
      refine lv_icmp_ne (tgt := 45) (pc := 37) hx hcb dX10_far_37 (by decide) (fun c37 => ?_) (fun c37 => ?_)
      · have h := h.1 c37
        refine lv_iload_n (pc := 45) hx hcb dX10_far_45 rfl (lv_at hl 0 rfl) ?_
        exact hret _ _ _ _ _ _ rfl ⟨h, rfl⟩ hW dX10_far_46
      · have h := h.2 c37
        refine lv_bipush (v := (-4)) (pc := 40) hx hcb dX10_far_40 rfl ?_
        refine lv_goto (tgt := 46) (pc := 42) hx hcb dX10_far_42 (by decide) ?_
        exact hret _ _ _ _ _ _ rfl ⟨h, rfl⟩ hW dX10_far_46
    · have h := h.2 c19
      refine lv_iconst (v := (-1)) (pc := 22) hx hcb dX10_far_22 rfl ?_
      exact hret _ _ _ _ _ _ rfl ⟨h, rfl⟩ hW dX10_far_23
abbrev rm_X10_fault : Room := { frames := 6, cells := 0, slots := 0, locals := 133 }
set_option maxHeartbeats 4000000 in
set_option maxRecDepth 100000 in
theorem c_X10_fault (l : Launch) (X : KX) (σ : Mm)  (Φ : Int32 → Mm → Prop) (h : wp_X10_fault σ  Φ) : Met l yX10_fault (.code yX10_fault cX10_fault 1 (some .int) :: kT) rm_X10_fault (va_Pc [.ref (X.2.1 0)] (kPre kZC X σ)) (va_Qi (fun r σ' => Φ r σ') (fun σ' t => kPre kZC X σ' t) (kA kZC X)) 0 0 (kA kZC X) := by
  refine kofI (by decide) (Nat.le_of_ble_eq_true rfl) ?_
  intro p e s m args below meth c ls Q hx hcb hml hown hts hS hW hl hret
  have hown : s.vm.findClass RX10 = some m.cls := hown
  have hl : lv_has ls 1 [(0, .ref (X.2.1 0))] := hl
  unfold wp_X10_fault at h
  refine lv_aload_n (pc := 0) hx hcb dX10_fault_0 rfl (lv_at hl 0 rfl) ?_
  refine kget (v := .ref (X.2.1 3)) (pc := 1) hx hcb hts hown hS hW iwX10 kOC_0 rfl 1 (by decide) q422 rfl rfl dX10_fault_1 ?_
  refine lv_aload_n (pc := 4) hx hcb dX10_fault_4 rfl (lv_at hl 0 rfl) ?_
  have hd1 : kFm (σ.2.2 1) := hW.2.2.2.1
  refine kget (v := .ref (X.2.1 (σ.2.2 1))) (pc := 5) hx hcb hts hown hS hW iwX10 kOC_0 rfl 3 (by decide) q424 rfl rfl dX10_fault_5 ?_
  refine kci (krunV (As := [.ref (X.2.1 (σ.2.2 1))]) (rest := []) (pc := 8) hx hcb hml hown hts hS hW (c_X5_readInto l X σ (σ.2.2 1) hd1 _ h) mf_X5_readInto q319 kOC_3 rfl ⟨rfl, rfl⟩ ⟨Nat.le_of_ble_eq_true rfl, Nat.le_of_ble_eq_true rfl⟩ rfl hl.1 rfl (Nat.le_of_ble_eq_true rfl) dX10_fault_8 ⟨Nat.zero_le _, Nat.zero_le _⟩) hS hW (fun r3 σ2 H locs h hW => ?_)
  exact hret _ _ _ _ _ _ rfl h hW dX10_fault_11
abbrev rm_X10_feed : Room := { frames := 2, cells := 0, slots := 0, locals := 46 }
set_option maxHeartbeats 4000000 in
set_option maxRecDepth 100000 in
theorem c_X10_feed (l : Launch) (X : KX) (σ : Mm) (x1 : Int32) (Φ : Int32 → Mm → Prop) (h : wp_X10_feed σ x1 Φ) : Met l yX10_feed (.code yX10_feed cX10_feed 2 (some .int) :: kT) rm_X10_feed (va_Pc [.ref (X.2.1 0), .int x1] (kPre kZC X σ)) (va_Qi (fun r σ' => Φ r σ') (fun σ' t => kPre kZC X σ' t) (kA kZC X)) 0 0 (kA kZC X) := by
  refine kofI (by decide) (Nat.le_of_ble_eq_true rfl) ?_
  intro p e s m args below meth c ls Q hx hcb hml hown hts hS hW hl hret
  have hown : s.vm.findClass RX10 = some m.cls := hown
  have hl : lv_has ls 2 [(0, .ref (X.2.1 0)), (1, .int x1)] := hl
  unfold wp_X10_feed at h
  refine lv_aload_n (pc := 0) hx hcb dX10_feed_0 rfl (lv_at hl 0 rfl) ?_
  have hd1 : kFm (σ.2.2 0) := hW.2.2.1
  refine kget (v := .ref (X.2.1 (σ.2.2 0))) (pc := 1) hx hcb hts hown hS hW iwX10 kOC_0 rfl 2 (by decide) q423 rfl rfl dX10_feed_1 ?_
  refine lv_iload_n (pc := 4) hx hcb dX10_feed_4 rfl (lv_at hl 1 rfl) ?_
  refine kci (krunV (As := [.int x1]) (rest := []) (pc := 5) hx hcb hml hown hts hS hW (c_X1_hasPerson l X σ (σ.2.2 0) hd1 x1 _ h) mf_X1_hasPerson q498 (kO_X1 hd1) rfl ⟨rfl, rfl⟩ ⟨Nat.le_of_ble_eq_true rfl, Nat.le_of_ble_eq_true rfl⟩ rfl hl.1 rfl (Nat.le_of_ble_eq_true rfl) dX10_feed_5 ⟨Nat.zero_le _, Nat.zero_le _⟩) hS hW (fun r3 σ2 H locs h hW => ?_)
  obtain ⟨h, rfl⟩ := h
  refine lv_if_ne (tgt := 13) (pc := 8) hx hcb dX10_feed_8 (by decide) (fun c8 => ?_) (fun c8 => ?_)
  · have h := h.1 c8
    refine lv_aload_n (pc := 13) hx hcb dX10_feed_13 rfl (lv_at hl 0 rfl) ?_
    have hd4 : kFm (σ.2.2 0) := hW.2.2.1
    refine kget (v := .ref (X.2.1 (σ.2.2 0))) (pc := 14) hx hcb hts hown hS hW iwX10 kOC_0 rfl 2 (by decide) q423 rfl rfl dX10_feed_14 ?_
    refine lv_iload_n (pc := 17) hx hcb dX10_feed_17 rfl (lv_at hl 1 rfl) ?_
    refine lv_aload_n (pc := 18) hx hcb dX10_feed_18 rfl (lv_at hl 0 rfl) ?_
    refine kget (v := .ref (X.2.1 16)) (pc := 19) hx hcb hts hown hS hW iwX10 kOC_0 rfl 4 (by decide) q425 rfl rfl dX10_feed_19 ?_
    refine kgetN (v := .int (σ.1 16 1)) (pc := 22) hx hcb hts hown hS hW iwX3 kOC_16 rfl 1 (by decide) q157 rfl rfl dX10_feed_22 ?_
    refine lv_aload_n (pc := 25) hx hcb dX10_feed_25 rfl (lv_at hl 0 rfl) ?_
    refine kget (v := .ref (X.2.1 16)) (pc := 26) hx hcb hts hown hS hW iwX10 kOC_0 rfl 4 (by decide) q425 rfl rfl dX10_feed_26 ?_
    refine kgetN (v := .int (σ.1 16 0)) (pc := 29) hx hcb hts hown hS hW iwX3 kOC_16 rfl 0 (by decide) q152 rfl rfl dX10_feed_29 ?_
    refine kci (krunV (As := [.int x1, .int (σ.1 16 1), .int (σ.1 16 0)]) (rest := []) (pc := 32) hx hcb hml hown hts hS hW (c_X1_canFeed l X σ (σ.2.2 0) hd4 x1 (σ.1 16 1) (σ.1 16 0) _ h) mf_X1_canFeed q514 (kO_X1 hd4) rfl ⟨rfl, rfl⟩ ⟨Nat.le_of_ble_eq_true rfl, Nat.le_of_ble_eq_true rfl⟩ rfl hl.1 rfl (Nat.le_of_ble_eq_true rfl) dX10_feed_32 ⟨Nat.zero_le _, Nat.zero_le _⟩) hS hW (fun r6 σ5 H locs h hW => ?_)
    obtain ⟨h, rfl⟩ := h
    refine lv_if_ne (tgt := 41) (pc := 35) hx hcb dX10_feed_35 (by decide) (fun c35 => ?_) (fun c35 => ?_)
    · have h := h.1 c35
      refine lv_aload_n (pc := 41) hx hcb dX10_feed_41 rfl (lv_at hl 0 rfl) ?_
      refine kget (v := .ref (X.2.1 17)) (pc := 42) hx hcb hts hown hS hW iwX10 kOC_0 rfl 5 (by decide) q426 rfl rfl dX10_feed_42 ?_
      refine lv_aload_n (pc := 45) hx hcb dX10_feed_45 rfl (lv_at hl 0 rfl) ?_
      refine kget (v := .ref (X.2.1 16)) (pc := 46) hx hcb hts hown hS hW iwX10 kOC_0 rfl 4 (by decide) q425 rfl rfl dX10_feed_46 ?_
      refine kcv (krunV (As := [.ref (X.2.1 16)]) (rest := []) (pc := 49) hx hcb hml hown hts hS hW (c_X4_push l X σ 17 (Or.inl rfl : kMs 17) _ h) mf_X4_push q522 (kO_X4 (Or.inl rfl : kMs 17)) rfl ⟨rfl, rfl⟩ ⟨Nat.le_of_ble_eq_true rfl, Nat.le_of_ble_eq_true rfl⟩ rfl hl.1 rfl (Nat.le_of_ble_eq_true rfl) dX10_feed_49 ⟨Nat.zero_le _, Nat.zero_le _⟩) hS hW (fun σ7 H locs h hW => ?_)
      refine lv_aload_n (pc := 52) hx hcb dX10_feed_52 rfl (lv_at hl 0 rfl) ?_
      refine kget (v := .ref (X.2.1 16)) (pc := 53) hx hcb hts hown hS hW iwX10 kOC_0 rfl 4 (by decide) q425 rfl rfl dX10_feed_53 ?_
      refine lv_aload_n (pc := 56) hx hcb dX10_feed_56 rfl (lv_at hl 0 rfl) ?_
      refine kget (v := .ref (X.2.1 16)) (pc := 57) hx hcb hts hown hS hW iwX10 kOC_0 rfl 4 (by decide) q425 rfl rfl dX10_feed_57 ?_
      refine kgetN (v := .int (σ7.1 16 1)) (pc := 60) hx hcb hts hown hS hW iwX3 kOC_16 rfl 1 (by decide) q157 rfl rfl dX10_feed_60 ?_
      refine lv_iload_n (pc := 63) hx hcb dX10_feed_63 rfl (lv_at hl 1 rfl) ?_
      refine kci (krunS (As := [.int (σ7.1 16 1), .int x1]) (rest := [.ref (X.2.1 16)]) (pc := 64) hx hcb hml hown hts hS hW (c_X10_fedState l X σ7 (σ7.1 16 1) x1 _ h) mf_X10_fedState q530 ⟨rfl, rfl⟩ ⟨Nat.le_of_ble_eq_true rfl, Nat.le_of_ble_eq_true rfl⟩ rfl hl.1 rfl (Nat.le_of_ble_eq_true rfl) dX10_feed_64 ⟨Nat.zero_le _, Nat.zero_le _⟩) hS hW (fun r9 σ8 H locs h hW => ?_)
      obtain ⟨h, rfl⟩ := h
      refine kputN (ty := .int) (pc := 67) hx hcb hts hown hS hW iwX3 tyX3 tyX3_ok nmX3 kOC_16 rfl 1 (by decide) q157 rfl rfl rfl rfl rfl (Nat.le_of_ble_eq_true rfl) rfl dX10_feed_67 (fun σ10 H locs eσ10 hW => ?_)
      have h := h σ10 eσ10
      refine lv_aload_n (pc := 70) hx hcb dX10_feed_70 rfl (lv_at hl 0 rfl) ?_
      refine kget (v := .ref (X.2.1 16)) (pc := 71) hx hcb hts hown hS hW iwX10 kOC_0 rfl 4 (by decide) q425 rfl rfl dX10_feed_71 ?_
      refine lv_dup (pc := 74) hx hcb dX10_feed_74 rfl ?_
      refine kgetN (v := .int (σ10.1 16 2)) (pc := 75) hx hcb hts hown hS hW iwX3 kOC_16 rfl 2 (by decide) q160 rfl rfl dX10_feed_75 ?_
      refine lv_iconst (v := 1) (pc := 78) hx hcb dX10_feed_78 rfl ?_
      refine lv_iadd (pc := 79) hx hcb dX10_feed_79 ?_
      refine kputN (ty := .int) (pc := 80) hx hcb hts hown hS hW iwX3 tyX3 tyX3_ok nmX3 kOC_16 rfl 2 (by decide) q160 rfl rfl rfl rfl rfl (Nat.le_of_ble_eq_true rfl) rfl dX10_feed_80 (fun σ11 H locs eσ11 hW => ?_)
      have h := h σ11 eσ11
      refine lv_aload_n (pc := 83) hx hcb dX10_feed_83 rfl (lv_at hl 0 rfl) ?_
      refine kget (v := .ref (X.2.1 16)) (pc := 84) hx hcb hts hown hS hW iwX10 kOC_0 rfl 4 (by decide) q425 rfl rfl dX10_feed_84 ?_
      refine kgetN (v := .int (σ11.1 16 2)) (pc := 87) hx hcb hts hown hS hW iwX3 kOC_16 rfl 2 (by decide) q160 rfl rfl dX10_feed_87 ?_
      exact hret _ _ _ _ _ _ rfl h hW dX10_feed_90
    · have h := h.2 c35
      refine lv_bipush (v := (-2)) (pc := 38) hx hcb dX10_feed_38 rfl ?_
      exact hret _ _ _ _ _ _ rfl h hW dX10_feed_40
  · have h := h.2 c8
    refine lv_iconst (v := (-1)) (pc := 11) hx hcb dX10_feed_11 rfl ?_
    exact hret _ _ _ _ _ _ rfl h hW dX10_feed_12
abbrev rm_X10_first : Room := { frames := 6, cells := 0, slots := 0, locals := 149 }
set_option maxHeartbeats 4000000 in
set_option maxRecDepth 100000 in
theorem c_X10_first (l : Launch) (X : KX) (σ : Mm)  (Φ : Int32 → Mm → Prop) (h : wp_X10_first σ  Φ) : Met l yX10_first (.code yX10_first cX10_first 1 (some .int) :: kT) rm_X10_first (va_Pc [.ref (X.2.1 0)] (kPre kZC X σ)) (va_Qi (fun r σ' => Φ r σ') (fun σ' t => kPre kZC X σ' t) (kA kZC X)) 0 0 (kA kZC X) := by
  refine kofI (by decide) (Nat.le_of_ble_eq_true rfl) ?_
  intro p e s m args below meth c ls Q hx hcb hml hown hts hS hW hl hret
  have hown : s.vm.findClass RX10 = some m.cls := hown
  have hl : lv_has ls 1 [(0, .ref (X.2.1 0))] := hl
  unfold wp_X10_first at h
  refine lv_aload_n (pc := 0) hx hcb dX10_first_0 rfl (lv_at hl 0 rfl) ?_
  refine kget (v := .ref (X.2.1 31)) (pc := 1) hx hcb hts hown hS hW iwX10 kOC_0 rfl 9 (by decide) q430 rfl rfl dX10_first_1 ?_
  refine lv_aload_n (pc := 4) hx hcb dX10_first_4 rfl (lv_at hl 0 rfl) ?_
  have hd1 : kFm (σ.2.2 0) := hW.2.2.1
  refine kget (v := .ref (X.2.1 (σ.2.2 0))) (pc := 5) hx hcb hts hown hS hW iwX10 kOC_0 rfl 2 (by decide) q423 rfl rfl dX10_first_5 ?_
  refine lv_aload_n (pc := 8) hx hcb dX10_first_8 rfl (lv_at hl 0 rfl) ?_
  refine kget (v := .ref (X.2.1 16)) (pc := 9) hx hcb hts hown hS hW iwX10 kOC_0 rfl 4 (by decide) q425 rfl rfl dX10_first_9 ?_
  refine lv_aload_n (pc := 12) hx hcb dX10_first_12 rfl (lv_at hl 0 rfl) ?_
  refine kget (v := .ref (X.2.1 25)) (pc := 13) hx hcb hts hown hS hW iwX10 kOC_0 rfl 7 (by decide) q428 rfl rfl dX10_first_13 ?_
  refine kci (krunV (As := [.ref (X.2.1 (σ.2.2 0)), .ref (X.2.1 16), .ref (X.2.1 25)]) (rest := []) (pc := 16) hx hcb hml hown hts hS hW (c_X7_cheapest l X σ (σ.2.2 0) hd1 25 (Or.inl rfl : kTd 25) _ h) mf_X7_cheapest q596 kOC_31 rfl ⟨rfl, rfl⟩ ⟨Nat.le_of_ble_eq_true rfl, Nat.le_of_ble_eq_true rfl⟩ rfl hl.1 rfl (Nat.le_of_ble_eq_true rfl) dX10_first_16 ⟨Nat.zero_le _, Nat.zero_le _⟩) hS hW (fun r3 σ2 H locs h hW => ?_)
  refine lv_bipush (v := (-4)) (pc := 19) hx hcb dX10_first_19 rfl ?_
  refine lv_icmp_ne (tgt := 37) (pc := 21) hx hcb dX10_first_21 (by decide) (fun c21 => ?_) (fun c21 => ?_)
  · have h := h.1 c21
    refine lv_bipush (v := (-4)) (pc := 37) hx hcb dX10_first_37 rfl ?_
    exact hret _ _ _ _ _ _ rfl h hW dX10_first_39
  · have h := h.2 c21
    refine lv_aload_n (pc := 24) hx hcb dX10_first_24 rfl (lv_at hl 0 rfl) ?_
    refine kget (v := .ref (X.2.1 31)) (pc := 25) hx hcb hts hown hS hW iwX10 kOC_0 rfl 9 (by decide) q430 rfl rfl dX10_first_25 ?_
    refine kci (krunV (As := []) (rest := []) (pc := 28) hx hcb hml hown hts hS hW (c_X7_firstFeeder l X σ2  _ h) mf_X7_firstFeeder q700 kOC_31 rfl ⟨rfl, rfl⟩ ⟨Nat.le_of_ble_eq_true rfl, Nat.le_of_ble_eq_true rfl⟩ rfl hl.1 rfl (Nat.le_of_ble_eq_true rfl) dX10_first_28 ⟨Nat.zero_le _, Nat.zero_le _⟩) hS hW (fun r5 σ4 H locs h hW => ?_)
    obtain ⟨h, rfl⟩ := h
    refine kci (krunS (As := [.int r5]) (rest := []) (pc := 31) hx hcb hml hown hts hS hW (c_X10_orNone l X σ2 r5 _ h) mf_X10_orNone q577 ⟨rfl, rfl⟩ ⟨Nat.le_of_ble_eq_true rfl, Nat.le_of_ble_eq_true rfl⟩ rfl hl.1 rfl (Nat.le_of_ble_eq_true rfl) dX10_first_31 ⟨Nat.zero_le _, Nat.zero_le _⟩) hS hW (fun r7 σ6 H locs h hW => ?_)
    obtain ⟨h, rfl⟩ := h
    refine lv_goto (tgt := 39) (pc := 34) hx hcb dX10_first_34 (by decide) ?_
    exact hret _ _ _ _ _ _ rfl h hW dX10_first_39
abbrev rm_X10_forget : Room := { frames := 1, cells := 0, slots := 0, locals := 21 }
set_option maxHeartbeats 4000000 in
set_option maxRecDepth 100000 in
theorem c_X10_forget (l : Launch) (X : KX) (σ : Mm)  (Φ : Int32 → Mm → Prop) (h : wp_X10_forget σ  Φ) : Met l yX10_forget (.code yX10_forget cX10_forget 1 (some .int) :: kT) rm_X10_forget (va_Pc [.ref (X.2.1 0)] (kPre kZC X σ)) (va_Qi (fun r σ' => Φ r σ') (fun σ' t => kPre kZC X σ' t) (kA kZC X)) 0 0 (kA kZC X) := by
  refine kofI (by decide) (Nat.le_of_ble_eq_true rfl) ?_
  intro p e s m args below meth c ls Q hx hcb hml hown hts hS hW hl hret
  have hown : s.vm.findClass RX10 = some m.cls := hown
  have hl : lv_has ls 1 [(0, .ref (X.2.1 0))] := hl
  unfold wp_X10_forget at h
  refine lv_aload_n (pc := 0) hx hcb dX10_forget_0 rfl (lv_at hl 0 rfl) ?_
  refine kget (v := .ref (X.2.1 28)) (pc := 1) hx hcb hts hown hS hW iwX10 kOC_0 rfl 8 (by decide) q429 rfl rfl dX10_forget_1 ?_
  refine kci (krunV (As := []) (rest := []) (pc := 4) hx hcb hml hown hts hS hW (c_X9_clear l X σ 28 (Or.inr rfl : kTd 28) _ h) mf_X9_clear q476 (kO_X9 (Or.inr rfl : kTd 28)) rfl ⟨rfl, rfl⟩ ⟨Nat.le_of_ble_eq_true rfl, Nat.le_of_ble_eq_true rfl⟩ rfl hl.1 rfl (Nat.le_of_ble_eq_true rfl) dX10_forget_4 ⟨Nat.zero_le _, Nat.zero_le _⟩) hS hW (fun r2 σ1 H locs h hW => ?_)
  exact hret _ _ _ _ _ _ rfl h hW dX10_forget_7
abbrev rm_X10_game : Room := { frames := 5, cells := 0, slots := 0, locals := 128 }
set_option maxHeartbeats 4000000 in
set_option maxRecDepth 100000 in
theorem c_X10_game (l : Launch) (X : KX) (σ : Mm) (x1 : Int32) (x2 : Int32) (x3 : Int32) (x4 : Int32) (Φ : Int32 → Mm → Prop) (h : wp_X10_game σ x1 x2 x3 x4 Φ) : Met l yX10_game (.code yX10_game cX10_game 6 (some .int) :: kT) rm_X10_game (va_Pc [.ref (X.2.1 0), .int x1, .int x2, .int x3, .int x4] (kPre kZC X σ)) (va_Qi (fun r σ' => Φ r σ') (fun σ' t => kPre kZC X σ' t) (kA kZC X)) 0 0 (kA kZC X) := by
  refine kofI (by decide) (Nat.le_of_ble_eq_true rfl) ?_
  intro p e s m args below meth c ls Q hx hcb hml hown hts hS hW hl hret
  have hown : s.vm.findClass RX10 = some m.cls := hown
  have hl : lv_has ls 6 [(0, .ref (X.2.1 0)), (1, .int x1), (2, .int x2), (3, .int x3), (4, .int x4)] := hl
  unfold wp_X10_game at h
  refine lv_iload_n (pc := 0) hx hcb dX10_game_0 rfl (lv_at hl 1 rfl) ?_
  refine lv_iconst (v := 1) (pc := 1) hx hcb dX10_game_1 rfl ?_
  refine lv_icmp_lt (tgt := 30) (pc := 2) hx hcb dX10_game_2 (by decide) (fun c2 => ?_) (fun c2 => ?_)
  · have h := h.1 c2
    refine lv_iconst (v := (-1)) (pc := 30) hx hcb dX10_game_30 rfl ?_
    exact hret _ _ _ _ _ _ rfl h hW dX10_game_31
  · have h := h.2 c2
    refine lv_iload_n (pc := 5) hx hcb dX10_game_5 rfl (lv_at hl 1 rfl) ?_
    refine lv_bipush (v := 12) (pc := 6) hx hcb dX10_game_6 rfl ?_
    refine lv_icmp_gt (tgt := 30) (pc := 8) hx hcb dX10_game_8 (by decide) (fun c8 => ?_) (fun c8 => ?_)
    · have h := h.1 c8
      refine lv_iconst (v := (-1)) (pc := 30) hx hcb dX10_game_30 rfl ?_
      exact hret _ _ _ _ _ _ rfl h hW dX10_game_31
    · have h := h.2 c8
      refine lv_aload_n (pc := 11) hx hcb dX10_game_11 rfl (lv_at hl 0 rfl) ?_
      have hd1 : kFm (σ.2.2 0) := hW.2.2.1
      refine kget (v := .ref (X.2.1 (σ.2.2 0))) (pc := 12) hx hcb hts hown hS hW iwX10 kOC_0 rfl 2 (by decide) q423 rfl rfl dX10_game_12 ?_
      refine lv_iload_n (pc := 15) hx hcb dX10_game_15 rfl (lv_at hl 2 rfl) ?_
      refine kci (krunV (As := [.int x2]) (rest := []) (pc := 16) hx hcb hml hown hts hS hW (c_X1_hasYard l X σ (σ.2.2 0) hd1 x2 _ h) mf_X1_hasYard q492 (kO_X1 hd1) rfl ⟨rfl, rfl⟩ ⟨Nat.le_of_ble_eq_true rfl, Nat.le_of_ble_eq_true rfl⟩ rfl hl.1 rfl (Nat.le_of_ble_eq_true rfl) dX10_game_16 ⟨Nat.zero_le _, Nat.zero_le _⟩) hS hW (fun r3 σ2 H locs h hW => ?_)
      obtain ⟨h, rfl⟩ := h
      refine lv_if_eq (tgt := 30) (pc := 19) hx hcb dX10_game_19 (by decide) (fun c19 => ?_) (fun c19 => ?_)
      · have h := h.1 c19
        refine lv_iconst (v := (-1)) (pc := 30) hx hcb dX10_game_30 rfl ?_
        exact hret _ _ _ _ _ _ rfl h hW dX10_game_31
      · have h := h.2 c19
        refine lv_iload (pc := 22) hx hcb dX10_game_22 (lv_at hl 4 rfl) ?_
        refine kci (krunS (As := [.int x4]) (rest := []) (pc := 24) hx hcb hml hown hts hS hW (c_X10_isFlag l X σ x4 _ h) mf_X10_isFlag q573 ⟨rfl, rfl⟩ ⟨Nat.le_of_ble_eq_true rfl, Nat.le_of_ble_eq_true rfl⟩ rfl hl.1 rfl (Nat.le_of_ble_eq_true rfl) dX10_game_24 ⟨Nat.zero_le _, Nat.zero_le _⟩) hS hW (fun r5 σ4 H locs h hW => ?_)
        obtain ⟨h, rfl⟩ := h
        refine lv_if_ne (tgt := 32) (pc := 27) hx hcb dX10_game_27 (by decide) (fun c27 => ?_) (fun c27 => ?_)
        · have h := h.1 c27
          refine lv_iload_n (pc := 32) hx hcb dX10_game_32 rfl (lv_at hl 3 rfl) ?_
          refine lv_if_lt (tgt := 47) (pc := 33) hx hcb dX10_game_33 (by decide) (fun c33 => ?_) (fun c33 => ?_)
          · have h := h.1 c33
            refine lv_iconst (v := (-1)) (pc := 47) hx hcb dX10_game_47 rfl ?_
            exact hret _ _ _ _ _ _ rfl h hW dX10_game_48
          · have h := h.2 c33
            refine lv_iload_n (pc := 36) hx hcb dX10_game_36 rfl (lv_at hl 3 rfl) ?_
            refine lv_aload_n (pc := 37) hx hcb dX10_game_37 rfl (lv_at hl 0 rfl) ?_
            have hd6 : kFm (σ.2.2 0) := hW.2.2.1
            refine kget (v := .ref (X.2.1 (σ.2.2 0))) (pc := 38) hx hcb hts hown hS hW iwX10 kOC_0 rfl 2 (by decide) q423 rfl rfl dX10_game_38 ?_
            refine kci (krunV (As := []) (rest := [.int x3]) (pc := 41) hx hcb hml hown hts hS hW (c_X1_everybody l X σ (σ.2.2 0) hd6 _ h) mf_X1_everybody q712 (kO_X1 hd6) rfl ⟨rfl, rfl⟩ ⟨Nat.le_of_ble_eq_true rfl, Nat.le_of_ble_eq_true rfl⟩ rfl hl.1 rfl (Nat.le_of_ble_eq_true rfl) dX10_game_41 ⟨Nat.zero_le _, Nat.zero_le _⟩) hS hW (fun r8 σ7 H locs h hW => ?_)
            obtain ⟨h, rfl⟩ := h
            refine lv_icmp_le (tgt := 49) (pc := 44) hx hcb dX10_game_44 (by decide) (fun c44 => ?_) (fun c44 => ?_)
            · have h := h.1 c44
              refine lv_aload_n (pc := 49) hx hcb dX10_game_49 rfl (lv_at hl 0 rfl) ?_
              refine kget (v := .ref (X.2.1 38)) (pc := 50) hx hcb hts hown hS hW iwX10 kOC_0 rfl 10 (by decide) q431 rfl rfl dX10_game_50 ?_
              refine lv_aload_n (pc := 53) hx hcb dX10_game_53 rfl (lv_at hl 0 rfl) ?_
              have hd9 : kFm (σ.2.2 0) := hW.2.2.1
              refine kget (v := .ref (X.2.1 (σ.2.2 0))) (pc := 54) hx hcb hts hown hS hW iwX10 kOC_0 rfl 2 (by decide) q423 rfl rfl dX10_game_54 ?_
              refine lv_aload_n (pc := 57) hx hcb dX10_game_57 rfl (lv_at hl 0 rfl) ?_
              refine kget (v := .ref (X.2.1 16)) (pc := 58) hx hcb hts hown hS hW iwX10 kOC_0 rfl 4 (by decide) q425 rfl rfl dX10_game_58 ?_
              refine lv_iload_n (pc := 61) hx hcb dX10_game_61 rfl (lv_at hl 1 rfl) ?_
              refine lv_iload_n (pc := 62) hx hcb dX10_game_62 rfl (lv_at hl 2 rfl) ?_
              refine lv_iload_n (pc := 63) hx hcb dX10_game_63 rfl (lv_at hl 3 rfl) ?_
              refine kci (krunV (As := [.ref (X.2.1 (σ.2.2 0)), .ref (X.2.1 16), .int x1, .int x2, .int x3]) (rest := []) (pc := 64) hx hcb hml hown hts hS hW (c_X0_opening l X σ (σ.2.2 0) hd9 x1 x2 x3 _ h) mf_X0_opening q716 kOC_38 rfl ⟨rfl, rfl⟩ ⟨Nat.le_of_ble_eq_true rfl, Nat.le_of_ble_eq_true rfl⟩ rfl hl.1 rfl (Nat.le_of_ble_eq_true rfl) dX10_game_64 ⟨Nat.zero_le _, Nat.zero_le _⟩) hS hW (fun r11 σ10 H locs h hW => ?_)
              refine lv_istore (lv' := [(5, .int r11), (0, .ref (X.2.1 0)), (1, .int x1), (2, .int x2), (3, .int x3), (4, .int x4)]) (pc := 67) hx hcb dX10_game_67 hl (by decide) rfl (fun ls hl => ?_)
              refine lv_iload (pc := 69) hx hcb dX10_game_69 (lv_at hl 5 rfl) ?_
              refine lv_if_ne (tgt := 87) (pc := 71) hx hcb dX10_game_71 (by decide) (fun c71 => ?_) (fun c71 => ?_)
              · have h := h.1 c71
                refine lv_iload (pc := 87) hx hcb dX10_game_87 (lv_at hl 0 rfl) ?_
                refine kci (krunS (As := [.int r11]) (rest := []) (pc := 89) hx hcb hml hown hts hS hW (c_X10_orNone l X σ10 r11 _ h) mf_X10_orNone q577 ⟨rfl, rfl⟩ ⟨Nat.le_of_ble_eq_true rfl, Nat.le_of_ble_eq_true rfl⟩ rfl hl.1 rfl (Nat.le_of_ble_eq_true rfl) dX10_game_89 ⟨Nat.zero_le _, Nat.zero_le _⟩) hS hW (fun r13 σ12 H locs h hW => ?_)
                obtain ⟨h, rfl⟩ := h
                exact hret _ _ _ _ _ _ rfl h hW dX10_game_92
              · have h := h.2 c71
                refine lv_iload (pc := 74) hx hcb dX10_game_74 (lv_at hl 0 rfl) ?_
                refine lv_bipush (v := (-2)) (pc := 76) hx hcb dX10_game_76 rfl ?_
                refine lv_icmp_ne (tgt := 85) (pc := 78) hx hcb dX10_game_78 (by decide) (fun c78 => ?_) (fun c78 => ?_)
                · have h := h.1 c78
                  refine lv_iconst (v := 1) (pc := 85) hx hcb dX10_game_85 rfl ?_
                  exact hret _ _ _ _ _ _ rfl h hW dX10_game_86
                · have h := h.2 c78
                  refine lv_iconst (v := 0) (pc := 81) hx hcb dX10_game_81 rfl ?_
                  refine lv_goto (tgt := 86) (pc := 82) hx hcb dX10_game_82 (by decide) ?_
                  exact hret _ _ _ _ _ _ rfl h hW dX10_game_86
            · have h := h.2 c44
              refine lv_iconst (v := (-1)) (pc := 47) hx hcb dX10_game_47 rfl ?_
              exact hret _ _ _ _ _ _ rfl h hW dX10_game_48
        · have h := h.2 c27
          refine lv_iconst (v := (-1)) (pc := 30) hx hcb dX10_game_30 rfl ?_
          exact hret _ _ _ _ _ _ rfl h hW dX10_game_31
abbrev rm_X10_goal : Room := { frames := 1, cells := 0, slots := 0, locals := 22 }
set_option maxHeartbeats 4000000 in
set_option maxRecDepth 100000 in
theorem c_X10_goal (l : Launch) (X : KX) (σ : Mm) (x1 : Int32) (x2 : Int32) (Φ : Int32 → Mm → Prop) (h : wp_X10_goal σ x1 x2 Φ) : Met l yX10_goal (.code yX10_goal cX10_goal 3 (some .int) :: kT) rm_X10_goal (va_Pc [.ref (X.2.1 0), .int x1, .int x2] (kPre kZC X σ)) (va_Qi (fun r σ' => Φ r σ') (fun σ' t => kPre kZC X σ' t) (kA kZC X)) 0 0 (kA kZC X) := by
  refine kofI (by decide) (Nat.le_of_ble_eq_true rfl) ?_
  intro p e s m args below meth c ls Q hx hcb hml hown hts hS hW hl hret
  have hown : s.vm.findClass RX10 = some m.cls := hown
  have hl : lv_has ls 3 [(0, .ref (X.2.1 0)), (1, .int x1), (2, .int x2)] := hl
  unfold wp_X10_goal at h
  refine lv_aload_n (pc := 0) hx hcb dX10_goal_0 rfl (lv_at hl 0 rfl) ?_
  have hd1 : kFm (σ.2.2 0) := hW.2.2.1
  refine kget (v := .ref (X.2.1 (σ.2.2 0))) (pc := 1) hx hcb hts hown hS hW iwX10 kOC_0 rfl 2 (by decide) q423 rfl rfl dX10_goal_1 ?_
  refine lv_iload_n (pc := 4) hx hcb dX10_goal_4 rfl (lv_at hl 1 rfl) ?_
  refine kci (krunV (As := [.int x1]) (rest := []) (pc := 5) hx hcb hml hown hts hS hW (c_X1_hasYard l X σ (σ.2.2 0) hd1 x1 _ h) mf_X1_hasYard q492 (kO_X1 hd1) rfl ⟨rfl, rfl⟩ ⟨Nat.le_of_ble_eq_true rfl, Nat.le_of_ble_eq_true rfl⟩ rfl hl.1 rfl (Nat.le_of_ble_eq_true rfl) dX10_goal_5 ⟨Nat.zero_le _, Nat.zero_le _⟩) hS hW (fun r3 σ2 H locs h hW => ?_)
  obtain ⟨h, rfl⟩ := h
  refine lv_if_eq (tgt := 21) (pc := 8) hx hcb dX10_goal_8 (by decide) (fun c8 => ?_) (fun c8 => ?_)
  · have h := h.1 c8
    refine lv_iconst (v := (-1)) (pc := 21) hx hcb dX10_goal_21 rfl ?_
    exact hret _ _ _ _ _ _ rfl h hW dX10_goal_22
  · have h := h.2 c8
    refine lv_iload_n (pc := 11) hx hcb dX10_goal_11 rfl (lv_at hl 2 rfl) ?_
    refine lv_if_lt (tgt := 21) (pc := 12) hx hcb dX10_goal_12 (by decide) (fun c12 => ?_) (fun c12 => ?_)
    · have h := h.1 c12
      refine lv_iconst (v := (-1)) (pc := 21) hx hcb dX10_goal_21 rfl ?_
      exact hret _ _ _ _ _ _ rfl h hW dX10_goal_22
    · have h := h.2 c12
      refine lv_iload_n (pc := 15) hx hcb dX10_goal_15 rfl (lv_at hl 2 rfl) ?_
      refine lv_bipush (v := 40) (pc := 16) hx hcb dX10_goal_16 rfl ?_
      refine lv_icmp_le (tgt := 23) (pc := 18) hx hcb dX10_goal_18 (by decide) (fun c18 => ?_) (fun c18 => ?_)
      · have h := h.1 c18
        refine lv_aload_n (pc := 23) hx hcb dX10_goal_23 rfl (lv_at hl 0 rfl) ?_
        refine kget (v := .ref (X.2.1 25)) (pc := 24) hx hcb hts hown hS hW iwX10 kOC_0 rfl 7 (by decide) q428 rfl rfl dX10_goal_24 ?_
        refine lv_iload_n (pc := 27) hx hcb dX10_goal_27 rfl (lv_at hl 1 rfl) ?_
        refine lv_iload_n (pc := 28) hx hcb dX10_goal_28 rfl (lv_at hl 2 rfl) ?_
        refine kci (krunV (As := [.int x1, .int x2]) (rest := []) (pc := 29) hx hcb hml hown hts hS hW (c_X9_add l X σ 25 (Or.inl rfl : kTd 25) x1 x2 _ h) mf_X9_add q584 (kO_X9 (Or.inl rfl : kTd 25)) rfl ⟨rfl, rfl⟩ ⟨Nat.le_of_ble_eq_true rfl, Nat.le_of_ble_eq_true rfl⟩ rfl hl.1 rfl (Nat.le_of_ble_eq_true rfl) dX10_goal_29 ⟨Nat.zero_le _, Nat.zero_le _⟩) hS hW (fun r5 σ4 H locs h hW => ?_)
        exact hret _ _ _ _ _ _ rfl h hW dX10_goal_32
      · have h := h.2 c18
        refine lv_iconst (v := (-1)) (pc := 21) hx hcb dX10_goal_21 rfl ?_
        exact hret _ _ _ _ _ _ rfl h hW dX10_goal_22
abbrev rm_X10_how : Room := { frames := 6, cells := 0, slots := 0, locals := 149 }
set_option maxHeartbeats 4000000 in
set_option maxRecDepth 100000 in
theorem c_X10_how (l : Launch) (X : KX) (σ : Mm)  (Φ : Int64 → Mm → Prop) (h : wp_X10_how σ  Φ) : Met l yX10_how (.code yX10_how cX10_how 1 (some .long) :: kT) rm_X10_how (va_Pc [.ref (X.2.1 0)] (kPre kZC X σ)) (va_Ql (fun r σ' => Φ r σ') (fun σ' t => kPre kZC X σ' t) (kA kZC X)) 0 0 (kA kZC X) := by
  refine kofL (by decide) (Nat.le_of_ble_eq_true rfl) ?_
  intro p e s m args below meth c ls Q hx hcb hml hown hts hS hW hl hret
  have hown : s.vm.findClass RX10 = some m.cls := hown
  have hl : lv_has ls 1 [(0, .ref (X.2.1 0))] := hl
  unfold wp_X10_how at h
  refine lv_aload_n (pc := 0) hx hcb dX10_how_0 rfl (lv_at hl 0 rfl) ?_
  refine kget (v := .ref (X.2.1 31)) (pc := 1) hx hcb hts hown hS hW iwX10 kOC_0 rfl 9 (by decide) q430 rfl rfl dX10_how_1 ?_
  refine lv_aload_n (pc := 4) hx hcb dX10_how_4 rfl (lv_at hl 0 rfl) ?_
  have hd1 : kFm (σ.2.2 0) := hW.2.2.1
  refine kget (v := .ref (X.2.1 (σ.2.2 0))) (pc := 5) hx hcb hts hown hS hW iwX10 kOC_0 rfl 2 (by decide) q423 rfl rfl dX10_how_5 ?_
  refine lv_aload_n (pc := 8) hx hcb dX10_how_8 rfl (lv_at hl 0 rfl) ?_
  refine kget (v := .ref (X.2.1 28)) (pc := 9) hx hcb hts hown hS hW iwX10 kOC_0 rfl 8 (by decide) q429 rfl rfl dX10_how_9 ?_
  refine lv_iconst (v := (-1)) (pc := 12) hx hcb dX10_how_12 rfl ?_
  refine kcl (krunV (As := [.ref (X.2.1 (σ.2.2 0)), .ref (X.2.1 28), .int (-1)]) (rest := []) (pc := 13) hx hcb hml hown hts hS hW (c_X7_ways l X σ (σ.2.2 0) hd1 28 (Or.inr rfl : kTd 28) (-1) _ h) mf_X7_ways q786 kOC_31 rfl ⟨rfl, rfl⟩ ⟨Nat.le_of_ble_eq_true rfl, Nat.le_of_ble_eq_true rfl⟩ rfl hl.1 rfl (Nat.le_of_ble_eq_true rfl) dX10_how_13 ⟨Nat.zero_le _, Nat.zero_le _⟩) hS hW (fun r3 σ2 H locs h hW => ?_)
  exact hret _ _ _ _ _ _ h hW dX10_how_16
abbrev rm_X10_keep : Room := { frames := 2, cells := 0, slots := 0, locals := 42 }
set_option maxHeartbeats 4000000 in
set_option maxRecDepth 100000 in
theorem c_X10_keep (l : Launch) (X : KX) (σ : Mm)  (Φ : Int32 → Mm → Prop) (h : wp_X10_keep σ  Φ) : Met l yX10_keep (.code yX10_keep cX10_keep 1 (some .int) :: kT) rm_X10_keep (va_Pc [.ref (X.2.1 0)] (kPre kZC X σ)) (va_Qi (fun r σ' => Φ r σ') (fun σ' t => kPre kZC X σ' t) (kA kZC X)) 0 0 (kA kZC X) := by
  refine kofI (by decide) (Nat.le_of_ble_eq_true rfl) ?_
  intro p e s m args below meth c ls Q hx hcb hml hown hts hS hW hl hret
  have hown : s.vm.findClass RX10 = some m.cls := hown
  have hl : lv_has ls 1 [(0, .ref (X.2.1 0))] := hl
  unfold wp_X10_keep at h
  refine lv_aload_n (pc := 0) hx hcb dX10_keep_0 rfl (lv_at hl 0 rfl) ?_
  refine kget (v := .ref (X.2.1 21)) (pc := 1) hx hcb hts hown hS hW iwX10 kOC_0 rfl 6 (by decide) q427 rfl rfl dX10_keep_1 ?_
  refine kci (krunV (As := []) (rest := []) (pc := 4) hx hcb hml hown hts hS hW (c_X4_size l X σ 21 (Or.inr rfl : kMs 21) _ h) mf_X4_size q561 (kO_X4 (Or.inr rfl : kMs 21)) rfl ⟨rfl, rfl⟩ ⟨Nat.le_of_ble_eq_true rfl, Nat.le_of_ble_eq_true rfl⟩ rfl hl.1 rfl (Nat.le_of_ble_eq_true rfl) dX10_keep_4 ⟨Nat.zero_le _, Nat.zero_le _⟩) hS hW (fun r2 σ1 H locs h hW => ?_)
  obtain ⟨h, rfl⟩ := h
  refine lv_iconst (v := 2) (pc := 7) hx hcb dX10_keep_7 rfl ?_
  refine lv_icmp_lt (tgt := 14) (pc := 8) hx hcb dX10_keep_8 (by decide) (fun c8 => ?_) (fun c8 => ?_)
  · have h := h.1 c8
    refine lv_aload_n (pc := 14) hx hcb dX10_keep_14 rfl (lv_at hl 0 rfl) ?_
    refine kget (v := .ref (X.2.1 21)) (pc := 15) hx hcb hts hown hS hW iwX10 kOC_0 rfl 6 (by decide) q427 rfl rfl dX10_keep_15 ?_
    refine lv_aload_n (pc := 18) hx hcb dX10_keep_18 rfl (lv_at hl 0 rfl) ?_
    refine kget (v := .ref (X.2.1 16)) (pc := 19) hx hcb hts hown hS hW iwX10 kOC_0 rfl 4 (by decide) q425 rfl rfl dX10_keep_19 ?_
    refine kcv (krunV (As := [.ref (X.2.1 16)]) (rest := []) (pc := 22) hx hcb hml hown hts hS hW (c_X4_push l X σ 21 (Or.inr rfl : kMs 21) _ h) mf_X4_push q522 (kO_X4 (Or.inr rfl : kMs 21)) rfl ⟨rfl, rfl⟩ ⟨Nat.le_of_ble_eq_true rfl, Nat.le_of_ble_eq_true rfl⟩ rfl hl.1 rfl (Nat.le_of_ble_eq_true rfl) dX10_keep_22 ⟨Nat.zero_le _, Nat.zero_le _⟩) hS hW (fun σ3 H locs h hW => ?_)
    refine lv_aload_n (pc := 25) hx hcb dX10_keep_25 rfl (lv_at hl 0 rfl) ?_
    refine kget (v := .ref (X.2.1 21)) (pc := 26) hx hcb hts hown hS hW iwX10 kOC_0 rfl 6 (by decide) q427 rfl rfl dX10_keep_26 ?_
    refine kci (krunV (As := []) (rest := []) (pc := 29) hx hcb hml hown hts hS hW (c_X4_size l X σ3 21 (Or.inr rfl : kMs 21) _ h) mf_X4_size q561 (kO_X4 (Or.inr rfl : kMs 21)) rfl ⟨rfl, rfl⟩ ⟨Nat.le_of_ble_eq_true rfl, Nat.le_of_ble_eq_true rfl⟩ rfl hl.1 rfl (Nat.le_of_ble_eq_true rfl) dX10_keep_29 ⟨Nat.zero_le _, Nat.zero_le _⟩) hS hW (fun r5 σ4 H locs h hW => ?_)
    obtain ⟨h, rfl⟩ := h
    exact hret _ _ _ _ _ _ rfl h hW dX10_keep_32
  · have h := h.2 c8
    refine lv_bipush (v := (-3)) (pc := 11) hx hcb dX10_keep_11 rfl ?_
    exact hret _ _ _ _ _ _ rfl h hW dX10_keep_13
abbrev rm_X10_lay : Room := { frames := 6, cells := 0, slots := 0, locals := 133 }
set_option maxHeartbeats 4000000 in
set_option maxRecDepth 100000 in
theorem c_X10_lay (l : Launch) (X : KX) (σ : Mm)  (Φ : Int32 → Mm → Prop) (h : wp_X10_lay σ  Φ) : Met l yX10_lay (.code yX10_lay cX10_lay 2 (some .int) :: kT) rm_X10_lay (va_Pc [.ref (X.2.1 0)] (kPre kZC X σ)) (va_Qi (fun r σ' => Φ r σ') (fun σ' t => kPre kZC X σ' t) (kA kZC X)) 0 0 (kA kZC X) := by
  refine kofI (by decide) (Nat.le_of_ble_eq_true rfl) ?_
  intro p e s m args below meth c ls Q hx hcb hml hown hts hS hW hl hret
  have hown : s.vm.findClass RX10 = some m.cls := hown
  have hl : lv_has ls 2 [(0, .ref (X.2.1 0))] := hl
  unfold wp_X10_lay at h
  refine lv_aload_n (pc := 0) hx hcb dX10_lay_0 rfl (lv_at hl 0 rfl) ?_
  refine kget (v := .ref (X.2.1 3)) (pc := 1) hx hcb hts hown hS hW iwX10 kOC_0 rfl 1 (by decide) q422 rfl rfl dX10_lay_1 ?_
  refine lv_aload_n (pc := 4) hx hcb dX10_lay_4 rfl (lv_at hl 0 rfl) ?_
  have hd1 : kFm (σ.2.2 1) := hW.2.2.2.1
  refine kget (v := .ref (X.2.1 (σ.2.2 1))) (pc := 5) hx hcb hts hown hS hW iwX10 kOC_0 rfl 3 (by decide) q424 rfl rfl dX10_lay_5 ?_
  refine kci (krunV (As := [.ref (X.2.1 (σ.2.2 1))]) (rest := []) (pc := 8) hx hcb hml hown hts hS hW (c_X5_readInto l X σ (σ.2.2 1) hd1 _ h) mf_X5_readInto q319 kOC_3 rfl ⟨rfl, rfl⟩ ⟨Nat.le_of_ble_eq_true rfl, Nat.le_of_ble_eq_true rfl⟩ rfl hl.1 rfl (Nat.le_of_ble_eq_true rfl) dX10_lay_8 ⟨Nat.zero_le _, Nat.zero_le _⟩) hS hW (fun r3 σ2 H locs h hW => ?_)
  refine lv_bipush (v := (-4)) (pc := 11) hx hcb dX10_lay_11 rfl ?_
  refine lv_icmp_ne (tgt := 26) (pc := 13) hx hcb dX10_lay_13 (by decide) (fun c13 => ?_) (fun c13 => ?_)
  · have h := h.1 c13
    refine lv_bipush (v := (-2)) (pc := 26) hx hcb dX10_lay_26 rfl ?_
    exact hret _ _ _ _ _ _ rfl h hW dX10_lay_28
  · have h := h.2 c13
    refine lv_aload_n (pc := 16) hx hcb dX10_lay_16 rfl (lv_at hl 0 rfl) ?_
    have hd4 : kFm (σ2.2.2 1) := hW.2.2.2.1
    refine kget (v := .ref (X.2.1 (σ2.2.2 1))) (pc := 17) hx hcb hts hown hS hW iwX10 kOC_0 rfl 3 (by decide) q424 rfl rfl dX10_lay_17 ?_
    refine kci (krunV (As := []) (rest := []) (pc := 20) hx hcb hml hown hts hS hW (c_X1_canBeLaid l X σ2 (σ2.2.2 1) hd4 _ h) mf_X1_canBeLaid q472 (kO_X1 hd4) rfl ⟨rfl, rfl⟩ ⟨Nat.le_of_ble_eq_true rfl, Nat.le_of_ble_eq_true rfl⟩ rfl hl.1 rfl (Nat.le_of_ble_eq_true rfl) dX10_lay_20 ⟨Nat.zero_le _, Nat.zero_le _⟩) hS hW (fun r6 σ5 H locs h hW => ?_)
    obtain ⟨h, rfl⟩ := h
    refine lv_if_ne (tgt := 29) (pc := 23) hx hcb dX10_lay_23 (by decide) (fun c23 => ?_) (fun c23 => ?_)
    · have h := h.1 c23
      refine lv_aload_n (pc := 29) hx hcb dX10_lay_29 rfl (lv_at hl 0 rfl) ?_
      have hd7 : kFm (σ2.2.2 0) := hW.2.2.1
      refine kget (v := .ref (X.2.1 (σ2.2.2 0))) (pc := 30) hx hcb hts hown hS hW iwX10 kOC_0 rfl 2 (by decide) q423 rfl rfl dX10_lay_30 ?_
      refine lv_astore_n (lv' := [(1, .ref (X.2.1 (σ2.2.2 0))), (0, .ref (X.2.1 0))]) (pc := 33) hx hcb dX10_lay_33 rfl hl (by decide) rfl (fun ls hl => ?_)
      refine lv_aload_n (pc := 34) hx hcb dX10_lay_34 rfl (lv_at hl 1 rfl) ?_
      refine lv_aload_n (pc := 35) hx hcb dX10_lay_35 rfl (lv_at hl 1 rfl) ?_
      have hd8 : kFm (σ2.2.2 1) := hW.2.2.2.1
      refine kget (v := .ref (X.2.1 (σ2.2.2 1))) (pc := 36) hx hcb hts hown hS hW iwX10 kOC_0 rfl 3 (by decide) q424 rfl rfl dX10_lay_36 ?_
      refine kputR (i := 0) (ty := .object "FollowingCalf$Farm") (pc := 39) hx hcb hts hown hS hW iwX10 tyX10 tyX10_ok nmX10 kOC_0 rfl 2 (by decide) q423 rfl rfl rfl rfl rfl (Nat.le_of_ble_eq_true rfl) rfl rsC_0 (okC_0 hW.2.2 hd8) dX10_lay_39 (fun σ9 H locs eσ9 hW => ?_)
      have h := h σ9 eσ9
      refine lv_aload_n (pc := 42) hx hcb dX10_lay_42 rfl (lv_at hl 1 rfl) ?_
      refine lv_aload_n (pc := 43) hx hcb dX10_lay_43 rfl (lv_at hl 0 rfl) ?_
      refine kputR (i := 1) (ty := .object "FollowingCalf$Farm") (pc := 44) hx hcb hts hown hS hW iwX10 tyX10 tyX10_ok nmX10 kOC_0 rfl 3 (by decide) q424 rfl rfl rfl rfl rfl (Nat.le_of_ble_eq_true rfl) rfl rsC_1 (okC_1 hW.2.2 hd7) dX10_lay_44 (fun σ10 H locs eσ10 hW => ?_)
      have h := h σ10 eσ10
      refine lv_aload_n (pc := 47) hx hcb dX10_lay_47 rfl (lv_at hl 1 rfl) ?_
      have hd11 : kFm (σ10.2.2 0) := hW.2.2.1
      refine kget (v := .ref (X.2.1 (σ10.2.2 0))) (pc := 48) hx hcb hts hown hS hW iwX10 kOC_0 rfl 2 (by decide) q423 rfl rfl dX10_lay_48 ?_
      refine kcv (krunV (As := []) (rest := []) (pc := 51) hx hcb hml hown hts hS hW (c_X1_measure l X σ10 (σ10.2.2 0) hd11 _ h) mf_X1_measure q394 (kO_X1 hd11) rfl ⟨rfl, rfl⟩ ⟨Nat.le_of_ble_eq_true rfl, Nat.le_of_ble_eq_true rfl⟩ rfl hl.1 rfl (Nat.le_of_ble_eq_true rfl) dX10_lay_51 ⟨Nat.zero_le _, Nat.zero_le _⟩) hS hW (fun σ12 H locs h hW => ?_)
      refine lv_aload_n (pc := 54) hx hcb dX10_lay_54 rfl (lv_at hl 1 rfl) ?_
      refine kget (v := .ref (X.2.1 16)) (pc := 55) hx hcb hts hown hS hW iwX10 kOC_0 rfl 4 (by decide) q425 rfl rfl dX10_lay_55 ?_
      refine lv_aload_n (pc := 58) hx hcb dX10_lay_58 rfl (lv_at hl 1 rfl) ?_
      have hd13 : kFm (σ12.2.2 0) := hW.2.2.1
      refine kget (v := .ref (X.2.1 (σ12.2.2 0))) (pc := 59) hx hcb hts hown hS hW iwX10 kOC_0 rfl 2 (by decide) q423 rfl rfl dX10_lay_59 ?_
      refine kcv (krunV (As := [.ref (X.2.1 (σ12.2.2 0))]) (rest := []) (pc := 62) hx hcb hml hown hts hS hW (c_X3_begin l X σ12 (σ12.2.2 0) hd13 _ h) mf_X3_begin q410 kOC_16 rfl ⟨rfl, rfl⟩ ⟨Nat.le_of_ble_eq_true rfl, Nat.le_of_ble_eq_true rfl⟩ rfl hl.1 rfl (Nat.le_of_ble_eq_true rfl) dX10_lay_62 ⟨Nat.zero_le _, Nat.zero_le _⟩) hS hW (fun σ14 H locs h hW => ?_)
      refine lv_aload_n (pc := 65) hx hcb dX10_lay_65 rfl (lv_at hl 1 rfl) ?_
      refine kget (v := .ref (X.2.1 25)) (pc := 66) hx hcb hts hown hS hW iwX10 kOC_0 rfl 7 (by decide) q428 rfl rfl dX10_lay_66 ?_
      refine kci (krunV (As := []) (rest := []) (pc := 69) hx hcb hml hown hts hS hW (c_X9_clear l X σ14 25 (Or.inl rfl : kTd 25) _ h) mf_X9_clear q476 (kO_X9 (Or.inl rfl : kTd 25)) rfl ⟨rfl, rfl⟩ ⟨Nat.le_of_ble_eq_true rfl, Nat.le_of_ble_eq_true rfl⟩ rfl hl.1 rfl (Nat.le_of_ble_eq_true rfl) dX10_lay_69 ⟨Nat.zero_le _, Nat.zero_le _⟩) hS hW (fun r16 σ15 H locs h hW => ?_)
      refine lv_pop (pc := 72) hx hcb dX10_lay_72 rfl ?_
      refine lv_aload_n (pc := 73) hx hcb dX10_lay_73 rfl (lv_at hl 1 rfl) ?_
      refine kget (v := .ref (X.2.1 28)) (pc := 74) hx hcb hts hown hS hW iwX10 kOC_0 rfl 8 (by decide) q429 rfl rfl dX10_lay_74 ?_
      refine kci (krunV (As := []) (rest := []) (pc := 77) hx hcb hml hown hts hS hW (c_X9_clear l X σ15 28 (Or.inr rfl : kTd 28) _ h) mf_X9_clear q476 (kO_X9 (Or.inr rfl : kTd 28)) rfl ⟨rfl, rfl⟩ ⟨Nat.le_of_ble_eq_true rfl, Nat.le_of_ble_eq_true rfl⟩ rfl hl.1 rfl (Nat.le_of_ble_eq_true rfl) dX10_lay_77 ⟨Nat.zero_le _, Nat.zero_le _⟩) hS hW (fun r18 σ17 H locs h hW => ?_)
      refine lv_pop (pc := 80) hx hcb dX10_lay_80 rfl ?_
      refine lv_aload_n (pc := 81) hx hcb dX10_lay_81 rfl (lv_at hl 1 rfl) ?_
      refine kget (v := .ref (X.2.1 17)) (pc := 82) hx hcb hts hown hS hW iwX10 kOC_0 rfl 5 (by decide) q426 rfl rfl dX10_lay_82 ?_
      refine kcv (krunV (As := []) (rest := []) (pc := 85) hx hcb hml hown hts hS hW (c_X4_clear l X σ17 17 (Or.inl rfl : kMs 17) _ h) mf_X4_clear q480 (kO_X4 (Or.inl rfl : kMs 17)) rfl ⟨rfl, rfl⟩ ⟨Nat.le_of_ble_eq_true rfl, Nat.le_of_ble_eq_true rfl⟩ rfl hl.1 rfl (Nat.le_of_ble_eq_true rfl) dX10_lay_85 ⟨Nat.zero_le _, Nat.zero_le _⟩) hS hW (fun σ19 H locs h hW => ?_)
      refine lv_aload_n (pc := 88) hx hcb dX10_lay_88 rfl (lv_at hl 1 rfl) ?_
      refine kget (v := .ref (X.2.1 21)) (pc := 89) hx hcb hts hown hS hW iwX10 kOC_0 rfl 6 (by decide) q427 rfl rfl dX10_lay_89 ?_
      refine kcv (krunV (As := []) (rest := []) (pc := 92) hx hcb hml hown hts hS hW (c_X4_clear l X σ19 21 (Or.inr rfl : kMs 21) _ h) mf_X4_clear q480 (kO_X4 (Or.inr rfl : kMs 21)) rfl ⟨rfl, rfl⟩ ⟨Nat.le_of_ble_eq_true rfl, Nat.le_of_ble_eq_true rfl⟩ rfl hl.1 rfl (Nat.le_of_ble_eq_true rfl) dX10_lay_92 ⟨Nat.zero_le _, Nat.zero_le _⟩) hS hW (fun σ20 H locs h hW => ?_)
      refine lv_aload_n (pc := 95) hx hcb dX10_lay_95 rfl (lv_at hl 1 rfl) ?_
      have hd21 : kFm (σ20.2.2 0) := hW.2.2.1
      refine kget (v := .ref (X.2.1 (σ20.2.2 0))) (pc := 96) hx hcb hts hown hS hW iwX10 kOC_0 rfl 2 (by decide) q423 rfl rfl dX10_lay_96 ?_
      refine kci (krunV (As := []) (rest := []) (pc := 99) hx hcb hml hown hts hS hW (c_X1_persons l X σ20 (σ20.2.2 0) hd21 _ h) mf_X1_persons q484 (kO_X1 hd21) rfl ⟨rfl, rfl⟩ ⟨Nat.le_of_ble_eq_true rfl, Nat.le_of_ble_eq_true rfl⟩ rfl hl.1 rfl (Nat.le_of_ble_eq_true rfl) dX10_lay_99 ⟨Nat.zero_le _, Nat.zero_le _⟩) hS hW (fun r23 σ22 H locs h hW => ?_)
      obtain ⟨h, rfl⟩ := h
      exact hret _ _ _ _ _ _ rfl h hW dX10_lay_102
    · have h := h.2 c23
      refine lv_bipush (v := (-2)) (pc := 26) hx hcb dX10_lay_26 rfl ?_
      exact hret _ _ _ _ _ _ rfl h hW dX10_lay_28
abbrev rm_X10_noGoals : Room := { frames := 1, cells := 0, slots := 0, locals := 21 }
set_option maxHeartbeats 4000000 in
set_option maxRecDepth 100000 in
theorem c_X10_noGoals (l : Launch) (X : KX) (σ : Mm)  (Φ : Int32 → Mm → Prop) (h : wp_X10_noGoals σ  Φ) : Met l yX10_noGoals (.code yX10_noGoals cX10_noGoals 1 (some .int) :: kT) rm_X10_noGoals (va_Pc [.ref (X.2.1 0)] (kPre kZC X σ)) (va_Qi (fun r σ' => Φ r σ') (fun σ' t => kPre kZC X σ' t) (kA kZC X)) 0 0 (kA kZC X) := by
  refine kofI (by decide) (Nat.le_of_ble_eq_true rfl) ?_
  intro p e s m args below meth c ls Q hx hcb hml hown hts hS hW hl hret
  have hown : s.vm.findClass RX10 = some m.cls := hown
  have hl : lv_has ls 1 [(0, .ref (X.2.1 0))] := hl
  unfold wp_X10_noGoals at h
  refine lv_aload_n (pc := 0) hx hcb dX10_noGoals_0 rfl (lv_at hl 0 rfl) ?_
  refine kget (v := .ref (X.2.1 25)) (pc := 1) hx hcb hts hown hS hW iwX10 kOC_0 rfl 7 (by decide) q428 rfl rfl dX10_noGoals_1 ?_
  refine kci (krunV (As := []) (rest := []) (pc := 4) hx hcb hml hown hts hS hW (c_X9_clear l X σ 25 (Or.inl rfl : kTd 25) _ h) mf_X9_clear q476 (kO_X9 (Or.inl rfl : kTd 25)) rfl ⟨rfl, rfl⟩ ⟨Nat.le_of_ble_eq_true rfl, Nat.le_of_ble_eq_true rfl⟩ rfl hl.1 rfl (Nat.le_of_ble_eq_true rfl) dX10_noGoals_4 ⟨Nat.zero_le _, Nat.zero_le _⟩) hS hW (fun r2 σ1 H locs h hW => ?_)
  exact hret _ _ _ _ _ _ rfl h hW dX10_noGoals_7
abbrev rm_X10_pass : Room := { frames := 3, cells := 0, slots := 0, locals := 73 }
set_option maxHeartbeats 4000000 in
set_option maxRecDepth 100000 in
theorem c_X10_pass (l : Launch) (X : KX) (σ : Mm) (x1 : Int32) (Φ : Int32 → Mm → Prop) (h : wp_X10_pass σ x1 Φ) : Met l yX10_pass (.code yX10_pass cX10_pass 2 (some .int) :: kT) rm_X10_pass (va_Pc [.ref (X.2.1 0), .int x1] (kPre kZC X σ)) (va_Qi (fun r σ' => Φ r σ') (fun σ' t => kPre kZC X σ' t) (kA kZC X)) 0 0 (kA kZC X) := by
  refine kofI (by decide) (Nat.le_of_ble_eq_true rfl) ?_
  intro p e s m args below meth c ls Q hx hcb hml hown hts hS hW hl hret
  have hown : s.vm.findClass RX10 = some m.cls := hown
  have hl : lv_has ls 2 [(0, .ref (X.2.1 0)), (1, .int x1)] := hl
  unfold wp_X10_pass at h
  refine lv_iload_n (pc := 0) hx hcb dX10_pass_0 rfl (lv_at hl 1 rfl) ?_
  refine lv_iconst (v := 1) (pc := 1) hx hcb dX10_pass_1 rfl ?_
  refine lv_icmp_lt (tgt := 11) (pc := 2) hx hcb dX10_pass_2 (by decide) (fun c2 => ?_) (fun c2 => ?_)
  · have h := h.1 c2
    refine lv_iconst (v := (-1)) (pc := 11) hx hcb dX10_pass_11 rfl ?_
    exact hret _ _ _ _ _ _ rfl h hW dX10_pass_12
  · have h := h.2 c2
    refine lv_iload_n (pc := 5) hx hcb dX10_pass_5 rfl (lv_at hl 1 rfl) ?_
    refine lv_bipush (v := 99) (pc := 6) hx hcb dX10_pass_6 rfl ?_
    refine lv_icmp_le (tgt := 13) (pc := 8) hx hcb dX10_pass_8 (by decide) (fun c8 => ?_) (fun c8 => ?_)
    · have h := h.1 c8
      refine lv_aload_n (pc := 13) hx hcb dX10_pass_13 rfl (lv_at hl 0 rfl) ?_
      refine kget (v := .ref (X.2.1 16)) (pc := 14) hx hcb hts hown hS hW iwX10 kOC_0 rfl 4 (by decide) q425 rfl rfl dX10_pass_14 ?_
      refine kgetN (v := .int (σ.1 16 0)) (pc := 17) hx hcb hts hown hS hW iwX3 kOC_16 rfl 0 (by decide) q152 rfl rfl dX10_pass_17 ?_
      refine lv_iload_n (pc := 20) hx hcb dX10_pass_20 rfl (lv_at hl 1 rfl) ?_
      refine lv_iadd (pc := 21) hx hcb dX10_pass_21 ?_
      refine lv_sipush (v := 9999) (pc := 22) hx hcb dX10_pass_22 rfl ?_
      refine lv_icmp_le (tgt := 31) (pc := 25) hx hcb dX10_pass_25 (by decide) (fun c25 => ?_) (fun c25 => ?_)
      · have h := h.1 c25
        refine lv_aload_n (pc := 31) hx hcb dX10_pass_31 rfl (lv_at hl 0 rfl) ?_
        refine kget (v := .ref (X.2.1 17)) (pc := 32) hx hcb hts hown hS hW iwX10 kOC_0 rfl 5 (by decide) q426 rfl rfl dX10_pass_32 ?_
        refine lv_aload_n (pc := 35) hx hcb dX10_pass_35 rfl (lv_at hl 0 rfl) ?_
        refine kget (v := .ref (X.2.1 16)) (pc := 36) hx hcb hts hown hS hW iwX10 kOC_0 rfl 4 (by decide) q425 rfl rfl dX10_pass_36 ?_
        refine kcv (krunV (As := [.ref (X.2.1 16)]) (rest := []) (pc := 39) hx hcb hml hown hts hS hW (c_X4_push l X σ 17 (Or.inl rfl : kMs 17) _ h) mf_X4_push q522 (kO_X4 (Or.inl rfl : kMs 17)) rfl ⟨rfl, rfl⟩ ⟨Nat.le_of_ble_eq_true rfl, Nat.le_of_ble_eq_true rfl⟩ rfl hl.1 rfl (Nat.le_of_ble_eq_true rfl) dX10_pass_39 ⟨Nat.zero_le _, Nat.zero_le _⟩) hS hW (fun σ1 H locs h hW => ?_)
        refine lv_aload_n (pc := 42) hx hcb dX10_pass_42 rfl (lv_at hl 0 rfl) ?_
        refine kget (v := .ref (X.2.1 16)) (pc := 43) hx hcb hts hown hS hW iwX10 kOC_0 rfl 4 (by decide) q425 rfl rfl dX10_pass_43 ?_
        refine lv_aload_n (pc := 46) hx hcb dX10_pass_46 rfl (lv_at hl 0 rfl) ?_
        have hd2 : kFm (σ1.2.2 0) := hW.2.2.1
        refine kget (v := .ref (X.2.1 (σ1.2.2 0))) (pc := 47) hx hcb hts hown hS hW iwX10 kOC_0 rfl 2 (by decide) q423 rfl rfl dX10_pass_47 ?_
        refine lv_aload_n (pc := 50) hx hcb dX10_pass_50 rfl (lv_at hl 0 rfl) ?_
        refine kget (v := .ref (X.2.1 16)) (pc := 51) hx hcb hts hown hS hW iwX10 kOC_0 rfl 4 (by decide) q425 rfl rfl dX10_pass_51 ?_
        refine kgetN (v := .int (σ1.1 16 1)) (pc := 54) hx hcb hts hown hS hW iwX3 kOC_16 rfl 1 (by decide) q157 rfl rfl dX10_pass_54 ?_
        refine lv_aload_n (pc := 57) hx hcb dX10_pass_57 rfl (lv_at hl 0 rfl) ?_
        refine kget (v := .ref (X.2.1 16)) (pc := 58) hx hcb hts hown hS hW iwX10 kOC_0 rfl 4 (by decide) q425 rfl rfl dX10_pass_58 ?_
        refine kgetN (v := .int (σ1.1 16 0)) (pc := 61) hx hcb hts hown hS hW iwX3 kOC_16 rfl 0 (by decide) q152 rfl rfl dX10_pass_61 ?_
        refine lv_iload_n (pc := 64) hx hcb dX10_pass_64 rfl (lv_at hl 1 rfl) ?_
        refine kci (krunV (As := [.int (σ1.1 16 1), .int (σ1.1 16 0), .int x1]) (rest := [.ref (X.2.1 16)]) (pc := 65) hx hcb hml hown hts hS hW (c_X1_unfed l X σ1 (σ1.2.2 0) hd2 (σ1.1 16 1) (σ1.1 16 0) x1 _ h) mf_X1_unfed q539 (kO_X1 hd2) rfl ⟨rfl, rfl⟩ ⟨Nat.le_of_ble_eq_true rfl, Nat.le_of_ble_eq_true rfl⟩ rfl hl.1 rfl (Nat.le_of_ble_eq_true rfl) dX10_pass_65 ⟨Nat.zero_le _, Nat.zero_le _⟩) hS hW (fun r4 σ3 H locs h hW => ?_)
        obtain ⟨h, rfl⟩ := h
        refine kputN (ty := .int) (pc := 68) hx hcb hts hown hS hW iwX3 tyX3 tyX3_ok nmX3 kOC_16 rfl 1 (by decide) q157 rfl rfl rfl rfl rfl (Nat.le_of_ble_eq_true rfl) rfl dX10_pass_68 (fun σ5 H locs eσ5 hW => ?_)
        have h := h σ5 eσ5
        refine lv_aload_n (pc := 71) hx hcb dX10_pass_71 rfl (lv_at hl 0 rfl) ?_
        refine kget (v := .ref (X.2.1 16)) (pc := 72) hx hcb hts hown hS hW iwX10 kOC_0 rfl 4 (by decide) q425 rfl rfl dX10_pass_72 ?_
        refine lv_dup (pc := 75) hx hcb dX10_pass_75 rfl ?_
        refine kgetN (v := .int (σ5.1 16 0)) (pc := 76) hx hcb hts hown hS hW iwX3 kOC_16 rfl 0 (by decide) q152 rfl rfl dX10_pass_76 ?_
        refine lv_iload_n (pc := 79) hx hcb dX10_pass_79 rfl (lv_at hl 1 rfl) ?_
        refine lv_iadd (pc := 80) hx hcb dX10_pass_80 ?_
        refine kputN (ty := .int) (pc := 81) hx hcb hts hown hS hW iwX3 tyX3 tyX3_ok nmX3 kOC_16 rfl 0 (by decide) q152 rfl rfl rfl rfl rfl (Nat.le_of_ble_eq_true rfl) rfl dX10_pass_81 (fun σ6 H locs eσ6 hW => ?_)
        have h := h σ6 eσ6
        refine lv_aload_n (pc := 84) hx hcb dX10_pass_84 rfl (lv_at hl 0 rfl) ?_
        refine kget (v := .ref (X.2.1 16)) (pc := 85) hx hcb hts hown hS hW iwX10 kOC_0 rfl 4 (by decide) q425 rfl rfl dX10_pass_85 ?_
        refine kgetN (v := .int (σ6.1 16 1)) (pc := 88) hx hcb hts hown hS hW iwX3 kOC_16 rfl 1 (by decide) q157 rfl rfl dX10_pass_88 ?_
        refine kci (krunS (As := [.int (σ6.1 16 1)]) (rest := []) (pc := 91) hx hcb hml hown hts hS hW (c_X10_yardOf l X σ6 (σ6.1 16 1) _ h) mf_X10_yardOf q533 ⟨rfl, rfl⟩ ⟨Nat.le_of_ble_eq_true rfl, Nat.le_of_ble_eq_true rfl⟩ rfl hl.1 rfl (Nat.le_of_ble_eq_true rfl) dX10_pass_91 ⟨Nat.zero_le _, Nat.zero_le _⟩) hS hW (fun r8 σ7 H locs h hW => ?_)
        obtain ⟨h, rfl⟩ := h
        exact hret _ _ _ _ _ _ rfl h hW dX10_pass_94
      · have h := h.2 c25
        refine lv_bipush (v := (-2)) (pc := 28) hx hcb dX10_pass_28 rfl ?_
        exact hret _ _ _ _ _ _ rfl h hW dX10_pass_30
    · have h := h.2 c8
      refine lv_iconst (v := (-1)) (pc := 11) hx hcb dX10_pass_11 rfl ?_
      exact hret _ _ _ _ _ _ rfl h hW dX10_pass_12
abbrev rm_X10_person : Room := { frames := 1, cells := 0, slots := 0, locals := 23 }
set_option maxHeartbeats 4000000 in
set_option maxRecDepth 100000 in
theorem c_X10_person (l : Launch) (X : KX) (σ : Mm) (x1 : Int32) (x2 : Int32) (Φ : Int32 → Prop) (h : wp_X10_person σ x1 x2 Φ) : Met l yX10_person (.code yX10_person cX10_person 3 (some .int) :: kT) rm_X10_person (va_Pc [.ref (X.2.1 0), .int x1, .int x2] (kPre kZC X σ)) (va_Qi (fun r σ' => Φ r ∧ σ = σ') (fun σ' t => kPre kZC X σ' t) (kA kZC X)) 0 0 (kA kZC X) := by
  refine kofI (by decide) (Nat.le_of_ble_eq_true rfl) ?_
  intro p e s m args below meth c ls Q hx hcb hml hown hts hS hW hl hret
  have hown : s.vm.findClass RX10 = some m.cls := hown
  have hl : lv_has ls 3 [(0, .ref (X.2.1 0)), (1, .int x1), (2, .int x2)] := hl
  unfold wp_X10_person at h
  refine lv_aload_n (pc := 0) hx hcb dX10_person_0 rfl (lv_at hl 0 rfl) ?_
  have hd1 : kFm (σ.2.2 0) := hW.2.2.1
  refine kget (v := .ref (X.2.1 (σ.2.2 0))) (pc := 1) hx hcb hts hown hS hW iwX10 kOC_0 rfl 2 (by decide) q423 rfl rfl dX10_person_1 ?_
  refine lv_iload_n (pc := 4) hx hcb dX10_person_4 rfl (lv_at hl 1 rfl) ?_
  refine kci (krunV (As := [.int x1]) (rest := []) (pc := 5) hx hcb hml hown hts hS hW (c_X1_hasPerson l X σ (σ.2.2 0) hd1 x1 _ h) mf_X1_hasPerson q498 (kO_X1 hd1) rfl ⟨rfl, rfl⟩ ⟨Nat.le_of_ble_eq_true rfl, Nat.le_of_ble_eq_true rfl⟩ rfl hl.1 rfl (Nat.le_of_ble_eq_true rfl) dX10_person_5 ⟨Nat.zero_le _, Nat.zero_le _⟩) hS hW (fun r3 σ2 H locs h hW => ?_)
  obtain ⟨h, rfl⟩ := h
  refine lv_if_eq (tgt := 23) (pc := 8) hx hcb dX10_person_8 (by decide) (fun c8 => ?_) (fun c8 => ?_)
  · have h := h.1 c8
    refine lv_iconst (v := (-1)) (pc := 23) hx hcb dX10_person_23 rfl ?_
    exact hret _ _ _ _ _ _ rfl ⟨h, rfl⟩ hW dX10_person_24
  · have h := h.2 c8
    refine lv_iload_n (pc := 11) hx hcb dX10_person_11 rfl (lv_at hl 2 rfl) ?_
    refine lv_iconst (v := (-1)) (pc := 12) hx hcb dX10_person_12 rfl ?_
    refine lv_icmp_lt (tgt := 23) (pc := 13) hx hcb dX10_person_13 (by decide) (fun c13 => ?_) (fun c13 => ?_)
    · have h := h.1 c13
      refine lv_iconst (v := (-1)) (pc := 23) hx hcb dX10_person_23 rfl ?_
      exact hret _ _ _ _ _ _ rfl ⟨h, rfl⟩ hW dX10_person_24
    · have h := h.2 c13
      refine lv_iload_n (pc := 16) hx hcb dX10_person_16 rfl (lv_at hl 2 rfl) ?_
      refine lv_sipush (v := 9999) (pc := 17) hx hcb dX10_person_17 rfl ?_
      refine lv_icmp_le (tgt := 25) (pc := 20) hx hcb dX10_person_20 (by decide) (fun c20 => ?_) (fun c20 => ?_)
      · have h := h.1 c20
        refine lv_iload_n (pc := 25) hx hcb dX10_person_25 rfl (lv_at hl 2 rfl) ?_
        refine lv_iconst (v := (-1)) (pc := 26) hx hcb dX10_person_26 rfl ?_
        refine lv_icmp_ne (tgt := 41) (pc := 27) hx hcb dX10_person_27 (by decide) (fun c27 => ?_) (fun c27 => ?_)
        · have h := h.1 c27
          refine lv_aload_n (pc := 41) hx hcb dX10_person_41 rfl (lv_at hl 0 rfl) ?_
          have hd4 : kFm (σ.2.2 0) := hW.2.2.1
          refine kget (v := .ref (X.2.1 (σ.2.2 0))) (pc := 42) hx hcb hts hown hS hW iwX10 kOC_0 rfl 2 (by decide) q423 rfl rfl dX10_person_42 ?_
          refine lv_iload_n (pc := 45) hx hcb dX10_person_45 rfl (lv_at hl 1 rfl) ?_
          refine lv_iload_n (pc := 46) hx hcb dX10_person_46 rfl (lv_at hl 2 rfl) ?_
          refine kci (krunV (As := [.int x1, .int x2]) (rest := []) (pc := 47) hx hcb hml hown hts hS hW (c_X1_yardAt l X σ (σ.2.2 0) hd4 x1 x2 _ h) mf_X1_yardAt q506 (kO_X1 hd4) rfl ⟨rfl, rfl⟩ ⟨Nat.le_of_ble_eq_true rfl, Nat.le_of_ble_eq_true rfl⟩ rfl hl.1 rfl (Nat.le_of_ble_eq_true rfl) dX10_person_47 ⟨Nat.zero_le _, Nat.zero_le _⟩) hS hW (fun r6 σ5 H locs h hW => ?_)
          obtain ⟨h, rfl⟩ := h
          exact hret _ _ _ _ _ _ rfl ⟨h, rfl⟩ hW dX10_person_50
        · have h := h.2 c27
          refine lv_aload_n (pc := 30) hx hcb dX10_person_30 rfl (lv_at hl 0 rfl) ?_
          have hd7 : kFm (σ.2.2 0) := hW.2.2.1
          refine kget (v := .ref (X.2.1 (σ.2.2 0))) (pc := 31) hx hcb hts hown hS hW iwX10 kOC_0 rfl 2 (by decide) q423 rfl rfl dX10_person_31 ?_
          refine lv_iload_n (pc := 34) hx hcb dX10_person_34 rfl (lv_at hl 1 rfl) ?_
          refine kci (krunV (As := [.int x1]) (rest := []) (pc := 35) hx hcb hml hown hts hS hW (c_X1_cost l X σ (σ.2.2 0) hd7 x1 _ h) mf_X1_cost q502 (kO_X1 hd7) rfl ⟨rfl, rfl⟩ ⟨Nat.le_of_ble_eq_true rfl, Nat.le_of_ble_eq_true rfl⟩ rfl hl.1 rfl (Nat.le_of_ble_eq_true rfl) dX10_person_35 ⟨Nat.zero_le _, Nat.zero_le _⟩) hS hW (fun r9 σ8 H locs h hW => ?_)
          obtain ⟨h, rfl⟩ := h
          refine lv_goto (tgt := 50) (pc := 38) hx hcb dX10_person_38 (by decide) ?_
          exact hret _ _ _ _ _ _ rfl ⟨h, rfl⟩ hW dX10_person_50
      · have h := h.2 c20
        refine lv_iconst (v := (-1)) (pc := 23) hx hcb dX10_person_23 rfl ?_
        exact hret _ _ _ _ _ _ rfl ⟨h, rfl⟩ hW dX10_person_24
abbrev rm_X10_price : Room := { frames := 6, cells := 0, slots := 0, locals := 149 }
set_option maxHeartbeats 4000000 in
set_option maxRecDepth 100000 in
theorem c_X10_price (l : Launch) (X : KX) (σ : Mm)  (Φ : Int32 → Mm → Prop) (h : wp_X10_price σ  Φ) : Met l yX10_price (.code yX10_price cX10_price 1 (some .int) :: kT) rm_X10_price (va_Pc [.ref (X.2.1 0)] (kPre kZC X σ)) (va_Qi (fun r σ' => Φ r σ') (fun σ' t => kPre kZC X σ' t) (kA kZC X)) 0 0 (kA kZC X) := by
  refine kofI (by decide) (Nat.le_of_ble_eq_true rfl) ?_
  intro p e s m args below meth c ls Q hx hcb hml hown hts hS hW hl hret
  have hown : s.vm.findClass RX10 = some m.cls := hown
  have hl : lv_has ls 1 [(0, .ref (X.2.1 0))] := hl
  unfold wp_X10_price at h
  refine lv_aload_n (pc := 0) hx hcb dX10_price_0 rfl (lv_at hl 0 rfl) ?_
  refine kget (v := .ref (X.2.1 31)) (pc := 1) hx hcb hts hown hS hW iwX10 kOC_0 rfl 9 (by decide) q430 rfl rfl dX10_price_1 ?_
  refine lv_aload_n (pc := 4) hx hcb dX10_price_4 rfl (lv_at hl 0 rfl) ?_
  have hd1 : kFm (σ.2.2 0) := hW.2.2.1
  refine kget (v := .ref (X.2.1 (σ.2.2 0))) (pc := 5) hx hcb hts hown hS hW iwX10 kOC_0 rfl 2 (by decide) q423 rfl rfl dX10_price_5 ?_
  refine lv_aload_n (pc := 8) hx hcb dX10_price_8 rfl (lv_at hl 0 rfl) ?_
  refine kget (v := .ref (X.2.1 16)) (pc := 9) hx hcb hts hown hS hW iwX10 kOC_0 rfl 4 (by decide) q425 rfl rfl dX10_price_9 ?_
  refine lv_aload_n (pc := 12) hx hcb dX10_price_12 rfl (lv_at hl 0 rfl) ?_
  refine kget (v := .ref (X.2.1 25)) (pc := 13) hx hcb hts hown hS hW iwX10 kOC_0 rfl 7 (by decide) q428 rfl rfl dX10_price_13 ?_
  refine kci (krunV (As := [.ref (X.2.1 (σ.2.2 0)), .ref (X.2.1 16), .ref (X.2.1 25)]) (rest := []) (pc := 16) hx hcb hml hown hts hS hW (c_X7_cheapest l X σ (σ.2.2 0) hd1 25 (Or.inl rfl : kTd 25) _ h) mf_X7_cheapest q596 kOC_31 rfl ⟨rfl, rfl⟩ ⟨Nat.le_of_ble_eq_true rfl, Nat.le_of_ble_eq_true rfl⟩ rfl hl.1 rfl (Nat.le_of_ble_eq_true rfl) dX10_price_16 ⟨Nat.zero_le _, Nat.zero_le _⟩) hS hW (fun r3 σ2 H locs h hW => ?_)
  refine lv_bipush (v := (-4)) (pc := 19) hx hcb dX10_price_19 rfl ?_
  refine lv_icmp_ne (tgt := 34) (pc := 21) hx hcb dX10_price_21 (by decide) (fun c21 => ?_) (fun c21 => ?_)
  · have h := h.1 c21
    refine lv_bipush (v := (-4)) (pc := 34) hx hcb dX10_price_34 rfl ?_
    exact hret _ _ _ _ _ _ rfl h hW dX10_price_36
  · have h := h.2 c21
    refine lv_aload_n (pc := 24) hx hcb dX10_price_24 rfl (lv_at hl 0 rfl) ?_
    refine kget (v := .ref (X.2.1 31)) (pc := 25) hx hcb hts hown hS hW iwX10 kOC_0 rfl 9 (by decide) q430 rfl rfl dX10_price_25 ?_
    refine kci (krunV (As := []) (rest := []) (pc := 28) hx hcb hml hown hts hS hW (c_X7_leastCost l X σ2  _ h) mf_X7_leastCost q687 kOC_31 rfl ⟨rfl, rfl⟩ ⟨Nat.le_of_ble_eq_true rfl, Nat.le_of_ble_eq_true rfl⟩ rfl hl.1 rfl (Nat.le_of_ble_eq_true rfl) dX10_price_28 ⟨Nat.zero_le _, Nat.zero_le _⟩) hS hW (fun r5 σ4 H locs h hW => ?_)
    obtain ⟨h, rfl⟩ := h
    refine lv_goto (tgt := 36) (pc := 31) hx hcb dX10_price_31 (by decide) ?_
    exact hret _ _ _ _ _ _ rfl h hW dX10_price_36
abbrev rm_X10_seen : Room := { frames := 1, cells := 0, slots := 0, locals := 22 }
set_option maxHeartbeats 4000000 in
set_option maxRecDepth 100000 in
theorem c_X10_seen (l : Launch) (X : KX) (σ : Mm) (x1 : Int32) (x2 : Int32) (Φ : Int32 → Mm → Prop) (h : wp_X10_seen σ x1 x2 Φ) : Met l yX10_seen (.code yX10_seen cX10_seen 3 (some .int) :: kT) rm_X10_seen (va_Pc [.ref (X.2.1 0), .int x1, .int x2] (kPre kZC X σ)) (va_Qi (fun r σ' => Φ r σ') (fun σ' t => kPre kZC X σ' t) (kA kZC X)) 0 0 (kA kZC X) := by
  refine kofI (by decide) (Nat.le_of_ble_eq_true rfl) ?_
  intro p e s m args below meth c ls Q hx hcb hml hown hts hS hW hl hret
  have hown : s.vm.findClass RX10 = some m.cls := hown
  have hl : lv_has ls 3 [(0, .ref (X.2.1 0)), (1, .int x1), (2, .int x2)] := hl
  unfold wp_X10_seen at h
  refine lv_aload_n (pc := 0) hx hcb dX10_seen_0 rfl (lv_at hl 0 rfl) ?_
  have hd1 : kFm (σ.2.2 0) := hW.2.2.1
  refine kget (v := .ref (X.2.1 (σ.2.2 0))) (pc := 1) hx hcb hts hown hS hW iwX10 kOC_0 rfl 2 (by decide) q423 rfl rfl dX10_seen_1 ?_
  refine lv_iload_n (pc := 4) hx hcb dX10_seen_4 rfl (lv_at hl 1 rfl) ?_
  refine kci (krunV (As := [.int x1]) (rest := []) (pc := 5) hx hcb hml hown hts hS hW (c_X1_hasYard l X σ (σ.2.2 0) hd1 x1 _ h) mf_X1_hasYard q492 (kO_X1 hd1) rfl ⟨rfl, rfl⟩ ⟨Nat.le_of_ble_eq_true rfl, Nat.le_of_ble_eq_true rfl⟩ rfl hl.1 rfl (Nat.le_of_ble_eq_true rfl) dX10_seen_5 ⟨Nat.zero_le _, Nat.zero_le _⟩) hS hW (fun r3 σ2 H locs h hW => ?_)
  obtain ⟨h, rfl⟩ := h
  refine lv_if_eq (tgt := 21) (pc := 8) hx hcb dX10_seen_8 (by decide) (fun c8 => ?_) (fun c8 => ?_)
  · have h := h.1 c8
    refine lv_iconst (v := (-1)) (pc := 21) hx hcb dX10_seen_21 rfl ?_
    exact hret _ _ _ _ _ _ rfl h hW dX10_seen_22
  · have h := h.2 c8
    refine lv_iload_n (pc := 11) hx hcb dX10_seen_11 rfl (lv_at hl 2 rfl) ?_
    refine lv_if_lt (tgt := 21) (pc := 12) hx hcb dX10_seen_12 (by decide) (fun c12 => ?_) (fun c12 => ?_)
    · have h := h.1 c12
      refine lv_iconst (v := (-1)) (pc := 21) hx hcb dX10_seen_21 rfl ?_
      exact hret _ _ _ _ _ _ rfl h hW dX10_seen_22
    · have h := h.2 c12
      refine lv_iload_n (pc := 15) hx hcb dX10_seen_15 rfl (lv_at hl 2 rfl) ?_
      refine lv_bipush (v := 20) (pc := 16) hx hcb dX10_seen_16 rfl ?_
      refine lv_icmp_le (tgt := 23) (pc := 18) hx hcb dX10_seen_18 (by decide) (fun c18 => ?_) (fun c18 => ?_)
      · have h := h.1 c18
        refine lv_aload_n (pc := 23) hx hcb dX10_seen_23 rfl (lv_at hl 0 rfl) ?_
        refine kget (v := .ref (X.2.1 28)) (pc := 24) hx hcb hts hown hS hW iwX10 kOC_0 rfl 8 (by decide) q429 rfl rfl dX10_seen_24 ?_
        refine lv_iload_n (pc := 27) hx hcb dX10_seen_27 rfl (lv_at hl 1 rfl) ?_
        refine lv_iload_n (pc := 28) hx hcb dX10_seen_28 rfl (lv_at hl 2 rfl) ?_
        refine kci (krunV (As := [.int x1, .int x2]) (rest := []) (pc := 29) hx hcb hml hown hts hS hW (c_X9_add l X σ 28 (Or.inr rfl : kTd 28) x1 x2 _ h) mf_X9_add q584 (kO_X9 (Or.inr rfl : kTd 28)) rfl ⟨rfl, rfl⟩ ⟨Nat.le_of_ble_eq_true rfl, Nat.le_of_ble_eq_true rfl⟩ rfl hl.1 rfl (Nat.le_of_ble_eq_true rfl) dX10_seen_29 ⟨Nat.zero_le _, Nat.zero_le _⟩) hS hW (fun r5 σ4 H locs h hW => ?_)
        exact hret _ _ _ _ _ _ rfl h hW dX10_seen_32
      · have h := h.2 c18
        refine lv_iconst (v := (-1)) (pc := 21) hx hcb dX10_seen_21 rfl ?_
        exact hret _ _ _ _ _ _ rfl h hW dX10_seen_22
abbrev rm_X10_sure : Room := { frames := 6, cells := 0, slots := 0, locals := 149 }
set_option maxHeartbeats 4000000 in
set_option maxRecDepth 100000 in
theorem c_X10_sure (l : Launch) (X : KX) (σ : Mm) (x1 : Int32) (Φ : Int32 → Mm → Prop) (h : wp_X10_sure σ x1 Φ) : Met l yX10_sure (.code yX10_sure cX10_sure 3 (some .int) :: kT) rm_X10_sure (va_Pc [.ref (X.2.1 0), .int x1] (kPre kZC X σ)) (va_Qi (fun r σ' => Φ r σ') (fun σ' t => kPre kZC X σ' t) (kA kZC X)) 0 0 (kA kZC X) := by
  refine kofI (by decide) (Nat.le_of_ble_eq_true rfl) ?_
  intro p e s m args below meth c ls Q hx hcb hml hown hts hS hW hl hret
  have hown : s.vm.findClass RX10 = some m.cls := hown
  have hl : lv_has ls 3 [(0, .ref (X.2.1 0)), (1, .int x1)] := hl
  unfold wp_X10_sure at h
  refine lv_aload_n (pc := 0) hx hcb dX10_sure_0 rfl (lv_at hl 0 rfl) ?_
  have hd1 : kFm (σ.2.2 0) := hW.2.2.1
  refine kget (v := .ref (X.2.1 (σ.2.2 0))) (pc := 1) hx hcb hts hown hS hW iwX10 kOC_0 rfl 2 (by decide) q423 rfl rfl dX10_sure_1 ?_
  refine lv_iload_n (pc := 4) hx hcb dX10_sure_4 rfl (lv_at hl 1 rfl) ?_
  refine kci (krunV (As := [.int x1]) (rest := []) (pc := 5) hx hcb hml hown hts hS hW (c_X1_hasPerson l X σ (σ.2.2 0) hd1 x1 _ h) mf_X1_hasPerson q498 (kO_X1 hd1) rfl ⟨rfl, rfl⟩ ⟨Nat.le_of_ble_eq_true rfl, Nat.le_of_ble_eq_true rfl⟩ rfl hl.1 rfl (Nat.le_of_ble_eq_true rfl) dX10_sure_5 ⟨Nat.zero_le _, Nat.zero_le _⟩) hS hW (fun r3 σ2 H locs h hW => ?_)
  obtain ⟨h, rfl⟩ := h
  refine lv_if_ne (tgt := 13) (pc := 8) hx hcb dX10_sure_8 (by decide) (fun c8 => ?_) (fun c8 => ?_)
  · have h := h.1 c8
    refine lv_aload_n (pc := 13) hx hcb dX10_sure_13 rfl (lv_at hl 0 rfl) ?_
    refine kget (v := .ref (X.2.1 31)) (pc := 14) hx hcb hts hown hS hW iwX10 kOC_0 rfl 9 (by decide) q430 rfl rfl dX10_sure_14 ?_
    refine lv_aload_n (pc := 17) hx hcb dX10_sure_17 rfl (lv_at hl 0 rfl) ?_
    have hd4 : kFm (σ.2.2 0) := hW.2.2.1
    refine kget (v := .ref (X.2.1 (σ.2.2 0))) (pc := 18) hx hcb hts hown hS hW iwX10 kOC_0 rfl 2 (by decide) q423 rfl rfl dX10_sure_18 ?_
    refine lv_aload_n (pc := 21) hx hcb dX10_sure_21 rfl (lv_at hl 0 rfl) ?_
    refine kget (v := .ref (X.2.1 28)) (pc := 22) hx hcb hts hown hS hW iwX10 kOC_0 rfl 8 (by decide) q429 rfl rfl dX10_sure_22 ?_
    refine lv_iconst (v := (-1)) (pc := 25) hx hcb dX10_sure_25 rfl ?_
    refine kcl (krunV (As := [.ref (X.2.1 (σ.2.2 0)), .ref (X.2.1 28), .int (-1)]) (rest := []) (pc := 26) hx hcb hml hown hts hS hW (c_X7_ways l X σ (σ.2.2 0) hd4 28 (Or.inr rfl : kTd 28) (-1) _ h) mf_X7_ways q786 kOC_31 rfl ⟨rfl, rfl⟩ ⟨Nat.le_of_ble_eq_true rfl, Nat.le_of_ble_eq_true rfl⟩ rfl hl.1 rfl (Nat.le_of_ble_eq_true rfl) dX10_sure_26 ⟨Nat.zero_le _, Nat.zero_le _⟩) hS hW (fun r6 σ5 H locs h hW => ?_)
    refine lv_lconst (v := 0) (pc := 29) hx hcb dX10_sure_29 rfl ?_
    refine W.lcmp (pc := 30) hx hcb dX10_sure_30 ?_
    obtain ⟨K39, hk39, h⟩ := h
    have hK39 : ∀ (v7 : Int32) (H : Heap) (locs : List Loc) (ls : Array Slot), K39 v7 → kW kZC X (kA kZC X) s σ5 H locs → lv_has ls 3 [(0, .ref (X.2.1 0)), (1, .int x1)] → W p l e rm_X10_sure s m args below meth c H locs 0 0 Q (F0 m 39 ls [.int v7]) := by
      intro v7 H locs ls h hW hl
      have h := hk39 v7 h
      refine lv_istore_n (lv' := [(2, .int v7), (0, .ref (X.2.1 0)), (1, .int x1)]) (pc := 39) hx hcb dX10_sure_39 rfl hl (by decide) rfl (fun ls hl => ?_)
      refine lv_iload_n (pc := 40) hx hcb dX10_sure_40 rfl (lv_at hl 0 rfl) ?_
      refine lv_if_ne (tgt := 69) (pc := 41) hx hcb dX10_sure_41 (by decide) (fun c41 => ?_) (fun c41 => ?_)
      · have h := h.1 c41
        refine lv_iconst (v := 0) (pc := 69) hx hcb dX10_sure_69 rfl ?_
        exact hret _ _ _ _ _ _ rfl h hW dX10_sure_70
      · have h := h.2 c41
        refine lv_aload_n (pc := 44) hx hcb dX10_sure_44 rfl (lv_at hl 1 rfl) ?_
        refine kget (v := .ref (X.2.1 31)) (pc := 45) hx hcb hts hown hS hW iwX10 kOC_0 rfl 9 (by decide) q430 rfl rfl dX10_sure_45 ?_
        refine lv_aload_n (pc := 48) hx hcb dX10_sure_48 rfl (lv_at hl 1 rfl) ?_
        have hd8 : kFm (σ5.2.2 0) := hW.2.2.1
        refine kget (v := .ref (X.2.1 (σ5.2.2 0))) (pc := 49) hx hcb hts hown hS hW iwX10 kOC_0 rfl 2 (by decide) q423 rfl rfl dX10_sure_49 ?_
        refine lv_aload_n (pc := 52) hx hcb dX10_sure_52 rfl (lv_at hl 1 rfl) ?_
        refine kget (v := .ref (X.2.1 28)) (pc := 53) hx hcb hts hown hS hW iwX10 kOC_0 rfl 8 (by decide) q429 rfl rfl dX10_sure_53 ?_
        refine lv_iload_n (pc := 56) hx hcb dX10_sure_56 rfl (lv_at hl 2 rfl) ?_
        refine kcl (krunV (As := [.ref (X.2.1 (σ5.2.2 0)), .ref (X.2.1 28), .int x1]) (rest := []) (pc := 57) hx hcb hml hown hts hS hW (c_X7_ways l X σ5 (σ5.2.2 0) hd8 28 (Or.inr rfl : kTd 28) x1 _ h) mf_X7_ways q786 kOC_31 rfl ⟨rfl, rfl⟩ ⟨Nat.le_of_ble_eq_true rfl, Nat.le_of_ble_eq_true rfl⟩ rfl hl.1 rfl (Nat.le_of_ble_eq_true rfl) dX10_sure_57 ⟨Nat.zero_le _, Nat.zero_le _⟩) hS hW (fun r10 σ9 H locs h hW => ?_)
        refine lv_lconst (v := 0) (pc := 60) hx hcb dX10_sure_60 rfl ?_
        refine W.lcmp (pc := 61) hx hcb dX10_sure_61 ?_
        refine lv_if_ne (tgt := 69) (pc := 62) hx hcb dX10_sure_62 (by decide) (fun c62 => ?_) (fun c62 => ?_)
        · have h := h.1 c62
          refine lv_iconst (v := 0) (pc := 69) hx hcb dX10_sure_69 rfl ?_
          exact hret _ _ _ _ _ _ rfl h hW dX10_sure_70
        · have h := h.2 c62
          refine lv_iconst (v := 1) (pc := 65) hx hcb dX10_sure_65 rfl ?_
          refine lv_goto (tgt := 70) (pc := 66) hx hcb dX10_sure_66 (by decide) ?_
          exact hret _ _ _ _ _ _ rfl h hW dX10_sure_70
    refine lv_if_ne (tgt := 38) (pc := 31) hx hcb dX10_sure_31 (by decide) (fun c31 => ?_) (fun c31 => ?_)
    · have h := h.1 c31
      refine lv_iconst (v := 0) (pc := 38) hx hcb dX10_sure_38 rfl ?_
      exact hK39 0 _ _ _ h hW (lv_sub hl [0, 1] rfl)
    · have h := h.2 c31
      refine lv_iconst (v := 1) (pc := 34) hx hcb dX10_sure_34 rfl ?_
      refine lv_goto (tgt := 39) (pc := 35) hx hcb dX10_sure_35 (by decide) ?_
      exact hK39 1 _ _ _ h hW (lv_sub hl [0, 1] rfl)
  · have h := h.2 c8
    refine lv_iconst (v := (-1)) (pc := 11) hx hcb dX10_sure_11 rfl ?_
    exact hret _ _ _ _ _ _ rfl h hW dX10_sure_12
abbrev rm_X10_undo : Room := { frames := 1, cells := 0, slots := 0, locals := 21 }
set_option maxHeartbeats 4000000 in
set_option maxRecDepth 100000 in
theorem c_X10_undo (l : Launch) (X : KX) (σ : Mm)  (Φ : Int32 → Mm → Prop) (h : wp_X10_undo σ  Φ) : Met l yX10_undo (.code yX10_undo cX10_undo 1 (some .int) :: kT) rm_X10_undo (va_Pc [.ref (X.2.1 0)] (kPre kZC X σ)) (va_Qi (fun r σ' => Φ r σ') (fun σ' t => kPre kZC X σ' t) (kA kZC X)) 0 0 (kA kZC X) := by
  refine kofI (by decide) (Nat.le_of_ble_eq_true rfl) ?_
  intro p e s m args below meth c ls Q hx hcb hml hown hts hS hW hl hret
  have hown : s.vm.findClass RX10 = some m.cls := hown
  have hl : lv_has ls 1 [(0, .ref (X.2.1 0))] := hl
  unfold wp_X10_undo at h
  refine lv_aload_n (pc := 0) hx hcb dX10_undo_0 rfl (lv_at hl 0 rfl) ?_
  refine kget (v := .ref (X.2.1 17)) (pc := 1) hx hcb hts hown hS hW iwX10 kOC_0 rfl 5 (by decide) q426 rfl rfl dX10_undo_1 ?_
  refine kci (krunV (As := []) (rest := []) (pc := 4) hx hcb hml hown hts hS hW (c_X4_size l X σ 17 (Or.inl rfl : kMs 17) _ h) mf_X4_size q561 (kO_X4 (Or.inl rfl : kMs 17)) rfl ⟨rfl, rfl⟩ ⟨Nat.le_of_ble_eq_true rfl, Nat.le_of_ble_eq_true rfl⟩ rfl hl.1 rfl (Nat.le_of_ble_eq_true rfl) dX10_undo_4 ⟨Nat.zero_le _, Nat.zero_le _⟩) hS hW (fun r2 σ1 H locs h hW => ?_)
  obtain ⟨h, rfl⟩ := h
  refine lv_if_ne (tgt := 13) (pc := 7) hx hcb dX10_undo_7 (by decide) (fun c7 => ?_) (fun c7 => ?_)
  · have h := h.1 c7
    refine lv_aload_n (pc := 13) hx hcb dX10_undo_13 rfl (lv_at hl 0 rfl) ?_
    refine kget (v := .ref (X.2.1 17)) (pc := 14) hx hcb hts hown hS hW iwX10 kOC_0 rfl 5 (by decide) q426 rfl rfl dX10_undo_14 ?_
    refine lv_aload_n (pc := 17) hx hcb dX10_undo_17 rfl (lv_at hl 0 rfl) ?_
    refine kget (v := .ref (X.2.1 16)) (pc := 18) hx hcb hts hown hS hW iwX10 kOC_0 rfl 4 (by decide) q425 rfl rfl dX10_undo_18 ?_
    refine kcv (krunV (As := [.ref (X.2.1 16)]) (rest := []) (pc := 21) hx hcb hml hown hts hS hW (c_X4_pop l X σ 17 (Or.inl rfl : kMs 17) _ h) mf_X4_pop q565 (kO_X4 (Or.inl rfl : kMs 17)) rfl ⟨rfl, rfl⟩ ⟨Nat.le_of_ble_eq_true rfl, Nat.le_of_ble_eq_true rfl⟩ rfl hl.1 rfl (Nat.le_of_ble_eq_true rfl) dX10_undo_21 ⟨Nat.zero_le _, Nat.zero_le _⟩) hS hW (fun σ3 H locs h hW => ?_)
    refine lv_aload_n (pc := 24) hx hcb dX10_undo_24 rfl (lv_at hl 0 rfl) ?_
    refine kget (v := .ref (X.2.1 17)) (pc := 25) hx hcb hts hown hS hW iwX10 kOC_0 rfl 5 (by decide) q426 rfl rfl dX10_undo_25 ?_
    refine kci (krunV (As := []) (rest := []) (pc := 28) hx hcb hml hown hts hS hW (c_X4_size l X σ3 17 (Or.inl rfl : kMs 17) _ h) mf_X4_size q561 (kO_X4 (Or.inl rfl : kMs 17)) rfl ⟨rfl, rfl⟩ ⟨Nat.le_of_ble_eq_true rfl, Nat.le_of_ble_eq_true rfl⟩ rfl hl.1 rfl (Nat.le_of_ble_eq_true rfl) dX10_undo_28 ⟨Nat.zero_le _, Nat.zero_le _⟩) hS hW (fun r5 σ4 H locs h hW => ?_)
    obtain ⟨h, rfl⟩ := h
    exact hret _ _ _ _ _ _ rfl h hW dX10_undo_31
  · have h := h.2 c7
    refine lv_bipush (v := (-2)) (pc := 10) hx hcb dX10_undo_10 rfl ?_
    exact hret _ _ _ _ _ _ rfl h hW dX10_undo_12
abbrev rm_X10_wipe : Room := { frames := 1, cells := 0, slots := 0, locals := 20 }
set_option maxHeartbeats 4000000 in
set_option maxRecDepth 100000 in
theorem c_X10_wipe (l : Launch) (X : KX) (σ : Mm)  (Φ : Int32 → Mm → Prop) (h : wp_X10_wipe σ  Φ) : Met l yX10_wipe (.code yX10_wipe cX10_wipe 2 (some .int) :: kT) rm_X10_wipe (va_Pc [.ref (X.2.1 0)] (kPre kZC X σ)) (va_Qi (fun r σ' => Φ r σ') (fun σ' t => kPre kZC X σ' t) (kA kZC X)) 0 0 (kA kZC X) := by
  refine kofI (by decide) (Nat.le_of_ble_eq_true rfl) ?_
  intro p e s m args below meth c ls Q hx hcb hml hown hts hS hW hl hret
  have hown : s.vm.findClass RX10 = some m.cls := hown
  have hl : lv_has ls 2 [(0, .ref (X.2.1 0))] := hl
  unfold wp_X10_wipe at h
  refine lv_aload_n (pc := 0) hx hcb dX10_wipe_0 rfl (lv_at hl 0 rfl) ?_
  refine kget (v := .ref (X.2.1 1)) (pc := 1) hx hcb hts hown hS hW iwX10 kOC_0 rfl 0 (by decide) q421 rfl rfl dX10_wipe_1 ?_
  refine kci (krunV (As := []) (rest := []) (pc := 4) hx hcb hml hown hts hS hW (c_X8_length l X σ  _ h) mf_X8_length q459 kOC_1 rfl ⟨rfl, rfl⟩ ⟨Nat.le_of_ble_eq_true rfl, Nat.le_of_ble_eq_true rfl⟩ rfl hl.1 rfl (Nat.le_of_ble_eq_true rfl) dX10_wipe_4 ⟨Nat.zero_le _, Nat.zero_le _⟩) hS hW (fun r2 σ1 H locs h hW => ?_)
  obtain ⟨h, rfl⟩ := h
  refine lv_istore_n (lv' := [(1, .int r2), (0, .ref (X.2.1 0))]) (pc := 7) hx hcb dX10_wipe_7 rfl hl (by decide) rfl (fun ls hl => ?_)
  refine lv_aload_n (pc := 8) hx hcb dX10_wipe_8 rfl (lv_at hl 1 rfl) ?_
  refine kget (v := .ref (X.2.1 1)) (pc := 9) hx hcb hts hown hS hW iwX10 kOC_0 rfl 0 (by decide) q421 rfl rfl dX10_wipe_9 ?_
  refine kcv (krunV (As := []) (rest := []) (pc := 12) hx hcb hml hown hts hS hW (c_X8_clear l X σ  _ h) mf_X8_clear q406 kOC_1 rfl ⟨rfl, rfl⟩ ⟨Nat.le_of_ble_eq_true rfl, Nat.le_of_ble_eq_true rfl⟩ rfl hl.1 rfl (Nat.le_of_ble_eq_true rfl) dX10_wipe_12 ⟨Nat.zero_le _, Nat.zero_le _⟩) hS hW (fun σ3 H locs h hW => ?_)
  refine lv_iload_n (pc := 15) hx hcb dX10_wipe_15 rfl (lv_at hl 0 rfl) ?_
  exact hret _ _ _ _ _ _ rfl h hW dX10_wipe_16
abbrev rm_X10_write : Room := { frames := 1, cells := 0, slots := 0, locals := 21 }
set_option maxHeartbeats 4000000 in
set_option maxRecDepth 100000 in
theorem c_X10_write (l : Launch) (X : KX) (σ : Mm) (x1 : Int32) (x2 : Int64) (Φ : Int32 → Mm → Prop) (h : wp_X10_write σ x1 x2 Φ) : Met l yX10_write (.code yX10_write cX10_write 5 (some .int) :: kT) rm_X10_write (va_Pc [.ref (X.2.1 0), .int x1, .long x2] (kPre kZC X σ)) (va_Qi (fun r σ' => Φ r σ') (fun σ' t => kPre kZC X σ' t) (kA kZC X)) 0 0 (kA kZC X) := by
  refine kofI (by decide) (Nat.le_of_ble_eq_true rfl) ?_
  intro p e s m args below meth c ls Q hx hcb hml hown hts hS hW hl hret
  have hown : s.vm.findClass RX10 = some m.cls := hown
  have hl : lv_has ls 5 [(0, .ref (X.2.1 0)), (1, .int x1), (2, .long x2)] := hl
  unfold wp_X10_write at h
  refine lv_iload_n (pc := 0) hx hcb dX10_write_0 rfl (lv_at hl 1 rfl) ?_
  refine lv_iconst (v := 1) (pc := 1) hx hcb dX10_write_1 rfl ?_
  refine lv_icmp_lt (tgt := 11) (pc := 2) hx hcb dX10_write_2 (by decide) (fun c2 => ?_) (fun c2 => ?_)
  · have h := h.1 c2
    refine lv_iconst (v := (-1)) (pc := 11) hx hcb dX10_write_11 rfl ?_
    exact hret _ _ _ _ _ _ rfl h hW dX10_write_12
  · have h := h.2 c2
    refine lv_iload_n (pc := 5) hx hcb dX10_write_5 rfl (lv_at hl 1 rfl) ?_
    refine lv_bipush (v := 8) (pc := 6) hx hcb dX10_write_6 rfl ?_
    refine lv_icmp_le (tgt := 13) (pc := 8) hx hcb dX10_write_8 (by decide) (fun c8 => ?_) (fun c8 => ?_)
    · have h := h.1 c8
      refine lv_aload_n (pc := 13) hx hcb dX10_write_13 rfl (lv_at hl 0 rfl) ?_
      refine kget (v := .ref (X.2.1 1)) (pc := 14) hx hcb hts hown hS hW iwX10 kOC_0 rfl 0 (by decide) q421 rfl rfl dX10_write_14 ?_
      refine kci (krunV (As := []) (rest := []) (pc := 17) hx hcb hml hown hts hS hW (c_X8_length l X σ  _ h) mf_X8_length q459 kOC_1 rfl ⟨rfl, rfl⟩ ⟨Nat.le_of_ble_eq_true rfl, Nat.le_of_ble_eq_true rfl⟩ rfl hl.1 rfl (Nat.le_of_ble_eq_true rfl) dX10_write_17 ⟨Nat.zero_le _, Nat.zero_le _⟩) hS hW (fun r2 σ1 H locs h hW => ?_)
      obtain ⟨h, rfl⟩ := h
      refine lv_iload_n (pc := 20) hx hcb dX10_write_20 rfl (lv_at hl 1 rfl) ?_
      refine lv_iadd (pc := 21) hx hcb dX10_write_21 ?_
      refine lv_sipush (v := 300) (pc := 22) hx hcb dX10_write_22 rfl ?_
      refine lv_icmp_le (tgt := 31) (pc := 25) hx hcb dX10_write_25 (by decide) (fun c25 => ?_) (fun c25 => ?_)
      · have h := h.1 c25
        refine lv_iload_n (pc := 31) hx hcb dX10_write_31 rfl (lv_at hl 1 rfl) ?_
        refine lv_iconst (v := 1) (pc := 32) hx hcb dX10_write_32 rfl ?_
        refine lv_isub (pc := 33) hx hcb dX10_write_33 ?_
        refine lv_topi (fun x4_3 ex4_3 => ?_)
        have h := h x4_3 ex4_3
        refine lv_istore (lv' := [(4, .int x4_3), (0, .ref (X.2.1 0)), (1, .int x1), (2, .long x2)]) (pc := 34) hx hcb dX10_write_34 hl (by decide) rfl (fun ls hl => ?_)
        obtain ⟨K62, hk62, h⟩ := h
        have hK62 : ∀ (σ4 : Mm) (H : Heap) (locs : List Loc) (ls : Array Slot), K62 σ4 → kW kZC X (kA kZC X) s σ4 H locs → lv_has ls 5 [(0, .ref (X.2.1 0))] → W p l e rm_X10_write s m args below meth c H locs 0 0 Q (F0 m 62 ls []) := by
          intro σ4 H locs ls h hW hl
          have h := hk62 σ4 h
          refine lv_aload_n (pc := 62) hx hcb dX10_write_62 rfl (lv_at hl 0 rfl) ?_
          refine kget (v := .ref (X.2.1 1)) (pc := 63) hx hcb hts hown hS hW iwX10 kOC_0 rfl 0 (by decide) q421 rfl rfl dX10_write_63 ?_
          refine kci (krunV (As := []) (rest := []) (pc := 66) hx hcb hml hown hts hS hW (c_X8_length l X σ4  _ h) mf_X8_length q459 kOC_1 rfl ⟨rfl, rfl⟩ ⟨Nat.le_of_ble_eq_true rfl, Nat.le_of_ble_eq_true rfl⟩ rfl hl.1 rfl (Nat.le_of_ble_eq_true rfl) dX10_write_66 ⟨Nat.zero_le _, Nat.zero_le _⟩) hS hW (fun r6 σ5 H locs h hW => ?_)
          obtain ⟨h, rfl⟩ := h
          exact hret _ _ _ _ _ _ rfl h hW dX10_write_69
        have hL36 : ∀ (n : Nat) (σ7 : Mm) (x4_8 : Int32) (H : Heap) (locs : List Loc) (ls : Array Slot), wp_X10_write_L36 x2 K62 n σ7 x4_8 → kW kZC X (kA kZC X) s σ7 H locs → lv_has ls 5 [(0, .ref (X.2.1 0)), (2, .long x2), (4, .int x4_8)] → W p l e rm_X10_write s m args below meth c H locs 0 0 Q (F0 m 36 ls []) := by
          intro n
          induction n with
          | zero =>
            intro σ7 x4_8 H locs ls h
            exact False.elim h
          | succ n ih =>
            intro σ7 x4_8 H locs ls h hW hl
            unfold wp_X10_write_L36 at h
            refine lv_iload (pc := 36) hx hcb dX10_write_36 (lv_at hl 2 rfl) ?_
            refine lv_if_lt (tgt := 62) (pc := 38) hx hcb dX10_write_38 (by decide) (fun c38 => ?_) (fun c38 => ?_)
            · have h := h.1 c38
              exact hK62 σ7 _ _ _ h hW (lv_sub hl [0] rfl)
            · have h := h.2 c38
              refine lv_aload_n (pc := 41) hx hcb dX10_write_41 rfl (lv_at hl 0 rfl) ?_
              refine kget (v := .ref (X.2.1 1)) (pc := 42) hx hcb hts hown hS hW iwX10 kOC_0 rfl 0 (by decide) q421 rfl rfl dX10_write_42 ?_
              refine lv_lload_n (pc := 45) hx hcb dX10_write_45 rfl (lv_at hl 1 rfl) ?_
              refine lv_bipush (v := 8) (pc := 46) hx hcb dX10_write_46 rfl ?_
              refine lv_iload (pc := 48) hx hcb dX10_write_48 (lv_at hl 2 rfl) ?_
              refine lv_imul (pc := 50) hx hcb dX10_write_50 ?_
              refine lv_lushr (pc := 51) hx hcb dX10_write_51 rfl ?_
              refine lv_l2i (pc := 52) hx hcb dX10_write_52 rfl ?_
              refine kcv (krunV (As := [.int (((x2.toUInt64 >>> ((8 * x4_8 : Int32).toInt64.toUInt64 &&& Int64.toUInt64 63)).toInt64).toInt32)]) (rest := []) (pc := 53) hx hcb hml hown hts hS hW (c_X8_append l X σ7 (((x2.toUInt64 >>> ((8 * x4_8 : Int32).toInt64.toUInt64 &&& Int64.toUInt64 63)).toInt64).toInt32) _ h) mf_X8_append q315 kOC_1 rfl ⟨rfl, rfl⟩ ⟨Nat.le_of_ble_eq_true rfl, Nat.le_of_ble_eq_true rfl⟩ rfl hl.1 rfl (Nat.le_of_ble_eq_true rfl) dX10_write_53 ⟨Nat.zero_le _, Nat.zero_le _⟩) hS hW (fun σ9 H locs h hW => ?_)
              refine lv_iinc (v := x4_8 + (-1)) (lv' := [(4, .int (x4_8 + (-1))), (0, .ref (X.2.1 0)), (2, .long x2)]) (pc := 56) hx hcb dX10_write_56 hl (k := 2) rfl rfl (by decide) rfl (fun ls hl => ?_)
              refine lv_goto (tgt := 36) (pc := 59) hx hcb dX10_write_59 (by decide) ?_
              exact ih σ9 (x4_8 + (-1)) _ _ _ h hW (lv_sub hl [1, 2, 0] rfl)
        obtain ⟨n, h⟩ := h
        exact hL36 n σ x4_3 _ _ _ h hW (lv_sub hl [1, 3, 0] rfl)
      · have h := h.2 c25
        refine lv_bipush (v := (-3)) (pc := 28) hx hcb dX10_write_28 rfl ?_
        exact hret _ _ _ _ _ _ rfl h hW dX10_write_30
    · have h := h.2 c8
      refine lv_iconst (v := (-1)) (pc := 11) hx hcb dX10_write_11 rfl ?_
      exact hret _ _ _ _ _ _ rfl h hW dX10_write_12
abbrev rm_X10_year : Room := { frames := 2, cells := 0, slots := 0, locals := 48 }
set_option maxHeartbeats 4000000 in
set_option maxRecDepth 100000 in
theorem c_X10_year (l : Launch) (X : KX) (σ : Mm) (x1 : Int32) (x2 : Int32) (x3 : Int32) (Φ : Int32 → Prop) (h : wp_X10_year σ x1 x2 x3 Φ) : Met l yX10_year (.code yX10_year cX10_year 8 (some .int) :: kT) rm_X10_year (va_Pc [.ref (X.2.1 0), .int x1, .int x2, .int x3] (kPre kZC X σ)) (va_Qi (fun r σ' => Φ r ∧ σ = σ') (fun σ' t => kPre kZC X σ' t) (kA kZC X)) 0 0 (kA kZC X) := by
  refine kofI (by decide) (Nat.le_of_ble_eq_true rfl) ?_
  intro p e s m args below meth c ls Q hx hcb hml hown hts hS hW hl hret
  have hown : s.vm.findClass RX10 = some m.cls := hown
  have hl : lv_has ls 8 [(0, .ref (X.2.1 0)), (1, .int x1), (2, .int x2), (3, .int x3)] := hl
  unfold wp_X10_year at h
  refine lv_iload_n (pc := 0) hx hcb dX10_year_0 rfl (lv_at hl 1 rfl) ?_
  refine lv_if_lt (tgt := 30) (pc := 1) hx hcb dX10_year_1 (by decide) (fun c1 => ?_) (fun c1 => ?_)
  · have h := h.1 c1
    refine lv_iconst (v := (-1)) (pc := 30) hx hcb dX10_year_30 rfl ?_
    exact hret _ _ _ _ _ _ rfl ⟨h, rfl⟩ hW dX10_year_31
  · have h := h.2 c1
    refine lv_iload_n (pc := 4) hx hcb dX10_year_4 rfl (lv_at hl 1 rfl) ?_
    refine lv_sipush (v := 9999) (pc := 5) hx hcb dX10_year_5 rfl ?_
    refine lv_icmp_gt (tgt := 30) (pc := 8) hx hcb dX10_year_8 (by decide) (fun c8 => ?_) (fun c8 => ?_)
    · have h := h.1 c8
      refine lv_iconst (v := (-1)) (pc := 30) hx hcb dX10_year_30 rfl ?_
      exact hret _ _ _ _ _ _ rfl ⟨h, rfl⟩ hW dX10_year_31
    · have h := h.2 c8
      refine lv_iload_n (pc := 11) hx hcb dX10_year_11 rfl (lv_at hl 2 rfl) ?_
      refine lv_iconst (v := 1) (pc := 12) hx hcb dX10_year_12 rfl ?_
      refine lv_icmp_lt (tgt := 30) (pc := 13) hx hcb dX10_year_13 (by decide) (fun c13 => ?_) (fun c13 => ?_)
      · have h := h.1 c13
        refine lv_iconst (v := (-1)) (pc := 30) hx hcb dX10_year_30 rfl ?_
        exact hret _ _ _ _ _ _ rfl ⟨h, rfl⟩ hW dX10_year_31
      · have h := h.2 c13
        refine lv_iload_n (pc := 16) hx hcb dX10_year_16 rfl (lv_at hl 2 rfl) ?_
        refine lv_sipush (v := 400) (pc := 17) hx hcb dX10_year_17 rfl ?_
        refine lv_icmp_gt (tgt := 30) (pc := 20) hx hcb dX10_year_20 (by decide) (fun c20 => ?_) (fun c20 => ?_)
        · have h := h.1 c20
          refine lv_iconst (v := (-1)) (pc := 30) hx hcb dX10_year_30 rfl ?_
          exact hret _ _ _ _ _ _ rfl ⟨h, rfl⟩ hW dX10_year_31
        · have h := h.2 c20
          refine lv_iload_n (pc := 23) hx hcb dX10_year_23 rfl (lv_at hl 3 rfl) ?_
          refine kci (krunS (As := [.int x3]) (rest := []) (pc := 24) hx hcb hml hown hts hS hW (c_X10_isFlag l X σ x3 _ h) mf_X10_isFlag q573 ⟨rfl, rfl⟩ ⟨Nat.le_of_ble_eq_true rfl, Nat.le_of_ble_eq_true rfl⟩ rfl hl.1 rfl (Nat.le_of_ble_eq_true rfl) dX10_year_24 ⟨Nat.zero_le _, Nat.zero_le _⟩) hS hW (fun r2 σ1 H locs h hW => ?_)
          obtain ⟨h, rfl⟩ := h
          refine lv_if_ne (tgt := 32) (pc := 27) hx hcb dX10_year_27 (by decide) (fun c27 => ?_) (fun c27 => ?_)
          · have h := h.1 c27
            refine lv_aload_n (pc := 32) hx hcb dX10_year_32 rfl (lv_at hl 0 rfl) ?_
            have hd3 : kFm (σ.2.2 0) := hW.2.2.1
            refine kget (v := .ref (X.2.1 (σ.2.2 0))) (pc := 33) hx hcb hts hown hS hW iwX10 kOC_0 rfl 2 (by decide) q423 rfl rfl dX10_year_33 ?_
            refine kci (krunV (As := []) (rest := []) (pc := 36) hx hcb hml hown hts hS hW (c_X1_firstState l X σ (σ.2.2 0) hd3 _ h) mf_X1_firstState q816 (kO_X1 hd3) rfl ⟨rfl, rfl⟩ ⟨Nat.le_of_ble_eq_true rfl, Nat.le_of_ble_eq_true rfl⟩ rfl hl.1 rfl (Nat.le_of_ble_eq_true rfl) dX10_year_36 ⟨Nat.zero_le _, Nat.zero_le _⟩) hS hW (fun r5 σ4 H locs h hW => ?_)
            obtain ⟨h, rfl⟩ := h
            refine lv_istore (lv' := [(4, .int r5), (0, .ref (X.2.1 0)), (1, .int x1), (2, .int x2), (3, .int x3)]) (pc := 39) hx hcb dX10_year_39 hl (by decide) rfl (fun ls hl => ?_)
            refine lv_iconst (v := 0) (pc := 41) hx hcb dX10_year_41 rfl ?_
            refine lv_istore (lv' := [(5, .int 0), (4, .int r5), (0, .ref (X.2.1 0)), (1, .int x1), (2, .int x2), (3, .int x3)]) (pc := 42) hx hcb dX10_year_42 hl (by decide) rfl (fun ls hl => ?_)
            refine lv_iconst (v := 0) (pc := 44) hx hcb dX10_year_44 rfl ?_
            refine lv_istore (lv' := [(6, .int 0), (5, .int 0), (4, .int r5), (0, .ref (X.2.1 0)), (1, .int x1), (2, .int x2), (3, .int x3)]) (pc := 45) hx hcb dX10_year_45 hl (by decide) rfl (fun ls hl => ?_)
            obtain ⟨K123, hk123, h⟩ := h
            have hK123 : ∀ (x4_6 : Int32) (x5_7 : Int32) (H : Heap) (locs : List Loc) (ls : Array Slot), K123 x4_6 x5_7 → kW kZC X (kA kZC X) s σ H locs → lv_has ls 8 [(3, .int x3), (4, .int x4_6), (5, .int x5_7)] → W p l e rm_X10_year s m args below meth c H locs 0 0 Q (F0 m 123 ls []) := by
              intro x4_6 x5_7 H locs ls h hW hl
              have h := hk123 x4_6 x5_7 h
              refine lv_iload_n (pc := 123) hx hcb dX10_year_123 rfl (lv_at hl 0 rfl) ?_
              refine lv_if_ne (tgt := 132) (pc := 124) hx hcb dX10_year_124 (by decide) (fun c124 => ?_) (fun c124 => ?_)
              · have h := h.1 c124
                refine lv_iload (pc := 132) hx hcb dX10_year_132 (lv_at hl 1 rfl) ?_
                refine kci (krunS (As := [.int x4_6]) (rest := []) (pc := 134) hx hcb hml hown hts hS hW (c_X10_yardOf l X σ x4_6 _ h) mf_X10_yardOf q533 ⟨rfl, rfl⟩ ⟨Nat.le_of_ble_eq_true rfl, Nat.le_of_ble_eq_true rfl⟩ rfl hl.1 rfl (Nat.le_of_ble_eq_true rfl) dX10_year_134 ⟨Nat.zero_le _, Nat.zero_le _⟩) hS hW (fun r9 σ8 H locs h hW => ?_)
                obtain ⟨h, rfl⟩ := h
                exact hret _ _ _ _ _ _ rfl ⟨h, rfl⟩ hW dX10_year_137
              · have h := h.2 c124
                refine lv_iload (pc := 127) hx hcb dX10_year_127 (lv_at hl 2 rfl) ?_
                refine lv_goto (tgt := 137) (pc := 129) hx hcb dX10_year_129 (by decide) ?_
                exact hret _ _ _ _ _ _ rfl ⟨h, rfl⟩ hW dX10_year_137
            have hL47 : ∀ (n : Nat) (x4_10 : Int32) (x5_11 : Int32) (x6_12 : Int32) (H : Heap) (locs : List Loc) (ls : Array Slot), wp_X10_year_L47 x1 x2 σ K123 n x4_10 x5_11 x6_12 → kW kZC X (kA kZC X) s σ H locs → lv_has ls 8 [(0, .ref (X.2.1 0)), (1, .int x1), (2, .int x2), (3, .int x3), (4, .int x4_10), (5, .int x5_11), (6, .int x6_12)] → W p l e rm_X10_year s m args below meth c H locs 0 0 Q (F0 m 47 ls []) := by
              intro n
              induction n with
              | zero =>
                intro x4_10 x5_11 x6_12 H locs ls h
                exact False.elim h
              | succ n ih =>
                intro x4_10 x5_11 x6_12 H locs ls h hW hl
                unfold wp_X10_year_L47 at h
                refine lv_iload (pc := 47) hx hcb dX10_year_47 (lv_at hl 6 rfl) ?_
                refine lv_iload_n (pc := 49) hx hcb dX10_year_49 rfl (lv_at hl 2 rfl) ?_
                refine lv_icmp_ge (tgt := 123) (pc := 50) hx hcb dX10_year_50 (by decide) (fun c50 => ?_) (fun c50 => ?_)
                · have h := h.1 c50
                  exact hK123 x4_10 x5_11 _ _ _ h hW (lv_sub hl [3, 4, 5] rfl)
                · have h := h.2 c50
                  refine lv_iload_n (pc := 53) hx hcb dX10_year_53 rfl (lv_at hl 1 rfl) ?_
                  refine lv_iload (pc := 54) hx hcb dX10_year_54 (lv_at hl 6 rfl) ?_
                  refine lv_aload_n (pc := 56) hx hcb dX10_year_56 rfl (lv_at hl 0 rfl) ?_
                  have hd13 : kFm (σ.2.2 0) := hW.2.2.1
                  refine kget (v := .ref (X.2.1 (σ.2.2 0))) (pc := 57) hx hcb hts hown hS hW iwX10 kOC_0 rfl 2 (by decide) q423 rfl rfl dX10_year_57 ?_
                  refine kci (krunV (As := []) (rest := [.int x6_12, .int x1]) (pc := 60) hx hcb hml hown hts hS hW (c_X1_persons l X σ (σ.2.2 0) hd13 _ h) mf_X1_persons q484 (kO_X1 hd13) rfl ⟨rfl, rfl⟩ ⟨Nat.le_of_ble_eq_true rfl, Nat.le_of_ble_eq_true rfl⟩ rfl hl.1 rfl (Nat.le_of_ble_eq_true rfl) dX10_year_60 ⟨Nat.zero_le _, Nat.zero_le _⟩) hS hW (fun r15 σ14 H locs h hW => ?_)
                  obtain ⟨h, rfl⟩ := h
                  refine kci (krunS (As := [.int x1, .int x6_12, .int r15]) (rest := []) (pc := 63) hx hcb hml hown hts hS hW (c_X10_drawnFeeder l X σ x1 x6_12 r15 _ h) mf_X10_drawnFeeder q817 ⟨rfl, rfl⟩ ⟨Nat.le_of_ble_eq_true rfl, Nat.le_of_ble_eq_true rfl⟩ rfl hl.1 rfl (Nat.le_of_ble_eq_true rfl) dX10_year_63 ⟨Nat.zero_le _, Nat.zero_le _⟩) hS hW (fun r17 σ16 H locs h hW => ?_)
                  obtain ⟨h, rfl⟩ := h
                  refine lv_istore (lv' := [(7, .int r17), (0, .ref (X.2.1 0)), (1, .int x1), (2, .int x2), (3, .int x3), (4, .int x4_10), (5, .int x5_11), (6, .int x6_12)]) (pc := 66) hx hcb dX10_year_66 hl (by decide) rfl (fun ls hl => ?_)
                  refine lv_iload (pc := 68) hx hcb dX10_year_68 (lv_at hl 0 rfl) ?_
                  refine lv_iconst (v := (-1)) (pc := 70) hx hcb dX10_year_70 rfl ?_
                  obtain ⟨K102, hk102, h⟩ := h
                  have hK102 : ∀ (x4_18 : Int32) (x5_19 : Int32) (H : Heap) (locs : List Loc) (ls : Array Slot), K102 x4_18 x5_19 → kW kZC X (kA kZC X) s σ H locs → lv_has ls 8 [(0, .ref (X.2.1 0)), (1, .int x1), (2, .int x2), (3, .int x3), (4, .int x4_18), (5, .int x5_19), (6, .int x6_12)] → W p l e rm_X10_year s m args below meth c H locs 0 0 Q (F0 m 102 ls []) := by
                    intro x4_18 x5_19 H locs ls h hW hl
                    have h := hk102 x4_18 x5_19 h
                    refine lv_aload_n (pc := 102) hx hcb dX10_year_102 rfl (lv_at hl 0 rfl) ?_
                    have hd20 : kFm (σ.2.2 0) := hW.2.2.1
                    refine kget (v := .ref (X.2.1 (σ.2.2 0))) (pc := 103) hx hcb hts hown hS hW iwX10 kOC_0 rfl 2 (by decide) q423 rfl rfl dX10_year_103 ?_
                    refine lv_iload (pc := 106) hx hcb dX10_year_106 (lv_at hl 4 rfl) ?_
                    refine lv_iload (pc := 108) hx hcb dX10_year_108 (lv_at hl 6 rfl) ?_
                    refine lv_iconst (v := 1) (pc := 110) hx hcb dX10_year_110 rfl ?_
                    refine lv_iadd (pc := 111) hx hcb dX10_year_111 ?_
                    refine kci (krunV (As := [.int x4_18, .int (x6_12 + 1)]) (rest := []) (pc := 112) hx hcb hml hown hts hS hW (c_X1_onward l X σ (σ.2.2 0) hd20 x4_18 (x6_12 + 1) _ h) mf_X1_onward q825 (kO_X1 hd20) rfl ⟨rfl, rfl⟩ ⟨Nat.le_of_ble_eq_true rfl, Nat.le_of_ble_eq_true rfl⟩ rfl hl.1 rfl (Nat.le_of_ble_eq_true rfl) dX10_year_112 ⟨Nat.zero_le _, Nat.zero_le _⟩) hS hW (fun r22 σ21 H locs h hW => ?_)
                    obtain ⟨h, rfl⟩ := h
                    refine lv_istore (lv' := [(4, .int r22), (0, .ref (X.2.1 0)), (1, .int x1), (2, .int x2), (3, .int x3), (5, .int x5_19), (6, .int x6_12)]) (pc := 115) hx hcb dX10_year_115 hl (by decide) rfl (fun ls hl => ?_)
                    refine lv_iinc (v := x6_12 + 1) (lv' := [(6, .int (x6_12 + 1)), (4, .int r22), (0, .ref (X.2.1 0)), (1, .int x1), (2, .int x2), (3, .int x3), (5, .int x5_19)]) (pc := 117) hx hcb dX10_year_117 hl (k := 6) rfl rfl (by decide) rfl (fun ls hl => ?_)
                    refine lv_goto (tgt := 47) (pc := 120) hx hcb dX10_year_120 (by decide) ?_
                    exact ih r22 x5_19 (x6_12 + 1) _ _ _ h hW (lv_sub hl [2, 3, 4, 5, 1, 6, 0] rfl)
                  refine lv_icmp_eq (tgt := 102) (pc := 71) hx hcb dX10_year_71 (by decide) (fun c71 => ?_) (fun c71 => ?_)
                  · have h := h.1 c71
                    exact hK102 x4_10 x5_11 _ _ _ h hW (lv_sub hl [1, 2, 3, 4, 5, 6, 7] rfl)
                  · have h := h.2 c71
                    refine lv_aload_n (pc := 74) hx hcb dX10_year_74 rfl (lv_at hl 1 rfl) ?_
                    have hd23 : kFm (σ.2.2 0) := hW.2.2.1
                    refine kget (v := .ref (X.2.1 (σ.2.2 0))) (pc := 75) hx hcb hts hown hS hW iwX10 kOC_0 rfl 2 (by decide) q423 rfl rfl dX10_year_75 ?_
                    refine lv_iload (pc := 78) hx hcb dX10_year_78 (lv_at hl 0 rfl) ?_
                    refine lv_iload (pc := 80) hx hcb dX10_year_80 (lv_at hl 5 rfl) ?_
                    refine lv_iload (pc := 82) hx hcb dX10_year_82 (lv_at hl 7 rfl) ?_
                    refine kci (krunV (As := [.int r17, .int x4_10, .int x6_12]) (rest := []) (pc := 84) hx hcb hml hown hts hS hW (c_X1_canFeed l X σ (σ.2.2 0) hd23 r17 x4_10 x6_12 _ h) mf_X1_canFeed q514 (kO_X1 hd23) rfl ⟨rfl, rfl⟩ ⟨Nat.le_of_ble_eq_true rfl, Nat.le_of_ble_eq_true rfl⟩ rfl hl.1 rfl (Nat.le_of_ble_eq_true rfl) dX10_year_84 ⟨Nat.zero_le _, Nat.zero_le _⟩) hS hW (fun r25 σ24 H locs h hW => ?_)
                    obtain ⟨h, rfl⟩ := h
                    refine lv_if_eq (tgt := 102) (pc := 87) hx hcb dX10_year_87 (by decide) (fun c87 => ?_) (fun c87 => ?_)
                    · have h := h.1 c87
                      exact hK102 x4_10 x5_11 _ _ _ h hW (lv_sub hl [1, 2, 3, 4, 5, 6, 7] rfl)
                    · have h := h.2 c87
                      refine lv_iload (pc := 90) hx hcb dX10_year_90 (lv_at hl 5 rfl) ?_
                      refine lv_iload (pc := 92) hx hcb dX10_year_92 (lv_at hl 0 rfl) ?_
                      refine kci (krunS (As := [.int x4_10, .int r17]) (rest := []) (pc := 94) hx hcb hml hown hts hS hW (c_X10_fedState l X σ x4_10 r17 _ h) mf_X10_fedState q530 ⟨rfl, rfl⟩ ⟨Nat.le_of_ble_eq_true rfl, Nat.le_of_ble_eq_true rfl⟩ rfl hl.1 rfl (Nat.le_of_ble_eq_true rfl) dX10_year_94 ⟨Nat.zero_le _, Nat.zero_le _⟩) hS hW (fun r27 σ26 H locs h hW => ?_)
                      obtain ⟨h, rfl⟩ := h
                      refine lv_istore (lv' := [(4, .int r27), (7, .int r17), (0, .ref (X.2.1 0)), (1, .int x1), (2, .int x2), (3, .int x3), (5, .int x5_11), (6, .int x6_12)]) (pc := 97) hx hcb dX10_year_97 hl (by decide) rfl (fun ls hl => ?_)
                      refine lv_iinc (v := x5_11 + 1) (lv' := [(5, .int (x5_11 + 1)), (4, .int r27), (7, .int r17), (0, .ref (X.2.1 0)), (1, .int x1), (2, .int x2), (3, .int x3), (6, .int x6_12)]) (pc := 99) hx hcb dX10_year_99 hl (k := 6) rfl rfl (by decide) rfl (fun ls hl => ?_)
                      exact hK102 r27 (x5_11 + 1) _ _ _ h hW (lv_sub hl [3, 4, 5, 6, 1, 0, 7] rfl)
            obtain ⟨n, h⟩ := h
            exact hL47 n r5 0 0 _ _ _ h hW (lv_sub hl [3, 4, 5, 6, 2, 1, 0] rfl)
          · have h := h.2 c27
            refine lv_iconst (v := (-1)) (pc := 30) hx hcb dX10_year_30 rfl ?_
            exact hret _ _ _ _ _ _ rfl ⟨h, rfl⟩ hW dX10_year_31
