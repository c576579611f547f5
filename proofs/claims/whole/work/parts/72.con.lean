abbrev rm_X5_takes : Room := { frames := 1, cells := 0, slots := 0, locals := 21 }
set_option maxHeartbeats 4000000 in
set_option maxRecDepth 100000 in
theorem c_X5_takes (l : Launch) (X : KX) (σ : Mm) (x1 : Int32) (Φ : Int32 → Mm → Prop) (h : wp_X5_takes σ x1 Φ) : Met l yX5_takes (.code yX5_takes cX5_takes 2 (some .boolean) :: kT) rm_X5_takes (va_Pc [.ref (X.2.1 3), .int x1] (kPre kZC X σ)) (va_Qi (fun r σ' => Φ r σ') (fun σ' t => kPre kZC X σ' t) (kA kZC X)) 0 0 (kA kZC X) := by
  refine kofI (by decide) (Nat.le_of_ble_eq_true rfl) ?_
  intro p e s m args below meth c ls Q hx hcb hml hown hts hS hW hl hret
  have hown : s.vm.findClass RX5 = some m.cls := hown
  have hl : lv_has ls 2 [(0, .ref (X.2.1 3)), (1, .int x1)] := hl
  unfold wp_X5_takes at h
  refine lv_aload_n (pc := 0) hx hcb dX5_takes_0 rfl (lv_at hl 0 rfl) ?_
  refine kget (v := .ref (X.2.1 1)) (pc := 1) hx hcb hts hown hS hW iwX5 kOC_3 rfl 0 (by decide) q97 rfl rfl dX5_takes_1 ?_
  refine lv_aload_n (pc := 4) hx hcb dX5_takes_4 rfl (lv_at hl 0 rfl) ?_
  refine kget (v := .int (σ.1 3 1)) (pc := 5) hx hcb hts hown hS hW iwX5 kOC_3 rfl 1 (by decide) q98 rfl rfl dX5_takes_5 ?_
  refine kci (krunV (As := [.int (σ.1 3 1)]) (rest := []) (pc := 8) hx hcb hml hown hts hS hW (c_X8_byteAt l X σ (σ.1 3 1) _ h) mf_X8_byteAt q338 kOC_1 rfl ⟨rfl, rfl⟩ ⟨Nat.le_of_ble_eq_true rfl, Nat.le_of_ble_eq_true rfl⟩ rfl hl.1 rfl (Nat.le_of_ble_eq_true rfl) dX5_takes_8 ⟨Nat.zero_le _, Nat.zero_le _⟩) hS hW (fun r2 σ1 H locs h hW => ?_)
  obtain ⟨h, rfl⟩ := h
  refine lv_iload_n (pc := 11) hx hcb dX5_takes_11 rfl (lv_at hl 1 rfl) ?_
  refine lv_icmp_eq (tgt := 17) (pc := 12) hx hcb dX5_takes_12 (by decide) (fun c12 => ?_) (fun c12 => ?_)
  · have h := h.1 c12
    refine lv_aload_n (pc := 17) hx hcb dX5_takes_17 rfl (lv_at hl 0 rfl) ?_
    refine lv_dup (pc := 18) hx hcb dX5_takes_18 rfl ?_
    refine kget (v := .int (σ.1 3 1)) (pc := 19) hx hcb hts hown hS hW iwX5 kOC_3 rfl 1 (by decide) q98 rfl rfl dX5_takes_19 ?_
    refine lv_iconst (v := 1) (pc := 22) hx hcb dX5_takes_22 rfl ?_
    refine lv_iadd (pc := 23) hx hcb dX5_takes_23 ?_
    refine kput (ty := .int) (pc := 24) hx hcb hts hown hS hW iwX5 tyX5 tyX5_ok nmX5 kOC_3 rfl 1 (by decide) q98 rfl rfl rfl rfl rfl (Nat.le_of_ble_eq_true rfl) rfl dX5_takes_24 (fun σ3 H locs eσ3 hW => ?_)
    have h := h σ3 eσ3
    refine lv_iconst (v := 1) (pc := 27) hx hcb dX5_takes_27 rfl ?_
    exact hret _ _ _ _ _ _ rfl h hW dX5_takes_28
  · have h := h.2 c12
    refine lv_iconst (v := 0) (pc := 15) hx hcb dX5_takes_15 rfl ?_
    exact hret _ _ _ _ _ _ rfl h hW dX5_takes_16
abbrev rm_X5_readLane : Room := { frames := 3, cells := 0, slots := 0, locals := 64 }
set_option maxHeartbeats 4000000 in
set_option maxRecDepth 100000 in
theorem c_X5_readLane (l : Launch) (X : KX) (σ : Mm) (b1 : Nat) (hb1 : kFm b1) (Φ : Int32 → Mm → Prop) (h : wp_X5_readLane σ b1 Φ) : Met l yX5_readLane (.code yX5_readLane cX5_readLane 4 (some .boolean) :: kT) rm_X5_readLane (va_Pc [.ref (X.2.1 3), .ref (X.2.1 b1)] (kPre kZC X σ)) (va_Qi (fun r σ' => Φ r σ') (fun σ' t => kPre kZC X σ' t) (kA kZC X)) 0 0 (kA kZC X) := by
  refine kofI (by decide) (Nat.le_of_ble_eq_true rfl) ?_
  intro p e s m args below meth c ls Q hx hcb hml hown hts hS hW hl hret
  have hown : s.vm.findClass RX5 = some m.cls := hown
  have hl : lv_has ls 4 [(0, .ref (X.2.1 3)), (1, .ref (X.2.1 b1))] := hl
  unfold wp_X5_readLane at h
  refine lv_aload_n (pc := 0) hx hcb dX5_readLane_0 rfl (lv_at hl 0 rfl) ?_
  refine kci (krunV (As := []) (rest := []) (pc := 1) hx hcb hml hown hts hS hW (c_X5_readNumber l X σ  _ h) mf_X5_readNumber q346 kOC_3 rfl ⟨rfl, rfl⟩ ⟨Nat.le_of_ble_eq_true rfl, Nat.le_of_ble_eq_true rfl⟩ rfl hl.1 rfl (Nat.le_of_ble_eq_true rfl) dX5_readLane_1 ⟨Nat.zero_le _, Nat.zero_le _⟩) hS hW (fun r2 σ1 H locs h hW => ?_)
  refine lv_istore_n (lv' := [(2, .int r2), (0, .ref (X.2.1 3)), (1, .ref (X.2.1 b1))]) (pc := 4) hx hcb dX5_readLane_4 rfl hl (by decide) rfl (fun ls hl => ?_)
  refine lv_iload_n (pc := 5) hx hcb dX5_readLane_5 rfl (lv_at hl 0 rfl) ?_
  refine lv_if_lt (tgt := 18) (pc := 6) hx hcb dX5_readLane_6 (by decide) (fun c6 => ?_) (fun c6 => ?_)
  · have h := h.1 c6
    refine lv_iconst (v := 0) (pc := 18) hx hcb dX5_readLane_18 rfl ?_
    exact hret _ _ _ _ _ _ rfl h hW dX5_readLane_19
  · have h := h.2 c6
    refine lv_aload_n (pc := 9) hx hcb dX5_readLane_9 rfl (lv_at hl 1 rfl) ?_
    refine lv_bipush (v := 44) (pc := 10) hx hcb dX5_readLane_10 rfl ?_
    refine kci (krunV (As := [.int 44]) (rest := []) (pc := 12) hx hcb hml hown hts hS hW (c_X5_takes l X σ1 44 _ h) mf_X5_takes q354 kOC_3 rfl ⟨rfl, rfl⟩ ⟨Nat.le_of_ble_eq_true rfl, Nat.le_of_ble_eq_true rfl⟩ rfl hl.1 rfl (Nat.le_of_ble_eq_true rfl) dX5_readLane_12 ⟨Nat.zero_le _, Nat.zero_le _⟩) hS hW (fun r4 σ3 H locs h hW => ?_)
    refine lv_if_ne (tgt := 20) (pc := 15) hx hcb dX5_readLane_15 (by decide) (fun c15 => ?_) (fun c15 => ?_)
    · have h := h.1 c15
      refine lv_aload_n (pc := 20) hx hcb dX5_readLane_20 rfl (lv_at hl 1 rfl) ?_
      refine kci (krunV (As := []) (rest := []) (pc := 21) hx hcb hml hown hts hS hW (c_X5_readNumber l X σ3  _ h) mf_X5_readNumber q346 kOC_3 rfl ⟨rfl, rfl⟩ ⟨Nat.le_of_ble_eq_true rfl, Nat.le_of_ble_eq_true rfl⟩ rfl hl.1 rfl (Nat.le_of_ble_eq_true rfl) dX5_readLane_21 ⟨Nat.zero_le _, Nat.zero_le _⟩) hS hW (fun r6 σ5 H locs h hW => ?_)
      refine lv_istore_n (lv' := [(3, .int r6), (2, .int r2), (0, .ref (X.2.1 3)), (1, .ref (X.2.1 b1))]) (pc := 24) hx hcb dX5_readLane_24 rfl hl (by decide) rfl (fun ls hl => ?_)
      refine lv_iload_n (pc := 25) hx hcb dX5_readLane_25 rfl (lv_at hl 0 rfl) ?_
      refine lv_if_lt (tgt := 51) (pc := 26) hx hcb dX5_readLane_26 (by decide) (fun c26 => ?_) (fun c26 => ?_)
      · have h := h.1 c26
        refine lv_iconst (v := 0) (pc := 51) hx hcb dX5_readLane_51 rfl ?_
        exact hret _ _ _ _ _ _ rfl h hW dX5_readLane_52
      · have h := h.2 c26
        refine lv_aload_n (pc := 29) hx hcb dX5_readLane_29 rfl (lv_at hl 2 rfl) ?_
        refine lv_bipush (v := 59) (pc := 30) hx hcb dX5_readLane_30 rfl ?_
        refine kci (krunV (As := [.int 59]) (rest := []) (pc := 32) hx hcb hml hown hts hS hW (c_X5_takes l X σ5 59 _ h) mf_X5_takes q354 kOC_3 rfl ⟨rfl, rfl⟩ ⟨Nat.le_of_ble_eq_true rfl, Nat.le_of_ble_eq_true rfl⟩ rfl hl.1 rfl (Nat.le_of_ble_eq_true rfl) dX5_readLane_32 ⟨Nat.zero_le _, Nat.zero_le _⟩) hS hW (fun r8 σ7 H locs h hW => ?_)
        refine lv_if_eq (tgt := 51) (pc := 35) hx hcb dX5_readLane_35 (by decide) (fun c35 => ?_) (fun c35 => ?_)
        · have h := h.1 c35
          refine lv_iconst (v := 0) (pc := 51) hx hcb dX5_readLane_51 rfl ?_
          exact hret _ _ _ _ _ _ rfl h hW dX5_readLane_52
        · have h := h.2 c35
          refine lv_aload_n (pc := 38) hx hcb dX5_readLane_38 rfl (lv_at hl 3 rfl) ?_
          refine lv_iload_n (pc := 39) hx hcb dX5_readLane_39 rfl (lv_at hl 1 rfl) ?_
          refine lv_iload_n (pc := 40) hx hcb dX5_readLane_40 rfl (lv_at hl 0 rfl) ?_
          refine kci (krunV (As := [.int r2, .int r6]) (rest := []) (pc := 41) hx hcb hml hown hts hS hW (c_X1_tellLane l X σ7 b1 hb1 r2 r6 _ h) mf_X1_tellLane q358 (kO_X1 hb1) rfl ⟨rfl, rfl⟩ ⟨Nat.le_of_ble_eq_true rfl, Nat.le_of_ble_eq_true rfl⟩ rfl hl.1 rfl (Nat.le_of_ble_eq_true rfl) dX5_readLane_41 ⟨Nat.zero_le _, Nat.zero_le _⟩) hS hW (fun r10 σ9 H locs h hW => ?_)
          refine lv_if_eq (tgt := 51) (pc := 44) hx hcb dX5_readLane_44 (by decide) (fun c44 => ?_) (fun c44 => ?_)
          · have h := h.1 c44
            refine lv_iconst (v := 0) (pc := 51) hx hcb dX5_readLane_51 rfl ?_
            exact hret _ _ _ _ _ _ rfl h hW dX5_readLane_52
          · have h := h.2 c44
            refine lv_iconst (v := 1) (pc := 47) hx hcb dX5_readLane_47 rfl ?_
            refine lv_goto (tgt := 52) (pc := 48) hx hcb dX5_readLane_48 (by decide) ?_
            exact hret _ _ _ _ _ _ rfl h hW dX5_readLane_52
    · have h := h.2 c15
      refine lv_iconst (v := 0) (pc := 18) hx hcb dX5_readLane_18 rfl ?_
      exact hret _ _ _ _ _ _ rfl h hW dX5_readLane_19
abbrev rm_X5_readWay : Room := { frames := 2, cells := 0, slots := 0, locals := 42 }
set_option maxHeartbeats 4000000 in
set_option maxRecDepth 100000 in
theorem c_X5_readWay (l : Launch) (X : KX) (σ : Mm) (b1 : Nat) (hb1 : kFm b1) (Φ : Int32 → Mm → Prop) (h : wp_X5_readWay σ b1 Φ) : Met l yX5_readWay (.code yX5_readWay cX5_readWay 5 (some .boolean) :: kT) rm_X5_readWay (va_Pc [.ref (X.2.1 3), .ref (X.2.1 b1)] (kPre kZC X σ)) (va_Qi (fun r σ' => Φ r σ') (fun σ' t => kPre kZC X σ' t) (kA kZC X)) 0 0 (kA kZC X) := by
  refine kofI (by decide) (Nat.le_of_ble_eq_true rfl) ?_
  intro p e s m args below meth c ls Q hx hcb hml hown hts hS hW hl hret
  have hown : s.vm.findClass RX5 = some m.cls := hown
  have hl : lv_has ls 5 [(0, .ref (X.2.1 3)), (1, .ref (X.2.1 b1))] := hl
  unfold wp_X5_readWay at h
  refine lv_aload_n (pc := 0) hx hcb dX5_readWay_0 rfl (lv_at hl 1 rfl) ?_
  refine kci (krunV (As := []) (rest := []) (pc := 1) hx hcb hml hown hts hS hW (c_X1_beginWay l X σ b1 hb1 _ h) mf_X1_beginWay q370 (kO_X1 hb1) rfl ⟨rfl, rfl⟩ ⟨Nat.le_of_ble_eq_true rfl, Nat.le_of_ble_eq_true rfl⟩ rfl hl.1 rfl (Nat.le_of_ble_eq_true rfl) dX5_readWay_1 ⟨Nat.zero_le _, Nat.zero_le _⟩) hS hW (fun r2 σ1 H locs h hW => ?_)
  refine lv_if_ne (tgt := 9) (pc := 4) hx hcb dX5_readWay_4 (by decide) (fun c4 => ?_) (fun c4 => ?_)
  · have h := h.1 c4
    refine lv_iconst (v := 0) (pc := 9) hx hcb dX5_readWay_9 rfl ?_
    refine lv_istore_n (lv' := [(2, .int 0), (0, .ref (X.2.1 3)), (1, .ref (X.2.1 b1))]) (pc := 10) hx hcb dX5_readWay_10 rfl hl (by decide) rfl (fun ls hl => ?_)
    refine lv_iconst (v := 0) (pc := 11) hx hcb dX5_readWay_11 rfl ?_
    refine lv_istore_n (lv' := [(3, .int 0), (2, .int 0), (0, .ref (X.2.1 3)), (1, .ref (X.2.1 b1))]) (pc := 12) hx hcb dX5_readWay_12 rfl hl (by decide) rfl (fun ls hl => ?_)
    obtain ⟨K75, hk75, h⟩ := h
    have hK75 : ∀ (σ3 : Mm) (x2_4 : Int32) (H : Heap) (locs : List Loc) (ls : Array Slot), K75 σ3 x2_4 → kW kZC X (kA kZC X) s σ3 H locs → lv_has ls 5 [(0, .ref (X.2.1 3)), (2, .int x2_4)] → W p l e rm_X5_readWay s m args below meth c H locs 0 0 Q (F0 m 75 ls []) := by
      intro σ3 x2_4 H locs ls h hW hl
      have h := hk75 σ3 x2_4 h
      refine lv_iload_n (pc := 75) hx hcb dX5_readWay_75 rfl (lv_at hl 1 rfl) ?_
      refine lv_if_le (tgt := 92) (pc := 76) hx hcb dX5_readWay_76 (by decide) (fun c76 => ?_) (fun c76 => ?_)
      · have h := h.1 c76
        refine lv_iconst (v := 0) (pc := 92) hx hcb dX5_readWay_92 rfl ?_
        exact hret _ _ _ _ _ _ rfl h hW dX5_readWay_93
      · have h := h.2 c76
        refine lv_aload_n (pc := 79) hx hcb dX5_readWay_79 rfl (lv_at hl 0 rfl) ?_
        refine lv_bipush (v := 59) (pc := 80) hx hcb dX5_readWay_80 rfl ?_
        refine kci (krunV (As := [.int 59]) (rest := []) (pc := 82) hx hcb hml hown hts hS hW (c_X5_takes l X σ3 59 _ h) mf_X5_takes q354 kOC_3 rfl ⟨rfl, rfl⟩ ⟨Nat.le_of_ble_eq_true rfl, Nat.le_of_ble_eq_true rfl⟩ rfl hl.1 rfl (Nat.le_of_ble_eq_true rfl) dX5_readWay_82 ⟨Nat.zero_le _, Nat.zero_le _⟩) hS hW (fun r6 σ5 H locs h hW => ?_)
        refine lv_if_eq (tgt := 92) (pc := 85) hx hcb dX5_readWay_85 (by decide) (fun c85 => ?_) (fun c85 => ?_)
        · have h := h.1 c85
          refine lv_iconst (v := 0) (pc := 92) hx hcb dX5_readWay_92 rfl ?_
          exact hret _ _ _ _ _ _ rfl h hW dX5_readWay_93
        · have h := h.2 c85
          refine lv_iconst (v := 1) (pc := 88) hx hcb dX5_readWay_88 rfl ?_
          refine lv_goto (tgt := 93) (pc := 89) hx hcb dX5_readWay_89 (by decide) ?_
          exact hret _ _ _ _ _ _ rfl h hW dX5_readWay_93
    obtain ⟨K47, hk47, h⟩ := h
    have hK47 : ∀ (σ7 : Mm) (x2_8 : Int32) (H : Heap) (locs : List Loc) (ls : Array Slot), K47 σ7 x2_8 → kW kZC X (kA kZC X) s σ7 H locs → lv_has ls 5 [(0, .ref (X.2.1 3)), (2, .int x2_8)] → W p l e rm_X5_readWay s m args below meth c H locs 0 0 Q (F0 m 47 ls []) := by
      intro σ7 x2_8 H locs ls h hW hl
      have h := hk47 σ7 x2_8 h
      refine lv_goto (tgt := 75) (pc := 47) hx hcb dX5_readWay_47 (by decide) ?_
      exact hK75 σ7 x2_8 _ _ _ h hW (lv_sub hl [0, 1] rfl)
    have hL13 : ∀ (n : Nat) (σ9 : Mm) (x2_10 : Int32) (x3_11 : Int32) (H : Heap) (locs : List Loc) (ls : Array Slot), wp_X5_readWay_L13 b1 K75 K47 n σ9 x2_10 x3_11 → kW kZC X (kA kZC X) s σ9 H locs → lv_has ls 5 [(0, .ref (X.2.1 3)), (1, .ref (X.2.1 b1)), (2, .int x2_10), (3, .int x3_11)] → W p l e rm_X5_readWay s m args below meth c H locs 0 0 Q (F0 m 13 ls []) := by
      intro n
      induction n with
      | zero =>
        intro σ9 x2_10 x3_11 H locs ls h
        exact False.elim h
      | succ n ih =>
        intro σ9 x2_10 x3_11 H locs ls h hW hl
        unfold wp_X5_readWay_L13 at h
        refine lv_iload_n (pc := 13) hx hcb dX5_readWay_13 rfl (lv_at hl 3 rfl) ?_
        refine lv_bipush (v := 12) (pc := 14) hx hcb dX5_readWay_14 rfl ?_
        refine lv_icmp_ge (tgt := 75) (pc := 16) hx hcb dX5_readWay_16 (by decide) (fun c16 => ?_) (fun c16 => ?_)
        · have h := h.1 c16
          exact hK75 σ9 x2_10 _ _ _ h hW (lv_sub hl [0, 2] rfl)
        · have h := h.2 c16
          refine lv_aload_n (pc := 19) hx hcb dX5_readWay_19 rfl (lv_at hl 0 rfl) ?_
          refine kget (v := .ref (X.2.1 1)) (pc := 20) hx hcb hts hown hS hW iwX5 kOC_3 rfl 0 (by decide) q97 rfl rfl dX5_readWay_20 ?_
          refine lv_aload_n (pc := 23) hx hcb dX5_readWay_23 rfl (lv_at hl 0 rfl) ?_
          refine kget (v := .int (σ9.1 3 1)) (pc := 24) hx hcb hts hown hS hW iwX5 kOC_3 rfl 1 (by decide) q98 rfl rfl dX5_readWay_24 ?_
          refine kci (krunV (As := [.int (σ9.1 3 1)]) (rest := []) (pc := 27) hx hcb hml hown hts hS hW (c_X8_byteAt l X σ9 (σ9.1 3 1) _ h) mf_X8_byteAt q338 kOC_1 rfl ⟨rfl, rfl⟩ ⟨Nat.le_of_ble_eq_true rfl, Nat.le_of_ble_eq_true rfl⟩ rfl hl.1 rfl (Nat.le_of_ble_eq_true rfl) dX5_readWay_27 ⟨Nat.zero_le _, Nat.zero_le _⟩) hS hW (fun r13 σ12 H locs h hW => ?_)
          obtain ⟨h, rfl⟩ := h
          refine lv_bipush (v := 48) (pc := 30) hx hcb dX5_readWay_30 rfl ?_
          refine lv_isub (pc := 32) hx hcb dX5_readWay_32 ?_
          refine lv_topi (fun x4_14 ex4_14 => ?_)
          have h := h x4_14 ex4_14
          refine lv_istore (lv' := [(4, .int x4_14), (0, .ref (X.2.1 3)), (1, .ref (X.2.1 b1)), (2, .int x2_10), (3, .int x3_11)]) (pc := 33) hx hcb dX5_readWay_33 hl (by decide) rfl (fun ls hl => ?_)
          refine lv_iload (pc := 35) hx hcb dX5_readWay_35 (lv_at hl 0 rfl) ?_
          refine lv_if_lt (tgt := 75) (pc := 37) hx hcb dX5_readWay_37 (by decide) (fun c37 => ?_) (fun c37 => ?_)
          · have h := h.1 c37
            exact hK75 σ9 x2_10 _ _ _ h hW (lv_sub hl [1, 3] rfl)
          · have h := h.2 c37
            refine lv_iload (pc := 40) hx hcb dX5_readWay_40 (lv_at hl 0 rfl) ?_
            refine lv_bipush (v := 8) (pc := 42) hx hcb dX5_readWay_42 rfl ?_
            refine lv_icmp_lt (tgt := 50) (pc := 44) hx hcb dX5_readWay_44 (by decide) (fun c44 => ?_) (fun c44 => ?_)
            · have h := h.1 c44
              refine lv_aload_n (pc := 50) hx hcb dX5_readWay_50 rfl (lv_at hl 2 rfl) ?_
              refine lv_iload (pc := 51) hx hcb dX5_readWay_51 (lv_at hl 0 rfl) ?_
              refine kcv (krunV (As := [.int x4_14]) (rest := []) (pc := 53) hx hcb hml hown hts hS hW (c_X1_addToWay l X σ9 b1 hb1 x4_14 _ h) mf_X1_addToWay q374 (kO_X1 hb1) rfl ⟨rfl, rfl⟩ ⟨Nat.le_of_ble_eq_true rfl, Nat.le_of_ble_eq_true rfl⟩ rfl hl.1 rfl (Nat.le_of_ble_eq_true rfl) dX5_readWay_53 ⟨Nat.zero_le _, Nat.zero_le _⟩) hS hW (fun σ15 H locs h hW => ?_)
              refine lv_iinc (v := x2_10 + 1) (lv' := [(2, .int (x2_10 + 1)), (4, .int x4_14), (0, .ref (X.2.1 3)), (1, .ref (X.2.1 b1)), (3, .int x3_11)]) (pc := 56) hx hcb dX5_readWay_56 hl (k := 3) rfl rfl (by decide) rfl (fun ls hl => ?_)
              refine lv_aload_n (pc := 59) hx hcb dX5_readWay_59 rfl (lv_at hl 2 rfl) ?_
              refine lv_dup (pc := 60) hx hcb dX5_readWay_60 rfl ?_
              refine kget (v := .int (σ15.1 3 1)) (pc := 61) hx hcb hts hown hS hW iwX5 kOC_3 rfl 1 (by decide) q98 rfl rfl dX5_readWay_61 ?_
              refine lv_iconst (v := 1) (pc := 64) hx hcb dX5_readWay_64 rfl ?_
              refine lv_iadd (pc := 65) hx hcb dX5_readWay_65 ?_
              refine kput (ty := .int) (pc := 66) hx hcb hts hown hS hW iwX5 tyX5 tyX5_ok nmX5 kOC_3 rfl 1 (by decide) q98 rfl rfl rfl rfl rfl (Nat.le_of_ble_eq_true rfl) rfl dX5_readWay_66 (fun σ16 H locs eσ16 hW => ?_)
              have h := h σ16 eσ16
              refine lv_iinc (v := x3_11 + 1) (lv' := [(3, .int (x3_11 + 1)), (2, .int (x2_10 + 1)), (4, .int x4_14), (0, .ref (X.2.1 3)), (1, .ref (X.2.1 b1))]) (pc := 69) hx hcb dX5_readWay_69 hl (k := 4) rfl rfl (by decide) rfl (fun ls hl => ?_)
              refine lv_goto (tgt := 13) (pc := 72) hx hcb dX5_readWay_72 (by decide) ?_
              exact ih σ16 (x2_10 + 1) (x3_11 + 1) _ _ _ h hW (lv_sub hl [3, 4, 1, 0] rfl)
            · have h := h.2 c44
              exact hK47 σ9 x2_10 _ _ _ h hW (lv_sub hl [1, 3] rfl)
    obtain ⟨n, h⟩ := h
    exact hL13 n σ1 0 0 _ _ _ h hW (lv_sub hl [2, 3, 1, 0] rfl)
  · have h := h.2 c4
    refine lv_iconst (v := 0) (pc := 7) hx hcb dX5_readWay_7 rfl ?_
    exact hret _ _ _ _ _ _ rfl h hW dX5_readWay_8
abbrev rm_X5_readItem : Room := { frames := 4, cells := 0, slots := 0, locals := 87 }
set_option maxHeartbeats 4000000 in
set_option maxRecDepth 100000 in
theorem c_X5_readItem (l : Launch) (X : KX) (σ : Mm) (b1 : Nat) (hb1 : kFm b1) (Φ : Int32 → Mm → Prop) (h : wp_X5_readItem σ b1 Φ) : Met l yX5_readItem (.code yX5_readItem cX5_readItem 4 (some .boolean) :: kT) rm_X5_readItem (va_Pc [.ref (X.2.1 3), .ref (X.2.1 b1)] (kPre kZC X σ)) (va_Qi (fun r σ' => Φ r σ') (fun σ' t => kPre kZC X σ' t) (kA kZC X)) 0 0 (kA kZC X) := by
  refine kofI (by decide) (Nat.le_of_ble_eq_true rfl) ?_
  intro p e s m args below meth c ls Q hx hcb hml hown hts hS hW hl hret
  have hown : s.vm.findClass RX5 = some m.cls := hown
  have hl : lv_has ls 4 [(0, .ref (X.2.1 3)), (1, .ref (X.2.1 b1))] := hl
  unfold wp_X5_readItem at h
  refine lv_aload_n (pc := 0) hx hcb dX5_readItem_0 rfl (lv_at hl 0 rfl) ?_
  refine kget (v := .ref (X.2.1 1)) (pc := 1) hx hcb hts hown hS hW iwX5 kOC_3 rfl 0 (by decide) q97 rfl rfl dX5_readItem_1 ?_
  refine lv_aload_n (pc := 4) hx hcb dX5_readItem_4 rfl (lv_at hl 0 rfl) ?_
  refine kget (v := .int (σ.1 3 1)) (pc := 5) hx hcb hts hown hS hW iwX5 kOC_3 rfl 1 (by decide) q98 rfl rfl dX5_readItem_5 ?_
  refine kci (krunV (As := [.int (σ.1 3 1)]) (rest := []) (pc := 8) hx hcb hml hown hts hS hW (c_X8_byteAt l X σ (σ.1 3 1) _ h) mf_X8_byteAt q338 kOC_1 rfl ⟨rfl, rfl⟩ ⟨Nat.le_of_ble_eq_true rfl, Nat.le_of_ble_eq_true rfl⟩ rfl hl.1 rfl (Nat.le_of_ble_eq_true rfl) dX5_readItem_8 ⟨Nat.zero_le _, Nat.zero_le _⟩) hS hW (fun r2 σ1 H locs h hW => ?_)
  obtain ⟨h, rfl⟩ := h
  refine lv_istore_n (lv' := [(2, .int r2), (0, .ref (X.2.1 3)), (1, .ref (X.2.1 b1))]) (pc := 11) hx hcb dX5_readItem_11 rfl hl (by decide) rfl (fun ls hl => ?_)
  refine lv_aload_n (pc := 12) hx hcb dX5_readItem_12 rfl (lv_at hl 1 rfl) ?_
  refine lv_dup (pc := 13) hx hcb dX5_readItem_13 rfl ?_
  refine kget (v := .int (σ.1 3 1)) (pc := 14) hx hcb hts hown hS hW iwX5 kOC_3 rfl 1 (by decide) q98 rfl rfl dX5_readItem_14 ?_
  refine lv_iconst (v := 1) (pc := 17) hx hcb dX5_readItem_17 rfl ?_
  refine lv_iadd (pc := 18) hx hcb dX5_readItem_18 ?_
  refine kput (ty := .int) (pc := 19) hx hcb hts hown hS hW iwX5 tyX5 tyX5_ok nmX5 kOC_3 rfl 1 (by decide) q98 rfl rfl rfl rfl rfl (Nat.le_of_ble_eq_true rfl) rfl dX5_readItem_19 (fun σ3 H locs eσ3 hW => ?_)
  have h := h σ3 eσ3
  refine lv_iload_n (pc := 22) hx hcb dX5_readItem_22 rfl (lv_at hl 0 rfl) ?_
  refine lv_bipush (v := 108) (pc := 23) hx hcb dX5_readItem_23 rfl ?_
  refine lv_icmp_ne (tgt := 34) (pc := 25) hx hcb dX5_readItem_25 (by decide) (fun c25 => ?_) (fun c25 => ?_)
  · have h := h.1 c25
    refine lv_iload_n (pc := 34) hx hcb dX5_readItem_34 rfl (lv_at hl 0 rfl) ?_
    refine lv_bipush (v := 119) (pc := 35) hx hcb dX5_readItem_35 rfl ?_
    refine lv_icmp_ne (tgt := 46) (pc := 37) hx hcb dX5_readItem_37 (by decide) (fun c37 => ?_) (fun c37 => ?_)
    · have h := h.1 c37
      refine lv_aload_n (pc := 46) hx hcb dX5_readItem_46 rfl (lv_at hl 1 rfl) ?_
      refine kci (krunV (As := []) (rest := []) (pc := 47) hx hcb hml hown hts hS hW (c_X5_readNumber l X σ3  _ h) mf_X5_readNumber q346 kOC_3 rfl ⟨rfl, rfl⟩ ⟨Nat.le_of_ble_eq_true rfl, Nat.le_of_ble_eq_true rfl⟩ rfl hl.1 rfl (Nat.le_of_ble_eq_true rfl) dX5_readItem_47 ⟨Nat.zero_le _, Nat.zero_le _⟩) hS hW (fun r5 σ4 H locs h hW => ?_)
      refine lv_istore_n (lv' := [(3, .int r5), (2, .int r2), (0, .ref (X.2.1 3)), (1, .ref (X.2.1 b1))]) (pc := 50) hx hcb dX5_readItem_50 rfl hl (by decide) rfl (fun ls hl => ?_)
      refine lv_iload_n (pc := 51) hx hcb dX5_readItem_51 rfl (lv_at hl 0 rfl) ?_
      refine lv_if_lt (tgt := 64) (pc := 52) hx hcb dX5_readItem_52 (by decide) (fun c52 => ?_) (fun c52 => ?_)
      · have h := h.1 c52
        refine lv_iconst (v := 0) (pc := 64) hx hcb dX5_readItem_64 rfl ?_
        exact hret _ _ _ _ _ _ rfl h hW dX5_readItem_65
      · have h := h.2 c52
        refine lv_aload_n (pc := 55) hx hcb dX5_readItem_55 rfl (lv_at hl 2 rfl) ?_
        refine lv_bipush (v := 59) (pc := 56) hx hcb dX5_readItem_56 rfl ?_
        refine kci (krunV (As := [.int 59]) (rest := []) (pc := 58) hx hcb hml hown hts hS hW (c_X5_takes l X σ4 59 _ h) mf_X5_takes q354 kOC_3 rfl ⟨rfl, rfl⟩ ⟨Nat.le_of_ble_eq_true rfl, Nat.le_of_ble_eq_true rfl⟩ rfl hl.1 rfl (Nat.le_of_ble_eq_true rfl) dX5_readItem_58 ⟨Nat.zero_le _, Nat.zero_le _⟩) hS hW (fun r7 σ6 H locs h hW => ?_)
        refine lv_if_ne (tgt := 66) (pc := 61) hx hcb dX5_readItem_61 (by decide) (fun c61 => ?_) (fun c61 => ?_)
        · have h := h.1 c61
          refine lv_iload_n (pc := 66) hx hcb dX5_readItem_66 rfl (lv_at hl 1 rfl) ?_
          refine lv_topi (fun w8 ew8 => ?_)
          have h := h w8 ew8
          by_cases hsw0 : w8 = 99
          · have h := h.1 hsw0
            refine lv_lookup (off := 59) (tgt := 126) (pc := 67) hx hcb dX5_readItem_67 (by decide) (by rw [hsw0]; rfl) (by decide) ?_
            refine lv_aload_n (pc := 126) hx hcb dX5_readItem_126 rfl (lv_at hl 3 rfl) ?_
            refine lv_iload_n (pc := 127) hx hcb dX5_readItem_127 rfl (lv_at hl 0 rfl) ?_
            refine kci (krunV (As := [.int r5]) (rest := []) (pc := 128) hx hcb hml hown hts hS hW (c_X1_tellStart l X σ6 b1 hb1 r5 _ h) mf_X1_tellStart q390 (kO_X1 hb1) rfl ⟨rfl, rfl⟩ ⟨Nat.le_of_ble_eq_true rfl, Nat.le_of_ble_eq_true rfl⟩ rfl hl.1 rfl (Nat.le_of_ble_eq_true rfl) dX5_readItem_128 ⟨Nat.zero_le _, Nat.zero_le _⟩) hS hW (fun r10 σ9 H locs h hW => ?_)
            have hbt := h.1
            have h := h.2
            exact hret _ _ _ _ _ _ (kbit_n hbt) h hW dX5_readItem_131
          · have h := h.2 hsw0
            by_cases hsw1 : w8 = 102
            · have h := h.1 hsw1
              refine lv_lookup (off := 53) (tgt := 120) (pc := 67) hx hcb dX5_readItem_67 (by decide) (by rw [hsw1]; rfl) (by decide) ?_
              refine lv_aload_n (pc := 120) hx hcb dX5_readItem_120 rfl (lv_at hl 3 rfl) ?_
              refine lv_iload_n (pc := 121) hx hcb dX5_readItem_121 rfl (lv_at hl 0 rfl) ?_
              refine kci (krunV (As := [.int r5]) (rest := []) (pc := 122) hx hcb hml hown hts hS hW (c_X1_tellForgetting l X σ6 b1 hb1 r5 _ h) mf_X1_tellForgetting q386 (kO_X1 hb1) rfl ⟨rfl, rfl⟩ ⟨Nat.le_of_ble_eq_true rfl, Nat.le_of_ble_eq_true rfl⟩ rfl hl.1 rfl (Nat.le_of_ble_eq_true rfl) dX5_readItem_122 ⟨Nat.zero_le _, Nat.zero_le _⟩) hS hW (fun r12 σ11 H locs h hW => ?_)
              have hbt := h.1
              have h := h.2
              exact hret _ _ _ _ _ _ (kbit_n hbt) h hW dX5_readItem_125
            · have h := h.2 hsw1
              by_cases hsw2 : w8 = 112
              · have h := h.1 hsw2
                refine lv_lookup (off := 47) (tgt := 114) (pc := 67) hx hcb dX5_readItem_67 (by decide) (by rw [hsw2]; rfl) (by decide) ?_
                refine lv_aload_n (pc := 114) hx hcb dX5_readItem_114 rfl (lv_at hl 3 rfl) ?_
                refine lv_iload_n (pc := 115) hx hcb dX5_readItem_115 rfl (lv_at hl 0 rfl) ?_
                refine kci (krunV (As := [.int r5]) (rest := []) (pc := 116) hx hcb hml hown hts hS hW (c_X1_tellPerson l X σ6 b1 hb1 r5 _ h) mf_X1_tellPerson q382 (kO_X1 hb1) rfl ⟨rfl, rfl⟩ ⟨Nat.le_of_ble_eq_true rfl, Nat.le_of_ble_eq_true rfl⟩ rfl hl.1 rfl (Nat.le_of_ble_eq_true rfl) dX5_readItem_116 ⟨Nat.zero_le _, Nat.zero_le _⟩) hS hW (fun r14 σ13 H locs h hW => ?_)
                have hbt := h.1
                have h := h.2
                exact hret _ _ _ _ _ _ (kbit_n hbt) h hW dX5_readItem_119
              · have h := h.2 hsw2
                by_cases hsw3 : w8 = 121
                · have h := h.1 hsw3
                  refine lv_lookup (off := 41) (tgt := 108) (pc := 67) hx hcb dX5_readItem_67 (by decide) (by rw [hsw3]; rfl) (by decide) ?_
                  refine lv_aload_n (pc := 108) hx hcb dX5_readItem_108 rfl (lv_at hl 3 rfl) ?_
                  refine lv_iload_n (pc := 109) hx hcb dX5_readItem_109 rfl (lv_at hl 0 rfl) ?_
                  refine kci (krunV (As := [.int r5]) (rest := []) (pc := 110) hx hcb hml hown hts hS hW (c_X1_tellYards l X σ6 b1 hb1 r5 _ h) mf_X1_tellYards q378 (kO_X1 hb1) rfl ⟨rfl, rfl⟩ ⟨Nat.le_of_ble_eq_true rfl, Nat.le_of_ble_eq_true rfl⟩ rfl hl.1 rfl (Nat.le_of_ble_eq_true rfl) dX5_readItem_110 ⟨Nat.zero_le _, Nat.zero_le _⟩) hS hW (fun r16 σ15 H locs h hW => ?_)
                  have hbt := h.1
                  have h := h.2
                  exact hret _ _ _ _ _ _ (kbit_n hbt) h hW dX5_readItem_113
                · have h := h.2 hsw3
                  refine lv_lookup (off := 65) (tgt := 132) (pc := 67) hx hcb dX5_readItem_67 (by decide) (klk_4 hsw0 hsw1 hsw2 hsw3) (by decide) ?_
                  refine lv_iconst (v := 0) (pc := 132) hx hcb dX5_readItem_132 rfl ?_
                  exact hret _ _ _ _ _ _ rfl h hW dX5_readItem_133
        · have h := h.2 c61
          refine lv_iconst (v := 0) (pc := 64) hx hcb dX5_readItem_64 rfl ?_
          exact hret _ _ _ _ _ _ rfl h hW dX5_readItem_65
    · have h := h.2 c37
      refine lv_aload_n (pc := 40) hx hcb dX5_readItem_40 rfl (lv_at hl 1 rfl) ?_
      refine lv_aload_n (pc := 41) hx hcb dX5_readItem_41 rfl (lv_at hl 2 rfl) ?_
      refine kci (krunV (As := [.ref (X.2.1 b1)]) (rest := []) (pc := 42) hx hcb hml hown hts hS hW (c_X5_readWay l X σ3 b1 hb1 _ h) mf_X5_readWay q366 kOC_3 rfl ⟨rfl, rfl⟩ ⟨Nat.le_of_ble_eq_true rfl, Nat.le_of_ble_eq_true rfl⟩ rfl hl.1 rfl (Nat.le_of_ble_eq_true rfl) dX5_readItem_42 ⟨Nat.zero_le _, Nat.zero_le _⟩) hS hW (fun r18 σ17 H locs h hW => ?_)
      have hbt := h.1
      have h := h.2
      exact hret _ _ _ _ _ _ (kbit_n hbt) h hW dX5_readItem_45
  · have h := h.2 c25
    refine lv_aload_n (pc := 28) hx hcb dX5_readItem_28 rfl (lv_at hl 1 rfl) ?_
    refine lv_aload_n (pc := 29) hx hcb dX5_readItem_29 rfl (lv_at hl 2 rfl) ?_
    refine kci (krunV (As := [.ref (X.2.1 b1)]) (rest := []) (pc := 30) hx hcb hml hown hts hS hW (c_X5_readLane l X σ3 b1 hb1 _ h) mf_X5_readLane q342 kOC_3 rfl ⟨rfl, rfl⟩ ⟨Nat.le_of_ble_eq_true rfl, Nat.le_of_ble_eq_true rfl⟩ rfl hl.1 rfl (Nat.le_of_ble_eq_true rfl) dX5_readItem_30 ⟨Nat.zero_le _, Nat.zero_le _⟩) hS hW (fun r20 σ19 H locs h hW => ?_)
    have hbt := h.1
    have h := h.2
    exact hret _ _ _ _ _ _ (kbit_n hbt) h hW dX5_readItem_33
abbrev rm_X5_readInto : Room := { frames := 5, cells := 0, slots := 0, locals := 110 }
set_option maxHeartbeats 4000000 in
set_option maxRecDepth 100000 in
theorem c_X5_readInto (l : Launch) (X : KX) (σ : Mm) (b1 : Nat) (hb1 : kFm b1) (Φ : Int32 → Mm → Prop) (h : wp_X5_readInto σ b1 Φ) : Met l yX5_readInto (.code yX5_readInto cX5_readInto 4 (some .int) :: kT) rm_X5_readInto (va_Pc [.ref (X.2.1 3), .ref (X.2.1 b1)] (kPre kZC X σ)) (va_Qi (fun r σ' => Φ r σ') (fun σ' t => kPre kZC X σ' t) (kA kZC X)) 0 0 (kA kZC X) := by
  refine kofI (by decide) (Nat.le_of_ble_eq_true rfl) ?_
  intro p e s m args below meth c ls Q hx hcb hml hown hts hS hW hl hret
  have hown : s.vm.findClass RX5 = some m.cls := hown
  have hl : lv_has ls 4 [(0, .ref (X.2.1 3)), (1, .ref (X.2.1 b1))] := hl
  unfold wp_X5_readInto at h
  refine lv_aload_n (pc := 0) hx hcb dX5_readInto_0 rfl (lv_at hl 1 rfl) ?_
  refine kcv (krunV (As := []) (rest := []) (pc := 1) hx hcb hml hown hts hS hW (c_X1_clear l X σ b1 hb1 _ h) mf_X1_clear q323 (kO_X1 hb1) rfl ⟨rfl, rfl⟩ ⟨Nat.le_of_ble_eq_true rfl, Nat.le_of_ble_eq_true rfl⟩ rfl hl.1 rfl (Nat.le_of_ble_eq_true rfl) dX5_readInto_1 ⟨Nat.zero_le _, Nat.zero_le _⟩) hS hW (fun σ1 H locs h hW => ?_)
  refine lv_aload_n (pc := 4) hx hcb dX5_readInto_4 rfl (lv_at hl 0 rfl) ?_
  refine lv_iconst (v := 0) (pc := 5) hx hcb dX5_readInto_5 rfl ?_
  refine kput (ty := .int) (pc := 6) hx hcb hts hown hS hW iwX5 tyX5 tyX5_ok nmX5 kOC_3 rfl 1 (by decide) q98 rfl rfl rfl rfl rfl (Nat.le_of_ble_eq_true rfl) rfl dX5_readInto_6 (fun σ2 H locs eσ2 hW => ?_)
  have h := h σ2 eσ2
  refine lv_iconst (v := 0) (pc := 9) hx hcb dX5_readInto_9 rfl ?_
  refine lv_istore_n (lv' := [(2, .int 0), (0, .ref (X.2.1 3)), (1, .ref (X.2.1 b1))]) (pc := 10) hx hcb dX5_readInto_10 rfl hl (by decide) rfl (fun ls hl => ?_)
  have hL11 : ∀ (n : Nat) (σ3 : Mm) (x2_4 : Int32) (H : Heap) (locs : List Loc) (ls : Array Slot), wp_X5_readInto_L11 b1 Φ n σ3 x2_4 → kW kZC X (kA kZC X) s σ3 H locs → lv_has ls 4 [(0, .ref (X.2.1 3)), (1, .ref (X.2.1 b1)), (2, .int x2_4)] → W p l e rm_X5_readInto s m args below meth c H locs 0 0 Q (F0 m 11 ls []) := by
    intro n
    induction n with
    | zero =>
      intro σ3 x2_4 H locs ls h
      exact False.elim h
    | succ n ih =>
      intro σ3 x2_4 H locs ls h hW hl
      unfold wp_X5_readInto_L11 at h
      refine lv_iload_n (pc := 11) hx hcb dX5_readInto_11 rfl (lv_at hl 2 rfl) ?_
      refine lv_sipush (v := 300) (pc := 12) hx hcb dX5_readInto_12 rfl ?_
      refine lv_icmp_ge (tgt := 53) (pc := 15) hx hcb dX5_readInto_15 (by decide) (fun c15 => ?_) (fun c15 => ?_)
      · have h := h.1 c15
        refine lv_bipush (v := (-4)) (pc := 53) hx hcb dX5_readInto_53 rfl ?_
        exact hret _ _ _ _ _ _ rfl h hW dX5_readInto_55
      · have h := h.2 c15
        refine lv_aload_n (pc := 18) hx hcb dX5_readInto_18 rfl (lv_at hl 0 rfl) ?_
        refine kget (v := .int (σ3.1 3 1)) (pc := 19) hx hcb hts hown hS hW iwX5 kOC_3 rfl 1 (by decide) q98 rfl rfl dX5_readInto_19 ?_
        refine lv_aload_n (pc := 22) hx hcb dX5_readInto_22 rfl (lv_at hl 0 rfl) ?_
        refine kget (v := .ref (X.2.1 1)) (pc := 23) hx hcb hts hown hS hW iwX5 kOC_3 rfl 0 (by decide) q97 rfl rfl dX5_readInto_23 ?_
        refine kci (krunV (As := []) (rest := [.int (σ3.1 3 1)]) (pc := 26) hx hcb hml hown hts hS hW (c_X8_length l X σ3  _ h) mf_X8_length q330 kOC_1 rfl ⟨rfl, rfl⟩ ⟨Nat.le_of_ble_eq_true rfl, Nat.le_of_ble_eq_true rfl⟩ rfl hl.1 rfl (Nat.le_of_ble_eq_true rfl) dX5_readInto_26 ⟨Nat.zero_le _, Nat.zero_le _⟩) hS hW (fun r6 σ5 H locs h hW => ?_)
        obtain ⟨h, rfl⟩ := h
        refine lv_icmp_ge (tgt := 53) (pc := 29) hx hcb dX5_readInto_29 (by decide) (fun c29 => ?_) (fun c29 => ?_)
        · have h := h.1 c29
          refine lv_bipush (v := (-4)) (pc := 53) hx hcb dX5_readInto_53 rfl ?_
          exact hret _ _ _ _ _ _ rfl h hW dX5_readInto_55
        · have h := h.2 c29
          refine lv_aload_n (pc := 32) hx hcb dX5_readInto_32 rfl (lv_at hl 0 rfl) ?_
          refine kget (v := .int (σ3.1 3 1)) (pc := 33) hx hcb hts hown hS hW iwX5 kOC_3 rfl 1 (by decide) q98 rfl rfl dX5_readInto_33 ?_
          refine lv_topi (fun x3_7 ex3_7 => ?_)
          have h := h x3_7 ex3_7
          refine lv_istore_n (lv' := [(3, .int x3_7), (0, .ref (X.2.1 3)), (1, .ref (X.2.1 b1)), (2, .int x2_4)]) (pc := 36) hx hcb dX5_readInto_36 rfl hl (by decide) rfl (fun ls hl => ?_)
          refine lv_aload_n (pc := 37) hx hcb dX5_readInto_37 rfl (lv_at hl 1 rfl) ?_
          refine lv_aload_n (pc := 38) hx hcb dX5_readInto_38 rfl (lv_at hl 2 rfl) ?_
          refine kci (krunV (As := [.ref (X.2.1 b1)]) (rest := []) (pc := 39) hx hcb hml hown hts hS hW (c_X5_readItem l X σ3 b1 hb1 _ h) mf_X5_readItem q334 kOC_3 rfl ⟨rfl, rfl⟩ ⟨Nat.le_of_ble_eq_true rfl, Nat.le_of_ble_eq_true rfl⟩ rfl hl.1 rfl (Nat.le_of_ble_eq_true rfl) dX5_readInto_39 ⟨Nat.zero_le _, Nat.zero_le _⟩) hS hW (fun r9 σ8 H locs h hW => ?_)
          refine lv_if_ne (tgt := 47) (pc := 42) hx hcb dX5_readInto_42 (by decide) (fun c42 => ?_) (fun c42 => ?_)
          · have h := h.1 c42
            refine lv_iinc (v := x2_4 + 1) (lv' := [(2, .int (x2_4 + 1)), (3, .int x3_7), (0, .ref (X.2.1 3)), (1, .ref (X.2.1 b1))]) (pc := 47) hx hcb dX5_readInto_47 hl (k := 3) rfl rfl (by decide) rfl (fun ls hl => ?_)
            refine lv_goto (tgt := 11) (pc := 50) hx hcb dX5_readInto_50 (by decide) ?_
            exact ih σ8 (x2_4 + 1) _ _ _ h hW (lv_sub hl [2, 3, 0] rfl)
          · have h := h.2 c42
            refine lv_iload_n (pc := 45) hx hcb dX5_readInto_45 rfl (lv_at hl 0 rfl) ?_
            exact hret _ _ _ _ _ _ rfl h hW dX5_readInto_46
  obtain ⟨n, h⟩ := h
  exact hL11 n σ2 0 _ _ _ h hW (lv_sub hl [1, 2, 0] rfl)
abbrev rm_X7_begin : Room := { frames := 1, cells := 0, slots := 0, locals := 21 }
set_option maxHeartbeats 4000000 in
set_option maxRecDepth 100000 in
theorem c_X7_begin (l : Launch) (X : KX) (σ : Mm) (x1 : Int32) (x2 : Int32) (Φ : Mm → Prop) (h : wp_X7_begin σ x1 x2 Φ) : Met l yX7_begin (.code yX7_begin cX7_begin 3 none :: kT) rm_X7_begin (va_Pc [.ref (X.2.1 31), .int x1, .int x2] (kPre kZC X σ)) (va_Qv (fun σ' => Φ σ') (fun σ' t => kPre kZC X σ' t) (kA kZC X)) 0 0 (kA kZC X) := by
  refine kofV (by decide) (Nat.le_of_ble_eq_true rfl) ?_
  intro p e s m args below meth c ls Q hx hcb hml hown hts hS hW hl hret
  have hown : s.vm.findClass RX7 = some m.cls := hown
  have hl : lv_has ls 3 [(0, .ref (X.2.1 31)), (1, .int x1), (2, .int x2)] := hl
  unfold wp_X7_begin at h
  refine lv_aload_n (pc := 0) hx hcb dX7_begin_0 rfl (lv_at hl 0 rfl) ?_
  refine lv_iload_n (pc := 1) hx hcb dX7_begin_1 rfl (lv_at hl 1 rfl) ?_
  refine kput (ty := .int) (pc := 2) hx hcb hts hown hS hW iwX7 tyX7 tyX7_ok nmX7 kOC_31 rfl 2 (by decide) q232 rfl rfl rfl rfl rfl (Nat.le_of_ble_eq_true rfl) rfl dX7_begin_2 (fun σ1 H locs eσ1 hW => ?_)
  have h := h σ1 eσ1
  refine lv_aload_n (pc := 5) hx hcb dX7_begin_5 rfl (lv_at hl 0 rfl) ?_
  refine lv_iload_n (pc := 6) hx hcb dX7_begin_6 rfl (lv_at hl 2 rfl) ?_
  refine kput (ty := .int) (pc := 7) hx hcb hts hown hS hW iwX7 tyX7 tyX7_ok nmX7 kOC_31 rfl 3 (by decide) q233 rfl rfl rfl rfl rfl (Nat.le_of_ble_eq_true rfl) rfl dX7_begin_7 (fun σ2 H locs eσ2 hW => ?_)
  have h := h σ2 eσ2
  refine lv_aload_n (pc := 10) hx hcb dX7_begin_10 rfl (lv_at hl 0 rfl) ?_
  refine lv_iconst (v := 1) (pc := 11) hx hcb dX7_begin_11 rfl ?_
  refine kput (ty := .boolean) (pc := 12) hx hcb hts hown hS hW iwX7 tyX7 tyX7_ok nmX7 kOC_31 rfl 4 (by decide) q234 rfl rfl rfl rfl rfl (Nat.le_of_ble_eq_true rfl) rfl dX7_begin_12 (fun σ3 H locs eσ3 hW => ?_)
  have h := h σ3 eσ3
  refine lv_aload_n (pc := 15) hx hcb dX7_begin_15 rfl (lv_at hl 0 rfl) ?_
  have hd4 : kFr (σ3.2.2 2) := hW.2.2.2.2.1
  refine kget (v := .ref (X.2.1 (σ3.2.2 2))) (pc := 16) hx hcb hts hown hS hW iwX7 kOC_31 rfl 0 (by decide) q230 rfl rfl dX7_begin_16 ?_
  refine kcv (krunV (As := []) (rest := []) (pc := 19) hx hcb hml hown hts hS hW (c_X2_clear l X σ3 (σ3.2.2 2) hd4 _ h) mf_X2_clear q604 (kO_X2 hd4) rfl ⟨rfl, rfl⟩ ⟨Nat.le_of_ble_eq_true rfl, Nat.le_of_ble_eq_true rfl⟩ rfl hl.1 rfl (Nat.le_of_ble_eq_true rfl) dX7_begin_19 ⟨Nat.zero_le _, Nat.zero_le _⟩) hS hW (fun σ5 H locs h hW => ?_)
  refine lv_aload_n (pc := 22) hx hcb dX7_begin_22 rfl (lv_at hl 0 rfl) ?_
  have hd6 : kFr (σ5.2.2 3) := hW.2.2.2.2.2
  refine kget (v := .ref (X.2.1 (σ5.2.2 3))) (pc := 23) hx hcb hts hown hS hW iwX7 kOC_31 rfl 1 (by decide) q231 rfl rfl dX7_begin_23 ?_
  refine kcv (krunV (As := []) (rest := []) (pc := 26) hx hcb hml hown hts hS hW (c_X2_clear l X σ5 (σ5.2.2 3) hd6 _ h) mf_X2_clear q604 (kO_X2 hd6) rfl ⟨rfl, rfl⟩ ⟨Nat.le_of_ble_eq_true rfl, Nat.le_of_ble_eq_true rfl⟩ rfl hl.1 rfl (Nat.le_of_ble_eq_true rfl) dX7_begin_26 ⟨Nat.zero_le _, Nat.zero_le _⟩) hS hW (fun σ7 H locs h hW => ?_)
  exact hret _ _ _ _ _ h hW dX7_begin_29
abbrev rm_X7_whenUnfed : Room := { frames := 0, cells := 0, slots := 0, locals := 0 }
set_option maxHeartbeats 4000000 in
set_option maxRecDepth 100000 in
theorem c_X7_whenUnfed (l : Launch) (X : KX) (σ : Mm) (x1 : Int64) (x3 : Int32) (Φ : Int64 → Prop) (h : wp_X7_whenUnfed σ x1 x3 Φ) : Met l yX7_whenUnfed (.code yX7_whenUnfed cX7_whenUnfed 4 (some .long) :: kT) rm_X7_whenUnfed (va_Pc [.ref (X.2.1 31), .long x1, .int x3] (kPre kZC X σ)) (va_Ql (fun r σ' => Φ r ∧ σ = σ') (fun σ' t => kPre kZC X σ' t) (kA kZC X)) 0 0 (kA kZC X) := by
  refine kofL (by decide) (Nat.le_of_ble_eq_true rfl) ?_
  intro p e s m args below meth c ls Q hx hcb hml hown hts hS hW hl hret
  have hown : s.vm.findClass RX7 = some m.cls := hown
  have hl : lv_has ls 4 [(0, .ref (X.2.1 31)), (1, .long x1), (3, .int x3)] := hl
  unfold wp_X7_whenUnfed at h
  refine lv_aload_n (pc := 0) hx hcb dX7_whenUnfed_0 rfl (lv_at hl 0 rfl) ?_
  refine kget (v := .int (σ.1 31 2)) (pc := 1) hx hcb hts hown hS hW iwX7 kOC_31 rfl 2 (by decide) q232 rfl rfl dX7_whenUnfed_1 ?_
  refine lv_iconst (v := 2) (pc := 4) hx hcb dX7_whenUnfed_4 rfl ?_
  refine lv_icmp_eq (tgt := 10) (pc := 5) hx hcb dX7_whenUnfed_5 (by decide) (fun c5 => ?_) (fun c5 => ?_)
  · have h := h.1 c5
    refine lv_iload_n (pc := 10) hx hcb dX7_whenUnfed_10 rfl (lv_at hl 2 rfl) ?_
    refine lv_if_ne (tgt := 22) (pc := 11) hx hcb dX7_whenUnfed_11 (by decide) (fun c11 => ?_) (fun c11 => ?_)
    · have h := h.1 c11
      refine lv_lload_n (pc := 22) hx hcb dX7_whenUnfed_22 rfl (lv_at hl 1 rfl) ?_
      refine kldc2 (v := 60) (pc := 23) hx hcb hown hts q678 dX7_whenUnfed_23 ?_
      refine lv_lmul (pc := 26) hx hcb dX7_whenUnfed_26 ?_
      exact hret _ _ _ _ _ _ ⟨h, rfl⟩ hW dX7_whenUnfed_27
    · have h := h.2 c11
      refine lv_lload_n (pc := 14) hx hcb dX7_whenUnfed_14 rfl (lv_at hl 1 rfl) ?_
      refine kldc2 (v := 120) (pc := 15) hx hcb hown hts q677 dX7_whenUnfed_15 ?_
      refine lv_lmul (pc := 18) hx hcb dX7_whenUnfed_18 ?_
      refine lv_goto (tgt := 27) (pc := 19) hx hcb dX7_whenUnfed_19 (by decide) ?_
      exact hret _ _ _ _ _ _ ⟨h, rfl⟩ hW dX7_whenUnfed_27
  · have h := h.2 c5
    refine lv_lload_n (pc := 8) hx hcb dX7_whenUnfed_8 rfl (lv_at hl 1 rfl) ?_
    exact hret _ _ _ _ _ _ ⟨h, rfl⟩ hW dX7_whenUnfed_9
abbrev rm_X7_whenFed : Room := { frames := 1, cells := 0, slots := 0, locals := 21 }
set_option maxHeartbeats 4000000 in
set_option maxRecDepth 100000 in
theorem c_X7_whenFed (l : Launch) (X : KX) (σ : Mm) (b1 : Nat) (hb1 : kFm b1) (x2 : Int64) (x4 : Int32) (x5 : Int32) (Φ : Int64 → Prop) (h : wp_X7_whenFed σ b1 x2 x4 x5 Φ) : Met l yX7_whenFed (.code yX7_whenFed cX7_whenFed 6 (some .long) :: kT) rm_X7_whenFed (va_Pc [.ref (X.2.1 31), .ref (X.2.1 b1), .long x2, .int x4, .int x5] (kPre kZC X σ)) (va_Ql (fun r σ' => Φ r ∧ σ = σ') (fun σ' t => kPre kZC X σ' t) (kA kZC X)) 0 0 (kA kZC X) := by
  refine kofL (by decide) (Nat.le_of_ble_eq_true rfl) ?_
  intro p e s m args below meth c ls Q hx hcb hml hown hts hS hW hl hret
  have hown : s.vm.findClass RX7 = some m.cls := hown
  have hl : lv_has ls 6 [(0, .ref (X.2.1 31)), (1, .ref (X.2.1 b1)), (2, .long x2), (4, .int x4), (5, .int x5)] := hl
  unfold wp_X7_whenFed at h
  refine lv_aload_n (pc := 0) hx hcb dX7_whenFed_0 rfl (lv_at hl 0 rfl) ?_
  refine kget (v := .int (σ.1 31 2)) (pc := 1) hx hcb hts hown hS hW iwX7 kOC_31 rfl 2 (by decide) q232 rfl rfl dX7_whenFed_1 ?_
  refine lv_if_ne (tgt := 37) (pc := 4) hx hcb dX7_whenFed_4 (by decide) (fun c4 => ?_) (fun c4 => ?_)
  · have h := h.1 c4
    refine lv_iload (pc := 37) hx hcb dX7_whenFed_37 (lv_at hl 4 rfl) ?_
    refine lv_if_le (tgt := 53) (pc := 39) hx hcb dX7_whenFed_39 (by decide) (fun c39 => ?_) (fun c39 => ?_)
    · have h := h.1 c39
      refine lv_lload_n (pc := 53) hx hcb dX7_whenFed_53 rfl (lv_at hl 2 rfl) ?_
      exact hret _ _ _ _ _ _ ⟨h, rfl⟩ hW dX7_whenFed_54
    · have h := h.2 c39
      refine lv_lload_n (pc := 42) hx hcb dX7_whenFed_42 rfl (lv_at hl 2 rfl) ?_
      refine lv_bipush (v := 60) (pc := 43) hx hcb dX7_whenFed_43 rfl ?_
      refine lv_iload (pc := 45) hx hcb dX7_whenFed_45 (lv_at hl 4 rfl) ?_
      have hne47 := h.1
      have h := h.2
      refine lv_idiv (pc := 47) hx hcb dX7_whenFed_47 hne47 ?_
      refine lv_i2l (pc := 48) hx hcb dX7_whenFed_48 rfl ?_
      refine lv_lmul (pc := 49) hx hcb dX7_whenFed_49 ?_
      refine lv_goto (tgt := 54) (pc := 50) hx hcb dX7_whenFed_50 (by decide) ?_
      exact hret _ _ _ _ _ _ ⟨h, rfl⟩ hW dX7_whenFed_54
  · have h := h.2 c4
    refine lv_lload_n (pc := 7) hx hcb dX7_whenFed_7 rfl (lv_at hl 2 rfl) ?_
    refine lv_aload_n (pc := 8) hx hcb dX7_whenFed_8 rfl (lv_at hl 1 rfl) ?_
    refine lv_iload (pc := 9) hx hcb dX7_whenFed_9 (lv_at hl 3 rfl) ?_
    refine kci (krunV (As := [.int x4]) (rest := [.long x2]) (pc := 11) hx hcb hml hown hts hS hW (c_X1_cost l X σ b1 hb1 x4 _ h) mf_X1_cost q686 (kO_X1 hb1) rfl ⟨rfl, rfl⟩ ⟨Nat.le_of_ble_eq_true rfl, Nat.le_of_ble_eq_true rfl⟩ rfl hl.1 rfl (Nat.le_of_ble_eq_true rfl) dX7_whenFed_11 ⟨Nat.zero_le _, Nat.zero_le _⟩) hS hW (fun r2 σ1 H locs h hW => ?_)
    obtain ⟨h, rfl⟩ := h
    refine lv_bipush (v := 8) (pc := 14) hx hcb dX7_whenFed_14 rfl ?_
    refine lv_imul (pc := 16) hx hcb dX7_whenFed_16 ?_
    refine lv_i2l (pc := 17) hx hcb dX7_whenFed_17 rfl ?_
    refine lv_ladd (pc := 18) hx hcb dX7_whenFed_18 ?_
    refine lv_aload_n (pc := 19) hx hcb dX7_whenFed_19 rfl (lv_at hl 0 rfl) ?_
    refine kget (v := .int (σ.1 31 4)) (pc := 20) hx hcb hts hown hS hW iwX7 kOC_31 rfl 4 (by decide) q234 rfl rfl dX7_whenFed_20 ?_
    obtain ⟨K34, hk34, h⟩ := h
    have hK34 : ∀ (v3 : Int32) (H : Heap) (locs : List Loc) (ls : Array Slot), K34 v3 → kW kZC X (kA kZC X) s σ H locs → lv_has ls 6 [] → W p l e rm_X7_whenFed s m args below meth c H locs 0 0 Q (F0 m 34 ls [.int v3, .long (x2 + ((r2 * 8).toInt64))]) := by
      intro v3 H locs ls h hW hl
      have h := hk34 v3 h
      refine lv_i2l (pc := 34) hx hcb dX7_whenFed_34 rfl ?_
      refine lv_ladd (pc := 35) hx hcb dX7_whenFed_35 ?_
      exact hret _ _ _ _ _ _ ⟨h, rfl⟩ hW dX7_whenFed_36
    refine lv_if_eq (tgt := 33) (pc := 23) hx hcb dX7_whenFed_23 (by decide) (fun c23 => ?_) (fun c23 => ?_)
    · have h := h.1 c23
      refine lv_iconst (v := 0) (pc := 33) hx hcb dX7_whenFed_33 rfl ?_
      exact hK34 0 _ _ _ h hW (lv_sub hl [] rfl)
    · have h := h.2 c23
      refine lv_iload (pc := 26) hx hcb dX7_whenFed_26 (lv_at hl 3 rfl) ?_
      refine lv_iconst (v := 1) (pc := 28) hx hcb dX7_whenFed_28 rfl ?_
      refine lv_iadd (pc := 29) hx hcb dX7_whenFed_29 ?_
      refine lv_goto (tgt := 34) (pc := 30) hx hcb dX7_whenFed_30 (by decide) ?_
      exact hK34 (x4 + 1) _ _ _ h hW (lv_sub hl [] rfl)
abbrev rm_X7_branch : Room := { frames := 2, cells := 0, slots := 0, locals := 48 }
set_option maxHeartbeats 4000000 in
set_option maxRecDepth 100000 in
theorem c_X7_branch (l : Launch) (X : KX) (σ : Mm) (b1 : Nat) (hb1 : kFm b1) (x2 : Int32) (x3 : Int64) (x5 : Int32) (Φ : Mm → Prop) (h : wp_X7_branch σ b1 x2 x3 x5 Φ) : Met l yX7_branch (.code yX7_branch cX7_branch 10 none :: kT) rm_X7_branch (va_Pc [.ref (X.2.1 31), .ref (X.2.1 b1), .int x2, .long x3, .int x5] (kPre kZC X σ)) (va_Qv (fun σ' => Φ σ') (fun σ' t => kPre kZC X σ' t) (kA kZC X)) 0 0 (kA kZC X) := by
  refine kofV (by decide) (Nat.le_of_ble_eq_true rfl) ?_
  intro p e s m args below meth c ls Q hx hcb hml hown hts hS hW hl hret
  have hown : s.vm.findClass RX7 = some m.cls := hown
  have hl : lv_has ls 10 [(0, .ref (X.2.1 31)), (1, .ref (X.2.1 b1)), (2, .int x2), (3, .long x3), (5, .int x5)] := hl
  unfold wp_X7_branch at h
  refine lv_aload_n (pc := 0) hx hcb dX7_branch_0 rfl (lv_at hl 0 rfl) ?_
  refine kget (v := .int (σ.1 31 2)) (pc := 1) hx hcb hts hown hS hW iwX7 kOC_31 rfl 2 (by decide) q232 rfl rfl dX7_branch_1 ?_
  obtain ⟨K12, hk12, h⟩ := h
  have hK12 : ∀ (v1 : Int32) (H : Heap) (locs : List Loc) (ls : Array Slot), K12 v1 → kW kZC X (kA kZC X) s σ H locs → lv_has ls 10 [(0, .ref (X.2.1 31)), (1, .ref (X.2.1 b1)), (2, .int x2), (3, .long x3), (5, .int x5)] → W p l e rm_X7_branch s m args below meth c H locs 0 0 Q (F0 m 12 ls [.int v1]) := by
    intro v1 H locs ls h hW hl
    have h := hk12 v1 h
    refine lv_istore (lv' := [(6, .int v1), (0, .ref (X.2.1 31)), (1, .ref (X.2.1 b1)), (2, .int x2), (3, .long x3), (5, .int x5)]) (pc := 12) hx hcb dX7_branch_12 hl (by decide) rfl (fun ls hl => ?_)
    refine lv_aload_n (pc := 14) hx hcb dX7_branch_14 rfl (lv_at hl 1 rfl) ?_
    refine kget (v := .int (σ.1 31 2)) (pc := 15) hx hcb hts hown hS hW iwX7 kOC_31 rfl 2 (by decide) q232 rfl rfl dX7_branch_15 ?_
    refine lv_iconst (v := 2) (pc := 18) hx hcb dX7_branch_18 rfl ?_
    obtain ⟨K36, hk36, h⟩ := h
    have hK36 : ∀ (v2 : Int32) (H : Heap) (locs : List Loc) (ls : Array Slot), K36 v2 → kW kZC X (kA kZC X) s σ H locs → lv_has ls 10 [(0, .ref (X.2.1 31)), (1, .ref (X.2.1 b1)), (2, .int x2), (3, .long x3), (5, .int x5), (6, .int v1)] → W p l e rm_X7_branch s m args below meth c H locs 0 0 Q (F0 m 36 ls [.int v2]) := by
      intro v2 H locs ls h hW hl
      have h := hk36 v2 h
      refine lv_istore (lv' := [(7, .int v2), (0, .ref (X.2.1 31)), (1, .ref (X.2.1 b1)), (2, .int x2), (3, .long x3), (5, .int x5), (6, .int v1)]) (pc := 36) hx hcb dX7_branch_36 hl (by decide) rfl (fun ls hl => ?_)
      refine lv_aload_n (pc := 38) hx hcb dX7_branch_38 rfl (lv_at hl 1 rfl) ?_
      have hd3 : kFr (σ.2.2 3) := hW.2.2.2.2.2
      refine kget (v := .ref (X.2.1 (σ.2.2 3))) (pc := 39) hx hcb hts hown hS hW iwX7 kOC_31 rfl 1 (by decide) q231 rfl rfl dX7_branch_39 ?_
      refine lv_aload_n (pc := 42) hx hcb dX7_branch_42 rfl (lv_at hl 2 rfl) ?_
      refine lv_iload_n (pc := 43) hx hcb dX7_branch_43 rfl (lv_at hl 3 rfl) ?_
      refine lv_iload (pc := 44) hx hcb dX7_branch_44 (lv_at hl 5 rfl) ?_
      refine lv_iconst (v := 1) (pc := 46) hx hcb dX7_branch_46 rfl ?_
      refine lv_iadd (pc := 47) hx hcb dX7_branch_47 ?_
      refine kci (krunV (As := [.int x2, .int (x5 + 1)]) (rest := [.ref (X.2.1 (σ.2.2 3))]) (pc := 48) hx hcb hml hown hts hS hW (c_X1_onward l X σ b1 hb1 x2 (x5 + 1) _ h) mf_X1_onward q672 (kO_X1 hb1) rfl ⟨rfl, rfl⟩ ⟨Nat.le_of_ble_eq_true rfl, Nat.le_of_ble_eq_true rfl⟩ rfl hl.1 rfl (Nat.le_of_ble_eq_true rfl) dX7_branch_48 ⟨Nat.zero_le _, Nat.zero_le _⟩) hS hW (fun r5 σ4 H locs h hW => ?_)
      obtain ⟨h, rfl⟩ := h
      refine lv_aload_n (pc := 51) hx hcb dX7_branch_51 rfl (lv_at hl 1 rfl) ?_
      refine lv_lload_n (pc := 52) hx hcb dX7_branch_52 rfl (lv_at hl 4 rfl) ?_
      refine lv_iload (pc := 53) hx hcb dX7_branch_53 (lv_at hl 0 rfl) ?_
      refine kcl (krunV (As := [.long x3, .int v2]) (rest := [.int r5, .ref (X.2.1 (σ.2.2 3))]) (pc := 55) hx hcb hml hown hts hS hW (c_X7_whenUnfed l X σ x3 v2 _ h) mf_X7_whenUnfed q673 kOC_31 rfl ⟨rfl, rfl⟩ ⟨Nat.le_of_ble_eq_true rfl, Nat.le_of_ble_eq_true rfl⟩ rfl hl.1 rfl (Nat.le_of_ble_eq_true rfl) dX7_branch_55 ⟨Nat.zero_le _, Nat.zero_le _⟩) hS hW (fun r7 σ6 H locs h hW => ?_)
      obtain ⟨h, rfl⟩ := h
      refine lv_iload (pc := 58) hx hcb dX7_branch_58 (lv_at hl 6 rfl) ?_
      refine kcv (krunV (As := [.int r5, .long r7, .int v1]) (rest := []) (pc := 60) hx hcb hml hown hts hS hW (c_X2_put l X σ (σ.2.2 3) hd3 r5 r7 v1 _ h) mf_X2_put q608 (kO_X2 hd3) rfl ⟨rfl, rfl⟩ ⟨Nat.le_of_ble_eq_true rfl, Nat.le_of_ble_eq_true rfl⟩ rfl hl.1 rfl (Nat.le_of_ble_eq_true rfl) dX7_branch_60 ⟨Nat.zero_le _, Nat.zero_le _⟩) hS hW (fun σ8 H locs h hW => ?_)
      refine lv_iconst (v := 0) (pc := 63) hx hcb dX7_branch_63 rfl ?_
      refine lv_istore (lv' := [(8, .int 0), (7, .int v2), (0, .ref (X.2.1 31)), (1, .ref (X.2.1 b1)), (2, .int x2), (3, .long x3), (5, .int x5), (6, .int v1)]) (pc := 64) hx hcb dX7_branch_64 hl (by decide) rfl (fun ls hl => ?_)
      have hL66 : ∀ (n : Nat) (σ9 : Mm) (x8_10 : Int32) (H : Heap) (locs : List Loc) (ls : Array Slot), wp_X7_branch_L66 b1 x2 x3 x5 Φ v1 v2 n σ9 x8_10 → kW kZC X (kA kZC X) s σ9 H locs → lv_has ls 10 [(0, .ref (X.2.1 31)), (1, .ref (X.2.1 b1)), (2, .int x2), (3, .long x3), (5, .int x5), (6, .int v1), (7, .int v2), (8, .int x8_10)] → W p l e rm_X7_branch s m args below meth c H locs 0 0 Q (F0 m 66 ls []) := by
        intro n
        induction n with
        | zero =>
          intro σ9 x8_10 H locs ls h
          exact False.elim h
        | succ n ih =>
          intro σ9 x8_10 H locs ls h hW hl
          unfold wp_X7_branch_L66 at h
          refine lv_iload (pc := 66) hx hcb dX7_branch_66 (lv_at hl 7 rfl) ?_
          refine lv_aload_n (pc := 68) hx hcb dX7_branch_68 rfl (lv_at hl 1 rfl) ?_
          refine kci (krunV (As := []) (rest := [.int x8_10]) (pc := 69) hx hcb hml hown hts hS hW (c_X1_persons l X σ9 b1 hb1 _ h) mf_X1_persons q679 (kO_X1 hb1) rfl ⟨rfl, rfl⟩ ⟨Nat.le_of_ble_eq_true rfl, Nat.le_of_ble_eq_true rfl⟩ rfl hl.1 rfl (Nat.le_of_ble_eq_true rfl) dX7_branch_69 ⟨Nat.zero_le _, Nat.zero_le _⟩) hS hW (fun r12 σ11 H locs h hW => ?_)
          obtain ⟨h, rfl⟩ := h
          refine lv_icmp_ge (tgt := 139) (pc := 72) hx hcb dX7_branch_72 (by decide) (fun c72 => ?_) (fun c72 => ?_)
          · have h := h.1 c72
            exact hret _ _ _ _ _ h hW dX7_branch_139
          · have h := h.2 c72
            refine lv_iload (pc := 75) hx hcb dX7_branch_75 (lv_at hl 7 rfl) ?_
            refine lv_aload_n (pc := 77) hx hcb dX7_branch_77 rfl (lv_at hl 0 rfl) ?_
            refine kget (v := .int (σ9.1 31 3)) (pc := 78) hx hcb hts hown hS hW iwX7 kOC_31 rfl 3 (by decide) q233 rfl rfl dX7_branch_78 ?_
            obtain ⟨K133, hk133, h⟩ := h
            have hK133 : ∀ (σ13 : Mm) (H : Heap) (locs : List Loc) (ls : Array Slot), K133 σ13 → kW kZC X (kA kZC X) s σ13 H locs → lv_has ls 10 [(0, .ref (X.2.1 31)), (1, .ref (X.2.1 b1)), (2, .int x2), (3, .long x3), (5, .int x5), (6, .int v1), (7, .int v2), (8, .int x8_10)] → W p l e rm_X7_branch s m args below meth c H locs 0 0 Q (F0 m 133 ls []) := by
              intro σ13 H locs ls h hW hl
              have h := hk133 σ13 h
              refine lv_iinc (v := x8_10 + 1) (lv' := [(8, .int (x8_10 + 1)), (0, .ref (X.2.1 31)), (1, .ref (X.2.1 b1)), (2, .int x2), (3, .long x3), (5, .int x5), (6, .int v1), (7, .int v2)]) (pc := 133) hx hcb dX7_branch_133 hl (k := 7) rfl rfl (by decide) rfl (fun ls hl => ?_)
              refine lv_goto (tgt := 66) (pc := 136) hx hcb dX7_branch_136 (by decide) ?_
              exact ih σ13 (x8_10 + 1) _ _ _ h hW (lv_sub hl [1, 2, 3, 4, 5, 6, 7, 0] rfl)
            refine lv_icmp_eq (tgt := 133) (pc := 81) hx hcb dX7_branch_81 (by decide) (fun c81 => ?_) (fun c81 => ?_)
            · have h := h.1 c81
              exact hK133 σ9 _ _ _ h hW (lv_sub hl [0, 1, 2, 3, 4, 5, 6, 7] rfl)
            · have h := h.2 c81
              refine lv_aload_n (pc := 84) hx hcb dX7_branch_84 rfl (lv_at hl 1 rfl) ?_
              refine lv_iload (pc := 85) hx hcb dX7_branch_85 (lv_at hl 7 rfl) ?_
              refine lv_iload_n (pc := 87) hx hcb dX7_branch_87 rfl (lv_at hl 2 rfl) ?_
              refine lv_iload (pc := 88) hx hcb dX7_branch_88 (lv_at hl 4 rfl) ?_
              refine kci (krunV (As := [.int x8_10, .int x2, .int x5]) (rest := []) (pc := 90) hx hcb hml hown hts hS hW (c_X1_canFeed l X σ9 b1 hb1 x8_10 x2 x5 _ h) mf_X1_canFeed q680 (kO_X1 hb1) rfl ⟨rfl, rfl⟩ ⟨Nat.le_of_ble_eq_true rfl, Nat.le_of_ble_eq_true rfl⟩ rfl hl.1 rfl (Nat.le_of_ble_eq_true rfl) dX7_branch_90 ⟨Nat.zero_le _, Nat.zero_le _⟩) hS hW (fun r15 σ14 H locs h hW => ?_)
              obtain ⟨h, rfl⟩ := h
              refine lv_if_eq (tgt := 133) (pc := 93) hx hcb dX7_branch_93 (by decide) (fun c93 => ?_) (fun c93 => ?_)
              · have h := h.1 c93
                exact hK133 σ9 _ _ _ h hW (lv_sub hl [0, 1, 2, 3, 4, 5, 6, 7] rfl)
              · have h := h.2 c93
                refine lv_aload_n (pc := 96) hx hcb dX7_branch_96 rfl (lv_at hl 1 rfl) ?_
                refine lv_iload_n (pc := 97) hx hcb dX7_branch_97 rfl (lv_at hl 2 rfl) ?_
                refine lv_iload (pc := 98) hx hcb dX7_branch_98 (lv_at hl 7 rfl) ?_
                refine kci (krunSN (As := [.int x2, .int x8_10]) (rest := [.ref (X.2.1 b1)]) (pc := 100) hx hcb hml hown hts hS hW (c_X10_fedState l X σ9 x2 x8_10 _ h) mf_X10_fedState q681 ⟨rfl, rfl⟩ ⟨Nat.le_of_ble_eq_true rfl, Nat.le_of_ble_eq_true rfl⟩ rfl hl.1 rfl (Nat.le_of_ble_eq_true rfl) dX7_branch_100 ⟨Nat.zero_le _, Nat.zero_le _⟩) hS hW (fun r17 σ16 H locs h hW => ?_)
                obtain ⟨h, rfl⟩ := h
                refine lv_iload (pc := 103) hx hcb dX7_branch_103 (lv_at hl 4 rfl) ?_
                refine lv_iconst (v := 1) (pc := 105) hx hcb dX7_branch_105 rfl ?_
                refine lv_iadd (pc := 106) hx hcb dX7_branch_106 ?_
                refine kci (krunV (As := [.int r17, .int (x5 + 1)]) (rest := []) (pc := 107) hx hcb hml hown hts hS hW (c_X1_onward l X σ9 b1 hb1 r17 (x5 + 1) _ h) mf_X1_onward q672 (kO_X1 hb1) rfl ⟨rfl, rfl⟩ ⟨Nat.le_of_ble_eq_true rfl, Nat.le_of_ble_eq_true rfl⟩ rfl hl.1 rfl (Nat.le_of_ble_eq_true rfl) dX7_branch_107 ⟨Nat.zero_le _, Nat.zero_le _⟩) hS hW (fun r19 σ18 H locs h hW => ?_)
                obtain ⟨h, rfl⟩ := h
                refine lv_istore (lv' := [(9, .int r19), (0, .ref (X.2.1 31)), (1, .ref (X.2.1 b1)), (2, .int x2), (3, .long x3), (5, .int x5), (6, .int v1), (7, .int v2), (8, .int x8_10)]) (pc := 110) hx hcb dX7_branch_110 hl (by decide) rfl (fun ls hl => ?_)
                refine lv_aload_n (pc := 112) hx hcb dX7_branch_112 rfl (lv_at hl 1 rfl) ?_
                have hd20 : kFr (σ9.2.2 3) := hW.2.2.2.2.2
                refine kget (v := .ref (X.2.1 (σ9.2.2 3))) (pc := 113) hx hcb hts hown hS hW iwX7 kOC_31 rfl 1 (by decide) q231 rfl rfl dX7_branch_113 ?_
                refine lv_iload (pc := 116) hx hcb dX7_branch_116 (lv_at hl 0 rfl) ?_
                refine lv_aload_n (pc := 118) hx hcb dX7_branch_118 rfl (lv_at hl 1 rfl) ?_
                refine lv_aload_n (pc := 119) hx hcb dX7_branch_119 rfl (lv_at hl 2 rfl) ?_
                refine lv_lload_n (pc := 120) hx hcb dX7_branch_120 rfl (lv_at hl 4 rfl) ?_
                refine lv_iload (pc := 121) hx hcb dX7_branch_121 (lv_at hl 8 rfl) ?_
                refine lv_iload (pc := 123) hx hcb dX7_branch_123 (lv_at hl 7 rfl) ?_
                refine kcl (krunV (As := [.ref (X.2.1 b1), .long x3, .int x8_10, .int v2]) (rest := [.int r19, .ref (X.2.1 (σ9.2.2 3))]) (pc := 125) hx hcb hml hown hts hS hW (c_X7_whenFed l X σ9 b1 hb1 x3 x8_10 v2 _ h) mf_X7_whenFed q682 kOC_31 rfl ⟨rfl, rfl⟩ ⟨Nat.le_of_ble_eq_true rfl, Nat.le_of_ble_eq_true rfl⟩ rfl hl.1 rfl (Nat.le_of_ble_eq_true rfl) dX7_branch_125 ⟨Nat.zero_le _, Nat.zero_le _⟩) hS hW (fun r22 σ21 H locs h hW => ?_)
                obtain ⟨h, rfl⟩ := h
                refine lv_iload (pc := 128) hx hcb dX7_branch_128 (lv_at hl 6 rfl) ?_
                refine kcv (krunV (As := [.int r19, .long r22, .int v1]) (rest := []) (pc := 130) hx hcb hml hown hts hS hW (c_X2_put l X σ9 (σ9.2.2 3) hd20 r19 r22 v1 _ h) mf_X2_put q608 (kO_X2 hd20) rfl ⟨rfl, rfl⟩ ⟨Nat.le_of_ble_eq_true rfl, Nat.le_of_ble_eq_true rfl⟩ rfl hl.1 rfl (Nat.le_of_ble_eq_true rfl) dX7_branch_130 ⟨Nat.zero_le _, Nat.zero_le _⟩) hS hW (fun σ23 H locs h hW => ?_)
                exact hK133 σ23 _ _ _ h hW (lv_sub hl [1, 2, 3, 4, 5, 6, 7, 8] rfl)
      obtain ⟨n, h⟩ := h
      exact hL66 n σ8 0 _ _ _ h hW (lv_sub hl [2, 3, 4, 5, 6, 7, 1, 0] rfl)
    refine lv_icmp_ne (tgt := 35) (pc := 19) hx hcb dX7_branch_19 (by decide) (fun c19 => ?_) (fun c19 => ?_)
    · have h := h.1 c19
      refine lv_iconst (v := 0) (pc := 35) hx hcb dX7_branch_35 rfl ?_
      exact hK36 0 _ _ _ h hW (lv_sub hl [1, 2, 3, 4, 5, 0] rfl)
    · have h := h.2 c19
      refine lv_aload_n (pc := 22) hx hcb dX7_branch_22 rfl (lv_at hl 2 rfl) ?_
      refine lv_iload_n (pc := 23) hx hcb dX7_branch_23 rfl (lv_at hl 3 rfl) ?_
      refine kci (krunSN (As := [.int x2]) (rest := [.ref (X.2.1 b1)]) (pc := 24) hx hcb hml hown hts hS hW (c_X10_yardOf l X σ x2 _ h) mf_X10_yardOf q667 ⟨rfl, rfl⟩ ⟨Nat.le_of_ble_eq_true rfl, Nat.le_of_ble_eq_true rfl⟩ rfl hl.1 rfl (Nat.le_of_ble_eq_true rfl) dX7_branch_24 ⟨Nat.zero_le _, Nat.zero_le _⟩) hS hW (fun r25 σ24 H locs h hW => ?_)
      obtain ⟨h, rfl⟩ := h
      refine lv_iload (pc := 27) hx hcb dX7_branch_27 (lv_at hl 5 rfl) ?_
      refine kci (krunV (As := [.int r25, .int x5]) (rest := []) (pc := 29) hx hcb hml hown hts hS hW (c_X1_feedersAt l X σ b1 hb1 r25 x5 _ h) mf_X1_feedersAt q668 (kO_X1 hb1) rfl ⟨rfl, rfl⟩ ⟨Nat.le_of_ble_eq_true rfl, Nat.le_of_ble_eq_true rfl⟩ rfl hl.1 rfl (Nat.le_of_ble_eq_true rfl) dX7_branch_29 ⟨Nat.zero_le _, Nat.zero_le _⟩) hS hW (fun r27 σ26 H locs h hW => ?_)
      obtain ⟨h, rfl⟩ := h
      refine lv_goto (tgt := 36) (pc := 32) hx hcb dX7_branch_32 (by decide) ?_
      exact hK36 r27 _ _ _ h hW (lv_sub hl [1, 2, 3, 4, 5, 0] rfl)
  refine lv_if_ne (tgt := 11) (pc := 4) hx hcb dX7_branch_4 (by decide) (fun c4 => ?_) (fun c4 => ?_)
  · have h := h.1 c4
    refine lv_iconst (v := 0) (pc := 11) hx hcb dX7_branch_11 rfl ?_
    exact hK12 0 _ _ _ h hW (lv_sub hl [0, 1, 2, 3, 4] rfl)
  · have h := h.2 c4
    refine lv_iconst (v := 1) (pc := 7) hx hcb dX7_branch_7 rfl ?_
    refine lv_goto (tgt := 12) (pc := 8) hx hcb dX7_branch_8 (by decide) ?_
    exact hK12 1 _ _ _ h hW (lv_sub hl [0, 1, 2, 3, 4] rfl)
abbrev rm_X9_lastMinute : Room := { frames := 1, cells := 0, slots := 0, locals := 23 }
set_option maxHeartbeats 4000000 in
set_option maxRecDepth 100000 in
theorem c_X9_lastMinute (l : Launch) (X : KX) (σ : Mm) (b0 : Nat) (hb0 : kTd b0) (Φ : Int32 → Prop) (h : wp_X9_lastMinute σ b0 Φ) : Met l yX9_lastMinute (.code yX9_lastMinute cX9_lastMinute 3 (some .int) :: kT) rm_X9_lastMinute (va_Pc [.ref (X.2.1 b0)] (kPre kZC X σ)) (va_Qi (fun r σ' => Φ r ∧ σ = σ') (fun σ' t => kPre kZC X σ' t) (kA kZC X)) 0 0 (kA kZC X) := by
  refine kofI (by decide) (Nat.le_of_ble_eq_true rfl) ?_
  intro p e s m args below meth c ls Q hx hcb hml hown hts hS hW hl hret
  have hown : s.vm.findClass RX9 = some m.cls := hown
  have hl : lv_has ls 3 [(0, .ref (X.2.1 b0))] := hl
  unfold wp_X9_lastMinute at h
  refine lv_iconst (v := 0) (pc := 0) hx hcb dX9_lastMinute_0 rfl ?_
  refine lv_istore_n (lv' := [(1, .int 0), (0, .ref (X.2.1 b0))]) (pc := 1) hx hcb dX9_lastMinute_1 rfl hl (by decide) rfl (fun ls hl => ?_)
  refine lv_iconst (v := 0) (pc := 2) hx hcb dX9_lastMinute_2 rfl ?_
  refine lv_istore_n (lv' := [(2, .int 0), (1, .int 0), (0, .ref (X.2.1 b0))]) (pc := 3) hx hcb dX9_lastMinute_3 rfl hl (by decide) rfl (fun ls hl => ?_)
  have hL4 : ∀ (n : Nat) (x1_1 : Int32) (x2_2 : Int32) (H : Heap) (locs : List Loc) (ls : Array Slot), wp_X9_lastMinute_L4 b0 σ Φ n x1_1 x2_2 → kW kZC X (kA kZC X) s σ H locs → lv_has ls 3 [(0, .ref (X.2.1 b0)), (1, .int x1_1), (2, .int x2_2)] → W p l e rm_X9_lastMinute s m args below meth c H locs 0 0 Q (F0 m 4 ls []) := by
    intro n
    induction n with
    | zero =>
      intro x1_1 x2_2 H locs ls h
      exact False.elim h
    | succ n ih =>
      intro x1_1 x2_2 H locs ls h hW hl
      unfold wp_X9_lastMinute_L4 at h
      refine lv_iload_n (pc := 4) hx hcb dX9_lastMinute_4 rfl (lv_at hl 2 rfl) ?_
      refine lv_aload_n (pc := 5) hx hcb dX9_lastMinute_5 rfl (lv_at hl 0 rfl) ?_
      refine kget (v := .int (σ.1 b0 2)) (pc := 6) hx hcb hts hown hS hW iwX9 (kO_X9 hb0) rfl 2 (by decide) q195 rfl rfl dX9_lastMinute_6 ?_
      refine lv_icmp_ge (tgt := 29) (pc := 9) hx hcb dX9_lastMinute_9 (by decide) (fun c9 => ?_) (fun c9 => ?_)
      · have h := h.1 c9
        refine lv_iload_n (pc := 29) hx hcb dX9_lastMinute_29 rfl (lv_at hl 1 rfl) ?_
        exact hret _ _ _ _ _ _ rfl ⟨h, rfl⟩ hW dX9_lastMinute_30
      · have h := h.2 c9
        refine lv_iload_n (pc := 12) hx hcb dX9_lastMinute_12 rfl (lv_at hl 1 rfl) ?_
        refine lv_aload_n (pc := 13) hx hcb dX9_lastMinute_13 rfl (lv_at hl 0 rfl) ?_
        refine kget (v := .ref (X.2.1 (b0 + 2))) (pc := 14) hx hcb hts hown hS hW iwX9 (kO_X9 hb0) rfl 1 (by decide) q194 rfl rfl dX9_lastMinute_14 ?_
        refine lv_iload_n (pc := 17) hx hcb dX9_lastMinute_17 rfl (lv_at hl 2 rfl) ?_
        have hin3 := h.1
        have h := h.2
        refine kiald (x2_2.toNatClampNeg) (pc := 18) hx hcb hS hW (kA_X9_1 hb0) rfl (kin_of hin3 (by decide)) dX9_lastMinute_18 ?_
        refine va_mmax (pc := 19) hx hcb (hml.trans hl.1.symm) hown (hts _ q623) (hts _ q624) (hts _ q68) (hts _ q625) (Nat.le_of_ble_eq_true rfl) (Nat.le_of_ble_eq_true rfl) (Nat.zero_le _) (Nat.zero_le _) dX9_lastMinute_19 ?_
        refine lv_topi (fun x1_4 ex1_4 => ?_)
        have h := h x1_4 ex1_4
        refine lv_istore_n (lv' := [(1, .int x1_4), (0, .ref (X.2.1 b0)), (2, .int x2_2)]) (pc := 22) hx hcb dX9_lastMinute_22 rfl hl (by decide) rfl (fun ls hl => ?_)
        refine lv_iinc (v := x2_2 + 1) (lv' := [(2, .int (x2_2 + 1)), (1, .int x1_4), (0, .ref (X.2.1 b0))]) (pc := 23) hx hcb dX9_lastMinute_23 hl (k := 2) rfl rfl (by decide) rfl (fun ls hl => ?_)
        refine lv_goto (tgt := 4) (pc := 26) hx hcb dX9_lastMinute_26 (by decide) ?_
        exact ih x1_4 (x2_2 + 1) _ _ _ h hW (lv_sub hl [2, 1, 0] rfl)
  obtain ⟨n, h⟩ := h
  exact hL4 n 0 0 _ _ _ h hW (lv_sub hl [2, 1, 0] rfl)
abbrev rm_X9_size : Room := { frames := 0, cells := 0, slots := 0, locals := 0 }
set_option maxHeartbeats 4000000 in
set_option maxRecDepth 100000 in
theorem c_X9_size (l : Launch) (X : KX) (σ : Mm) (b0 : Nat) (hb0 : kTd b0) (Φ : Int32 → Prop) (h : wp_X9_size σ b0 Φ) : Met l yX9_size (.code yX9_size cX9_size 1 (some .int) :: kT) rm_X9_size (va_Pc [.ref (X.2.1 b0)] (kPre kZC X σ)) (va_Qi (fun r σ' => Φ r ∧ σ = σ') (fun σ' t => kPre kZC X σ' t) (kA kZC X)) 0 0 (kA kZC X) := by
  refine kofI (by decide) (Nat.le_of_ble_eq_true rfl) ?_
  intro p e s m args below meth c ls Q hx hcb hml hown hts hS hW hl hret
  have hown : s.vm.findClass RX9 = some m.cls := hown
  have hl : lv_has ls 1 [(0, .ref (X.2.1 b0))] := hl
  unfold wp_X9_size at h
  refine lv_aload_n (pc := 0) hx hcb dX9_size_0 rfl (lv_at hl 0 rfl) ?_
  refine kget (v := .int (σ.1 b0 2)) (pc := 1) hx hcb hts hown hS hW iwX9 (kO_X9 hb0) rfl 2 (by decide) q195 rfl rfl dX9_size_1 ?_
  exact hret _ _ _ _ _ _ rfl ⟨h, rfl⟩ hW dX9_size_4
abbrev rm_X9_isOf : Room := { frames := 0, cells := 0, slots := 0, locals := 0 }
set_option maxHeartbeats 4000000 in
set_option maxRecDepth 100000 in
theorem c_X9_isOf (l : Launch) (X : KX) (σ : Mm) (b0 : Nat) (hb0 : kTd b0) (x1 : Int32) (x2 : Int32) (Φ : Int32 → Prop) (h : wp_X9_isOf σ b0 x1 x2 Φ) : Met l yX9_isOf (.code yX9_isOf cX9_isOf 3 (some .boolean) :: kT) rm_X9_isOf (va_Pc [.ref (X.2.1 b0), .int x1, .int x2] (kPre kZC X σ)) (va_Qi (fun r σ' => Φ r ∧ σ = σ') (fun σ' t => kPre kZC X σ' t) (kA kZC X)) 0 0 (kA kZC X) := by
  refine kofI (by decide) (Nat.le_of_ble_eq_true rfl) ?_
  intro p e s m args below meth c ls Q hx hcb hml hown hts hS hW hl hret
  have hown : s.vm.findClass RX9 = some m.cls := hown
  have hl : lv_has ls 3 [(0, .ref (X.2.1 b0)), (1, .int x1), (2, .int x2)] := hl
  unfold wp_X9_isOf at h
  refine lv_iload_n (pc := 0) hx hcb dX9_isOf_0 rfl (lv_at hl 1 rfl) ?_
  refine lv_if_lt (tgt := 26) (pc := 1) hx hcb dX9_isOf_1 (by decide) (fun c1 => ?_) (fun c1 => ?_)
  · have h := h.1 c1
    refine lv_iconst (v := 0) (pc := 26) hx hcb dX9_isOf_26 rfl ?_
    exact hret _ _ _ _ _ _ rfl ⟨h, rfl⟩ hW dX9_isOf_27
  · have h := h.2 c1
    refine lv_iload_n (pc := 4) hx hcb dX9_isOf_4 rfl (lv_at hl 1 rfl) ?_
    refine lv_aload_n (pc := 5) hx hcb dX9_isOf_5 rfl (lv_at hl 0 rfl) ?_
    refine kget (v := .int (σ.1 b0 2)) (pc := 6) hx hcb hts hown hS hW iwX9 (kO_X9 hb0) rfl 2 (by decide) q195 rfl rfl dX9_isOf_6 ?_
    refine lv_icmp_ge (tgt := 26) (pc := 9) hx hcb dX9_isOf_9 (by decide) (fun c9 => ?_) (fun c9 => ?_)
    · have h := h.1 c9
      refine lv_iconst (v := 0) (pc := 26) hx hcb dX9_isOf_26 rfl ?_
      exact hret _ _ _ _ _ _ rfl ⟨h, rfl⟩ hW dX9_isOf_27
    · have h := h.2 c9
      refine lv_aload_n (pc := 12) hx hcb dX9_isOf_12 rfl (lv_at hl 0 rfl) ?_
      refine kget (v := .ref (X.2.1 (b0 + 2))) (pc := 13) hx hcb hts hown hS hW iwX9 (kO_X9 hb0) rfl 1 (by decide) q194 rfl rfl dX9_isOf_13 ?_
      refine lv_iload_n (pc := 16) hx hcb dX9_isOf_16 rfl (lv_at hl 1 rfl) ?_
      have hin1 := h.1
      have h := h.2
      refine kiald (x1.toNatClampNeg) (pc := 17) hx hcb hS hW (kA_X9_1 hb0) rfl (kin_of hin1 (by decide)) dX9_isOf_17 ?_
      refine lv_iload_n (pc := 18) hx hcb dX9_isOf_18 rfl (lv_at hl 2 rfl) ?_
      refine lv_icmp_ne (tgt := 26) (pc := 19) hx hcb dX9_isOf_19 (by decide) (fun c19 => ?_) (fun c19 => ?_)
      · have h := h.1 c19
        refine lv_iconst (v := 0) (pc := 26) hx hcb dX9_isOf_26 rfl ?_
        exact hret _ _ _ _ _ _ rfl ⟨h, rfl⟩ hW dX9_isOf_27
      · have h := h.2 c19
        refine lv_iconst (v := 1) (pc := 22) hx hcb dX9_isOf_22 rfl ?_
        refine lv_goto (tgt := 27) (pc := 23) hx hcb dX9_isOf_23 (by decide) ?_
        exact hret _ _ _ _ _ _ rfl ⟨h, rfl⟩ hW dX9_isOf_27
abbrev rm_X9_yard : Room := { frames := 0, cells := 0, slots := 0, locals := 0 }
set_option maxHeartbeats 4000000 in
set_option maxRecDepth 100000 in
theorem c_X9_yard (l : Launch) (X : KX) (σ : Mm) (b0 : Nat) (hb0 : kTd b0) (x1 : Int32) (Φ : Int32 → Prop) (h : wp_X9_yard σ b0 x1 Φ) : Met l yX9_yard (.code yX9_yard cX9_yard 2 (some .int) :: kT) rm_X9_yard (va_Pc [.ref (X.2.1 b0), .int x1] (kPre kZC X σ)) (va_Qi (fun r σ' => Φ r ∧ σ = σ') (fun σ' t => kPre kZC X σ' t) (kA kZC X)) 0 0 (kA kZC X) := by
  refine kofI (by decide) (Nat.le_of_ble_eq_true rfl) ?_
  intro p e s m args below meth c ls Q hx hcb hml hown hts hS hW hl hret
  have hown : s.vm.findClass RX9 = some m.cls := hown
  have hl : lv_has ls 2 [(0, .ref (X.2.1 b0)), (1, .int x1)] := hl
  unfold wp_X9_yard at h
  refine lv_iload_n (pc := 0) hx hcb dX9_yard_0 rfl (lv_at hl 1 rfl) ?_
  refine lv_if_lt (tgt := 21) (pc := 1) hx hcb dX9_yard_1 (by decide) (fun c1 => ?_) (fun c1 => ?_)
  · have h := h.1 c1
    refine lv_iconst (v := 0) (pc := 21) hx hcb dX9_yard_21 rfl ?_
    exact hret _ _ _ _ _ _ rfl ⟨h, rfl⟩ hW dX9_yard_22
  · have h := h.2 c1
    refine lv_iload_n (pc := 4) hx hcb dX9_yard_4 rfl (lv_at hl 1 rfl) ?_
    refine lv_aload_n (pc := 5) hx hcb dX9_yard_5 rfl (lv_at hl 0 rfl) ?_
    refine kget (v := .int (σ.1 b0 2)) (pc := 6) hx hcb hts hown hS hW iwX9 (kO_X9 hb0) rfl 2 (by decide) q195 rfl rfl dX9_yard_6 ?_
    refine lv_icmp_ge (tgt := 21) (pc := 9) hx hcb dX9_yard_9 (by decide) (fun c9 => ?_) (fun c9 => ?_)
    · have h := h.1 c9
      refine lv_iconst (v := 0) (pc := 21) hx hcb dX9_yard_21 rfl ?_
      exact hret _ _ _ _ _ _ rfl ⟨h, rfl⟩ hW dX9_yard_22
    · have h := h.2 c9
      refine lv_aload_n (pc := 12) hx hcb dX9_yard_12 rfl (lv_at hl 0 rfl) ?_
      refine kget (v := .ref (X.2.1 (b0 + 1))) (pc := 13) hx hcb hts hown hS hW iwX9 (kO_X9 hb0) rfl 0 (by decide) q193 rfl rfl dX9_yard_13 ?_
      refine lv_iload_n (pc := 16) hx hcb dX9_yard_16 rfl (lv_at hl 1 rfl) ?_
      have hin1 := h.1
      have h := h.2
      refine kiald (x1.toNatClampNeg) (pc := 17) hx hcb hS hW (kA_X9_0 hb0) rfl (kin_of hin1 (by decide)) dX9_yard_17 ?_
      refine lv_goto (tgt := 22) (pc := 18) hx hcb dX9_yard_18 (by decide) ?_
      exact hret _ _ _ _ _ _ rfl ⟨h, rfl⟩ hW dX9_yard_22
abbrev rm_X7_sieve : Room := { frames := 2, cells := 0, slots := 0, locals := 44 }
set_option maxHeartbeats 4000000 in
set_option maxRecDepth 100000 in
theorem c_X7_sieve (l : Launch) (X : KX) (σ : Mm) (b1 : Nat) (hb1 : kTd b1) (x2 : Int32) (Φ : Int32 → Mm → Prop) (h : wp_X7_sieve σ b1 x2 Φ) : Met l yX7_sieve (.code yX7_sieve cX7_sieve 4 (some .int) :: kT) rm_X7_sieve (va_Pc [.ref (X.2.1 31), .ref (X.2.1 b1), .int x2] (kPre kZC X σ)) (va_Qi (fun r σ' => Φ r σ') (fun σ' t => kPre kZC X σ' t) (kA kZC X)) 0 0 (kA kZC X) := by
  refine kofI (by decide) (Nat.le_of_ble_eq_true rfl) ?_
  intro p e s m args below meth c ls Q hx hcb hml hown hts hS hW hl hret
  have hown : s.vm.findClass RX7 = some m.cls := hown
  have hl : lv_has ls 4 [(0, .ref (X.2.1 31)), (1, .ref (X.2.1 b1)), (2, .int x2)] := hl
  unfold wp_X7_sieve at h
  refine lv_iconst (v := 0) (pc := 0) hx hcb dX7_sieve_0 rfl ?_
  refine lv_istore_n (lv' := [(3, .int 0), (0, .ref (X.2.1 31)), (1, .ref (X.2.1 b1)), (2, .int x2)]) (pc := 1) hx hcb dX7_sieve_1 rfl hl (by decide) rfl (fun ls hl => ?_)
  have hL2 : ∀ (n : Nat) (σ1 : Mm) (x3_2 : Int32) (H : Heap) (locs : List Loc) (ls : Array Slot), wp_X7_sieve_L2 b1 x2 Φ n σ1 x3_2 → kW kZC X (kA kZC X) s σ1 H locs → lv_has ls 4 [(0, .ref (X.2.1 31)), (1, .ref (X.2.1 b1)), (2, .int x2), (3, .int x3_2)] → W p l e rm_X7_sieve s m args below meth c H locs 0 0 Q (F0 m 2 ls []) := by
    intro n
    induction n with
    | zero =>
      intro σ1 x3_2 H locs ls h
      exact False.elim h
    | succ n ih =>
      intro σ1 x3_2 H locs ls h hW hl
      unfold wp_X7_sieve_L2 at h
      refine lv_iload_n (pc := 2) hx hcb dX7_sieve_2 rfl (lv_at hl 3 rfl) ?_
      refine lv_aload_n (pc := 3) hx hcb dX7_sieve_3 rfl (lv_at hl 1 rfl) ?_
      refine kci (krunV (As := []) (rest := [.int x3_2]) (pc := 4) hx hcb hml hown hts hS hW (c_X9_size l X σ1 b1 hb1 _ h) mf_X9_size q630 (kO_X9 hb1) rfl ⟨rfl, rfl⟩ ⟨Nat.le_of_ble_eq_true rfl, Nat.le_of_ble_eq_true rfl⟩ rfl hl.1 rfl (Nat.le_of_ble_eq_true rfl) dX7_sieve_4 ⟨Nat.zero_le _, Nat.zero_le _⟩) hS hW (fun r4 σ3 H locs h hW => ?_)
      obtain ⟨h, rfl⟩ := h
      refine lv_icmp_ge (tgt := 49) (pc := 7) hx hcb dX7_sieve_7 (by decide) (fun c7 => ?_) (fun c7 => ?_)
      · have h := h.1 c7
        refine lv_bipush (v := (-4)) (pc := 49) hx hcb dX7_sieve_49 rfl ?_
        exact hret _ _ _ _ _ _ rfl h hW dX7_sieve_51
      · have h := h.2 c7
        refine lv_aload_n (pc := 10) hx hcb dX7_sieve_10 rfl (lv_at hl 1 rfl) ?_
        refine lv_iload_n (pc := 11) hx hcb dX7_sieve_11 rfl (lv_at hl 3 rfl) ?_
        refine lv_iload_n (pc := 12) hx hcb dX7_sieve_12 rfl (lv_at hl 2 rfl) ?_
        refine kci (krunV (As := [.int x3_2, .int x2]) (rest := []) (pc := 13) hx hcb hml hown hts hS hW (c_X9_isOf l X σ1 b1 hb1 x3_2 x2 _ h) mf_X9_isOf q634 (kO_X9 hb1) rfl ⟨rfl, rfl⟩ ⟨Nat.le_of_ble_eq_true rfl, Nat.le_of_ble_eq_true rfl⟩ rfl hl.1 rfl (Nat.le_of_ble_eq_true rfl) dX7_sieve_13 ⟨Nat.zero_le _, Nat.zero_le _⟩) hS hW (fun r6 σ5 H locs h hW => ?_)
        obtain ⟨h, rfl⟩ := h
        obtain ⟨K43, hk43, h⟩ := h
        have hK43 : ∀ (σ7 : Mm) (H : Heap) (locs : List Loc) (ls : Array Slot), K43 σ7 → kW kZC X (kA kZC X) s σ7 H locs → lv_has ls 4 [(0, .ref (X.2.1 31)), (1, .ref (X.2.1 b1)), (2, .int x2), (3, .int x3_2)] → W p l e rm_X7_sieve s m args below meth c H locs 0 0 Q (F0 m 43 ls []) := by
          intro σ7 H locs ls h hW hl
          have h := hk43 σ7 h
          refine lv_iinc (v := x3_2 + 1) (lv' := [(3, .int (x3_2 + 1)), (0, .ref (X.2.1 31)), (1, .ref (X.2.1 b1)), (2, .int x2)]) (pc := 43) hx hcb dX7_sieve_43 hl (k := 3) rfl rfl (by decide) rfl (fun ls hl => ?_)
          refine lv_goto (tgt := 2) (pc := 46) hx hcb dX7_sieve_46 (by decide) ?_
          exact ih σ7 (x3_2 + 1) _ _ _ h hW (lv_sub hl [1, 2, 3, 0] rfl)
        refine lv_if_eq (tgt := 43) (pc := 16) hx hcb dX7_sieve_16 (by decide) (fun c16 => ?_) (fun c16 => ?_)
        · have h := h.1 c16
          exact hK43 σ1 _ _ _ h hW (lv_sub hl [0, 1, 2, 3] rfl)
        · have h := h.2 c16
          refine lv_aload_n (pc := 19) hx hcb dX7_sieve_19 rfl (lv_at hl 0 rfl) ?_
          have hd8 : kFr (σ1.2.2 2) := hW.2.2.2.2.1
          refine kget (v := .ref (X.2.1 (σ1.2.2 2))) (pc := 20) hx hcb hts hown hS hW iwX7 kOC_31 rfl 0 (by decide) q230 rfl rfl dX7_sieve_20 ?_
          refine lv_aload_n (pc := 23) hx hcb dX7_sieve_23 rfl (lv_at hl 1 rfl) ?_
          refine lv_iload_n (pc := 24) hx hcb dX7_sieve_24 rfl (lv_at hl 3 rfl) ?_
          refine kci (krunV (As := [.int x3_2]) (rest := [.ref (X.2.1 (σ1.2.2 2))]) (pc := 25) hx hcb hml hown hts hS hW (c_X9_yard l X σ1 b1 hb1 x3_2 _ h) mf_X9_yard q638 (kO_X9 hb1) rfl ⟨rfl, rfl⟩ ⟨Nat.le_of_ble_eq_true rfl, Nat.le_of_ble_eq_true rfl⟩ rfl hl.1 rfl (Nat.le_of_ble_eq_true rfl) dX7_sieve_25 ⟨Nat.zero_le _, Nat.zero_le _⟩) hS hW (fun r10 σ9 H locs h hW => ?_)
          obtain ⟨h, rfl⟩ := h
          refine kcv (krunV (As := [.int r10]) (rest := []) (pc := 28) hx hcb hml hown hts hS hW (c_X2_keepThoseAt l X σ1 (σ1.2.2 2) hd8 r10 _ h) mf_X2_keepThoseAt q642 (kO_X2 hd8) rfl ⟨rfl, rfl⟩ ⟨Nat.le_of_ble_eq_true rfl, Nat.le_of_ble_eq_true rfl⟩ rfl hl.1 rfl (Nat.le_of_ble_eq_true rfl) dX7_sieve_28 ⟨Nat.zero_le _, Nat.zero_le _⟩) hS hW (fun σ11 H locs h hW => ?_)
          refine lv_aload_n (pc := 31) hx hcb dX7_sieve_31 rfl (lv_at hl 0 rfl) ?_
          have hd12 : kFr (σ11.2.2 2) := hW.2.2.2.2.1
          refine kget (v := .ref (X.2.1 (σ11.2.2 2))) (pc := 32) hx hcb hts hown hS hW iwX7 kOC_31 rfl 0 (by decide) q230 rfl rfl dX7_sieve_32 ?_
          refine kci (krunV (As := []) (rest := []) (pc := 35) hx hcb hml hown hts hS hW (c_X2_size l X σ11 (σ11.2.2 2) hd12 _ h) mf_X2_size q647 (kO_X2 hd12) rfl ⟨rfl, rfl⟩ ⟨Nat.le_of_ble_eq_true rfl, Nat.le_of_ble_eq_true rfl⟩ rfl hl.1 rfl (Nat.le_of_ble_eq_true rfl) dX7_sieve_35 ⟨Nat.zero_le _, Nat.zero_le _⟩) hS hW (fun r14 σ13 H locs h hW => ?_)
          obtain ⟨h, rfl⟩ := h
          refine lv_if_ne (tgt := 43) (pc := 38) hx hcb dX7_sieve_38 (by decide) (fun c38 => ?_) (fun c38 => ?_)
          · have h := h.1 c38
            exact hK43 σ11 _ _ _ h hW (lv_sub hl [0, 1, 2, 3] rfl)
          · have h := h.2 c38
            refine lv_iload_n (pc := 41) hx hcb dX7_sieve_41 rfl (lv_at hl 3 rfl) ?_
            exact hret _ _ _ _ _ _ rfl h hW dX7_sieve_42
  obtain ⟨n, h⟩ := h
  exact hL2 n σ 0 _ _ _ h hW (lv_sub hl [1, 2, 3, 0] rfl)
abbrev rm_X7_spread : Room := { frames := 3, cells := 0, slots := 0, locals := 77 }
set_option maxHeartbeats 4000000 in
set_option maxRecDepth 100000 in
theorem c_X7_spread (l : Launch) (X : KX) (σ : Mm) (b1 : Nat) (hb1 : kFm b1) (x2 : Int32) (Φ : Mm → Prop) (h : wp_X7_spread σ b1 x2 Φ) : Met l yX7_spread (.code yX7_spread cX7_spread 4 none :: kT) rm_X7_spread (va_Pc [.ref (X.2.1 31), .ref (X.2.1 b1), .int x2] (kPre kZC X σ)) (va_Qv (fun σ' => Φ σ') (fun σ' t => kPre kZC X σ' t) (kA kZC X)) 0 0 (kA kZC X) := by
  refine kofV (by decide) (Nat.le_of_ble_eq_true rfl) ?_
  intro p e s m args below meth c ls Q hx hcb hml hown hts hS hW hl hret
  have hown : s.vm.findClass RX7 = some m.cls := hown
  have hl : lv_has ls 4 [(0, .ref (X.2.1 31)), (1, .ref (X.2.1 b1)), (2, .int x2)] := hl
  unfold wp_X7_spread at h
  refine lv_iconst (v := 0) (pc := 0) hx hcb dX7_spread_0 rfl ?_
  refine lv_istore_n (lv' := [(3, .int 0), (0, .ref (X.2.1 31)), (1, .ref (X.2.1 b1)), (2, .int x2)]) (pc := 1) hx hcb dX7_spread_1 rfl hl (by decide) rfl (fun ls hl => ?_)
  obtain ⟨K41, hk41, h⟩ := h
  have hK41 : ∀ (σ1 : Mm) (H : Heap) (locs : List Loc) (ls : Array Slot), K41 σ1 → kW kZC X (kA kZC X) s σ1 H locs → lv_has ls 4 [(0, .ref (X.2.1 31))] → W p l e rm_X7_spread s m args below meth c H locs 0 0 Q (F0 m 41 ls []) := by
    intro σ1 H locs ls h hW hl
    have h := hk41 σ1 h
    refine lv_aload_n (pc := 41) hx hcb dX7_spread_41 rfl (lv_at hl 0 rfl) ?_
    have hd2 : kFr (σ1.2.2 2) := hW.2.2.2.2.1
    refine kget (v := .ref (X.2.1 (σ1.2.2 2))) (pc := 42) hx hcb hts hown hS hW iwX7 kOC_31 rfl 0 (by decide) q230 rfl rfl dX7_spread_42 ?_
    refine kcv (krunV (As := []) (rest := []) (pc := 45) hx hcb hml hown hts hS hW (c_X2_clear l X σ1 (σ1.2.2 2) hd2 _ h) mf_X2_clear q604 (kO_X2 hd2) rfl ⟨rfl, rfl⟩ ⟨Nat.le_of_ble_eq_true rfl, Nat.le_of_ble_eq_true rfl⟩ rfl hl.1 rfl (Nat.le_of_ble_eq_true rfl) dX7_spread_45 ⟨Nat.zero_le _, Nat.zero_le _⟩) hS hW (fun σ3 H locs h hW => ?_)
    refine lv_aload_n (pc := 48) hx hcb dX7_spread_48 rfl (lv_at hl 0 rfl) ?_
    have hd4 : kFr (σ3.2.2 2) := hW.2.2.2.2.1
    refine kget (v := .ref (X.2.1 (σ3.2.2 2))) (pc := 49) hx hcb hts hown hS hW iwX7 kOC_31 rfl 0 (by decide) q230 rfl rfl dX7_spread_49 ?_
    refine lv_astore_n (lv' := [(3, .ref (X.2.1 (σ3.2.2 2))), (0, .ref (X.2.1 31))]) (pc := 52) hx hcb dX7_spread_52 rfl hl (by decide) rfl (fun ls hl => ?_)
    refine lv_aload_n (pc := 53) hx hcb dX7_spread_53 rfl (lv_at hl 1 rfl) ?_
    refine lv_aload_n (pc := 54) hx hcb dX7_spread_54 rfl (lv_at hl 1 rfl) ?_
    have hd5 : kFr (σ3.2.2 3) := hW.2.2.2.2.2
    refine kget (v := .ref (X.2.1 (σ3.2.2 3))) (pc := 55) hx hcb hts hown hS hW iwX7 kOC_31 rfl 1 (by decide) q231 rfl rfl dX7_spread_55 ?_
    refine kputR (i := 2) (ty := .object "FollowingCalf$Front") (pc := 58) hx hcb hts hown hS hW iwX7 tyX7 tyX7_ok nmX7 kOC_31 rfl 0 (by decide) q230 rfl rfl rfl rfl rfl (Nat.le_of_ble_eq_true rfl) rfl rsC_2 (okC_2 hW.2.2 hd5) dX7_spread_58 (fun σ6 H locs eσ6 hW => ?_)
    have h := h σ6 eσ6
    refine lv_aload_n (pc := 61) hx hcb dX7_spread_61 rfl (lv_at hl 1 rfl) ?_
    refine lv_aload_n (pc := 62) hx hcb dX7_spread_62 rfl (lv_at hl 0 rfl) ?_
    refine kputR (i := 3) (ty := .object "FollowingCalf$Front") (pc := 63) hx hcb hts hown hS hW iwX7 tyX7 tyX7_ok nmX7 kOC_31 rfl 1 (by decide) q231 rfl rfl rfl rfl rfl (Nat.le_of_ble_eq_true rfl) rfl rsC_3 (okC_3 hW.2.2 hd4) dX7_spread_63 (fun σ7 H locs eσ7 hW => ?_)
    have h := h σ7 eσ7
    refine lv_aload_n (pc := 66) hx hcb dX7_spread_66 rfl (lv_at hl 1 rfl) ?_
    refine lv_iconst (v := 0) (pc := 67) hx hcb dX7_spread_67 rfl ?_
    refine kput (ty := .boolean) (pc := 68) hx hcb hts hown hS hW iwX7 tyX7 tyX7_ok nmX7 kOC_31 rfl 4 (by decide) q234 rfl rfl rfl rfl rfl (Nat.le_of_ble_eq_true rfl) rfl dX7_spread_68 (fun σ8 H locs eσ8 hW => ?_)
    have h := h σ8 eσ8
    exact hret _ _ _ _ _ h hW dX7_spread_71
  have hL2 : ∀ (n : Nat) (σ9 : Mm) (x3_10 : Int32) (H : Heap) (locs : List Loc) (ls : Array Slot), wp_X7_spread_L2 b1 x2 K41 n σ9 x3_10 → kW kZC X (kA kZC X) s σ9 H locs → lv_has ls 4 [(0, .ref (X.2.1 31)), (1, .ref (X.2.1 b1)), (2, .int x2), (3, .int x3_10)] → W p l e rm_X7_spread s m args below meth c H locs 0 0 Q (F0 m 2 ls []) := by
    intro n
    induction n with
    | zero =>
      intro σ9 x3_10 H locs ls h
      exact False.elim h
    | succ n ih =>
      intro σ9 x3_10 H locs ls h hW hl
      unfold wp_X7_spread_L2 at h
      refine lv_iload_n (pc := 2) hx hcb dX7_spread_2 rfl (lv_at hl 3 rfl) ?_
      refine lv_aload_n (pc := 3) hx hcb dX7_spread_3 rfl (lv_at hl 0 rfl) ?_
      have hd11 : kFr (σ9.2.2 2) := hW.2.2.2.2.1
      refine kget (v := .ref (X.2.1 (σ9.2.2 2))) (pc := 4) hx hcb hts hown hS hW iwX7 kOC_31 rfl 0 (by decide) q230 rfl rfl dX7_spread_4 ?_
      refine kci (krunV (As := []) (rest := [.int x3_10]) (pc := 7) hx hcb hml hown hts hS hW (c_X2_size l X σ9 (σ9.2.2 2) hd11 _ h) mf_X2_size q647 (kO_X2 hd11) rfl ⟨rfl, rfl⟩ ⟨Nat.le_of_ble_eq_true rfl, Nat.le_of_ble_eq_true rfl⟩ rfl hl.1 rfl (Nat.le_of_ble_eq_true rfl) dX7_spread_7 ⟨Nat.zero_le _, Nat.zero_le _⟩) hS hW (fun r13 σ12 H locs h hW => ?_)
      obtain ⟨h, rfl⟩ := h
      refine lv_icmp_ge (tgt := 41) (pc := 10) hx hcb dX7_spread_10 (by decide) (fun c10 => ?_) (fun c10 => ?_)
      · have h := h.1 c10
        exact hK41 σ9 _ _ _ h hW (lv_sub hl [0] rfl)
      · have h := h.2 c10
        refine lv_aload_n (pc := 13) hx hcb dX7_spread_13 rfl (lv_at hl 0 rfl) ?_
        refine lv_aload_n (pc := 14) hx hcb dX7_spread_14 rfl (lv_at hl 1 rfl) ?_
        refine lv_aload_n (pc := 15) hx hcb dX7_spread_15 rfl (lv_at hl 0 rfl) ?_
        have hd14 : kFr (σ9.2.2 2) := hW.2.2.2.2.1
        refine kget (v := .ref (X.2.1 (σ9.2.2 2))) (pc := 16) hx hcb hts hown hS hW iwX7 kOC_31 rfl 0 (by decide) q230 rfl rfl dX7_spread_16 ?_
        refine lv_iload_n (pc := 19) hx hcb dX7_spread_19 rfl (lv_at hl 3 rfl) ?_
        refine kci (krunV (As := [.int x3_10]) (rest := [.ref (X.2.1 b1), .ref (X.2.1 31)]) (pc := 20) hx hcb hml hown hts hS hW (c_X2_state l X σ9 (σ9.2.2 2) hd14 x3_10 _ h) mf_X2_state q655 (kO_X2 hd14) rfl ⟨rfl, rfl⟩ ⟨Nat.le_of_ble_eq_true rfl, Nat.le_of_ble_eq_true rfl⟩ rfl hl.1 rfl (Nat.le_of_ble_eq_true rfl) dX7_spread_20 ⟨Nat.zero_le _, Nat.zero_le _⟩) hS hW (fun r16 σ15 H locs h hW => ?_)
        obtain ⟨h, rfl⟩ := h
        refine lv_aload_n (pc := 23) hx hcb dX7_spread_23 rfl (lv_at hl 0 rfl) ?_
        have hd17 : kFr (σ9.2.2 2) := hW.2.2.2.2.1
        refine kget (v := .ref (X.2.1 (σ9.2.2 2))) (pc := 24) hx hcb hts hown hS hW iwX7 kOC_31 rfl 0 (by decide) q230 rfl rfl dX7_spread_24 ?_
        refine lv_iload_n (pc := 27) hx hcb dX7_spread_27 rfl (lv_at hl 3 rfl) ?_
        refine kcl (krunV (As := [.int x3_10]) (rest := [.int r16, .ref (X.2.1 b1), .ref (X.2.1 31)]) (pc := 28) hx hcb hml hown hts hS hW (c_X2_number l X σ9 (σ9.2.2 2) hd17 x3_10 _ h) mf_X2_number q659 (kO_X2 hd17) rfl ⟨rfl, rfl⟩ ⟨Nat.le_of_ble_eq_true rfl, Nat.le_of_ble_eq_true rfl⟩ rfl hl.1 rfl (Nat.le_of_ble_eq_true rfl) dX7_spread_28 ⟨Nat.zero_le _, Nat.zero_le _⟩) hS hW (fun r19 σ18 H locs h hW => ?_)
        obtain ⟨h, rfl⟩ := h
        refine lv_iload_n (pc := 31) hx hcb dX7_spread_31 rfl (lv_at hl 2 rfl) ?_
        refine kcv (krunV (As := [.ref (X.2.1 b1), .int r16, .long r19, .int x2]) (rest := []) (pc := 32) hx hcb hml hown hts hS hW (c_X7_branch l X σ9 b1 hb1 r16 r19 x2 _ h) mf_X7_branch q663 kOC_31 rfl ⟨rfl, rfl⟩ ⟨Nat.le_of_ble_eq_true rfl, Nat.le_of_ble_eq_true rfl⟩ rfl hl.1 rfl (Nat.le_of_ble_eq_true rfl) dX7_spread_32 ⟨Nat.zero_le _, Nat.zero_le _⟩) hS hW (fun σ20 H locs h hW => ?_)
        refine lv_iinc (v := x3_10 + 1) (lv' := [(3, .int (x3_10 + 1)), (0, .ref (X.2.1 31)), (1, .ref (X.2.1 b1)), (2, .int x2)]) (pc := 35) hx hcb dX7_spread_35 hl (k := 3) rfl rfl (by decide) rfl (fun ls hl => ?_)
        refine lv_goto (tgt := 2) (pc := 38) hx hcb dX7_spread_38 (by decide) ?_
        exact ih σ20 (x3_10 + 1) _ _ _ h hW (lv_sub hl [1, 2, 3, 0] rfl)
  obtain ⟨n, h⟩ := h
  exact hL2 n σ 0 _ _ _ h hW (lv_sub hl [1, 2, 3, 0] rfl)
abbrev rm_X7_follow : Room := { frames := 4, cells := 0, slots := 0, locals := 100 }
set_option maxHeartbeats 4000000 in
set_option maxRecDepth 100000 in
theorem c_X7_follow (l : Launch) (X : KX) (σ : Mm) (b1 : Nat) (hb1 : kFm b1) (x2 : Int32) (b3 : Nat) (hb3 : kTd b3) (Φ : Int32 → Mm → Prop) (h : wp_X7_follow σ b1 x2 b3 Φ) : Met l yX7_follow (.code yX7_follow cX7_follow 7 (some .int) :: kT) rm_X7_follow (va_Pc [.ref (X.2.1 31), .ref (X.2.1 b1), .int x2, .ref (X.2.1 b3)] (kPre kZC X σ)) (va_Qi (fun r σ' => Φ r σ') (fun σ' t => kPre kZC X σ' t) (kA kZC X)) 0 0 (kA kZC X) := by
  refine kofI (by decide) (Nat.le_of_ble_eq_true rfl) ?_
  intro p e s m args below meth c ls Q hx hcb hml hown hts hS hW hl hret
  have hown : s.vm.findClass RX7 = some m.cls := hown
  have hl : lv_has ls 7 [(0, .ref (X.2.1 31)), (1, .ref (X.2.1 b1)), (2, .int x2), (3, .ref (X.2.1 b3))] := hl
  unfold wp_X7_follow at h
  refine lv_aload_n (pc := 0) hx hcb dX7_follow_0 rfl (lv_at hl 3 rfl) ?_
  refine kci (krunV (As := []) (rest := []) (pc := 1) hx hcb hml hown hts hS hW (c_X9_lastMinute l X σ b3 hb3 _ h) mf_X9_lastMinute q619 (kO_X9 hb3) rfl ⟨rfl, rfl⟩ ⟨Nat.le_of_ble_eq_true rfl, Nat.le_of_ble_eq_true rfl⟩ rfl hl.1 rfl (Nat.le_of_ble_eq_true rfl) dX7_follow_1 ⟨Nat.zero_le _, Nat.zero_le _⟩) hS hW (fun r2 σ1 H locs h hW => ?_)
  obtain ⟨h, rfl⟩ := h
  refine lv_istore (lv' := [(4, .int r2), (0, .ref (X.2.1 31)), (1, .ref (X.2.1 b1)), (2, .int x2), (3, .ref (X.2.1 b3))]) (pc := 4) hx hcb dX7_follow_4 hl (by decide) rfl (fun ls hl => ?_)
  refine lv_iconst (v := 0) (pc := 6) hx hcb dX7_follow_6 rfl ?_
  refine lv_istore (lv' := [(5, .int 0), (4, .int r2), (0, .ref (X.2.1 31)), (1, .ref (X.2.1 b1)), (2, .int x2), (3, .ref (X.2.1 b3))]) (pc := 7) hx hcb dX7_follow_7 hl (by decide) rfl (fun ls hl => ?_)
  have hL9 : ∀ (n : Nat) (σ3 : Mm) (x5_4 : Int32) (H : Heap) (locs : List Loc) (ls : Array Slot), wp_X7_follow_L9 b1 x2 b3 Φ r2 n σ3 x5_4 → kW kZC X (kA kZC X) s σ3 H locs → lv_has ls 7 [(0, .ref (X.2.1 31)), (1, .ref (X.2.1 b1)), (2, .int x2), (3, .ref (X.2.1 b3)), (4, .int r2), (5, .int x5_4)] → W p l e rm_X7_follow s m args below meth c H locs 0 0 Q (F0 m 9 ls []) := by
    intro n
    induction n with
    | zero =>
      intro σ3 x5_4 H locs ls h
      exact False.elim h
    | succ n ih =>
      intro σ3 x5_4 H locs ls h hW hl
      unfold wp_X7_follow_L9 at h
      refine lv_iload (pc := 9) hx hcb dX7_follow_9 (lv_at hl 5 rfl) ?_
      refine lv_iload (pc := 11) hx hcb dX7_follow_11 (lv_at hl 4 rfl) ?_
      refine lv_icmp_gt (tgt := 57) (pc := 13) hx hcb dX7_follow_13 (by decide) (fun c13 => ?_) (fun c13 => ?_)
      · have h := h.1 c13
        refine lv_bipush (v := (-4)) (pc := 57) hx hcb dX7_follow_57 rfl ?_
        exact hret _ _ _ _ _ _ rfl h hW dX7_follow_59
      · have h := h.2 c13
        refine lv_aload_n (pc := 16) hx hcb dX7_follow_16 rfl (lv_at hl 0 rfl) ?_
        refine lv_aload_n (pc := 17) hx hcb dX7_follow_17 rfl (lv_at hl 3 rfl) ?_
        refine lv_iload (pc := 18) hx hcb dX7_follow_18 (lv_at hl 5 rfl) ?_
        refine kci (krunV (As := [.ref (X.2.1 b3), .int x5_4]) (rest := []) (pc := 20) hx hcb hml hown hts hS hW (c_X7_sieve l X σ3 b3 hb3 x5_4 _ h) mf_X7_sieve q626 kOC_31 rfl ⟨rfl, rfl⟩ ⟨Nat.le_of_ble_eq_true rfl, Nat.le_of_ble_eq_true rfl⟩ rfl hl.1 rfl (Nat.le_of_ble_eq_true rfl) dX7_follow_20 ⟨Nat.zero_le _, Nat.zero_le _⟩) hS hW (fun r6 σ5 H locs h hW => ?_)
        refine lv_istore (lv' := [(6, .int r6), (0, .ref (X.2.1 31)), (1, .ref (X.2.1 b1)), (2, .int x2), (3, .ref (X.2.1 b3)), (4, .int r2), (5, .int x5_4)]) (pc := 23) hx hcb dX7_follow_23 hl (by decide) rfl (fun ls hl => ?_)
        refine lv_iload (pc := 25) hx hcb dX7_follow_25 (lv_at hl 0 rfl) ?_
        refine lv_bipush (v := (-4)) (pc := 27) hx hcb dX7_follow_27 rfl ?_
        refine lv_icmp_eq (tgt := 35) (pc := 29) hx hcb dX7_follow_29 (by decide) (fun c29 => ?_) (fun c29 => ?_)
        · have h := h.1 c29
          refine lv_iload (pc := 35) hx hcb dX7_follow_35 (lv_at hl 6 rfl) ?_
          refine lv_iload (pc := 37) hx hcb dX7_follow_37 (lv_at hl 5 rfl) ?_
          obtain ⟨K51, hk51, h⟩ := h
          have hK51 : ∀ (σ7 : Mm) (H : Heap) (locs : List Loc) (ls : Array Slot), K51 σ7 → kW kZC X (kA kZC X) s σ7 H locs → lv_has ls 7 [(0, .ref (X.2.1 31)), (1, .ref (X.2.1 b1)), (2, .int x2), (3, .ref (X.2.1 b3)), (4, .int r2), (5, .int x5_4)] → W p l e rm_X7_follow s m args below meth c H locs 0 0 Q (F0 m 51 ls []) := by
            intro σ7 H locs ls h hW hl
            have h := hk51 σ7 h
            refine lv_iinc (v := x5_4 + 1) (lv' := [(5, .int (x5_4 + 1)), (0, .ref (X.2.1 31)), (1, .ref (X.2.1 b1)), (2, .int x2), (3, .ref (X.2.1 b3)), (4, .int r2)]) (pc := 51) hx hcb dX7_follow_51 hl (k := 5) rfl rfl (by decide) rfl (fun ls hl => ?_)
            refine lv_goto (tgt := 9) (pc := 54) hx hcb dX7_follow_54 (by decide) ?_
            exact ih σ7 (x5_4 + 1) _ _ _ h hW (lv_sub hl [1, 2, 3, 4, 5, 0] rfl)
          refine lv_icmp_ge (tgt := 51) (pc := 39) hx hcb dX7_follow_39 (by decide) (fun c39 => ?_) (fun c39 => ?_)
          · have h := h.1 c39
            exact hK51 σ5 _ _ _ h hW (lv_sub hl [1, 2, 3, 4, 5, 6] rfl)
          · have h := h.2 c39
            refine lv_aload_n (pc := 42) hx hcb dX7_follow_42 rfl (lv_at hl 1 rfl) ?_
            refine lv_aload_n (pc := 43) hx hcb dX7_follow_43 rfl (lv_at hl 2 rfl) ?_
            refine lv_iload_n (pc := 44) hx hcb dX7_follow_44 rfl (lv_at hl 3 rfl) ?_
            refine lv_iload (pc := 45) hx hcb dX7_follow_45 (lv_at hl 6 rfl) ?_
            refine lv_iadd (pc := 47) hx hcb dX7_follow_47 ?_
            refine kcv (krunV (As := [.ref (X.2.1 b1), .int (x2 + x5_4)]) (rest := []) (pc := 48) hx hcb hml hown hts hS hW (c_X7_spread l X σ5 b1 hb1 (x2 + x5_4) _ h) mf_X7_spread q651 kOC_31 rfl ⟨rfl, rfl⟩ ⟨Nat.le_of_ble_eq_true rfl, Nat.le_of_ble_eq_true rfl⟩ rfl hl.1 rfl (Nat.le_of_ble_eq_true rfl) dX7_follow_48 ⟨Nat.zero_le _, Nat.zero_le _⟩) hS hW (fun σ8 H locs h hW => ?_)
            exact hK51 σ8 _ _ _ h hW (lv_sub hl [1, 2, 3, 4, 5, 6] rfl)
        · have h := h.2 c29
          refine lv_iload (pc := 32) hx hcb dX7_follow_32 (lv_at hl 0 rfl) ?_
          exact hret _ _ _ _ _ _ rfl h hW dX7_follow_34
  obtain ⟨n, h⟩ := h
  exact hL9 n σ 0 _ _ _ h hW (lv_sub hl [2, 3, 4, 5, 1, 0] rfl)
abbrev rm_X7_cheapest : Room := { frames := 5, cells := 0, slots := 0, locals := 126 }
set_option maxHeartbeats 4000000 in
set_option maxRecDepth 100000 in
theorem c_X7_cheapest (l : Launch) (X : KX) (σ : Mm) (b1 : Nat) (hb1 : kFm b1) (b3 : Nat) (hb3 : kTd b3) (Φ : Int32 → Mm → Prop) (h : wp_X7_cheapest σ b1 b3 Φ) : Met l yX7_cheapest (.code yX7_cheapest cX7_cheapest 4 (some .int) :: kT) rm_X7_cheapest (va_Pc [.ref (X.2.1 31), .ref (X.2.1 b1), .ref (X.2.1 16), .ref (X.2.1 b3)] (kPre kZC X σ)) (va_Qi (fun r σ' => Φ r σ') (fun σ' t => kPre kZC X σ' t) (kA kZC X)) 0 0 (kA kZC X) := by
  refine kofI (by decide) (Nat.le_of_ble_eq_true rfl) ?_
  intro p e s m args below meth c ls Q hx hcb hml hown hts hS hW hl hret
  have hown : s.vm.findClass RX7 = some m.cls := hown
  have hl : lv_has ls 4 [(0, .ref (X.2.1 31)), (1, .ref (X.2.1 b1)), (2, .ref (X.2.1 16)), (3, .ref (X.2.1 b3))] := hl
  unfold wp_X7_cheapest at h
  refine lv_aload_n (pc := 0) hx hcb dX7_cheapest_0 rfl (lv_at hl 0 rfl) ?_
  refine lv_iconst (v := 0) (pc := 1) hx hcb dX7_cheapest_1 rfl ?_
  refine lv_iconst (v := (-1)) (pc := 2) hx hcb dX7_cheapest_2 rfl ?_
  refine kcv (krunV (As := [.int 0, .int (-1)]) (rest := []) (pc := 3) hx hcb hml hown hts hS hW (c_X7_begin l X σ 0 (-1) _ h) mf_X7_begin q600 kOC_31 rfl ⟨rfl, rfl⟩ ⟨Nat.le_of_ble_eq_true rfl, Nat.le_of_ble_eq_true rfl⟩ rfl hl.1 rfl (Nat.le_of_ble_eq_true rfl) dX7_cheapest_3 ⟨Nat.zero_le _, Nat.zero_le _⟩) hS hW (fun σ1 H locs h hW => ?_)
  refine lv_aload_n (pc := 6) hx hcb dX7_cheapest_6 rfl (lv_at hl 0 rfl) ?_
  have hd2 : kFr (σ1.2.2 2) := hW.2.2.2.2.1
  refine kget (v := .ref (X.2.1 (σ1.2.2 2))) (pc := 7) hx hcb hts hown hS hW iwX7 kOC_31 rfl 0 (by decide) q230 rfl rfl dX7_cheapest_7 ?_
  refine lv_aload_n (pc := 10) hx hcb dX7_cheapest_10 rfl (lv_at hl 2 rfl) ?_
  refine kgetN (v := .int (σ1.1 16 1)) (pc := 11) hx hcb hts hown hS hW iwX3 kOC_16 rfl 1 (by decide) q154 rfl rfl dX7_cheapest_11 ?_
  refine lv_lconst (v := 0) (pc := 14) hx hcb dX7_cheapest_14 rfl ?_
  refine lv_iconst (v := 1) (pc := 15) hx hcb dX7_cheapest_15 rfl ?_
  refine kcv (krunV (As := [.int (σ1.1 16 1), .long 0, .int 1]) (rest := []) (pc := 16) hx hcb hml hown hts hS hW (c_X2_put l X σ1 (σ1.2.2 2) hd2 (σ1.1 16 1) 0 1 _ h) mf_X2_put q608 (kO_X2 hd2) rfl ⟨rfl, rfl⟩ ⟨Nat.le_of_ble_eq_true rfl, Nat.le_of_ble_eq_true rfl⟩ rfl hl.1 rfl (Nat.le_of_ble_eq_true rfl) dX7_cheapest_16 ⟨Nat.zero_le _, Nat.zero_le _⟩) hS hW (fun σ3 H locs h hW => ?_)
  refine lv_aload_n (pc := 19) hx hcb dX7_cheapest_19 rfl (lv_at hl 0 rfl) ?_
  refine lv_aload_n (pc := 20) hx hcb dX7_cheapest_20 rfl (lv_at hl 1 rfl) ?_
  refine lv_aload_n (pc := 21) hx hcb dX7_cheapest_21 rfl (lv_at hl 2 rfl) ?_
  refine kgetN (v := .int (σ3.1 16 0)) (pc := 22) hx hcb hts hown hS hW iwX3 kOC_16 rfl 0 (by decide) q149 rfl rfl dX7_cheapest_22 ?_
  refine lv_aload_n (pc := 25) hx hcb dX7_cheapest_25 rfl (lv_at hl 3 rfl) ?_
  refine kci (krunV (As := [.ref (X.2.1 b1), .int (σ3.1 16 0), .ref (X.2.1 b3)]) (rest := []) (pc := 26) hx hcb hml hown hts hS hW (c_X7_follow l X σ3 b1 hb1 (σ3.1 16 0) b3 hb3 _ h) mf_X7_follow q615 kOC_31 rfl ⟨rfl, rfl⟩ ⟨Nat.le_of_ble_eq_true rfl, Nat.le_of_ble_eq_true rfl⟩ rfl hl.1 rfl (Nat.le_of_ble_eq_true rfl) dX7_cheapest_26 ⟨Nat.zero_le _, Nat.zero_le _⟩) hS hW (fun r5 σ4 H locs h hW => ?_)
  exact hret _ _ _ _ _ _ rfl h hW dX7_cheapest_29
abbrev rm_X7_firstFeeder : Room := { frames := 1, cells := 0, slots := 0, locals := 23 }
set_option maxHeartbeats 4000000 in
set_option maxRecDepth 100000 in
theorem c_X7_firstFeeder (l : Launch) (X : KX) (σ : Mm)  (Φ : Int32 → Prop) (h : wp_X7_firstFeeder σ  Φ) : Met l yX7_firstFeeder (.code yX7_firstFeeder cX7_firstFeeder 1 (some .int) :: kT) rm_X7_firstFeeder (va_Pc [.ref (X.2.1 31)] (kPre kZC X σ)) (va_Qi (fun r σ' => Φ r ∧ σ = σ') (fun σ' t => kPre kZC X σ' t) (kA kZC X)) 0 0 (kA kZC X) := by
  refine kofI (by decide) (Nat.le_of_ble_eq_true rfl) ?_
  intro p e s m args below meth c ls Q hx hcb hml hown hts hS hW hl hret
  have hown : s.vm.findClass RX7 = some m.cls := hown
  have hl : lv_has ls 1 [(0, .ref (X.2.1 31))] := hl
  unfold wp_X7_firstFeeder at h
  refine lv_aload_n (pc := 0) hx hcb dX7_firstFeeder_0 rfl (lv_at hl 0 rfl) ?_
  have hd1 : kFr (σ.2.2 2) := hW.2.2.2.2.1
  refine kget (v := .ref (X.2.1 (σ.2.2 2))) (pc := 1) hx hcb hts hown hS hW iwX7 kOC_31 rfl 0 (by decide) q230 rfl rfl dX7_firstFeeder_1 ?_
  refine kcl (krunV (As := []) (rest := []) (pc := 4) hx hcb hml hown hts hS hW (c_X2_least l X σ (σ.2.2 2) hd1 _ h) mf_X2_least q691 (kO_X2 hd1) rfl ⟨rfl, rfl⟩ ⟨Nat.le_of_ble_eq_true rfl, Nat.le_of_ble_eq_true rfl⟩ rfl hl.1 rfl (Nat.le_of_ble_eq_true rfl) dX7_firstFeeder_4 ⟨Nat.zero_le _, Nat.zero_le _⟩) hS hW (fun r3 σ2 H locs h hW => ?_)
  obtain ⟨h, rfl⟩ := h
  refine kldc2 (v := 8) (pc := 7) hx hcb hown hts q695 dX7_firstFeeder_7 ?_
  refine lv_lrem (pc := 10) hx hcb dX7_firstFeeder_10 (by decide) ?_
  refine lv_l2i (pc := 11) hx hcb dX7_firstFeeder_11 rfl ?_
  refine lv_iconst (v := 1) (pc := 12) hx hcb dX7_firstFeeder_12 rfl ?_
  refine lv_isub (pc := 13) hx hcb dX7_firstFeeder_13 ?_
  exact hret _ _ _ _ _ _ rfl ⟨h, rfl⟩ hW dX7_firstFeeder_14
abbrev rm_X7_leastCost : Room := { frames := 1, cells := 0, slots := 0, locals := 23 }
set_option maxHeartbeats 4000000 in
set_option maxRecDepth 100000 in
theorem c_X7_leastCost (l : Launch) (X : KX) (σ : Mm)  (Φ : Int32 → Prop) (h : wp_X7_leastCost σ  Φ) : Met l yX7_leastCost (.code yX7_leastCost cX7_leastCost 1 (some .int) :: kT) rm_X7_leastCost (va_Pc [.ref (X.2.1 31)] (kPre kZC X σ)) (va_Qi (fun r σ' => Φ r ∧ σ = σ') (fun σ' t => kPre kZC X σ' t) (kA kZC X)) 0 0 (kA kZC X) := by
  refine kofI (by decide) (Nat.le_of_ble_eq_true rfl) ?_
  intro p e s m args below meth c ls Q hx hcb hml hown hts hS hW hl hret
  have hown : s.vm.findClass RX7 = some m.cls := hown
  have hl : lv_has ls 1 [(0, .ref (X.2.1 31))] := hl
  unfold wp_X7_leastCost at h
  refine lv_aload_n (pc := 0) hx hcb dX7_leastCost_0 rfl (lv_at hl 0 rfl) ?_
  have hd1 : kFr (σ.2.2 2) := hW.2.2.2.2.1
  refine kget (v := .ref (X.2.1 (σ.2.2 2))) (pc := 1) hx hcb hts hown hS hW iwX7 kOC_31 rfl 0 (by decide) q230 rfl rfl dX7_leastCost_1 ?_
  refine kcl (krunV (As := []) (rest := []) (pc := 4) hx hcb hml hown hts hS hW (c_X2_least l X σ (σ.2.2 2) hd1 _ h) mf_X2_least q691 (kO_X2 hd1) rfl ⟨rfl, rfl⟩ ⟨Nat.le_of_ble_eq_true rfl, Nat.le_of_ble_eq_true rfl⟩ rfl hl.1 rfl (Nat.le_of_ble_eq_true rfl) dX7_leastCost_4 ⟨Nat.zero_le _, Nat.zero_le _⟩) hS hW (fun r3 σ2 H locs h hW => ?_)
  obtain ⟨h, rfl⟩ := h
  refine kldc2 (v := 8) (pc := 7) hx hcb hown hts q695 dX7_leastCost_7 ?_
  refine lv_ldiv (pc := 10) hx hcb dX7_leastCost_10 (by decide) ?_
  refine lv_l2i (pc := 11) hx hcb dX7_leastCost_11 rfl ?_
  exact hret _ _ _ _ _ _ rfl ⟨h, rfl⟩ hW dX7_leastCost_12
abbrev rm_X7_ways : Room := { frames := 5, cells := 0, slots := 0, locals := 126 }
set_option maxHeartbeats 4000000 in
set_option maxRecDepth 100000 in
theorem c_X7_ways (l : Launch) (X : KX) (σ : Mm) (b1 : Nat) (hb1 : kFm b1) (b2 : Nat) (hb2 : kTd b2) (x3 : Int32) (Φ : Int64 → Mm → Prop) (h : wp_X7_ways σ b1 b2 x3 Φ) : Met l yX7_ways (.code yX7_ways cX7_ways 4 (some .long) :: kT) rm_X7_ways (va_Pc [.ref (X.2.1 31), .ref (X.2.1 b1), .ref (X.2.1 b2), .int x3] (kPre kZC X σ)) (va_Ql (fun r σ' => Φ r σ') (fun σ' t => kPre kZC X σ' t) (kA kZC X)) 0 0 (kA kZC X) := by
  refine kofL (by decide) (Nat.le_of_ble_eq_true rfl) ?_
  intro p e s m args below meth c ls Q hx hcb hml hown hts hS hW hl hret
  have hown : s.vm.findClass RX7 = some m.cls := hown
  have hl : lv_has ls 4 [(0, .ref (X.2.1 31)), (1, .ref (X.2.1 b1)), (2, .ref (X.2.1 b2)), (3, .int x3)] := hl
  unfold wp_X7_ways at h
  refine lv_aload_n (pc := 0) hx hcb dX7_ways_0 rfl (lv_at hl 0 rfl) ?_
  refine lv_iconst (v := 1) (pc := 1) hx hcb dX7_ways_1 rfl ?_
  refine lv_iload_n (pc := 2) hx hcb dX7_ways_2 rfl (lv_at hl 3 rfl) ?_
  refine kcv (krunV (As := [.int 1, .int x3]) (rest := []) (pc := 3) hx hcb hml hown hts hS hW (c_X7_begin l X σ 1 x3 _ h) mf_X7_begin q600 kOC_31 rfl ⟨rfl, rfl⟩ ⟨Nat.le_of_ble_eq_true rfl, Nat.le_of_ble_eq_true rfl⟩ rfl hl.1 rfl (Nat.le_of_ble_eq_true rfl) dX7_ways_3 ⟨Nat.zero_le _, Nat.zero_le _⟩) hS hW (fun σ1 H locs h hW => ?_)
  refine lv_aload_n (pc := 6) hx hcb dX7_ways_6 rfl (lv_at hl 0 rfl) ?_
  have hd2 : kFr (σ1.2.2 2) := hW.2.2.2.2.1
  refine kget (v := .ref (X.2.1 (σ1.2.2 2))) (pc := 7) hx hcb hts hown hS hW iwX7 kOC_31 rfl 0 (by decide) q230 rfl rfl dX7_ways_7 ?_
  refine lv_aload_n (pc := 10) hx hcb dX7_ways_10 rfl (lv_at hl 1 rfl) ?_
  refine kci (krunV (As := []) (rest := [.ref (X.2.1 (σ1.2.2 2))]) (pc := 11) hx hcb hml hown hts hS hW (c_X1_firstState l X σ1 b1 hb1 _ h) mf_X1_firstState q790 (kO_X1 hb1) rfl ⟨rfl, rfl⟩ ⟨Nat.le_of_ble_eq_true rfl, Nat.le_of_ble_eq_true rfl⟩ rfl hl.1 rfl (Nat.le_of_ble_eq_true rfl) dX7_ways_11 ⟨Nat.zero_le _, Nat.zero_le _⟩) hS hW (fun r4 σ3 H locs h hW => ?_)
  obtain ⟨h, rfl⟩ := h
  refine lv_lconst (v := 1) (pc := 14) hx hcb dX7_ways_14 rfl ?_
  refine lv_iconst (v := 0) (pc := 15) hx hcb dX7_ways_15 rfl ?_
  refine kcv (krunV (As := [.int r4, .long 1, .int 0]) (rest := []) (pc := 16) hx hcb hml hown hts hS hW (c_X2_put l X σ1 (σ1.2.2 2) hd2 r4 1 0 _ h) mf_X2_put q608 (kO_X2 hd2) rfl ⟨rfl, rfl⟩ ⟨Nat.le_of_ble_eq_true rfl, Nat.le_of_ble_eq_true rfl⟩ rfl hl.1 rfl (Nat.le_of_ble_eq_true rfl) dX7_ways_16 ⟨Nat.zero_le _, Nat.zero_le _⟩) hS hW (fun σ5 H locs h hW => ?_)
  refine lv_aload_n (pc := 19) hx hcb dX7_ways_19 rfl (lv_at hl 0 rfl) ?_
  refine lv_aload_n (pc := 20) hx hcb dX7_ways_20 rfl (lv_at hl 1 rfl) ?_
  refine lv_iconst (v := 0) (pc := 21) hx hcb dX7_ways_21 rfl ?_
  refine lv_aload_n (pc := 22) hx hcb dX7_ways_22 rfl (lv_at hl 2 rfl) ?_
  refine kci (krunV (As := [.ref (X.2.1 b1), .int 0, .ref (X.2.1 b2)]) (rest := []) (pc := 23) hx hcb hml hown hts hS hW (c_X7_follow l X σ5 b1 hb1 0 b2 hb2 _ h) mf_X7_follow q615 kOC_31 rfl ⟨rfl, rfl⟩ ⟨Nat.le_of_ble_eq_true rfl, Nat.le_of_ble_eq_true rfl⟩ rfl hl.1 rfl (Nat.le_of_ble_eq_true rfl) dX7_ways_23 ⟨Nat.zero_le _, Nat.zero_le _⟩) hS hW (fun r7 σ6 H locs h hW => ?_)
  refine lv_pop (pc := 26) hx hcb dX7_ways_26 rfl ?_
  refine lv_aload_n (pc := 27) hx hcb dX7_ways_27 rfl (lv_at hl 0 rfl) ?_
  have hd8 : kFr (σ6.2.2 2) := hW.2.2.2.2.1
  refine kget (v := .ref (X.2.1 (σ6.2.2 2))) (pc := 28) hx hcb hts hown hS hW iwX7 kOC_31 rfl 0 (by decide) q230 rfl rfl dX7_ways_28 ?_
  refine kcl (krunV (As := []) (rest := []) (pc := 31) hx hcb hml hown hts hS hW (c_X2_sum l X σ6 (σ6.2.2 2) hd8 _ h) mf_X2_sum q791 (kO_X2 hd8) rfl ⟨rfl, rfl⟩ ⟨Nat.le_of_ble_eq_true rfl, Nat.le_of_ble_eq_true rfl⟩ rfl hl.1 rfl (Nat.le_of_ble_eq_true rfl) dX7_ways_31 ⟨Nat.zero_le _, Nat.zero_le _⟩) hS hW (fun r10 σ9 H locs h hW => ?_)
  obtain ⟨h, rfl⟩ := h
  exact hret _ _ _ _ _ _ h hW dX7_ways_34
abbrev rm_X7_weight : Room := { frames := 4, cells := 0, slots := 0, locals := 100 }
set_option maxHeartbeats 4000000 in
set_option maxRecDepth 100000 in
theorem c_X7_weight (l : Launch) (X : KX) (σ : Mm) (b1 : Nat) (hb1 : kFm b1) (x3 : Int32) (x4 : Int32) (Φ : Int64 → Mm → Prop) (h : wp_X7_weight σ b1 x3 x4 Φ) : Met l yX7_weight (.code yX7_weight cX7_weight 6 (some .long) :: kT) rm_X7_weight (va_Pc [.ref (X.2.1 31), .ref (X.2.1 b1), .ref (X.2.1 16), .int x3, .int x4] (kPre kZC X σ)) (va_Ql (fun r σ' => Φ r σ') (fun σ' t => kPre kZC X σ' t) (kA kZC X)) 0 0 (kA kZC X) := by
  refine kofL (by decide) (Nat.le_of_ble_eq_true rfl) ?_
  intro p e s m args below meth c ls Q hx hcb hml hown hts hS hW hl hret
  have hown : s.vm.findClass RX7 = some m.cls := hown
  have hl : lv_has ls 6 [(0, .ref (X.2.1 31)), (1, .ref (X.2.1 b1)), (2, .ref (X.2.1 16)), (3, .int x3), (4, .int x4)] := hl
  unfold wp_X7_weight at h
  refine lv_aload_n (pc := 0) hx hcb dX7_weight_0 rfl (lv_at hl 0 rfl) ?_
  refine lv_iconst (v := 2) (pc := 1) hx hcb dX7_weight_1 rfl ?_
  refine lv_iconst (v := (-1)) (pc := 2) hx hcb dX7_weight_2 rfl ?_
  refine kcv (krunV (As := [.int 2, .int (-1)]) (rest := []) (pc := 3) hx hcb hml hown hts hS hW (c_X7_begin l X σ 2 (-1) _ h) mf_X7_begin q600 kOC_31 rfl ⟨rfl, rfl⟩ ⟨Nat.le_of_ble_eq_true rfl, Nat.le_of_ble_eq_true rfl⟩ rfl hl.1 rfl (Nat.le_of_ble_eq_true rfl) dX7_weight_3 ⟨Nat.zero_le _, Nat.zero_le _⟩) hS hW (fun σ1 H locs h hW => ?_)
  refine lv_aload_n (pc := 6) hx hcb dX7_weight_6 rfl (lv_at hl 0 rfl) ?_
  have hd2 : kFr (σ1.2.2 2) := hW.2.2.2.2.1
  refine kget (v := .ref (X.2.1 (σ1.2.2 2))) (pc := 7) hx hcb hts hown hS hW iwX7 kOC_31 rfl 0 (by decide) q230 rfl rfl dX7_weight_7 ?_
  refine lv_aload_n (pc := 10) hx hcb dX7_weight_10 rfl (lv_at hl 2 rfl) ?_
  refine kgetN (v := .int (σ1.1 16 1)) (pc := 11) hx hcb hts hown hS hW iwX3 kOC_16 rfl 1 (by decide) q154 rfl rfl dX7_weight_11 ?_
  refine lv_lconst (v := 1) (pc := 14) hx hcb dX7_weight_14 rfl ?_
  refine lv_iconst (v := 0) (pc := 15) hx hcb dX7_weight_15 rfl ?_
  refine kcv (krunV (As := [.int (σ1.1 16 1), .long 1, .int 0]) (rest := []) (pc := 16) hx hcb hml hown hts hS hW (c_X2_put l X σ1 (σ1.2.2 2) hd2 (σ1.1 16 1) 1 0 _ h) mf_X2_put q608 (kO_X2 hd2) rfl ⟨rfl, rfl⟩ ⟨Nat.le_of_ble_eq_true rfl, Nat.le_of_ble_eq_true rfl⟩ rfl hl.1 rfl (Nat.le_of_ble_eq_true rfl) dX7_weight_16 ⟨Nat.zero_le _, Nat.zero_le _⟩) hS hW (fun σ3 H locs h hW => ?_)
  refine lv_iconst (v := 0) (pc := 19) hx hcb dX7_weight_19 rfl ?_
  refine lv_istore (lv' := [(5, .int 0), (0, .ref (X.2.1 31)), (1, .ref (X.2.1 b1)), (2, .ref (X.2.1 16)), (3, .int x3), (4, .int x4)]) (pc := 20) hx hcb dX7_weight_20 hl (by decide) rfl (fun ls hl => ?_)
  obtain ⟨K46, hk46, h⟩ := h
  have hK46 : ∀ (σ4 : Mm) (H : Heap) (locs : List Loc) (ls : Array Slot), K46 σ4 → kW kZC X (kA kZC X) s σ4 H locs → lv_has ls 6 [(0, .ref (X.2.1 31)), (4, .int x4)] → W p l e rm_X7_weight s m args below meth c H locs 0 0 Q (F0 m 46 ls []) := by
    intro σ4 H locs ls h hW hl
    have h := hk46 σ4 h
    refine lv_aload_n (pc := 46) hx hcb dX7_weight_46 rfl (lv_at hl 0 rfl) ?_
    have hd5 : kFr (σ4.2.2 2) := hW.2.2.2.2.1
    refine kget (v := .ref (X.2.1 (σ4.2.2 2))) (pc := 47) hx hcb hts hown hS hW iwX7 kOC_31 rfl 0 (by decide) q230 rfl rfl dX7_weight_47 ?_
    refine lv_iload (pc := 50) hx hcb dX7_weight_50 (lv_at hl 1 rfl) ?_
    refine kcv (krunV (As := [.int x4]) (rest := []) (pc := 52) hx hcb hml hown hts hS hW (c_X2_keepThoseAt l X σ4 (σ4.2.2 2) hd5 x4 _ h) mf_X2_keepThoseAt q642 (kO_X2 hd5) rfl ⟨rfl, rfl⟩ ⟨Nat.le_of_ble_eq_true rfl, Nat.le_of_ble_eq_true rfl⟩ rfl hl.1 rfl (Nat.le_of_ble_eq_true rfl) dX7_weight_52 ⟨Nat.zero_le _, Nat.zero_le _⟩) hS hW (fun σ6 H locs h hW => ?_)
    refine lv_aload_n (pc := 55) hx hcb dX7_weight_55 rfl (lv_at hl 0 rfl) ?_
    have hd7 : kFr (σ6.2.2 2) := hW.2.2.2.2.1
    refine kget (v := .ref (X.2.1 (σ6.2.2 2))) (pc := 56) hx hcb hts hown hS hW iwX7 kOC_31 rfl 0 (by decide) q230 rfl rfl dX7_weight_56 ?_
    refine kcl (krunV (As := []) (rest := []) (pc := 59) hx hcb hml hown hts hS hW (c_X2_sum l X σ6 (σ6.2.2 2) hd7 _ h) mf_X2_sum q791 (kO_X2 hd7) rfl ⟨rfl, rfl⟩ ⟨Nat.le_of_ble_eq_true rfl, Nat.le_of_ble_eq_true rfl⟩ rfl hl.1 rfl (Nat.le_of_ble_eq_true rfl) dX7_weight_59 ⟨Nat.zero_le _, Nat.zero_le _⟩) hS hW (fun r9 σ8 H locs h hW => ?_)
    obtain ⟨h, rfl⟩ := h
    exact hret _ _ _ _ _ _ h hW dX7_weight_62
  have hL22 : ∀ (n : Nat) (σ10 : Mm) (x5_11 : Int32) (H : Heap) (locs : List Loc) (ls : Array Slot), wp_X7_weight_L22 b1 x3 K46 n σ10 x5_11 → kW kZC X (kA kZC X) s σ10 H locs → lv_has ls 6 [(0, .ref (X.2.1 31)), (1, .ref (X.2.1 b1)), (2, .ref (X.2.1 16)), (3, .int x3), (4, .int x4), (5, .int x5_11)] → W p l e rm_X7_weight s m args below meth c H locs 0 0 Q (F0 m 22 ls []) := by
    intro n
    induction n with
    | zero =>
      intro σ10 x5_11 H locs ls h
      exact False.elim h
    | succ n ih =>
      intro σ10 x5_11 H locs ls h hW hl
      unfold wp_X7_weight_L22 at h
      refine lv_iload (pc := 22) hx hcb dX7_weight_22 (lv_at hl 5 rfl) ?_
      refine lv_iload_n (pc := 24) hx hcb dX7_weight_24 rfl (lv_at hl 3 rfl) ?_
      refine lv_icmp_ge (tgt := 46) (pc := 25) hx hcb dX7_weight_25 (by decide) (fun c25 => ?_) (fun c25 => ?_)
      · have h := h.1 c25
        exact hK46 σ10 _ _ _ h hW (lv_sub hl [0, 4] rfl)
      · have h := h.2 c25
        refine lv_aload_n (pc := 28) hx hcb dX7_weight_28 rfl (lv_at hl 0 rfl) ?_
        refine lv_aload_n (pc := 29) hx hcb dX7_weight_29 rfl (lv_at hl 1 rfl) ?_
        refine lv_aload_n (pc := 30) hx hcb dX7_weight_30 rfl (lv_at hl 2 rfl) ?_
        refine kgetN (v := .int (σ10.1 16 0)) (pc := 31) hx hcb hts hown hS hW iwX3 kOC_16 rfl 0 (by decide) q149 rfl rfl dX7_weight_31 ?_
        refine lv_iload (pc := 34) hx hcb dX7_weight_34 (lv_at hl 5 rfl) ?_
        refine lv_iadd (pc := 36) hx hcb dX7_weight_36 ?_
        refine kcv (krunV (As := [.ref (X.2.1 b1), .int ((σ10.1 16 0) + x5_11)]) (rest := []) (pc := 37) hx hcb hml hown hts hS hW (c_X7_spread l X σ10 b1 hb1 ((σ10.1 16 0) + x5_11) _ h) mf_X7_spread q651 kOC_31 rfl ⟨rfl, rfl⟩ ⟨Nat.le_of_ble_eq_true rfl, Nat.le_of_ble_eq_true rfl⟩ rfl hl.1 rfl (Nat.le_of_ble_eq_true rfl) dX7_weight_37 ⟨Nat.zero_le _, Nat.zero_le _⟩) hS hW (fun σ12 H locs h hW => ?_)
        refine lv_iinc (v := x5_11 + 1) (lv' := [(5, .int (x5_11 + 1)), (0, .ref (X.2.1 31)), (1, .ref (X.2.1 b1)), (2, .ref (X.2.1 16)), (3, .int x3), (4, .int x4)]) (pc := 40) hx hcb dX7_weight_40 hl (k := 5) rfl rfl (by decide) rfl (fun ls hl => ?_)
        refine lv_goto (tgt := 22) (pc := 43) hx hcb dX7_weight_43 (by decide) ?_
        exact ih σ12 (x5_11 + 1) _ _ _ h hW (lv_sub hl [1, 2, 3, 4, 5, 0] rfl)
  obtain ⟨n, h⟩ := h
  exact hL22 n σ3 0 _ _ _ h hW (lv_sub hl [1, 2, 3, 4, 5, 0] rfl)
abbrev rm_X8_append : Room := { frames := 0, cells := 0, slots := 0, locals := 0 }
set_option maxHeartbeats 4000000 in
set_option maxRecDepth 100000 in
theorem c_X8_append (l : Launch) (X : KX) (σ : Mm) (x1 : Int32) (Φ : Mm → Prop) (h : wp_X8_append σ x1 Φ) : Met l yX8_append (.code yX8_append cX8_append 2 none :: kT) rm_X8_append (va_Pc [.ref (X.2.1 1), .int x1] (kPre kZC X σ)) (va_Qv (fun σ' => Φ σ') (fun σ' t => kPre kZC X σ' t) (kA kZC X)) 0 0 (kA kZC X) := by
  refine kofV (by decide) (Nat.le_of_ble_eq_true rfl) ?_
  intro p e s m args below meth c ls Q hx hcb hml hown hts hS hW hl hret
  have hown : s.vm.findClass RX8 = some m.cls := hown
  have hl : lv_has ls 2 [(0, .ref (X.2.1 1)), (1, .int x1)] := hl
  unfold wp_X8_append at h
  refine lv_aload_n (pc := 0) hx hcb dX8_append_0 rfl (lv_at hl 0 rfl) ?_
  refine kget (v := .int (σ.1 1 1)) (pc := 1) hx hcb hts hown hS hW iwX8 kOC_1 rfl 1 (by decide) q84 rfl rfl dX8_append_1 ?_
  refine lv_sipush (v := 300) (pc := 4) hx hcb dX8_append_4 rfl ?_
  refine lv_icmp_ge (tgt := 31) (pc := 7) hx hcb dX8_append_7 (by decide) (fun c7 => ?_) (fun c7 => ?_)
  · have h := h.1 c7
    exact hret _ _ _ _ _ h hW dX8_append_31
  · have h := h.2 c7
    refine lv_aload_n (pc := 10) hx hcb dX8_append_10 rfl (lv_at hl 0 rfl) ?_
    refine kget (v := .ref (X.2.1 2)) (pc := 11) hx hcb hts hown hS hW iwX8 kOC_1 rfl 0 (by decide) q83 rfl rfl dX8_append_11 ?_
    refine lv_aload_n (pc := 14) hx hcb dX8_append_14 rfl (lv_at hl 0 rfl) ?_
    refine kget (v := .int (σ.1 1 1)) (pc := 15) hx hcb hts hown hS hW iwX8 kOC_1 rfl 1 (by decide) q84 rfl rfl dX8_append_15 ?_
    refine lv_iload_n (pc := 18) hx hcb dX8_append_18 rfl (lv_at hl 1 rfl) ?_
    refine lv_i2b (pc := 19) hx hcb dX8_append_19 rfl ?_
    have hin1 := h.1
    have h := h.2
    refine kbast ((σ.1 1 1).toNatClampNeg) (pc := 20) hx hcb hS hW kBC_2 rfl (kin_of hin1 (by decide)) dX8_append_20 (fun σ2 H locs eσ2 hW => ?_)
    have h := h σ2 eσ2
    refine lv_aload_n (pc := 21) hx hcb dX8_append_21 rfl (lv_at hl 0 rfl) ?_
    refine lv_dup (pc := 22) hx hcb dX8_append_22 rfl ?_
    refine kget (v := .int (σ2.1 1 1)) (pc := 23) hx hcb hts hown hS hW iwX8 kOC_1 rfl 1 (by decide) q84 rfl rfl dX8_append_23 ?_
    refine lv_iconst (v := 1) (pc := 26) hx hcb dX8_append_26 rfl ?_
    refine lv_iadd (pc := 27) hx hcb dX8_append_27 ?_
    refine kput (ty := .int) (pc := 28) hx hcb hts hown hS hW iwX8 tyX8 tyX8_ok nmX8 kOC_1 rfl 1 (by decide) q84 rfl rfl rfl rfl rfl (Nat.le_of_ble_eq_true rfl) rfl dX8_append_28 (fun σ3 H locs eσ3 hW => ?_)
    have h := h σ3 eσ3
    exact hret _ _ _ _ _ h hW dX8_append_31
abbrev rm_X8_clear : Room := { frames := 0, cells := 0, slots := 0, locals := 0 }
set_option maxHeartbeats 4000000 in
set_option maxRecDepth 100000 in
theorem c_X8_clear (l : Launch) (X : KX) (σ : Mm)  (Φ : Mm → Prop) (h : wp_X8_clear σ  Φ) : Met l yX8_clear (.code yX8_clear cX8_clear 1 none :: kT) rm_X8_clear (va_Pc [.ref (X.2.1 1)] (kPre kZC X σ)) (va_Qv (fun σ' => Φ σ') (fun σ' t => kPre kZC X σ' t) (kA kZC X)) 0 0 (kA kZC X) := by
  refine kofV (by decide) (Nat.le_of_ble_eq_true rfl) ?_
  intro p e s m args below meth c ls Q hx hcb hml hown hts hS hW hl hret
  have hown : s.vm.findClass RX8 = some m.cls := hown
  have hl : lv_has ls 1 [(0, .ref (X.2.1 1))] := hl
  unfold wp_X8_clear at h
  refine lv_aload_n (pc := 0) hx hcb dX8_clear_0 rfl (lv_at hl 0 rfl) ?_
  refine lv_iconst (v := 0) (pc := 1) hx hcb dX8_clear_1 rfl ?_
  refine kput (ty := .int) (pc := 2) hx hcb hts hown hS hW iwX8 tyX8 tyX8_ok nmX8 kOC_1 rfl 1 (by decide) q84 rfl rfl rfl rfl rfl (Nat.le_of_ble_eq_true rfl) rfl dX8_clear_2 (fun σ1 H locs eσ1 hW => ?_)
  have h := h σ1 eσ1
  exact hret _ _ _ _ _ h hW dX8_clear_5
abbrev rm_X9_add : Room := { frames := 0, cells := 0, slots := 0, locals := 0 }
set_option maxHeartbeats 4000000 in
set_option maxRecDepth 100000 in
theorem c_X9_add (l : Launch) (X : KX) (σ : Mm) (b0 : Nat) (hb0 : kTd b0) (x1 : Int32) (x2 : Int32) (Φ : Int32 → Mm → Prop) (h : wp_X9_add σ b0 x1 x2 Φ) : Met l yX9_add (.code yX9_add cX9_add 3 (some .int) :: kT) rm_X9_add (va_Pc [.ref (X.2.1 b0), .int x1, .int x2] (kPre kZC X σ)) (va_Qi (fun r σ' => Φ r σ') (fun σ' t => kPre kZC X σ' t) (kA kZC X)) 0 0 (kA kZC X) := by
  refine kofI (by decide) (Nat.le_of_ble_eq_true rfl) ?_
  intro p e s m args below meth c ls Q hx hcb hml hown hts hS hW hl hret
  have hown : s.vm.findClass RX9 = some m.cls := hown
  have hl : lv_has ls 3 [(0, .ref (X.2.1 b0)), (1, .int x1), (2, .int x2)] := hl
  unfold wp_X9_add at h
  refine lv_aload_n (pc := 0) hx hcb dX9_add_0 rfl (lv_at hl 0 rfl) ?_
  refine kget (v := .int (σ.1 b0 2)) (pc := 1) hx hcb hts hown hS hW iwX9 (kO_X9 hb0) rfl 2 (by decide) q195 rfl rfl dX9_add_1 ?_
  refine lv_bipush (v := 6) (pc := 4) hx hcb dX9_add_4 rfl ?_
  refine lv_icmp_lt (tgt := 12) (pc := 6) hx hcb dX9_add_6 (by decide) (fun c6 => ?_) (fun c6 => ?_)
  · have h := h.1 c6
    refine lv_aload_n (pc := 12) hx hcb dX9_add_12 rfl (lv_at hl 0 rfl) ?_
    refine kget (v := .ref (X.2.1 (b0 + 1))) (pc := 13) hx hcb hts hown hS hW iwX9 (kO_X9 hb0) rfl 0 (by decide) q193 rfl rfl dX9_add_13 ?_
    refine lv_aload_n (pc := 16) hx hcb dX9_add_16 rfl (lv_at hl 0 rfl) ?_
    refine kget (v := .int (σ.1 b0 2)) (pc := 17) hx hcb hts hown hS hW iwX9 (kO_X9 hb0) rfl 2 (by decide) q195 rfl rfl dX9_add_17 ?_
    refine lv_iload_n (pc := 20) hx hcb dX9_add_20 rfl (lv_at hl 1 rfl) ?_
    have hin1 := h.1
    have h := h.2
    refine kiast ((σ.1 b0 2).toNatClampNeg) (pc := 21) hx hcb hS hW (kA_X9_0 hb0) rfl (kin_of hin1 (by decide)) dX9_add_21 (fun σ2 H locs eσ2 hW => ?_)
    have h := h σ2 eσ2
    refine lv_aload_n (pc := 22) hx hcb dX9_add_22 rfl (lv_at hl 0 rfl) ?_
    refine kget (v := .ref (X.2.1 (b0 + 2))) (pc := 23) hx hcb hts hown hS hW iwX9 (kO_X9 hb0) rfl 1 (by decide) q194 rfl rfl dX9_add_23 ?_
    refine lv_aload_n (pc := 26) hx hcb dX9_add_26 rfl (lv_at hl 0 rfl) ?_
    refine kget (v := .int (σ2.1 b0 2)) (pc := 27) hx hcb hts hown hS hW iwX9 (kO_X9 hb0) rfl 2 (by decide) q195 rfl rfl dX9_add_27 ?_
    refine lv_iload_n (pc := 30) hx hcb dX9_add_30 rfl (lv_at hl 2 rfl) ?_
    have hin3 := h.1
    have h := h.2
    refine kiast ((σ2.1 b0 2).toNatClampNeg) (pc := 31) hx hcb hS hW (kA_X9_1 hb0) rfl (kin_of hin3 (by decide)) dX9_add_31 (fun σ4 H locs eσ4 hW => ?_)
    have h := h σ4 eσ4
    refine lv_aload_n (pc := 32) hx hcb dX9_add_32 rfl (lv_at hl 0 rfl) ?_
    refine lv_dup (pc := 33) hx hcb dX9_add_33 rfl ?_
    refine kget (v := .int (σ4.1 b0 2)) (pc := 34) hx hcb hts hown hS hW iwX9 (kO_X9 hb0) rfl 2 (by decide) q195 rfl rfl dX9_add_34 ?_
    refine lv_iconst (v := 1) (pc := 37) hx hcb dX9_add_37 rfl ?_
    refine lv_iadd (pc := 38) hx hcb dX9_add_38 ?_
    refine kput (ty := .int) (pc := 39) hx hcb hts hown hS hW iwX9 tyX9 tyX9_ok nmX9 (kO_X9 hb0) rfl 2 (by decide) q195 rfl rfl rfl rfl rfl (Nat.le_of_ble_eq_true rfl) rfl dX9_add_39 (fun σ5 H locs eσ5 hW => ?_)
    have h := h σ5 eσ5
    refine lv_aload_n (pc := 42) hx hcb dX9_add_42 rfl (lv_at hl 0 rfl) ?_
    refine kget (v := .int (σ5.1 b0 2)) (pc := 43) hx hcb hts hown hS hW iwX9 (kO_X9 hb0) rfl 2 (by decide) q195 rfl rfl dX9_add_43 ?_
    exact hret _ _ _ _ _ _ rfl h hW dX9_add_46
  · have h := h.2 c6
    refine lv_bipush (v := (-3)) (pc := 9) hx hcb dX9_add_9 rfl ?_
    exact hret _ _ _ _ _ _ rfl h hW dX9_add_11
abbrev rm_X9_clear : Room := { frames := 0, cells := 0, slots := 0, locals := 0 }
set_option maxHeartbeats 4000000 in
set_option maxRecDepth 100000 in
theorem c_X9_clear (l : Launch) (X : KX) (σ : Mm) (b0 : Nat) (hb0 : kTd b0) (Φ : Int32 → Mm → Prop) (h : wp_X9_clear σ b0 Φ) : Met l yX9_clear (.code yX9_clear cX9_clear 2 (some .int) :: kT) rm_X9_clear (va_Pc [.ref (X.2.1 b0)] (kPre kZC X σ)) (va_Qi (fun r σ' => Φ r σ') (fun σ' t => kPre kZC X σ' t) (kA kZC X)) 0 0 (kA kZC X) := by
  refine kofI (by decide) (Nat.le_of_ble_eq_true rfl) ?_
  intro p e s m args below meth c ls Q hx hcb hml hown hts hS hW hl hret
  have hown : s.vm.findClass RX9 = some m.cls := hown
  have hl : lv_has ls 2 [(0, .ref (X.2.1 b0))] := hl
  unfold wp_X9_clear at h
  refine lv_aload_n (pc := 0) hx hcb dX9_clear_0 rfl (lv_at hl 0 rfl) ?_
  refine kget (v := .int (σ.1 b0 2)) (pc := 1) hx hcb hts hown hS hW iwX9 (kO_X9 hb0) rfl 2 (by decide) q195 rfl rfl dX9_clear_1 ?_
  refine lv_topi (fun x1_1 ex1_1 => ?_)
  have h := h x1_1 ex1_1
  refine lv_istore_n (lv' := [(1, .int x1_1), (0, .ref (X.2.1 b0))]) (pc := 4) hx hcb dX9_clear_4 rfl hl (by decide) rfl (fun ls hl => ?_)
  refine lv_aload_n (pc := 5) hx hcb dX9_clear_5 rfl (lv_at hl 1 rfl) ?_
  refine lv_iconst (v := 0) (pc := 6) hx hcb dX9_clear_6 rfl ?_
  refine kput (ty := .int) (pc := 7) hx hcb hts hown hS hW iwX9 tyX9 tyX9_ok nmX9 (kO_X9 hb0) rfl 2 (by decide) q195 rfl rfl rfl rfl rfl (Nat.le_of_ble_eq_true rfl) rfl dX9_clear_7 (fun σ2 H locs eσ2 hW => ?_)
  have h := h σ2 eσ2
  refine lv_iload_n (pc := 10) hx hcb dX9_clear_10 rfl (lv_at hl 0 rfl) ?_
  exact hret _ _ _ _ _ _ rfl h hW dX9_clear_11
abbrev rm_X10_back : Room := { frames := 1, cells := 0, slots := 0, locals := 21 }
set_option maxHeartbeats 4000000 in
set_option maxRecDepth 100000 in
theorem c_X10_back (l : Launch) (X : KX) (σ : Mm)  (Φ : Int32 → Mm → Prop) (h : wp_X10_back σ  Φ) : Met l yX10_back (.code yX10_back cX10_back 1 (some .int) :: kT) rm_X10_back (va_Pc [.ref (X.2.1 0)] (kPre kZC X σ)) (va_Qi (fun r σ' => Φ r σ') (fun σ' t => kPre kZC X σ' t) (kA kZC X)) 0 0 (kA kZC X) := by
  refine kofI (by decide) (Nat.le_of_ble_eq_true rfl) ?_
  intro p e s m args below meth c ls Q hx hcb hml hown hts hS hW hl hret
  have hown : s.vm.findClass RX10 = some m.cls := hown
  have hl : lv_has ls 1 [(0, .ref (X.2.1 0))] := hl
  unfold wp_X10_back at h
  refine lv_aload_n (pc := 0) hx hcb dX10_back_0 rfl (lv_at hl 0 rfl) ?_
  refine kget (v := .ref (X.2.1 21)) (pc := 1) hx hcb hts hown hS hW iwX10 kOC_0 rfl 6 (by decide) q427 rfl rfl dX10_back_1 ?_
  refine kci (krunV (As := []) (rest := []) (pc := 4) hx hcb hml hown hts hS hW (c_X4_size l X σ 21 (Or.inr rfl : kMs 21) _ h) mf_X4_size q561 (kO_X4 (Or.inr rfl : kMs 21)) rfl ⟨rfl, rfl⟩ ⟨Nat.le_of_ble_eq_true rfl, Nat.le_of_ble_eq_true rfl⟩ rfl hl.1 rfl (Nat.le_of_ble_eq_true rfl) dX10_back_4 ⟨Nat.zero_le _, Nat.zero_le _⟩) hS hW (fun r2 σ1 H locs h hW => ?_)
  obtain ⟨h, rfl⟩ := h
  refine lv_if_ne (tgt := 13) (pc := 7) hx hcb dX10_back_7 (by decide) (fun c7 => ?_) (fun c7 => ?_)
  · have h := h.1 c7
    refine lv_aload_n (pc := 13) hx hcb dX10_back_13 rfl (lv_at hl 0 rfl) ?_
    refine kget (v := .ref (X.2.1 21)) (pc := 14) hx hcb hts hown hS hW iwX10 kOC_0 rfl 6 (by decide) q427 rfl rfl dX10_back_14 ?_
    refine lv_aload_n (pc := 17) hx hcb dX10_back_17 rfl (lv_at hl 0 rfl) ?_
    refine kget (v := .ref (X.2.1 16)) (pc := 18) hx hcb hts hown hS hW iwX10 kOC_0 rfl 4 (by decide) q425 rfl rfl dX10_back_18 ?_
    refine kcv (krunV (As := [.ref (X.2.1 16)]) (rest := []) (pc := 21) hx hcb hml hown hts hS hW (c_X4_pop l X σ 21 (Or.inr rfl : kMs 21) _ h) mf_X4_pop q565 (kO_X4 (Or.inr rfl : kMs 21)) rfl ⟨rfl, rfl⟩ ⟨Nat.le_of_ble_eq_true rfl, Nat.le_of_ble_eq_true rfl⟩ rfl hl.1 rfl (Nat.le_of_ble_eq_true rfl) dX10_back_21 ⟨Nat.zero_le _, Nat.zero_le _⟩) hS hW (fun σ3 H locs h hW => ?_)
    refine lv_aload_n (pc := 24) hx hcb dX10_back_24 rfl (lv_at hl 0 rfl) ?_
    refine kget (v := .ref (X.2.1 17)) (pc := 25) hx hcb hts hown hS hW iwX10 kOC_0 rfl 5 (by decide) q426 rfl rfl dX10_back_25 ?_
    refine kcv (krunV (As := []) (rest := []) (pc := 28) hx hcb hml hown hts hS hW (c_X4_clear l X σ3 17 (Or.inl rfl : kMs 17) _ h) mf_X4_clear q480 (kO_X4 (Or.inl rfl : kMs 17)) rfl ⟨rfl, rfl⟩ ⟨Nat.le_of_ble_eq_true rfl, Nat.le_of_ble_eq_true rfl⟩ rfl hl.1 rfl (Nat.le_of_ble_eq_true rfl) dX10_back_28 ⟨Nat.zero_le _, Nat.zero_le _⟩) hS hW (fun σ4 H locs h hW => ?_)
    refine lv_aload_n (pc := 31) hx hcb dX10_back_31 rfl (lv_at hl 0 rfl) ?_
    refine kget (v := .ref (X.2.1 21)) (pc := 32) hx hcb hts hown hS hW iwX10 kOC_0 rfl 6 (by decide) q427 rfl rfl dX10_back_32 ?_
    refine kci (krunV (As := []) (rest := []) (pc := 35) hx hcb hml hown hts hS hW (c_X4_size l X σ4 21 (Or.inr rfl : kMs 21) _ h) mf_X4_size q561 (kO_X4 (Or.inr rfl : kMs 21)) rfl ⟨rfl, rfl⟩ ⟨Nat.le_of_ble_eq_true rfl, Nat.le_of_ble_eq_true rfl⟩ rfl hl.1 rfl (Nat.le_of_ble_eq_true rfl) dX10_back_35 ⟨Nat.zero_le _, Nat.zero_le _⟩) hS hW (fun r6 σ5 H locs h hW => ?_)
    obtain ⟨h, rfl⟩ := h
    exact hret _ _ _ _ _ _ rfl h hW dX10_back_38
  · have h := h.2 c7
    refine lv_bipush (v := (-2)) (pc := 10) hx hcb dX10_back_10 rfl ?_
    exact hret _ _ _ _ _ _ rfl h hW dX10_back_12
abbrev rm_X10_bars : Room := { frames := 6, cells := 0, slots := 0, locals := 149 }
set_option maxHeartbeats 4000000 in
set_option maxRecDepth 100000 in
theorem c_X10_bars (l : Launch) (X : KX) (σ : Mm)  (Φ : Int32 → Mm → Prop) (h : wp_X10_bars σ  Φ) : Met l yX10_bars (.code yX10_bars cX10_bars 1 (some .int) :: kT) rm_X10_bars (va_Pc [.ref (X.2.1 0)] (kPre kZC X σ)) (va_Qi (fun r σ' => Φ r σ') (fun σ' t => kPre kZC X σ' t) (kA kZC X)) 0 0 (kA kZC X) := by
  refine kofI (by decide) (Nat.le_of_ble_eq_true rfl) ?_
  intro p e s m args below meth c ls Q hx hcb hml hown hts hS hW hl hret
  have hown : s.vm.findClass RX10 = some m.cls := hown
  have hl : lv_has ls 1 [(0, .ref (X.2.1 0))] := hl
  unfold wp_X10_bars at h
  refine lv_aload_n (pc := 0) hx hcb dX10_bars_0 rfl (lv_at hl 0 rfl) ?_
  refine kget (v := .ref (X.2.1 31)) (pc := 1) hx hcb hts hown hS hW iwX10 kOC_0 rfl 9 (by decide) q430 rfl rfl dX10_bars_1 ?_
  refine lv_aload_n (pc := 4) hx hcb dX10_bars_4 rfl (lv_at hl 0 rfl) ?_
  have hd1 : kFm (σ.2.2 0) := hW.2.2.1
  refine kget (v := .ref (X.2.1 (σ.2.2 0))) (pc := 5) hx hcb hts hown hS hW iwX10 kOC_0 rfl 2 (by decide) q423 rfl rfl dX10_bars_5 ?_
  refine lv_aload_n (pc := 8) hx hcb dX10_bars_8 rfl (lv_at hl 0 rfl) ?_
  refine kget (v := .ref (X.2.1 16)) (pc := 9) hx hcb hts hown hS hW iwX10 kOC_0 rfl 4 (by decide) q425 rfl rfl dX10_bars_9 ?_
  refine lv_aload_n (pc := 12) hx hcb dX10_bars_12 rfl (lv_at hl 0 rfl) ?_
  refine kget (v := .ref (X.2.1 25)) (pc := 13) hx hcb hts hown hS hW iwX10 kOC_0 rfl 7 (by decide) q428 rfl rfl dX10_bars_13 ?_
  refine kci (krunV (As := [.ref (X.2.1 (σ.2.2 0)), .ref (X.2.1 16), .ref (X.2.1 25)]) (rest := []) (pc := 16) hx hcb hml hown hts hS hW (c_X7_cheapest l X σ (σ.2.2 0) hd1 25 (Or.inl rfl : kTd 25) _ h) mf_X7_cheapest q596 kOC_31 rfl ⟨rfl, rfl⟩ ⟨Nat.le_of_ble_eq_true rfl, Nat.le_of_ble_eq_true rfl⟩ rfl hl.1 rfl (Nat.le_of_ble_eq_true rfl) dX10_bars_16 ⟨Nat.zero_le _, Nat.zero_le _⟩) hS hW (fun r3 σ2 H locs h hW => ?_)
  exact hret _ _ _ _ _ _ rfl h hW dX10_bars_19
abbrev rm_X10_isFlag : Room := { frames := 0, cells := 0, slots := 0, locals := 0 }
set_option maxHeartbeats 4000000 in
set_option maxRecDepth 100000 in
theorem c_X10_isFlag (l : Launch) (X : KX) (σ : Mm) (x0 : Int32) (Φ : Int32 → Prop) (h : wp_X10_isFlag x0 Φ) : Met l yX10_isFlag (.code yX10_isFlag cX10_isFlag 1 (some .boolean) :: kT) rm_X10_isFlag (va_Pc [.int x0] (kPre kZC X σ)) (va_Qi (fun r σ' => Φ r ∧ σ = σ') (fun σ' t => kPre kZC X σ' t) (kA kZC X)) 0 0 (kA kZC X) := by
  refine kofI (by decide) (Nat.le_of_ble_eq_true rfl) ?_
  intro p e s m args below meth c ls Q hx hcb hml hown hts hS hW hl hret
  have hown : s.vm.findClass RX10 = some m.cls := hown
  have hl : lv_has ls 1 [(0, .int x0)] := hl
  unfold wp_X10_isFlag at h
  refine lv_iload_n (pc := 0) hx hcb dX10_isFlag_0 rfl (lv_at hl 0 rfl) ?_
  refine lv_if_eq (tgt := 9) (pc := 1) hx hcb dX10_isFlag_1 (by decide) (fun c1 => ?_) (fun c1 => ?_)
  · have h := h.1 c1
    refine lv_iconst (v := 1) (pc := 9) hx hcb dX10_isFlag_9 rfl ?_
    refine lv_goto (tgt := 14) (pc := 10) hx hcb dX10_isFlag_10 (by decide) ?_
    exact hret _ _ _ _ _ _ rfl ⟨h, rfl⟩ hW dX10_isFlag_14
  · have h := h.2 c1
    refine lv_iload_n (pc := 4) hx hcb dX10_isFlag_4 rfl (lv_at hl 0 rfl) ?_
    refine lv_iconst (v := 1) (pc := 5) hx hcb dX10_isFlag_5 rfl ?_
    refine lv_icmp_ne (tgt := 13) (pc := 6) hx hcb dX10_isFlag_6 (by decide) (fun c6 => ?_) (fun c6 => ?_)
    · have h := h.1 c6
      refine lv_iconst (v := 0) (pc := 13) hx hcb dX10_isFlag_13 rfl ?_
      exact hret _ _ _ _ _ _ rfl ⟨h, rfl⟩ hW dX10_isFlag_14
    · have h := h.2 c6
      refine lv_iconst (v := 1) (pc := 9) hx hcb dX10_isFlag_9 rfl ?_
      refine lv_goto (tgt := 14) (pc := 10) hx hcb dX10_isFlag_10 (by decide) ?_
      exact hret _ _ _ _ _ _ rfl ⟨h, rfl⟩ hW dX10_isFlag_14
abbrev rm_X10_orNone : Room := { frames := 0, cells := 0, slots := 0, locals := 0 }
set_option maxHeartbeats 4000000 in
set_option maxRecDepth 100000 in
theorem c_X10_orNone (l : Launch) (X : KX) (σ : Mm) (x0 : Int32) (Φ : Int32 → Prop) (h : wp_X10_orNone x0 Φ) : Met l yX10_orNone (.code yX10_orNone cX10_orNone 1 (some .int) :: kT) rm_X10_orNone (va_Pc [.int x0] (kPre kZC X σ)) (va_Qi (fun r σ' => Φ r ∧ σ = σ') (fun σ' t => kPre kZC X σ' t) (kA kZC X)) 0 0 (kA kZC X) := by
  refine kofI (by decide) (Nat.le_of_ble_eq_true rfl) ?_
  intro p e s m args below meth c ls Q hx hcb hml hown hts hS hW hl hret
  have hown : s.vm.findClass RX10 = some m.cls := hown
  have hl : lv_has ls 1 [(0, .int x0)] := hl
  unfold wp_X10_orNone at h
  refine lv_iload_n (pc := 0) hx hcb dX10_orNone_0 rfl (lv_at hl 0 rfl) ?_
  refine lv_if_lt (tgt := 8) (pc := 1) hx hcb dX10_orNone_1 (by decide) (fun c1 => ?_) (fun c1 => ?_)
  · have h := h.1 c1
    refine lv_bipush (v := (-4)) (pc := 8) hx hcb dX10_orNone_8 rfl ?_
    exact hret _ _ _ _ _ _ rfl ⟨h, rfl⟩ hW dX10_orNone_10
  · have h := h.2 c1
    refine lv_iload_n (pc := 4) hx hcb dX10_orNone_4 rfl (lv_at hl 0 rfl) ?_
    refine lv_goto (tgt := 10) (pc := 5) hx hcb dX10_orNone_5 (by decide) ?_
    exact hret _ _ _ _ _ _ rfl ⟨h, rfl⟩ hW dX10_orNone_10
