abbrev rm_X11_gone : Room := { frames := 2, cells := 0, slots := 0, locals := 50 }
set_option maxHeartbeats 4000000 in
set_option maxRecDepth 100000 in
theorem c_X11_gone (l : Launch) (X : KX) (σ : Mm) (x1 : Int32) (x2 : Int32) (x3 : Int32) (Φ : Int32 → Prop) (h : wp_X11_gone σ x1 x2 x3 Φ) : Met l yX11_gone (.code yX11_gone cX11_gone 6 (some .int) :: kT) rm_X11_gone (va_Pc [.ref (X.2.1 0), .int x1, .int x2, .int x3] (kPre kZM X σ)) (va_Qi (fun r σ' => Φ r ∧ σ = σ') (fun σ' t => kPre kZM X σ' t) (kA kZM X)) 0 0 (kA kZM X) := by
  refine kofI (by decide) (Nat.le_of_ble_eq_true rfl) ?_
  intro p e s m args below meth c ls Q hx hcb hml hown hts hS hW hl hret
  have hown : s.vm.findClass RX11 = some m.cls := hown
  have hl : lv_has ls 6 [(0, .ref (X.2.1 0)), (1, .int x1), (2, .int x2), (3, .int x3)] := hl
  unfold wp_X11_gone at h
  refine lv_iload_n (pc := 0) hx hcb dX11_gone_0 rfl (lv_at hl 1 rfl) ?_
  refine lv_istore (lv' := [(4, .int x1), (0, .ref (X.2.1 0)), (1, .int x1), (2, .int x2), (3, .int x3)]) (pc := 1) hx hcb dX11_gone_1 hl (by decide) rfl (fun ls hl => ?_)
  refine lv_iconst (v := 1) (pc := 3) hx hcb dX11_gone_3 rfl ?_
  refine lv_istore (lv' := [(5, .int 1), (4, .int x1), (0, .ref (X.2.1 0)), (1, .int x1), (2, .int x2), (3, .int x3)]) (pc := 4) hx hcb dX11_gone_4 hl (by decide) rfl (fun ls hl => ?_)
  have hL6 : ∀ (n : Nat) (x4_1 : Int32) (x5_2 : Int32) (H : Heap) (locs : List Loc) (ls : Array Slot), wp_X11_gone_L6 x2 x3 σ Φ n x4_1 x5_2 → kW kZM X (kA kZM X) s σ H locs → lv_has ls 6 [(0, .ref (X.2.1 0)), (2, .int x2), (3, .int x3), (4, .int x4_1), (5, .int x5_2)] → W p l e rm_X11_gone s m args below meth c H locs 0 0 Q (F0 m 6 ls []) := by
    intro n
    induction n with
    | zero =>
      intro x4_1 x5_2 H locs ls h
      exact False.elim h
    | succ n ih =>
      intro x4_1 x5_2 H locs ls h hW hl
      unfold wp_X11_gone_L6 at h
      refine lv_iload (pc := 6) hx hcb dX11_gone_6 (lv_at hl 4 rfl) ?_
      refine lv_iload_n (pc := 8) hx hcb dX11_gone_8 rfl (lv_at hl 2 rfl) ?_
      refine lv_icmp_gt (tgt := 30) (pc := 9) hx hcb dX11_gone_9 (by decide) (fun c9 => ?_) (fun c9 => ?_)
      · have h := h.1 c9
        refine lv_iload (pc := 30) hx hcb dX11_gone_30 (lv_at hl 3 rfl) ?_
        exact hret _ _ _ _ _ _ rfl ⟨h, rfl⟩ hW dX11_gone_32
      · have h := h.2 c9
        refine lv_aload_n (pc := 12) hx hcb dX11_gone_12 rfl (lv_at hl 0 rfl) ?_
        refine lv_iload (pc := 13) hx hcb dX11_gone_13 (lv_at hl 3 rfl) ?_
        refine lv_iload_n (pc := 15) hx hcb dX11_gone_15 rfl (lv_at hl 1 rfl) ?_
        refine lv_iload (pc := 16) hx hcb dX11_gone_16 (lv_at hl 4 rfl) ?_
        refine lv_iadd (pc := 18) hx hcb dX11_gone_18 ?_
        refine kci (krunV (As := [.int x4_1, .int (x2 + x5_2)]) (rest := []) (pc := 19) hx hcb hml hown hts hS hW (c_X11_after l X σ x4_1 (x2 + x5_2) _ h) mf_X11_after q1023 kOM_0 rfl ⟨rfl, rfl⟩ ⟨Nat.le_of_ble_eq_true rfl, Nat.le_of_ble_eq_true rfl⟩ rfl hl.1 rfl (Nat.le_of_ble_eq_true rfl) dX11_gone_19 ⟨Nat.zero_le _, Nat.zero_le _⟩) hS hW (fun r4 σ3 H locs h hW => ?_)
        obtain ⟨h, rfl⟩ := h
        refine lv_istore (lv' := [(4, .int r4), (0, .ref (X.2.1 0)), (2, .int x2), (3, .int x3), (5, .int x5_2)]) (pc := 22) hx hcb dX11_gone_22 hl (by decide) rfl (fun ls hl => ?_)
        refine lv_iinc (v := x5_2 + 1) (lv' := [(5, .int (x5_2 + 1)), (4, .int r4), (0, .ref (X.2.1 0)), (2, .int x2), (3, .int x3)]) (pc := 24) hx hcb dX11_gone_24 hl (k := 4) rfl rfl (by decide) rfl (fun ls hl => ?_)
        refine lv_goto (tgt := 6) (pc := 27) hx hcb dX11_gone_27 (by decide) ?_
        exact ih r4 (x5_2 + 1) _ _ _ h hW (lv_sub hl [2, 3, 4, 1, 0] rfl)
  obtain ⟨n, h⟩ := h
  exact hL6 n x1 1 _ _ _ h hW (lv_sub hl [2, 4, 5, 1, 0] rfl)
abbrev rm_X11_calf : Room := { frames := 3, cells := 0, slots := 0, locals := 75 }
set_option maxHeartbeats 4000000 in
set_option maxRecDepth 100000 in
theorem c_X11_calf (l : Launch) (X : KX) (σ : Mm) (x1 : Int32) (x2 : Int32) (Φ : Int32 → Prop) (h : wp_X11_calf σ x1 x2 Φ) : Met l yX11_calf (.code yX11_calf cX11_calf 4 (some .int) :: kT) rm_X11_calf (va_Pc [.ref (X.2.1 0), .int x1, .int x2] (kPre kZM X σ)) (va_Qi (fun r σ' => Φ r ∧ σ = σ') (fun σ' t => kPre kZM X σ' t) (kA kZM X)) 0 0 (kA kZM X) := by
  refine kofI (by decide) (Nat.le_of_ble_eq_true rfl) ?_
  intro p e s m args below meth c ls Q hx hcb hml hown hts hS hW hl hret
  have hown : s.vm.findClass RX11 = some m.cls := hown
  have hl : lv_has ls 4 [(0, .ref (X.2.1 0)), (1, .int x1), (2, .int x2)] := hl
  unfold wp_X11_calf at h
  refine lv_iload_n (pc := 0) hx hcb dX11_calf_0 rfl (lv_at hl 1 rfl) ?_
  refine lv_iconst (v := 0) (pc := 1) hx hcb dX11_calf_1 rfl ?_
  refine lv_sipush (v := 400) (pc := 2) hx hcb dX11_calf_2 rfl ?_
  refine kci (krunS (As := [.int x1, .int 0, .int 400]) (rest := []) (pc := 5) hx hcb hml hown hts hS hW (c_X11_in l X σ x1 0 400 _ h) mf_X11_in q936 ⟨rfl, rfl⟩ ⟨Nat.le_of_ble_eq_true rfl, Nat.le_of_ble_eq_true rfl⟩ rfl hl.1 rfl (Nat.le_of_ble_eq_true rfl) dX11_calf_5 ⟨Nat.zero_le _, Nat.zero_le _⟩) hS hW (fun r2 σ1 H locs h hW => ?_)
  obtain ⟨h, rfl⟩ := h
  refine lv_if_eq (tgt := 20) (pc := 8) hx hcb dX11_calf_8 (by decide) (fun c8 => ?_) (fun c8 => ?_)
  · have h := h.1 c8
    refine lv_iconst (v := (-1)) (pc := 20) hx hcb dX11_calf_20 rfl ?_
    exact hret _ _ _ _ _ _ rfl ⟨h, rfl⟩ hW dX11_calf_21
  · have h := h.2 c8
    refine lv_iload_n (pc := 11) hx hcb dX11_calf_11 rfl (lv_at hl 2 rfl) ?_
    refine lv_iconst (v := 0) (pc := 12) hx hcb dX11_calf_12 rfl ?_
    refine lv_iconst (v := 1) (pc := 13) hx hcb dX11_calf_13 rfl ?_
    refine kci (krunS (As := [.int x2, .int 0, .int 1]) (rest := []) (pc := 14) hx hcb hml hown hts hS hW (c_X11_in l X σ x2 0 1 _ h) mf_X11_in q936 ⟨rfl, rfl⟩ ⟨Nat.le_of_ble_eq_true rfl, Nat.le_of_ble_eq_true rfl⟩ rfl hl.1 rfl (Nat.le_of_ble_eq_true rfl) dX11_calf_14 ⟨Nat.zero_le _, Nat.zero_le _⟩) hS hW (fun r4 σ3 H locs h hW => ?_)
    obtain ⟨h, rfl⟩ := h
    refine lv_if_ne (tgt := 22) (pc := 17) hx hcb dX11_calf_17 (by decide) (fun c17 => ?_) (fun c17 => ?_)
    · have h := h.1 c17
      refine lv_aload_n (pc := 22) hx hcb dX11_calf_22 rfl (lv_at hl 0 rfl) ?_
      refine lv_aload_n (pc := 23) hx hcb dX11_calf_23 rfl (lv_at hl 0 rfl) ?_
      refine kget (v := .ref (X.2.1 4)) (pc := 24) hx hcb hts hown hS hW iwX11 kOM_0 rfl 7 (by decide) q865 rfl rfl dX11_calf_24 ?_
      refine lv_iconst (v := 1) (pc := 27) hx hcb dX11_calf_27 rfl ?_
      refine kiald 1 (pc := 28) hx hcb hS hW kIM_4 rfl (kin_of ⟨by decide, by decide⟩ (by decide)) dX11_calf_28 ?_
      refine lv_aload_n (pc := 29) hx hcb dX11_calf_29 rfl (lv_at hl 0 rfl) ?_
      refine kget (v := .ref (X.2.1 4)) (pc := 30) hx hcb hts hown hS hW iwX11 kOM_0 rfl 7 (by decide) q865 rfl rfl dX11_calf_30 ?_
      refine lv_iconst (v := 0) (pc := 33) hx hcb dX11_calf_33 rfl ?_
      refine kiald 0 (pc := 34) hx hcb hS hW kIM_4 rfl (kin_of ⟨by decide, by decide⟩ (by decide)) dX11_calf_34 ?_
      refine lv_iload_n (pc := 35) hx hcb dX11_calf_35 rfl (lv_at hl 1 rfl) ?_
      refine kci (krunV (As := [.int (σ.1 4 1), .int (σ.1 4 0), .int x1]) (rest := []) (pc := 36) hx hcb hml hown hts hS hW (c_X11_gone l X σ (σ.1 4 1) (σ.1 4 0) x1 _ h) mf_X11_gone q1019 kOM_0 rfl ⟨rfl, rfl⟩ ⟨Nat.le_of_ble_eq_true rfl, Nat.le_of_ble_eq_true rfl⟩ rfl hl.1 rfl (Nat.le_of_ble_eq_true rfl) dX11_calf_36 ⟨Nat.zero_le _, Nat.zero_le _⟩) hS hW (fun r6 σ5 H locs h hW => ?_)
      obtain ⟨h, rfl⟩ := h
      refine lv_istore_n (lv' := [(3, .int r6), (0, .ref (X.2.1 0)), (1, .int x1), (2, .int x2)]) (pc := 39) hx hcb dX11_calf_39 rfl hl (by decide) rfl (fun ls hl => ?_)
      refine lv_iload_n (pc := 40) hx hcb dX11_calf_40 rfl (lv_at hl 3 rfl) ?_
      refine lv_if_ne (tgt := 51) (pc := 41) hx hcb dX11_calf_41 (by decide) (fun c41 => ?_) (fun c41 => ?_)
      · have h := h.1 c41
        refine lv_iload_n (pc := 51) hx hcb dX11_calf_51 rfl (lv_at hl 0 rfl) ?_
        refine kci (krunS (As := [.int r6]) (rest := []) (pc := 52) hx hcb hml hown hts hS hW (c_X11_whomOf l X σ r6 _ h) mf_X11_whomOf q1027 ⟨rfl, rfl⟩ ⟨Nat.le_of_ble_eq_true rfl, Nat.le_of_ble_eq_true rfl⟩ rfl hl.1 rfl (Nat.le_of_ble_eq_true rfl) dX11_calf_52 ⟨Nat.zero_le _, Nat.zero_le _⟩) hS hW (fun r8 σ7 H locs h hW => ?_)
        obtain ⟨h, rfl⟩ := h
        refine lv_if_ge (tgt := 63) (pc := 55) hx hcb dX11_calf_55 (by decide) (fun c55 => ?_) (fun c55 => ?_)
        · have h := h.1 c55
          refine lv_iload_n (pc := 63) hx hcb dX11_calf_63 rfl (lv_at hl 0 rfl) ?_
          refine kci (krunS (As := [.int r6]) (rest := []) (pc := 64) hx hcb hml hown hts hS hW (c_X11_whomOf l X σ r6 _ h) mf_X11_whomOf q1027 ⟨rfl, rfl⟩ ⟨Nat.le_of_ble_eq_true rfl, Nat.le_of_ble_eq_true rfl⟩ rfl hl.1 rfl (Nat.le_of_ble_eq_true rfl) dX11_calf_64 ⟨Nat.zero_le _, Nat.zero_le _⟩) hS hW (fun r10 σ9 H locs h hW => ?_)
          obtain ⟨h, rfl⟩ := h
          exact hret _ _ _ _ _ _ rfl ⟨h, rfl⟩ hW dX11_calf_67
        · have h := h.2 c55
          refine lv_bipush (v := (-4)) (pc := 58) hx hcb dX11_calf_58 rfl ?_
          refine lv_goto (tgt := 67) (pc := 60) hx hcb dX11_calf_60 (by decide) ?_
          exact hret _ _ _ _ _ _ rfl ⟨h, rfl⟩ hW dX11_calf_67
      · have h := h.2 c41
        refine lv_iload_n (pc := 44) hx hcb dX11_calf_44 rfl (lv_at hl 0 rfl) ?_
        refine kci (krunS (As := [.int r6]) (rest := []) (pc := 45) hx hcb hml hown hts hS hW (c_X11_yardOf l X σ r6 _ h) mf_X11_yardOf q1004 ⟨rfl, rfl⟩ ⟨Nat.le_of_ble_eq_true rfl, Nat.le_of_ble_eq_true rfl⟩ rfl hl.1 rfl (Nat.le_of_ble_eq_true rfl) dX11_calf_45 ⟨Nat.zero_le _, Nat.zero_le _⟩) hS hW (fun r12 σ11 H locs h hW => ?_)
        obtain ⟨h, rfl⟩ := h
        refine lv_goto (tgt := 67) (pc := 48) hx hcb dX11_calf_48 (by decide) ?_
        exact hret _ _ _ _ _ _ rfl ⟨h, rfl⟩ hW dX11_calf_67
    · have h := h.2 c17
      refine lv_iconst (v := (-1)) (pc := 20) hx hcb dX11_calf_20 rfl ?_
      exact hret _ _ _ _ _ _ rfl ⟨h, rfl⟩ hW dX11_calf_21
abbrev rm_X11_isWonBy : Room := { frames := 2, cells := 0, slots := 0, locals := 50 }
set_option maxHeartbeats 4000000 in
set_option maxRecDepth 100000 in
theorem c_X11_isWonBy (l : Launch) (X : KX) (σ : Mm) (x1 : Int32) (x2 : Int32) (x3 : Int32) (Φ : Int32 → Prop) (h : wp_X11_isWonBy σ x1 x2 x3 Φ) : Met l yX11_isWonBy (.code yX11_isWonBy cX11_isWonBy 4 (some .boolean) :: kT) rm_X11_isWonBy (va_Pc [.ref (X.2.1 0), .int x1, .int x2, .int x3] (kPre kZM X σ)) (va_Qi (fun r σ' => Φ r ∧ σ = σ') (fun σ' t => kPre kZM X σ' t) (kA kZM X)) 0 0 (kA kZM X) := by
  refine kofI (by decide) (Nat.le_of_ble_eq_true rfl) ?_
  intro p e s m args below meth c ls Q hx hcb hml hown hts hS hW hl hret
  have hown : s.vm.findClass RX11 = some m.cls := hown
  have hl : lv_has ls 4 [(0, .ref (X.2.1 0)), (1, .int x1), (2, .int x2), (3, .int x3)] := hl
  unfold wp_X11_isWonBy at h
  refine lv_aload_n (pc := 0) hx hcb dX11_isWonBy_0 rfl (lv_at hl 0 rfl) ?_
  refine kget (v := .ref (X.2.1 11)) (pc := 1) hx hcb hts hown hS hW iwX11 kOM_0 rfl 17 (by decide) q875 rfl rfl dX11_isWonBy_1 ?_
  refine lv_aload_n (pc := 4) hx hcb dX11_isWonBy_4 rfl (lv_at hl 0 rfl) ?_
  refine lv_iload_n (pc := 5) hx hcb dX11_isWonBy_5 rfl (lv_at hl 3 rfl) ?_
  obtain ⟨K19, hk19, h⟩ := h
  have hK19 : ∀ (v1 : Int32) (H : Heap) (locs : List Loc) (ls : Array Slot), K19 v1 → kW kZM X (kA kZM X) s σ H locs → lv_has ls 4 [(0, .ref (X.2.1 0)), (2, .int x2)] → W p l e rm_X11_isWonBy s m args below meth c H locs 0 0 Q (F0 m 19 ls [.int v1, .ref (X.2.1 0), .ref (X.2.1 11)]) := by
    intro v1 H locs ls h hW hl
    have h := hk19 v1 h
    refine lv_aload_n (pc := 19) hx hcb dX11_isWonBy_19 rfl (lv_at hl 0 rfl) ?_
    refine kget (v := .ref (X.2.1 4)) (pc := 20) hx hcb hts hown hS hW iwX11 kOM_0 rfl 7 (by decide) q865 rfl rfl dX11_isWonBy_20 ?_
    refine lv_iconst (v := 0) (pc := 23) hx hcb dX11_isWonBy_23 rfl ?_
    refine kiald 0 (pc := 24) hx hcb hS hW kIM_4 rfl (kin_of ⟨by decide, by decide⟩ (by decide)) dX11_isWonBy_24 ?_
    refine lv_iload_n (pc := 25) hx hcb dX11_isWonBy_25 rfl (lv_at hl 1 rfl) ?_
    refine lv_iadd (pc := 26) hx hcb dX11_isWonBy_26 ?_
    refine lv_iconst (v := 1) (pc := 27) hx hcb dX11_isWonBy_27 rfl ?_
    refine lv_iadd (pc := 28) hx hcb dX11_isWonBy_28 ?_
    refine kci (krunV (As := [.int v1, .int (((σ.1 4 0) + x2) + 1)]) (rest := [.ref (X.2.1 11)]) (pc := 29) hx hcb hml hown hts hS hW (c_X11_after l X σ v1 (((σ.1 4 0) + x2) + 1) _ h) mf_X11_after q1023 kOM_0 rfl ⟨rfl, rfl⟩ ⟨Nat.le_of_ble_eq_true rfl, Nat.le_of_ble_eq_true rfl⟩ rfl hl.1 rfl (Nat.le_of_ble_eq_true rfl) dX11_isWonBy_29 ⟨Nat.zero_le _, Nat.zero_le _⟩) hS hW (fun r3 σ2 H locs h hW => ?_)
    obtain ⟨h, rfl⟩ := h
    have hin4 := h.1
    have h := h.2
    refine kzald (r3.toNatClampNeg) (pc := 32) hx hcb hS hW kZM_11 rfl (kin_of hin4 (by decide)) dX11_isWonBy_32 ?_
    have hbt := h.1
    have h := h.2
    exact hret _ _ _ _ _ _ (kbit_n hbt) ⟨h, rfl⟩ hW dX11_isWonBy_33
  refine lv_if_ge (tgt := 13) (pc := 6) hx hcb dX11_isWonBy_6 (by decide) (fun c6 => ?_) (fun c6 => ?_)
  · have h := h.1 c6
    refine lv_aload_n (pc := 13) hx hcb dX11_isWonBy_13 rfl (lv_at hl 0 rfl) ?_
    refine lv_iload_n (pc := 14) hx hcb dX11_isWonBy_14 rfl (lv_at hl 1 rfl) ?_
    refine lv_iload_n (pc := 15) hx hcb dX11_isWonBy_15 rfl (lv_at hl 3 rfl) ?_
    refine kci (krunV (As := [.int x1, .int x3]) (rest := [.ref (X.2.1 0), .ref (X.2.1 11)]) (pc := 16) hx hcb hml hown hts hS hW (c_X11_fedBy l X σ x1 x3 _ h) mf_X11_fedBy q1011 kOM_0 rfl ⟨rfl, rfl⟩ ⟨Nat.le_of_ble_eq_true rfl, Nat.le_of_ble_eq_true rfl⟩ rfl hl.1 rfl (Nat.le_of_ble_eq_true rfl) dX11_isWonBy_16 ⟨Nat.zero_le _, Nat.zero_le _⟩) hS hW (fun r6 σ5 H locs h hW => ?_)
    obtain ⟨h, rfl⟩ := h
    exact hK19 r6 _ _ _ h hW (lv_sub hl [0, 2] rfl)
  · have h := h.2 c6
    refine lv_iload_n (pc := 9) hx hcb dX11_isWonBy_9 rfl (lv_at hl 1 rfl) ?_
    refine lv_goto (tgt := 19) (pc := 10) hx hcb dX11_isWonBy_10 (by decide) ?_
    exact hK19 x1 _ _ _ h hW (lv_sub hl [0, 2] rfl)
abbrev rm_X11_canWin : Room := { frames := 3, cells := 0, slots := 0, locals := 73 }
set_option maxHeartbeats 4000000 in
set_option maxRecDepth 100000 in
theorem c_X11_canWin (l : Launch) (X : KX) (σ : Mm) (x1 : Int32) (x2 : Int32) (x3 : Int32) (Φ : Int32 → Prop) (h : wp_X11_canWin σ x1 x2 x3 Φ) : Met l yX11_canWin (.code yX11_canWin cX11_canWin 7 (some .boolean) :: kT) rm_X11_canWin (va_Pc [.ref (X.2.1 0), .int x1, .int x2, .int x3] (kPre kZM X σ)) (va_Qi (fun r σ' => Φ r ∧ σ = σ') (fun σ' t => kPre kZM X σ' t) (kA kZM X)) 0 0 (kA kZM X) := by
  refine kofI (by decide) (Nat.le_of_ble_eq_true rfl) ?_
  intro p e s m args below meth c ls Q hx hcb hml hown hts hS hW hl hret
  have hown : s.vm.findClass RX11 = some m.cls := hown
  have hl : lv_has ls 7 [(0, .ref (X.2.1 0)), (1, .int x1), (2, .int x2), (3, .int x3)] := hl
  unfold wp_X11_canWin at h
  refine lv_iload_n (pc := 0) hx hcb dX11_canWin_0 rfl (lv_at hl 2 rfl) ?_
  refine lv_iconst (v := 2) (pc := 1) hx hcb dX11_canWin_1 rfl ?_
  refine lv_irem (pc := 2) hx hcb dX11_canWin_2 (by decide) ?_
  obtain ⟨K11, hk11, h⟩ := h
  have hK11 : ∀ (v1 : Int32) (H : Heap) (locs : List Loc) (ls : Array Slot), K11 v1 → kW kZM X (kA kZM X) s σ H locs → lv_has ls 7 [(0, .ref (X.2.1 0)), (1, .int x1), (2, .int x2), (3, .int x3)] → W p l e rm_X11_canWin s m args below meth c H locs 0 0 Q (F0 m 11 ls [.int v1]) := by
    intro v1 H locs ls h hW hl
    have h := hk11 v1 h
    refine lv_istore (lv' := [(4, .int v1), (0, .ref (X.2.1 0)), (1, .int x1), (2, .int x2), (3, .int x3)]) (pc := 11) hx hcb dX11_canWin_11 hl (by decide) rfl (fun ls hl => ?_)
    refine lv_aload_n (pc := 13) hx hcb dX11_canWin_13 rfl (lv_at hl 1 rfl) ?_
    refine lv_iload_n (pc := 14) hx hcb dX11_canWin_14 rfl (lv_at hl 2 rfl) ?_
    refine lv_iload_n (pc := 15) hx hcb dX11_canWin_15 rfl (lv_at hl 3 rfl) ?_
    refine lv_iconst (v := (-1)) (pc := 16) hx hcb dX11_canWin_16 rfl ?_
    refine kci (krunV (As := [.int x1, .int x2, .int (-1)]) (rest := []) (pc := 17) hx hcb hml hown hts hS hW (c_X11_isWonBy l X σ x1 x2 (-1) _ h) mf_X11_isWonBy q1094 kOM_0 rfl ⟨rfl, rfl⟩ ⟨Nat.le_of_ble_eq_true rfl, Nat.le_of_ble_eq_true rfl⟩ rfl hl.1 rfl (Nat.le_of_ble_eq_true rfl) dX11_canWin_17 ⟨Nat.zero_le _, Nat.zero_le _⟩) hS hW (fun r3 σ2 H locs h hW => ?_)
    obtain ⟨h, rfl⟩ := h
    refine lv_istore (lv' := [(5, .int r3), (4, .int v1), (0, .ref (X.2.1 0)), (1, .int x1), (2, .int x2), (3, .int x3)]) (pc := 20) hx hcb dX11_canWin_20 hl (by decide) rfl (fun ls hl => ?_)
    refine lv_iconst (v := 0) (pc := 22) hx hcb dX11_canWin_22 rfl ?_
    refine lv_istore (lv' := [(6, .int 0), (5, .int r3), (4, .int v1), (0, .ref (X.2.1 0)), (1, .int x1), (2, .int x2), (3, .int x3)]) (pc := 23) hx hcb dX11_canWin_23 hl (by decide) rfl (fun ls hl => ?_)
    have hL25 : ∀ (n : Nat) (x5_4 : Int32) (x6_5 : Int32) (H : Heap) (locs : List Loc) (ls : Array Slot), wp_X11_canWin_L25 x1 x2 x3 σ Φ v1 n x5_4 x6_5 → kW kZM X (kA kZM X) s σ H locs → lv_has ls 7 [(0, .ref (X.2.1 0)), (1, .int x1), (2, .int x2), (3, .int x3), (4, .int v1), (5, .int x5_4), (6, .int x6_5)] → W p l e rm_X11_canWin s m args below meth c H locs 0 0 Q (F0 m 25 ls []) := by
      intro n
      induction n with
      | zero =>
        intro x5_4 x6_5 H locs ls h
        exact False.elim h
      | succ n ih =>
        intro x5_4 x6_5 H locs ls h hW hl
        unfold wp_X11_canWin_L25 at h
        refine lv_iload (pc := 25) hx hcb dX11_canWin_25 (lv_at hl 6 rfl) ?_
        refine lv_aload_n (pc := 27) hx hcb dX11_canWin_27 rfl (lv_at hl 0 rfl) ?_
        refine kget (v := .ref (X.2.1 1)) (pc := 28) hx hcb hts hown hS hW iwX11 kOM_0 rfl 0 (by decide) q858 rfl rfl dX11_canWin_28 ?_
        refine lv_iconst (v := 1) (pc := 31) hx hcb dX11_canWin_31 rfl ?_
        refine kiald 1 (pc := 32) hx hcb hS hW kIM_1 rfl (kin_of ⟨by decide, by decide⟩ (by decide)) dX11_canWin_32 ?_
        refine lv_icmp_ge (tgt := 131) (pc := 33) hx hcb dX11_canWin_33 (by decide) (fun c33 => ?_) (fun c33 => ?_)
        · have h := h.1 c33
          refine lv_iload (pc := 131) hx hcb dX11_canWin_131 (lv_at hl 5 rfl) ?_
          have hbt := h.1
          have h := h.2
          exact hret _ _ _ _ _ _ (kbit_n hbt) ⟨h, rfl⟩ hW dX11_canWin_133
        · have h := h.2 c33
          refine lv_iload_n (pc := 36) hx hcb dX11_canWin_36 rfl (lv_at hl 3 rfl) ?_
          refine lv_iload (pc := 37) hx hcb dX11_canWin_37 (lv_at hl 6 rfl) ?_
          refine lv_ishr (pc := 39) hx hcb dX11_canWin_39 ?_
          refine lv_iconst (v := 1) (pc := 40) hx hcb dX11_canWin_40 rfl ?_
          refine lv_iand (pc := 41) hx hcb dX11_canWin_41 ?_
          refine lv_iload (pc := 42) hx hcb dX11_canWin_42 (lv_at hl 4 rfl) ?_
          obtain ⟨K52, hk52, h⟩ := h
          have hK52 : ∀ (v6 : Int32) (H : Heap) (locs : List Loc) (ls : Array Slot), K52 v6 → kW kZM X (kA kZM X) s σ H locs → lv_has ls 7 [(0, .ref (X.2.1 0)), (1, .int x1), (2, .int x2), (3, .int x3), (4, .int v1), (5, .int x5_4), (6, .int x6_5)] → W p l e rm_X11_canWin s m args below meth c H locs 0 0 Q (F0 m 52 ls [.int v6, .int ((x3 >>> (x6_5 &&& 31)) &&& 1)]) := by
            intro v6 H locs ls h hW hl
            have h := hk52 v6 h
            obtain ⟨K125, hk125, h⟩ := h
            have hK125 : ∀ (x5_7 : Int32) (H : Heap) (locs : List Loc) (ls : Array Slot), K125 x5_7 → kW kZM X (kA kZM X) s σ H locs → lv_has ls 7 [(0, .ref (X.2.1 0)), (1, .int x1), (2, .int x2), (3, .int x3), (4, .int v1), (5, .int x5_7), (6, .int x6_5)] → W p l e rm_X11_canWin s m args below meth c H locs 0 0 Q (F0 m 125 ls []) := by
              intro x5_7 H locs ls h hW hl
              have h := hk125 x5_7 h
              refine lv_iinc (v := x6_5 + 1) (lv' := [(6, .int (x6_5 + 1)), (0, .ref (X.2.1 0)), (1, .int x1), (2, .int x2), (3, .int x3), (4, .int v1), (5, .int x5_7)]) (pc := 125) hx hcb dX11_canWin_125 hl (k := 6) rfl rfl (by decide) rfl (fun ls hl => ?_)
              refine lv_goto (tgt := 25) (pc := 128) hx hcb dX11_canWin_128 (by decide) ?_
              exact ih x5_7 (x6_5 + 1) _ _ _ h hW (lv_sub hl [1, 2, 3, 4, 5, 6, 0] rfl)
            refine lv_icmp_ne (tgt := 125) (pc := 52) hx hcb dX11_canWin_52 (by decide) (fun c52 => ?_) (fun c52 => ?_)
            · have h := h.1 c52
              exact hK125 x5_4 _ _ _ h hW (lv_sub hl [0, 1, 2, 3, 4, 5, 6] rfl)
            · have h := h.2 c52
              refine lv_aload_n (pc := 55) hx hcb dX11_canWin_55 rfl (lv_at hl 0 rfl) ?_
              refine lv_iload_n (pc := 56) hx hcb dX11_canWin_56 rfl (lv_at hl 1 rfl) ?_
              refine lv_iload (pc := 57) hx hcb dX11_canWin_57 (lv_at hl 6 rfl) ?_
              refine lv_aload_n (pc := 59) hx hcb dX11_canWin_59 rfl (lv_at hl 0 rfl) ?_
              refine kget (v := .ref (X.2.1 4)) (pc := 60) hx hcb hts hown hS hW iwX11 kOM_0 rfl 7 (by decide) q865 rfl rfl dX11_canWin_60 ?_
              refine lv_iconst (v := 0) (pc := 63) hx hcb dX11_canWin_63 rfl ?_
              refine kiald 0 (pc := 64) hx hcb hS hW kIM_4 rfl (kin_of ⟨by decide, by decide⟩ (by decide)) dX11_canWin_64 ?_
              refine lv_iload_n (pc := 65) hx hcb dX11_canWin_65 rfl (lv_at hl 2 rfl) ?_
              refine lv_iadd (pc := 66) hx hcb dX11_canWin_66 ?_
              refine kci (krunV (As := [.int x1, .int x6_5, .int ((σ.1 4 0) + x2)]) (rest := []) (pc := 67) hx hcb hml hown hts hS hW (c_X11_mayFeed l X σ x1 x6_5 ((σ.1 4 0) + x2) _ h) mf_X11_mayFeed q1000 kOM_0 rfl ⟨rfl, rfl⟩ ⟨Nat.le_of_ble_eq_true rfl, Nat.le_of_ble_eq_true rfl⟩ rfl hl.1 rfl (Nat.le_of_ble_eq_true rfl) dX11_canWin_67 ⟨Nat.zero_le _, Nat.zero_le _⟩) hS hW (fun r9 σ8 H locs h hW => ?_)
              obtain ⟨h, rfl⟩ := h
              refine lv_if_eq (tgt := 125) (pc := 70) hx hcb dX11_canWin_70 (by decide) (fun c70 => ?_) (fun c70 => ?_)
              · have h := h.1 c70
                exact hK125 x5_4 _ _ _ h hW (lv_sub hl [0, 1, 2, 3, 4, 5, 6] rfl)
              · have h := h.2 c70
                refine lv_iload (pc := 73) hx hcb dX11_canWin_73 (lv_at hl 4 rfl) ?_
                obtain ⟨K123, hk123, h⟩ := h
                have hK123 : ∀ (v10 : Int32) (H : Heap) (locs : List Loc) (ls : Array Slot), K123 v10 → kW kZM X (kA kZM X) s σ H locs → lv_has ls 7 [(0, .ref (X.2.1 0)), (1, .int x1), (2, .int x2), (3, .int x3), (4, .int v1), (6, .int x6_5)] → W p l e rm_X11_canWin s m args below meth c H locs 0 0 Q (F0 m 123 ls [.int v10]) := by
                  intro v10 H locs ls h hW hl
                  have h := hk123 v10 h
                  refine lv_istore (lv' := [(5, .int v10), (0, .ref (X.2.1 0)), (1, .int x1), (2, .int x2), (3, .int x3), (4, .int v1), (6, .int x6_5)]) (pc := 123) hx hcb dX11_canWin_123 hl (by decide) rfl (fun ls hl => ?_)
                  exact hK125 v10 _ _ _ h hW (lv_sub hl [1, 2, 3, 4, 5, 0, 6] rfl)
                refine lv_if_eq (tgt := 102) (pc := 75) hx hcb dX11_canWin_75 (by decide) (fun c75 => ?_) (fun c75 => ?_)
                · have h := h.1 c75
                  refine lv_iload (pc := 102) hx hcb dX11_canWin_102 (lv_at hl 5 rfl) ?_
                  obtain ⟨K122, hk122, h⟩ := h
                  have hK122 : ∀  (H : Heap) (locs : List Loc) (ls : Array Slot), K122 → kW kZM X (kA kZM X) s σ H locs → lv_has ls 7 [(0, .ref (X.2.1 0)), (1, .int x1), (2, .int x2), (3, .int x3), (4, .int v1), (6, .int x6_5)] → W p l e rm_X11_canWin s m args below meth c H locs 0 0 Q (F0 m 122 ls []) := by
                    intro  H locs ls h hW hl
                    have h := hk122 h
                    refine lv_iconst (v := 0) (pc := 122) hx hcb dX11_canWin_122 rfl ?_
                    exact hK123 0 _ _ _ h hW (lv_sub hl [0, 1, 2, 3, 4, 5] rfl)
                  refine lv_if_eq (tgt := 122) (pc := 104) hx hcb dX11_canWin_104 (by decide) (fun c104 => ?_) (fun c104 => ?_)
                  · have h := h.1 c104
                    exact hK122  _ _ _ h hW (lv_sub hl [0, 1, 2, 3, 4, 6] rfl)
                  · have h := h.2 c104
                    refine lv_aload_n (pc := 107) hx hcb dX11_canWin_107 rfl (lv_at hl 0 rfl) ?_
                    refine lv_iload_n (pc := 108) hx hcb dX11_canWin_108 rfl (lv_at hl 1 rfl) ?_
                    refine lv_iload_n (pc := 109) hx hcb dX11_canWin_109 rfl (lv_at hl 2 rfl) ?_
                    refine lv_iload (pc := 110) hx hcb dX11_canWin_110 (lv_at hl 6 rfl) ?_
                    refine kci (krunV (As := [.int x1, .int x2, .int x6_5]) (rest := []) (pc := 112) hx hcb hml hown hts hS hW (c_X11_isWonBy l X σ x1 x2 x6_5 _ h) mf_X11_isWonBy q1094 kOM_0 rfl ⟨rfl, rfl⟩ ⟨Nat.le_of_ble_eq_true rfl, Nat.le_of_ble_eq_true rfl⟩ rfl hl.1 rfl (Nat.le_of_ble_eq_true rfl) dX11_canWin_112 ⟨Nat.zero_le _, Nat.zero_le _⟩) hS hW (fun r12 σ11 H locs h hW => ?_)
                    obtain ⟨h, rfl⟩ := h
                    refine lv_if_eq (tgt := 122) (pc := 115) hx hcb dX11_canWin_115 (by decide) (fun c115 => ?_) (fun c115 => ?_)
                    · have h := h.1 c115
                      exact hK122  _ _ _ h hW (lv_sub hl [0, 1, 2, 3, 4, 6] rfl)
                    · have h := h.2 c115
                      refine lv_iconst (v := 1) (pc := 118) hx hcb dX11_canWin_118 rfl ?_
                      refine lv_goto (tgt := 123) (pc := 119) hx hcb dX11_canWin_119 (by decide) ?_
                      exact hK123 1 _ _ _ h hW (lv_sub hl [0, 1, 2, 3, 4, 6] rfl)
                · have h := h.2 c75
                  refine lv_iload (pc := 78) hx hcb dX11_canWin_78 (lv_at hl 5 rfl) ?_
                  obtain ⟨K94, hk94, h⟩ := h
                  have hK94 : ∀  (H : Heap) (locs : List Loc) (ls : Array Slot), K94 → kW kZM X (kA kZM X) s σ H locs → lv_has ls 7 [(0, .ref (X.2.1 0)), (1, .int x1), (2, .int x2), (3, .int x3), (4, .int v1), (6, .int x6_5)] → W p l e rm_X11_canWin s m args below meth c H locs 0 0 Q (F0 m 94 ls []) := by
                    intro  H locs ls h hW hl
                    have h := hk94 h
                    refine lv_iconst (v := 1) (pc := 94) hx hcb dX11_canWin_94 rfl ?_
                    refine lv_goto (tgt := 123) (pc := 95) hx hcb dX11_canWin_95 (by decide) ?_
                    exact hK123 1 _ _ _ h hW (lv_sub hl [0, 1, 2, 3, 4, 5] rfl)
                  refine lv_if_ne (tgt := 94) (pc := 80) hx hcb dX11_canWin_80 (by decide) (fun c80 => ?_) (fun c80 => ?_)
                  · have h := h.1 c80
                    exact hK94  _ _ _ h hW (lv_sub hl [0, 1, 2, 3, 4, 6] rfl)
                  · have h := h.2 c80
                    refine lv_aload_n (pc := 83) hx hcb dX11_canWin_83 rfl (lv_at hl 0 rfl) ?_
                    refine lv_iload_n (pc := 84) hx hcb dX11_canWin_84 rfl (lv_at hl 1 rfl) ?_
                    refine lv_iload_n (pc := 85) hx hcb dX11_canWin_85 rfl (lv_at hl 2 rfl) ?_
                    refine lv_iload (pc := 86) hx hcb dX11_canWin_86 (lv_at hl 6 rfl) ?_
                    refine kci (krunV (As := [.int x1, .int x2, .int x6_5]) (rest := []) (pc := 88) hx hcb hml hown hts hS hW (c_X11_isWonBy l X σ x1 x2 x6_5 _ h) mf_X11_isWonBy q1094 kOM_0 rfl ⟨rfl, rfl⟩ ⟨Nat.le_of_ble_eq_true rfl, Nat.le_of_ble_eq_true rfl⟩ rfl hl.1 rfl (Nat.le_of_ble_eq_true rfl) dX11_canWin_88 ⟨Nat.zero_le _, Nat.zero_le _⟩) hS hW (fun r14 σ13 H locs h hW => ?_)
                    obtain ⟨h, rfl⟩ := h
                    refine lv_if_eq (tgt := 98) (pc := 91) hx hcb dX11_canWin_91 (by decide) (fun c91 => ?_) (fun c91 => ?_)
                    · have h := h.1 c91
                      refine lv_iconst (v := 0) (pc := 98) hx hcb dX11_canWin_98 rfl ?_
                      refine lv_goto (tgt := 123) (pc := 99) hx hcb dX11_canWin_99 (by decide) ?_
                      exact hK123 0 _ _ _ h hW (lv_sub hl [0, 1, 2, 3, 4, 6] rfl)
                    · have h := h.2 c91
                      exact hK94  _ _ _ h hW (lv_sub hl [0, 1, 2, 3, 4, 6] rfl)
          refine lv_if_eq (tgt := 51) (pc := 44) hx hcb dX11_canWin_44 (by decide) (fun c44 => ?_) (fun c44 => ?_)
          · have h := h.1 c44
            refine lv_iconst (v := 0) (pc := 51) hx hcb dX11_canWin_51 rfl ?_
            exact hK52 0 _ _ _ h hW (lv_sub hl [0, 1, 2, 3, 4, 5, 6] rfl)
          · have h := h.2 c44
            refine lv_iconst (v := 1) (pc := 47) hx hcb dX11_canWin_47 rfl ?_
            refine lv_goto (tgt := 52) (pc := 48) hx hcb dX11_canWin_48 (by decide) ?_
            exact hK52 1 _ _ _ h hW (lv_sub hl [0, 1, 2, 3, 4, 5, 6] rfl)
    obtain ⟨n, h⟩ := h
    exact hL25 n r3 0 _ _ _ h hW (lv_sub hl [3, 4, 5, 6, 2, 1, 0] rfl)
  refine lv_if_ne (tgt := 10) (pc := 3) hx hcb dX11_canWin_3 (by decide) (fun c3 => ?_) (fun c3 => ?_)
  · have h := h.1 c3
    refine lv_iconst (v := 0) (pc := 10) hx hcb dX11_canWin_10 rfl ?_
    exact hK11 0 _ _ _ h hW (lv_sub hl [0, 1, 2, 3] rfl)
  · have h := h.2 c3
    refine lv_iconst (v := 1) (pc := 6) hx hcb dX11_canWin_6 rfl ?_
    refine lv_goto (tgt := 11) (pc := 7) hx hcb dX11_canWin_7 (by decide) ?_
    exact hK11 1 _ _ _ h hW (lv_sub hl [0, 1, 2, 3] rfl)
abbrev rm_X11_isYard : Room := { frames := 1, cells := 0, slots := 0, locals := 22 }
set_option maxHeartbeats 4000000 in
set_option maxRecDepth 100000 in
theorem c_X11_isYard (l : Launch) (X : KX) (σ : Mm) (x1 : Int32) (Φ : Int32 → Prop) (h : wp_X11_isYard σ x1 Φ) : Met l yX11_isYard (.code yX11_isYard cX11_isYard 2 (some .boolean) :: kT) rm_X11_isYard (va_Pc [.ref (X.2.1 0), .int x1] (kPre kZM X σ)) (va_Qi (fun r σ' => Φ r ∧ σ = σ') (fun σ' t => kPre kZM X σ' t) (kA kZM X)) 0 0 (kA kZM X) := by
  refine kofI (by decide) (Nat.le_of_ble_eq_true rfl) ?_
  intro p e s m args below meth c ls Q hx hcb hml hown hts hS hW hl hret
  have hown : s.vm.findClass RX11 = some m.cls := hown
  have hl : lv_has ls 2 [(0, .ref (X.2.1 0)), (1, .int x1)] := hl
  unfold wp_X11_isYard at h
  refine lv_iload_n (pc := 0) hx hcb dX11_isYard_0 rfl (lv_at hl 1 rfl) ?_
  refine lv_iconst (v := 0) (pc := 1) hx hcb dX11_isYard_1 rfl ?_
  refine lv_aload_n (pc := 2) hx hcb dX11_isYard_2 rfl (lv_at hl 0 rfl) ?_
  refine kget (v := .ref (X.2.1 1)) (pc := 3) hx hcb hts hown hS hW iwX11 kOM_0 rfl 0 (by decide) q858 rfl rfl dX11_isYard_3 ?_
  refine lv_iconst (v := 0) (pc := 6) hx hcb dX11_isYard_6 rfl ?_
  refine kiald 0 (pc := 7) hx hcb hS hW kIM_1 rfl (kin_of ⟨by decide, by decide⟩ (by decide)) dX11_isYard_7 ?_
  refine lv_iconst (v := 1) (pc := 8) hx hcb dX11_isYard_8 rfl ?_
  refine lv_isub (pc := 9) hx hcb dX11_isYard_9 ?_
  refine kci (krunS (As := [.int x1, .int 0, .int ((σ.1 1 0) - 1)]) (rest := []) (pc := 10) hx hcb hml hown hts hS hW (c_X11_in l X σ x1 0 ((σ.1 1 0) - 1) _ h) mf_X11_in q936 ⟨rfl, rfl⟩ ⟨Nat.le_of_ble_eq_true rfl, Nat.le_of_ble_eq_true rfl⟩ rfl hl.1 rfl (Nat.le_of_ble_eq_true rfl) dX11_isYard_10 ⟨Nat.zero_le _, Nat.zero_le _⟩) hS hW (fun r2 σ1 H locs h hW => ?_)
  obtain ⟨h, rfl⟩ := h
  have hbt := h.1
  have h := h.2
  exact hret _ _ _ _ _ _ (kbit_n hbt) ⟨h, rfl⟩ hW dX11_isYard_13
abbrev rm_X11_startWays : Room := { frames := 0, cells := 0, slots := 0, locals := 0 }
set_option maxHeartbeats 4000000 in
set_option maxRecDepth 100000 in
theorem c_X11_startWays (l : Launch) (X : KX) (σ : Mm) (x1 : Int32) (Φ : Mm → Prop) (h : wp_X11_startWays σ x1 Φ) : Met l yX11_startWays (.code yX11_startWays cX11_startWays 3 none :: kT) rm_X11_startWays (va_Pc [.ref (X.2.1 0), .int x1] (kPre kZM X σ)) (va_Qv (fun σ' => Φ σ') (fun σ' t => kPre kZM X σ' t) (kA kZM X)) 0 0 (kA kZM X) := by
  refine kofV (by decide) (Nat.le_of_ble_eq_true rfl) ?_
  intro p e s m args below meth c ls Q hx hcb hml hown hts hS hW hl hret
  have hown : s.vm.findClass RX11 = some m.cls := hown
  have hl : lv_has ls 3 [(0, .ref (X.2.1 0)), (1, .int x1)] := hl
  unfold wp_X11_startWays at h
  refine lv_iconst (v := 0) (pc := 0) hx hcb dX11_startWays_0 rfl ?_
  refine lv_istore_n (lv' := [(2, .int 0), (0, .ref (X.2.1 0)), (1, .int x1)]) (pc := 1) hx hcb dX11_startWays_1 rfl hl (by decide) rfl (fun ls hl => ?_)
  have hL2 : ∀ (n : Nat) (σ1 : Mm) (x2_2 : Int32) (H : Heap) (locs : List Loc) (ls : Array Slot), wp_X11_startWays_L2 x1 Φ n σ1 x2_2 → kW kZM X (kA kZM X) s σ1 H locs → lv_has ls 3 [(0, .ref (X.2.1 0)), (1, .int x1), (2, .int x2_2)] → W p l e rm_X11_startWays s m args below meth c H locs 0 0 Q (F0 m 2 ls []) := by
    intro n
    induction n with
    | zero =>
      intro σ1 x2_2 H locs ls h
      exact False.elim h
    | succ n ih =>
      intro σ1 x2_2 H locs ls h hW hl
      unfold wp_X11_startWays_L2 at h
      refine lv_iload_n (pc := 2) hx hcb dX11_startWays_2 rfl (lv_at hl 2 rfl) ?_
      refine lv_sipush (v := 1008) (pc := 3) hx hcb dX11_startWays_3 rfl ?_
      refine lv_icmp_ge (tgt := 31) (pc := 6) hx hcb dX11_startWays_6 (by decide) (fun c6 => ?_) (fun c6 => ?_)
      · have h := h.1 c6
        exact hret _ _ _ _ _ h hW dX11_startWays_31
      · have h := h.2 c6
        refine lv_aload_n (pc := 9) hx hcb dX11_startWays_9 rfl (lv_at hl 0 rfl) ?_
        refine kget (v := .ref (X.2.1 15)) (pc := 10) hx hcb hts hown hS hW iwX11 kOM_0 rfl 22 (by decide) q880 rfl rfl dX11_startWays_10 ?_
        refine lv_iload_n (pc := 13) hx hcb dX11_startWays_13 rfl (lv_at hl 2 rfl) ?_
        refine lv_iload_n (pc := 14) hx hcb dX11_startWays_14 rfl (lv_at hl 2 rfl) ?_
        refine lv_iload_n (pc := 15) hx hcb dX11_startWays_15 rfl (lv_at hl 1 rfl) ?_
        obtain ⟨K24, hk24, h⟩ := h
        have hK24 : ∀ (v3 : Int64) (H : Heap) (locs : List Loc) (ls : Array Slot), K24 v3 → kW kZM X (kA kZM X) s σ1 H locs → lv_has ls 3 [(0, .ref (X.2.1 0)), (1, .int x1), (2, .int x2_2)] → W p l e rm_X11_startWays s m args below meth c H locs 0 0 Q (F0 m 24 ls [.long v3, .int x2_2, .ref (X.2.1 15)]) := by
          intro v3 H locs ls h hW hl
          have h := hk24 v3 h
          have hin4 := h.1
          have h := h.2
          refine klast (x2_2.toNatClampNeg) (pc := 24) hx hcb hS hW kJM_15 rfl (kin_of hin4 (by decide)) dX11_startWays_24 (fun σ5 H locs eσ5 hW => ?_)
          have h := h σ5 eσ5
          refine lv_iinc (v := x2_2 + 1) (lv' := [(2, .int (x2_2 + 1)), (0, .ref (X.2.1 0)), (1, .int x1)]) (pc := 25) hx hcb dX11_startWays_25 hl (k := 2) rfl rfl (by decide) rfl (fun ls hl => ?_)
          refine lv_goto (tgt := 2) (pc := 28) hx hcb dX11_startWays_28 (by decide) ?_
          exact ih σ5 (x2_2 + 1) _ _ _ h hW (lv_sub hl [1, 2, 0] rfl)
        refine lv_icmp_ne (tgt := 23) (pc := 16) hx hcb dX11_startWays_16 (by decide) (fun c16 => ?_) (fun c16 => ?_)
        · have h := h.1 c16
          refine lv_lconst (v := 0) (pc := 23) hx hcb dX11_startWays_23 rfl ?_
          exact hK24 0 _ _ _ h hW (lv_sub hl [0, 1, 2] rfl)
        · have h := h.2 c16
          refine lv_lconst (v := 1) (pc := 19) hx hcb dX11_startWays_19 rfl ?_
          refine lv_goto (tgt := 24) (pc := 20) hx hcb dX11_startWays_20 (by decide) ?_
          exact hK24 1 _ _ _ h hW (lv_sub hl [0, 1, 2] rfl)
  obtain ⟨n, h⟩ := h
  exact hL2 n σ 0 _ _ _ h hW (lv_sub hl [1, 2, 0] rfl)
abbrev rm_X11_goOn : Room := { frames := 2, cells := 0, slots := 0, locals := 50 }
set_option maxHeartbeats 4000000 in
set_option maxRecDepth 100000 in
theorem c_X11_goOn (l : Launch) (X : KX) (σ : Mm) (x1 : Int32) (x2 : Int32) (x3 : Int32) (Φ : Mm → Prop) (h : wp_X11_goOn σ x1 x2 x3 Φ) : Met l yX11_goOn (.code yX11_goOn cX11_goOn 7 none :: kT) rm_X11_goOn (va_Pc [.ref (X.2.1 0), .int x1, .int x2, .int x3] (kPre kZM X σ)) (va_Qv (fun σ' => Φ σ') (fun σ' t => kPre kZM X σ' t) (kA kZM X)) 0 0 (kA kZM X) := by
  refine kofV (by decide) (Nat.le_of_ble_eq_true rfl) ?_
  intro p e s m args below meth c ls Q hx hcb hml hown hts hS hW hl hret
  have hown : s.vm.findClass RX11 = some m.cls := hown
  have hl : lv_has ls 7 [(0, .ref (X.2.1 0)), (1, .int x1), (2, .int x2), (3, .int x3)] := hl
  unfold wp_X11_goOn at h
  refine lv_iconst (v := 0) (pc := 0) hx hcb dX11_goOn_0 rfl ?_
  refine lv_istore (lv' := [(4, .int 0), (0, .ref (X.2.1 0)), (1, .int x1), (2, .int x2), (3, .int x3)]) (pc := 1) hx hcb dX11_goOn_1 hl (by decide) rfl (fun ls hl => ?_)
  obtain ⟨K25, hk25, h⟩ := h
  have hK25 : ∀ (σ1 : Mm) (H : Heap) (locs : List Loc) (ls : Array Slot), K25 σ1 → kW kZM X (kA kZM X) s σ1 H locs → lv_has ls 7 [(0, .ref (X.2.1 0)), (1, .int x1), (2, .int x2), (3, .int x3)] → W p l e rm_X11_goOn s m args below meth c H locs 0 0 Q (F0 m 25 ls []) := by
    intro σ1 H locs ls h hW hl
    have h := hk25 σ1 h
    refine lv_iconst (v := 0) (pc := 25) hx hcb dX11_goOn_25 rfl ?_
    refine lv_istore (lv' := [(4, .int 0), (0, .ref (X.2.1 0)), (1, .int x1), (2, .int x2), (3, .int x3)]) (pc := 26) hx hcb dX11_goOn_26 hl (by decide) rfl (fun ls hl => ?_)
    obtain ⟨K228, hk228, h⟩ := h
    have hK228 : ∀ (σ2 : Mm) (H : Heap) (locs : List Loc) (ls : Array Slot), K228 σ2 → kW kZM X (kA kZM X) s σ2 H locs → lv_has ls 7 [(0, .ref (X.2.1 0))] → W p l e rm_X11_goOn s m args below meth c H locs 0 0 Q (F0 m 228 ls []) := by
      intro σ2 H locs ls h hW hl
      have h := hk228 σ2 h
      refine lv_iconst (v := 0) (pc := 228) hx hcb dX11_goOn_228 rfl ?_
      refine lv_istore (lv' := [(4, .int 0), (0, .ref (X.2.1 0))]) (pc := 229) hx hcb dX11_goOn_229 hl (by decide) rfl (fun ls hl => ?_)
      have hL231 : ∀ (n : Nat) (σ3 : Mm) (x4_4 : Int32) (H : Heap) (locs : List Loc) (ls : Array Slot), wp_X11_goOn_L231 Φ n σ3 x4_4 → kW kZM X (kA kZM X) s σ3 H locs → lv_has ls 7 [(0, .ref (X.2.1 0)), (4, .int x4_4)] → W p l e rm_X11_goOn s m args below meth c H locs 0 0 Q (F0 m 231 ls []) := by
        intro n
        induction n with
        | zero =>
          intro σ3 x4_4 H locs ls h
          exact False.elim h
        | succ n ih =>
          intro σ3 x4_4 H locs ls h hW hl
          unfold wp_X11_goOn_L231 at h
          refine lv_iload (pc := 231) hx hcb dX11_goOn_231 (lv_at hl 1 rfl) ?_
          refine lv_sipush (v := 1008) (pc := 233) hx hcb dX11_goOn_233 rfl ?_
          refine lv_icmp_ge (tgt := 259) (pc := 236) hx hcb dX11_goOn_236 (by decide) (fun c236 => ?_) (fun c236 => ?_)
          · have h := h.1 c236
            exact hret _ _ _ _ _ h hW dX11_goOn_259
          · have h := h.2 c236
            refine lv_aload_n (pc := 239) hx hcb dX11_goOn_239 rfl (lv_at hl 0 rfl) ?_
            refine kget (v := .ref (X.2.1 15)) (pc := 240) hx hcb hts hown hS hW iwX11 kOM_0 rfl 22 (by decide) q880 rfl rfl dX11_goOn_240 ?_
            refine lv_iload (pc := 243) hx hcb dX11_goOn_243 (lv_at hl 1 rfl) ?_
            refine lv_aload_n (pc := 245) hx hcb dX11_goOn_245 rfl (lv_at hl 0 rfl) ?_
            refine kget (v := .ref (X.2.1 16)) (pc := 246) hx hcb hts hown hS hW iwX11 kOM_0 rfl 23 (by decide) q881 rfl rfl dX11_goOn_246 ?_
            refine lv_iload (pc := 249) hx hcb dX11_goOn_249 (lv_at hl 1 rfl) ?_
            have hin5 := h.1
            have h := h.2
            refine klald (x4_4.toNatClampNeg) (pc := 251) hx hcb hS hW kJM_16 rfl (kin_of hin5 (by decide)) dX11_goOn_251 ?_
            have hin6 := h.1
            have h := h.2
            refine klast (x4_4.toNatClampNeg) (pc := 252) hx hcb hS hW kJM_15 rfl (kin_of hin6 (by decide)) dX11_goOn_252 (fun σ7 H locs eσ7 hW => ?_)
            have h := h σ7 eσ7
            refine lv_iinc (v := x4_4 + 1) (lv' := [(4, .int (x4_4 + 1)), (0, .ref (X.2.1 0))]) (pc := 253) hx hcb dX11_goOn_253 hl (k := 1) rfl rfl (by decide) rfl (fun ls hl => ?_)
            refine lv_goto (tgt := 231) (pc := 256) hx hcb dX11_goOn_256 (by decide) ?_
            exact ih σ7 (x4_4 + 1) _ _ _ h hW (lv_sub hl [1, 0] rfl)
      obtain ⟨n, h⟩ := h
      exact hL231 n σ2 0 _ _ _ h hW (lv_sub hl [1, 0] rfl)
    have hL28 : ∀ (n : Nat) (σ8 : Mm) (x4_9 : Int32) (H : Heap) (locs : List Loc) (ls : Array Slot), wp_X11_goOn_L28 x1 x2 x3 K228 n σ8 x4_9 → kW kZM X (kA kZM X) s σ8 H locs → lv_has ls 7 [(0, .ref (X.2.1 0)), (1, .int x1), (2, .int x2), (3, .int x3), (4, .int x4_9)] → W p l e rm_X11_goOn s m args below meth c H locs 0 0 Q (F0 m 28 ls []) := by
      intro n
      induction n with
      | zero =>
        intro σ8 x4_9 H locs ls h
        exact False.elim h
      | succ n ih =>
        intro σ8 x4_9 H locs ls h hW hl
        unfold wp_X11_goOn_L28 at h
        refine lv_iload (pc := 28) hx hcb dX11_goOn_28 (lv_at hl 4 rfl) ?_
        refine lv_sipush (v := 1008) (pc := 30) hx hcb dX11_goOn_30 rfl ?_
        refine lv_icmp_ge (tgt := 228) (pc := 33) hx hcb dX11_goOn_33 (by decide) (fun c33 => ?_) (fun c33 => ?_)
        · have h := h.1 c33
          exact hK228 σ8 _ _ _ h hW (lv_sub hl [0] rfl)
        · have h := h.2 c33
          refine lv_aload_n (pc := 36) hx hcb dX11_goOn_36 rfl (lv_at hl 0 rfl) ?_
          refine kget (v := .ref (X.2.1 15)) (pc := 37) hx hcb hts hown hS hW iwX11 kOM_0 rfl 22 (by decide) q880 rfl rfl dX11_goOn_37 ?_
          refine lv_iload (pc := 40) hx hcb dX11_goOn_40 (lv_at hl 4 rfl) ?_
          have hin10 := h.1
          have h := h.2
          refine klald (x4_9.toNatClampNeg) (pc := 42) hx hcb hS hW kJM_15 rfl (kin_of hin10 (by decide)) dX11_goOn_42 ?_
          refine lv_lconst (v := 0) (pc := 43) hx hcb dX11_goOn_43 rfl ?_
          refine W.lcmp (pc := 44) hx hcb dX11_goOn_44 ?_
          obtain ⟨K222, hk222, h⟩ := h
          have hK222 : ∀ (σ11 : Mm) (H : Heap) (locs : List Loc) (ls : Array Slot), K222 σ11 → kW kZM X (kA kZM X) s σ11 H locs → lv_has ls 7 [(0, .ref (X.2.1 0)), (1, .int x1), (2, .int x2), (3, .int x3), (4, .int x4_9)] → W p l e rm_X11_goOn s m args below meth c H locs 0 0 Q (F0 m 222 ls []) := by
            intro σ11 H locs ls h hW hl
            have h := hk222 σ11 h
            refine lv_iinc (v := x4_9 + 1) (lv' := [(4, .int (x4_9 + 1)), (0, .ref (X.2.1 0)), (1, .int x1), (2, .int x2), (3, .int x3)]) (pc := 222) hx hcb dX11_goOn_222 hl (k := 4) rfl rfl (by decide) rfl (fun ls hl => ?_)
            refine lv_goto (tgt := 28) (pc := 225) hx hcb dX11_goOn_225 (by decide) ?_
            exact ih σ11 (x4_9 + 1) _ _ _ h hW (lv_sub hl [1, 2, 3, 4, 0] rfl)
          refine lv_if_le (tgt := 222) (pc := 45) hx hcb dX11_goOn_45 (by decide) (fun c45 => ?_) (fun c45 => ?_)
          · have h := h.1 c45
            exact hK222 σ8 _ _ _ h hW (lv_sub hl [0, 1, 2, 3, 4] rfl)
          · have h := h.2 c45
            refine lv_iconst (v := 0) (pc := 48) hx hcb dX11_goOn_48 rfl ?_
            refine lv_istore (lv' := [(5, .int 0), (0, .ref (X.2.1 0)), (1, .int x1), (2, .int x2), (3, .int x3), (4, .int x4_9)]) (pc := 49) hx hcb dX11_goOn_49 hl (by decide) rfl (fun ls hl => ?_)
            refine lv_iconst (v := 0) (pc := 51) hx hcb dX11_goOn_51 rfl ?_
            refine lv_istore (lv' := [(6, .int 0), (5, .int 0), (0, .ref (X.2.1 0)), (1, .int x1), (2, .int x2), (3, .int x3), (4, .int x4_9)]) (pc := 52) hx hcb dX11_goOn_52 hl (by decide) rfl (fun ls hl => ?_)
            obtain ⟨K93, hk93, h⟩ := h
            have hK93 : ∀ (x5_12 : Int32) (H : Heap) (locs : List Loc) (ls : Array Slot), K93 x5_12 → kW kZM X (kA kZM X) s σ8 H locs → lv_has ls 7 [(0, .ref (X.2.1 0)), (1, .int x1), (2, .int x2), (3, .int x3), (4, .int x4_9), (5, .int x5_12)] → W p l e rm_X11_goOn s m args below meth c H locs 0 0 Q (F0 m 93 ls []) := by
              intro x5_12 H locs ls h hW hl
              have h := hk93 x5_12 h
              refine lv_aload_n (pc := 93) hx hcb dX11_goOn_93 rfl (lv_at hl 0 rfl) ?_
              refine kget (v := .ref (X.2.1 16)) (pc := 94) hx hcb hts hown hS hW iwX11 kOM_0 rfl 23 (by decide) q881 rfl rfl dX11_goOn_94 ?_
              refine lv_aload_n (pc := 97) hx hcb dX11_goOn_97 rfl (lv_at hl 0 rfl) ?_
              refine lv_iload (pc := 98) hx hcb dX11_goOn_98 (lv_at hl 4 rfl) ?_
              refine lv_iload_n (pc := 100) hx hcb dX11_goOn_100 rfl (lv_at hl 1 rfl) ?_
              refine lv_iconst (v := 1) (pc := 101) hx hcb dX11_goOn_101 rfl ?_
              refine lv_iadd (pc := 102) hx hcb dX11_goOn_102 ?_
              refine kci (krunV (As := [.int x4_9, .int (x1 + 1)]) (rest := [.ref (X.2.1 16)]) (pc := 103) hx hcb hml hown hts hS hW (c_X11_after l X σ8 x4_9 (x1 + 1) _ h) mf_X11_after q1023 kOM_0 rfl ⟨rfl, rfl⟩ ⟨Nat.le_of_ble_eq_true rfl, Nat.le_of_ble_eq_true rfl⟩ rfl hl.1 rfl (Nat.le_of_ble_eq_true rfl) dX11_goOn_103 ⟨Nat.zero_le _, Nat.zero_le _⟩) hS hW (fun r14 σ13 H locs h hW => ?_)
              obtain ⟨h, rfl⟩ := h
              refine lv_dup2_11 (pc := 106) hx hcb dX11_goOn_106 rfl rfl ?_
              have hin15 := h.1
              have h := h.2
              refine klald (r14.toNatClampNeg) (pc := 107) hx hcb hS hW kJM_16 rfl (kin_of hin15 (by decide)) dX11_goOn_107 ?_
              refine lv_aload_n (pc := 108) hx hcb dX11_goOn_108 rfl (lv_at hl 0 rfl) ?_
              refine kget (v := .ref (X.2.1 15)) (pc := 109) hx hcb hts hown hS hW iwX11 kOM_0 rfl 22 (by decide) q880 rfl rfl dX11_goOn_109 ?_
              refine lv_iload (pc := 112) hx hcb dX11_goOn_112 (lv_at hl 4 rfl) ?_
              have hin16 := h.1
              have h := h.2
              refine klald (x4_9.toNatClampNeg) (pc := 114) hx hcb hS hW kJM_15 rfl (kin_of hin16 (by decide)) dX11_goOn_114 ?_
              refine lv_iload_n (pc := 115) hx hcb dX11_goOn_115 rfl (lv_at hl 3 rfl) ?_
              obtain ⟨K135, hk135, h⟩ := h
              have hK135 : ∀ (v17 : Int32) (H : Heap) (locs : List Loc) (ls : Array Slot), K135 v17 → kW kZM X (kA kZM X) s σ8 H locs → lv_has ls 7 [(0, .ref (X.2.1 0)), (1, .int x1), (2, .int x2), (3, .int x3), (4, .int x4_9), (5, .int x5_12)] → W p l e rm_X11_goOn s m args below meth c H locs 0 0 Q (F0 m 135 ls [.int v17, .long (σ8.2.1 15 (x4_9.toNatClampNeg)), .long (σ8.2.1 16 (r14.toNatClampNeg)), .int r14, .ref (X.2.1 16)]) := by
                intro v17 H locs ls h hW hl
                have h := hk135 v17 h
                refine lv_i2l (pc := 135) hx hcb dX11_goOn_135 rfl ?_
                refine lv_lmul (pc := 136) hx hcb dX11_goOn_136 ?_
                refine lv_ladd (pc := 137) hx hcb dX11_goOn_137 ?_
                have hin18 := h.1
                have h := h.2
                refine klast (r14.toNatClampNeg) (pc := 138) hx hcb hS hW kJM_16 rfl (kin_of hin18 (by decide)) dX11_goOn_138 (fun σ19 H locs eσ19 hW => ?_)
                have h := h σ19 eσ19
                refine lv_iconst (v := 0) (pc := 139) hx hcb dX11_goOn_139 rfl ?_
                refine lv_istore (lv' := [(6, .int 0), (0, .ref (X.2.1 0)), (1, .int x1), (2, .int x2), (3, .int x3), (4, .int x4_9), (5, .int x5_12)]) (pc := 140) hx hcb dX11_goOn_140 hl (by decide) rfl (fun ls hl => ?_)
                have hL142 : ∀ (n : Nat) (σ20 : Mm) (x6_21 : Int32) (H : Heap) (locs : List Loc) (ls : Array Slot), wp_X11_goOn_L142 x1 x2 x3 x4_9 K222 x5_12 n σ20 x6_21 → kW kZM X (kA kZM X) s σ20 H locs → lv_has ls 7 [(0, .ref (X.2.1 0)), (1, .int x1), (2, .int x2), (3, .int x3), (4, .int x4_9), (5, .int x5_12), (6, .int x6_21)] → W p l e rm_X11_goOn s m args below meth c H locs 0 0 Q (F0 m 142 ls []) := by
                  intro n
                  induction n with
                  | zero =>
                    intro σ20 x6_21 H locs ls h
                    exact False.elim h
                  | succ n ih =>
                    intro σ20 x6_21 H locs ls h hW hl
                    unfold wp_X11_goOn_L142 at h
                    refine lv_iload (pc := 142) hx hcb dX11_goOn_142 (lv_at hl 6 rfl) ?_
                    refine lv_aload_n (pc := 144) hx hcb dX11_goOn_144 rfl (lv_at hl 0 rfl) ?_
                    refine kget (v := .ref (X.2.1 1)) (pc := 145) hx hcb hts hown hS hW iwX11 kOM_0 rfl 0 (by decide) q858 rfl rfl dX11_goOn_145 ?_
                    refine lv_iconst (v := 1) (pc := 148) hx hcb dX11_goOn_148 rfl ?_
                    refine kiald 1 (pc := 149) hx hcb hS hW kIM_1 rfl (kin_of ⟨by decide, by decide⟩ (by decide)) dX11_goOn_149 ?_
                    refine lv_icmp_ge (tgt := 222) (pc := 150) hx hcb dX11_goOn_150 (by decide) (fun c150 => ?_) (fun c150 => ?_)
                    · have h := h.1 c150
                      exact hK222 σ20 _ _ _ h hW (lv_sub hl [0, 1, 2, 3, 4] rfl)
                    · have h := h.2 c150
                      refine lv_iload (pc := 153) hx hcb dX11_goOn_153 (lv_at hl 6 rfl) ?_
                      refine lv_iload_n (pc := 155) hx hcb dX11_goOn_155 rfl (lv_at hl 2 rfl) ?_
                      obtain ⟨K216, hk216, h⟩ := h
                      have hK216 : ∀ (σ22 : Mm) (H : Heap) (locs : List Loc) (ls : Array Slot), K216 σ22 → kW kZM X (kA kZM X) s σ22 H locs → lv_has ls 7 [(0, .ref (X.2.1 0)), (1, .int x1), (2, .int x2), (3, .int x3), (4, .int x4_9), (5, .int x5_12), (6, .int x6_21)] → W p l e rm_X11_goOn s m args below meth c H locs 0 0 Q (F0 m 216 ls []) := by
                        intro σ22 H locs ls h hW hl
                        have h := hk216 σ22 h
                        refine lv_iinc (v := x6_21 + 1) (lv' := [(6, .int (x6_21 + 1)), (0, .ref (X.2.1 0)), (1, .int x1), (2, .int x2), (3, .int x3), (4, .int x4_9), (5, .int x5_12)]) (pc := 216) hx hcb dX11_goOn_216 hl (k := 6) rfl rfl (by decide) rfl (fun ls hl => ?_)
                        refine lv_goto (tgt := 142) (pc := 219) hx hcb dX11_goOn_219 (by decide) ?_
                        exact ih σ22 (x6_21 + 1) _ _ _ h hW (lv_sub hl [1, 2, 3, 4, 5, 6, 0] rfl)
                      refine lv_icmp_eq (tgt := 216) (pc := 156) hx hcb dX11_goOn_156 (by decide) (fun c156 => ?_) (fun c156 => ?_)
                      · have h := h.1 c156
                        exact hK216 σ20 _ _ _ h hW (lv_sub hl [0, 1, 2, 3, 4, 5, 6] rfl)
                      · have h := h.2 c156
                        refine lv_aload_n (pc := 159) hx hcb dX11_goOn_159 rfl (lv_at hl 0 rfl) ?_
                        refine lv_iload (pc := 160) hx hcb dX11_goOn_160 (lv_at hl 4 rfl) ?_
                        refine lv_iload (pc := 162) hx hcb dX11_goOn_162 (lv_at hl 6 rfl) ?_
                        refine lv_iload_n (pc := 164) hx hcb dX11_goOn_164 rfl (lv_at hl 1 rfl) ?_
                        refine kci (krunV (As := [.int x4_9, .int x6_21, .int x1]) (rest := []) (pc := 165) hx hcb hml hown hts hS hW (c_X11_mayFeed l X σ20 x4_9 x6_21 x1 _ h) mf_X11_mayFeed q1000 kOM_0 rfl ⟨rfl, rfl⟩ ⟨Nat.le_of_ble_eq_true rfl, Nat.le_of_ble_eq_true rfl⟩ rfl hl.1 rfl (Nat.le_of_ble_eq_true rfl) dX11_goOn_165 ⟨Nat.zero_le _, Nat.zero_le _⟩) hS hW (fun r24 σ23 H locs h hW => ?_)
                        obtain ⟨h, rfl⟩ := h
                        refine lv_if_eq (tgt := 216) (pc := 168) hx hcb dX11_goOn_168 (by decide) (fun c168 => ?_) (fun c168 => ?_)
                        · have h := h.1 c168
                          exact hK216 σ20 _ _ _ h hW (lv_sub hl [0, 1, 2, 3, 4, 5, 6] rfl)
                        · have h := h.2 c168
                          refine lv_aload_n (pc := 171) hx hcb dX11_goOn_171 rfl (lv_at hl 0 rfl) ?_
                          refine kget (v := .ref (X.2.1 16)) (pc := 172) hx hcb hts hown hS hW iwX11 kOM_0 rfl 23 (by decide) q881 rfl rfl dX11_goOn_172 ?_
                          refine lv_aload_n (pc := 175) hx hcb dX11_goOn_175 rfl (lv_at hl 0 rfl) ?_
                          refine lv_aload_n (pc := 176) hx hcb dX11_goOn_176 rfl (lv_at hl 0 rfl) ?_
                          refine lv_iload (pc := 177) hx hcb dX11_goOn_177 (lv_at hl 4 rfl) ?_
                          refine lv_iload (pc := 179) hx hcb dX11_goOn_179 (lv_at hl 6 rfl) ?_
                          refine kci (krunV (As := [.int x4_9, .int x6_21]) (rest := [.ref (X.2.1 0), .ref (X.2.1 16)]) (pc := 181) hx hcb hml hown hts hS hW (c_X11_fedBy l X σ20 x4_9 x6_21 _ h) mf_X11_fedBy q1011 kOM_0 rfl ⟨rfl, rfl⟩ ⟨Nat.le_of_ble_eq_true rfl, Nat.le_of_ble_eq_true rfl⟩ rfl hl.1 rfl (Nat.le_of_ble_eq_true rfl) dX11_goOn_181 ⟨Nat.zero_le _, Nat.zero_le _⟩) hS hW (fun r26 σ25 H locs h hW => ?_)
                          obtain ⟨h, rfl⟩ := h
                          refine lv_iload_n (pc := 184) hx hcb dX11_goOn_184 rfl (lv_at hl 1 rfl) ?_
                          refine lv_iconst (v := 1) (pc := 185) hx hcb dX11_goOn_185 rfl ?_
                          refine lv_iadd (pc := 186) hx hcb dX11_goOn_186 ?_
                          refine kci (krunV (As := [.int r26, .int (x1 + 1)]) (rest := [.ref (X.2.1 16)]) (pc := 187) hx hcb hml hown hts hS hW (c_X11_after l X σ20 r26 (x1 + 1) _ h) mf_X11_after q1023 kOM_0 rfl ⟨rfl, rfl⟩ ⟨Nat.le_of_ble_eq_true rfl, Nat.le_of_ble_eq_true rfl⟩ rfl hl.1 rfl (Nat.le_of_ble_eq_true rfl) dX11_goOn_187 ⟨Nat.zero_le _, Nat.zero_le _⟩) hS hW (fun r28 σ27 H locs h hW => ?_)
                          obtain ⟨h, rfl⟩ := h
                          refine lv_dup2_11 (pc := 190) hx hcb dX11_goOn_190 rfl rfl ?_
                          have hin29 := h.1
                          have h := h.2
                          refine klald (r28.toNatClampNeg) (pc := 191) hx hcb hS hW kJM_16 rfl (kin_of hin29 (by decide)) dX11_goOn_191 ?_
                          refine lv_aload_n (pc := 192) hx hcb dX11_goOn_192 rfl (lv_at hl 0 rfl) ?_
                          refine kget (v := .ref (X.2.1 15)) (pc := 193) hx hcb hts hown hS hW iwX11 kOM_0 rfl 22 (by decide) q880 rfl rfl dX11_goOn_193 ?_
                          refine lv_iload (pc := 196) hx hcb dX11_goOn_196 (lv_at hl 4 rfl) ?_
                          have hin30 := h.1
                          have h := h.2
                          refine klald (x4_9.toNatClampNeg) (pc := 198) hx hcb hS hW kJM_15 rfl (kin_of hin30 (by decide)) dX11_goOn_198 ?_
                          refine lv_iload_n (pc := 199) hx hcb dX11_goOn_199 rfl (lv_at hl 3 rfl) ?_
                          obtain ⟨K212, hk212, h⟩ := h
                          have hK212 : ∀ (v31 : Int32) (H : Heap) (locs : List Loc) (ls : Array Slot), K212 v31 → kW kZM X (kA kZM X) s σ20 H locs → lv_has ls 7 [(0, .ref (X.2.1 0)), (1, .int x1), (2, .int x2), (3, .int x3), (4, .int x4_9), (5, .int x5_12), (6, .int x6_21)] → W p l e rm_X11_goOn s m args below meth c H locs 0 0 Q (F0 m 212 ls [.int v31, .long (σ20.2.1 15 (x4_9.toNatClampNeg)), .long (σ20.2.1 16 (r28.toNatClampNeg)), .int r28, .ref (X.2.1 16)]) := by
                            intro v31 H locs ls h hW hl
                            have h := hk212 v31 h
                            refine lv_i2l (pc := 212) hx hcb dX11_goOn_212 rfl ?_
                            refine lv_lmul (pc := 213) hx hcb dX11_goOn_213 ?_
                            refine lv_ladd (pc := 214) hx hcb dX11_goOn_214 ?_
                            have hin32 := h.1
                            have h := h.2
                            refine klast (r28.toNatClampNeg) (pc := 215) hx hcb hS hW kJM_16 rfl (kin_of hin32 (by decide)) dX11_goOn_215 (fun σ33 H locs eσ33 hW => ?_)
                            have h := h σ33 eσ33
                            exact hK216 σ33 _ _ _ h hW (lv_sub hl [0, 1, 2, 3, 4, 5, 6] rfl)
                          refine lv_if_eq (tgt := 211) (pc := 200) hx hcb dX11_goOn_200 (by decide) (fun c200 => ?_) (fun c200 => ?_)
                          · have h := h.1 c200
                            refine lv_iconst (v := 1) (pc := 211) hx hcb dX11_goOn_211 rfl ?_
                            exact hK212 1 _ _ _ h hW (lv_sub hl [0, 1, 2, 3, 4, 5, 6] rfl)
                          · have h := h.2 c200
                            refine lv_bipush (v := 60) (pc := 203) hx hcb dX11_goOn_203 rfl ?_
                            refine lv_iload (pc := 205) hx hcb dX11_goOn_205 (lv_at hl 5 rfl) ?_
                            have hne207 := h.1
                            have h := h.2
                            refine lv_idiv (pc := 207) hx hcb dX11_goOn_207 hne207 ?_
                            refine lv_goto (tgt := 212) (pc := 208) hx hcb dX11_goOn_208 (by decide) ?_
                            exact hK212 (60 / x5_12) _ _ _ h hW (lv_sub hl [0, 1, 2, 3, 4, 5, 6] rfl)
                obtain ⟨n, h⟩ := h
                exact hL142 n σ19 0 _ _ _ h hW (lv_sub hl [1, 2, 3, 4, 5, 6, 0] rfl)
              refine lv_if_ne (tgt := 123) (pc := 116) hx hcb dX11_goOn_116 (by decide) (fun c116 => ?_) (fun c116 => ?_)
              · have h := h.1 c116
                refine lv_iload (pc := 123) hx hcb dX11_goOn_123 (lv_at hl 5 rfl) ?_
                refine lv_if_ne (tgt := 133) (pc := 125) hx hcb dX11_goOn_125 (by decide) (fun c125 => ?_) (fun c125 => ?_)
                · have h := h.1 c125
                  refine lv_bipush (v := 60) (pc := 133) hx hcb dX11_goOn_133 rfl ?_
                  exact hK135 60 _ _ _ h hW (lv_sub hl [0, 1, 2, 3, 4, 5] rfl)
                · have h := h.2 c125
                  refine lv_bipush (v := 120) (pc := 128) hx hcb dX11_goOn_128 rfl ?_
                  refine lv_goto (tgt := 135) (pc := 130) hx hcb dX11_goOn_130 (by decide) ?_
                  exact hK135 120 _ _ _ h hW (lv_sub hl [0, 1, 2, 3, 4, 5] rfl)
              · have h := h.2 c116
                refine lv_iconst (v := 1) (pc := 119) hx hcb dX11_goOn_119 rfl ?_
                refine lv_goto (tgt := 135) (pc := 120) hx hcb dX11_goOn_120 (by decide) ?_
                exact hK135 1 _ _ _ h hW (lv_sub hl [0, 1, 2, 3, 4, 5] rfl)
            have hL54 : ∀ (n : Nat) (x5_34 : Int32) (x6_35 : Int32) (H : Heap) (locs : List Loc) (ls : Array Slot), wp_X11_goOn_L54 x1 σ8 x4_9 K93 n x5_34 x6_35 → kW kZM X (kA kZM X) s σ8 H locs → lv_has ls 7 [(0, .ref (X.2.1 0)), (1, .int x1), (2, .int x2), (3, .int x3), (4, .int x4_9), (5, .int x5_34), (6, .int x6_35)] → W p l e rm_X11_goOn s m args below meth c H locs 0 0 Q (F0 m 54 ls []) := by
              intro n
              induction n with
              | zero =>
                intro x5_34 x6_35 H locs ls h
                exact False.elim h
              | succ n ih =>
                intro x5_34 x6_35 H locs ls h hW hl
                unfold wp_X11_goOn_L54 at h
                refine lv_iload (pc := 54) hx hcb dX11_goOn_54 (lv_at hl 6 rfl) ?_
                refine lv_aload_n (pc := 56) hx hcb dX11_goOn_56 rfl (lv_at hl 0 rfl) ?_
                refine kget (v := .ref (X.2.1 1)) (pc := 57) hx hcb hts hown hS hW iwX11 kOM_0 rfl 0 (by decide) q858 rfl rfl dX11_goOn_57 ?_
                refine lv_iconst (v := 1) (pc := 60) hx hcb dX11_goOn_60 rfl ?_
                refine kiald 1 (pc := 61) hx hcb hS hW kIM_1 rfl (kin_of ⟨by decide, by decide⟩ (by decide)) dX11_goOn_61 ?_
                refine lv_icmp_ge (tgt := 93) (pc := 62) hx hcb dX11_goOn_62 (by decide) (fun c62 => ?_) (fun c62 => ?_)
                · have h := h.1 c62
                  exact hK93 x5_34 _ _ _ h hW (lv_sub hl [0, 1, 2, 3, 4, 5] rfl)
                · have h := h.2 c62
                  refine lv_iload (pc := 65) hx hcb dX11_goOn_65 (lv_at hl 5 rfl) ?_
                  refine lv_aload_n (pc := 67) hx hcb dX11_goOn_67 rfl (lv_at hl 0 rfl) ?_
                  refine lv_iload (pc := 68) hx hcb dX11_goOn_68 (lv_at hl 4 rfl) ?_
                  refine lv_iload (pc := 70) hx hcb dX11_goOn_70 (lv_at hl 6 rfl) ?_
                  refine lv_iload_n (pc := 72) hx hcb dX11_goOn_72 rfl (lv_at hl 1 rfl) ?_
                  refine kci (krunV (As := [.int x4_9, .int x6_35, .int x1]) (rest := [.int x5_34]) (pc := 73) hx hcb hml hown hts hS hW (c_X11_mayFeed l X σ8 x4_9 x6_35 x1 _ h) mf_X11_mayFeed q1000 kOM_0 rfl ⟨rfl, rfl⟩ ⟨Nat.le_of_ble_eq_true rfl, Nat.le_of_ble_eq_true rfl⟩ rfl hl.1 rfl (Nat.le_of_ble_eq_true rfl) dX11_goOn_73 ⟨Nat.zero_le _, Nat.zero_le _⟩) hS hW (fun r37 σ36 H locs h hW => ?_)
                  obtain ⟨h, rfl⟩ := h
                  obtain ⟨K84, hk84, h⟩ := h
                  have hK84 : ∀ (v38 : Int32) (H : Heap) (locs : List Loc) (ls : Array Slot), K84 v38 → kW kZM X (kA kZM X) s σ8 H locs → lv_has ls 7 [(0, .ref (X.2.1 0)), (1, .int x1), (2, .int x2), (3, .int x3), (4, .int x4_9), (6, .int x6_35)] → W p l e rm_X11_goOn s m args below meth c H locs 0 0 Q (F0 m 84 ls [.int v38, .int x5_34]) := by
                    intro v38 H locs ls h hW hl
                    have h := hk84 v38 h
                    refine lv_iadd (pc := 84) hx hcb dX11_goOn_84 ?_
                    refine lv_topi (fun x5_39 ex5_39 => ?_)
                    have h := h x5_39 ex5_39
                    refine lv_istore (lv' := [(5, .int x5_39), (0, .ref (X.2.1 0)), (1, .int x1), (2, .int x2), (3, .int x3), (4, .int x4_9), (6, .int x6_35)]) (pc := 85) hx hcb dX11_goOn_85 hl (by decide) rfl (fun ls hl => ?_)
                    refine lv_iinc (v := x6_35 + 1) (lv' := [(6, .int (x6_35 + 1)), (5, .int x5_39), (0, .ref (X.2.1 0)), (1, .int x1), (2, .int x2), (3, .int x3), (4, .int x4_9)]) (pc := 87) hx hcb dX11_goOn_87 hl (k := 6) rfl rfl (by decide) rfl (fun ls hl => ?_)
                    refine lv_goto (tgt := 54) (pc := 90) hx hcb dX11_goOn_90 (by decide) ?_
                    exact ih x5_39 (x6_35 + 1) _ _ _ h hW (lv_sub hl [2, 3, 4, 5, 6, 1, 0] rfl)
                  refine lv_if_eq (tgt := 83) (pc := 76) hx hcb dX11_goOn_76 (by decide) (fun c76 => ?_) (fun c76 => ?_)
                  · have h := h.1 c76
                    refine lv_iconst (v := 0) (pc := 83) hx hcb dX11_goOn_83 rfl ?_
                    exact hK84 0 _ _ _ h hW (lv_sub hl [0, 1, 2, 3, 4, 6] rfl)
                  · have h := h.2 c76
                    refine lv_iconst (v := 1) (pc := 79) hx hcb dX11_goOn_79 rfl ?_
                    refine lv_goto (tgt := 84) (pc := 80) hx hcb dX11_goOn_80 (by decide) ?_
                    exact hK84 1 _ _ _ h hW (lv_sub hl [0, 1, 2, 3, 4, 6] rfl)
            obtain ⟨n, h⟩ := h
            exact hL54 n 0 0 _ _ _ h hW (lv_sub hl [2, 3, 4, 5, 6, 1, 0] rfl)
    obtain ⟨n, h⟩ := h
    exact hL28 n σ1 0 _ _ _ h hW (lv_sub hl [1, 2, 3, 4, 0] rfl)
  have hL3 : ∀ (n : Nat) (σ40 : Mm) (x4_41 : Int32) (H : Heap) (locs : List Loc) (ls : Array Slot), wp_X11_goOn_L3 K25 n σ40 x4_41 → kW kZM X (kA kZM X) s σ40 H locs → lv_has ls 7 [(0, .ref (X.2.1 0)), (1, .int x1), (2, .int x2), (3, .int x3), (4, .int x4_41)] → W p l e rm_X11_goOn s m args below meth c H locs 0 0 Q (F0 m 3 ls []) := by
    intro n
    induction n with
    | zero =>
      intro σ40 x4_41 H locs ls h
      exact False.elim h
    | succ n ih =>
      intro σ40 x4_41 H locs ls h hW hl
      unfold wp_X11_goOn_L3 at h
      refine lv_iload (pc := 3) hx hcb dX11_goOn_3 (lv_at hl 4 rfl) ?_
      refine lv_sipush (v := 1008) (pc := 5) hx hcb dX11_goOn_5 rfl ?_
      refine lv_icmp_ge (tgt := 25) (pc := 8) hx hcb dX11_goOn_8 (by decide) (fun c8 => ?_) (fun c8 => ?_)
      · have h := h.1 c8
        exact hK25 σ40 _ _ _ h hW (lv_sub hl [0, 1, 2, 3] rfl)
      · have h := h.2 c8
        refine lv_aload_n (pc := 11) hx hcb dX11_goOn_11 rfl (lv_at hl 0 rfl) ?_
        refine kget (v := .ref (X.2.1 16)) (pc := 12) hx hcb hts hown hS hW iwX11 kOM_0 rfl 23 (by decide) q881 rfl rfl dX11_goOn_12 ?_
        refine lv_iload (pc := 15) hx hcb dX11_goOn_15 (lv_at hl 4 rfl) ?_
        refine lv_lconst (v := 0) (pc := 17) hx hcb dX11_goOn_17 rfl ?_
        have hin42 := h.1
        have h := h.2
        refine klast (x4_41.toNatClampNeg) (pc := 18) hx hcb hS hW kJM_16 rfl (kin_of hin42 (by decide)) dX11_goOn_18 (fun σ43 H locs eσ43 hW => ?_)
        have h := h σ43 eσ43
        refine lv_iinc (v := x4_41 + 1) (lv' := [(4, .int (x4_41 + 1)), (0, .ref (X.2.1 0)), (1, .int x1), (2, .int x2), (3, .int x3)]) (pc := 19) hx hcb dX11_goOn_19 hl (k := 4) rfl rfl (by decide) rfl (fun ls hl => ?_)
        refine lv_goto (tgt := 3) (pc := 22) hx hcb dX11_goOn_22 (by decide) ?_
        exact ih σ43 (x4_41 + 1) _ _ _ h hW (lv_sub hl [1, 2, 3, 4, 0] rfl)
  obtain ⟨n, h⟩ := h
  exact hL3 n σ 0 _ _ _ h hW (lv_sub hl [1, 2, 3, 4, 0] rfl)
abbrev rm_X11_chance : Room := { frames := 3, cells := 0, slots := 0, locals := 76 }
set_option maxHeartbeats 4000000 in
set_option maxRecDepth 100000 in
theorem c_X11_chance (l : Launch) (X : KX) (σ : Mm) (x1 : Int32) (x2 : Int32) (x3 : Int32) (Φ : Int64 → Mm → Prop) (h : wp_X11_chance σ x1 x2 x3 Φ) : Met l yX11_chance (.code yX11_chance cX11_chance 14 (some .long) :: kT) rm_X11_chance (va_Pc [.ref (X.2.1 0), .int x1, .int x2, .int x3] (kPre kZM X σ)) (va_Ql (fun r σ' => Φ r σ') (fun σ' t => kPre kZM X σ' t) (kA kZM X)) 0 0 (kA kZM X) := by
  refine kofL (by decide) (Nat.le_of_ble_eq_true rfl) ?_
  intro p e s m args below meth c ls Q hx hcb hml hown hts hS hW hl hret
  have hown : s.vm.findClass RX11 = some m.cls := hown
  have hl : lv_has ls 14 [(0, .ref (X.2.1 0)), (1, .int x1), (2, .int x2), (3, .int x3)] := hl
  unfold wp_X11_chance at h
  refine lv_aload_n (pc := 0) hx hcb dX11_chance_0 rfl (lv_at hl 0 rfl) ?_
  refine lv_iload_n (pc := 1) hx hcb dX11_chance_1 rfl (lv_at hl 1 rfl) ?_
  refine kci (krunV (As := [.int x1]) (rest := []) (pc := 2) hx hcb hml hown hts hS hW (c_X11_isYard l X σ x1 _ h) mf_X11_isYard q980 kOM_0 rfl ⟨rfl, rfl⟩ ⟨Nat.le_of_ble_eq_true rfl, Nat.le_of_ble_eq_true rfl⟩ rfl hl.1 rfl (Nat.le_of_ble_eq_true rfl) dX11_chance_2 ⟨Nat.zero_le _, Nat.zero_le _⟩) hS hW (fun r2 σ1 H locs h hW => ?_)
  obtain ⟨h, rfl⟩ := h
  refine lv_if_eq (tgt := 27) (pc := 5) hx hcb dX11_chance_5 (by decide) (fun c5 => ?_) (fun c5 => ?_)
  · have h := h.1 c5
    refine kldc2 (v := (-1)) (pc := 27) hx hcb hown hts q1134 dX11_chance_27 ?_
    exact hret _ _ _ _ _ _ h hW dX11_chance_30
  · have h := h.2 c5
    refine lv_iload_n (pc := 8) hx hcb dX11_chance_8 rfl (lv_at hl 2 rfl) ?_
    refine lv_iconst (v := 0) (pc := 9) hx hcb dX11_chance_9 rfl ?_
    refine lv_bipush (v := 6) (pc := 10) hx hcb dX11_chance_10 rfl ?_
    refine kci (krunS (As := [.int x2, .int 0, .int 6]) (rest := []) (pc := 12) hx hcb hml hown hts hS hW (c_X11_in l X σ x2 0 6 _ h) mf_X11_in q936 ⟨rfl, rfl⟩ ⟨Nat.le_of_ble_eq_true rfl, Nat.le_of_ble_eq_true rfl⟩ rfl hl.1 rfl (Nat.le_of_ble_eq_true rfl) dX11_chance_12 ⟨Nat.zero_le _, Nat.zero_le _⟩) hS hW (fun r4 σ3 H locs h hW => ?_)
    obtain ⟨h, rfl⟩ := h
    refine lv_if_eq (tgt := 27) (pc := 15) hx hcb dX11_chance_15 (by decide) (fun c15 => ?_) (fun c15 => ?_)
    · have h := h.1 c15
      refine kldc2 (v := (-1)) (pc := 27) hx hcb hown hts q1134 dX11_chance_27 ?_
      exact hret _ _ _ _ _ _ h hW dX11_chance_30
    · have h := h.2 c15
      refine lv_iload_n (pc := 18) hx hcb dX11_chance_18 rfl (lv_at hl 3 rfl) ?_
      refine lv_iconst (v := 0) (pc := 19) hx hcb dX11_chance_19 rfl ?_
      refine lv_iconst (v := 1) (pc := 20) hx hcb dX11_chance_20 rfl ?_
      refine kci (krunS (As := [.int x3, .int 0, .int 1]) (rest := []) (pc := 21) hx hcb hml hown hts hS hW (c_X11_in l X σ x3 0 1 _ h) mf_X11_in q936 ⟨rfl, rfl⟩ ⟨Nat.le_of_ble_eq_true rfl, Nat.le_of_ble_eq_true rfl⟩ rfl hl.1 rfl (Nat.le_of_ble_eq_true rfl) dX11_chance_21 ⟨Nat.zero_le _, Nat.zero_le _⟩) hS hW (fun r6 σ5 H locs h hW => ?_)
      obtain ⟨h, rfl⟩ := h
      refine lv_if_ne (tgt := 31) (pc := 24) hx hcb dX11_chance_24 (by decide) (fun c24 => ?_) (fun c24 => ?_)
      · have h := h.1 c24
        refine lv_aload_n (pc := 31) hx hcb dX11_chance_31 rfl (lv_at hl 0 rfl) ?_
        refine lv_aload_n (pc := 32) hx hcb dX11_chance_32 rfl (lv_at hl 0 rfl) ?_
        refine kget (v := .ref (X.2.1 4)) (pc := 33) hx hcb hts hown hS hW iwX11 kOM_0 rfl 7 (by decide) q865 rfl rfl dX11_chance_33 ?_
        refine lv_iconst (v := 1) (pc := 36) hx hcb dX11_chance_36 rfl ?_
        refine kiald 1 (pc := 37) hx hcb hS hW kIM_4 rfl (kin_of ⟨by decide, by decide⟩ (by decide)) dX11_chance_37 ?_
        refine kcv (krunV (As := [.int (σ.1 4 1)]) (rest := []) (pc := 38) hx hcb hml hown hts hS hW (c_X11_startWays l X σ (σ.1 4 1) _ h) mf_X11_startWays q1114 kOM_0 rfl ⟨rfl, rfl⟩ ⟨Nat.le_of_ble_eq_true rfl, Nat.le_of_ble_eq_true rfl⟩ rfl hl.1 rfl (Nat.le_of_ble_eq_true rfl) dX11_chance_38 ⟨Nat.zero_le _, Nat.zero_le _⟩) hS hW (fun σ7 H locs h hW => ?_)
        refine lv_lconst (v := 1) (pc := 41) hx hcb dX11_chance_41 rfl ?_
        refine lv_lstore (lv' := [(4, .long 1), (0, .ref (X.2.1 0)), (1, .int x1), (2, .int x2), (3, .int x3)]) (pc := 42) hx hcb dX11_chance_42 hl (by decide) rfl (fun ls hl => ?_)
        refine lv_iconst (v := 0) (pc := 44) hx hcb dX11_chance_44 rfl ?_
        refine lv_istore (lv' := [(6, .int 0), (4, .long 1), (0, .ref (X.2.1 0)), (1, .int x1), (2, .int x2), (3, .int x3)]) (pc := 45) hx hcb dX11_chance_45 hl (by decide) rfl (fun ls hl => ?_)
        obtain ⟨K82, hk82, h⟩ := h
        have hK82 : ∀ (σ8 : Mm) (x4_9 : Int64) (H : Heap) (locs : List Loc) (ls : Array Slot), K82 σ8 x4_9 → kW kZM X (kA kZM X) s σ8 H locs → lv_has ls 14 [(0, .ref (X.2.1 0)), (1, .int x1), (3, .int x3), (4, .long x4_9)] → W p l e rm_X11_chance s m args below meth c H locs 0 0 Q (F0 m 82 ls []) := by
          intro σ8 x4_9 H locs ls h hW hl
          have h := hk82 σ8 x4_9 h
          refine lv_lconst (v := 0) (pc := 82) hx hcb dX11_chance_82 rfl ?_
          refine lv_lstore (lv' := [(6, .long 0), (0, .ref (X.2.1 0)), (1, .int x1), (3, .int x3), (4, .long x4_9)]) (pc := 83) hx hcb dX11_chance_83 hl (by decide) rfl (fun ls hl => ?_)
          refine lv_iconst (v := 0) (pc := 85) hx hcb dX11_chance_85 rfl ?_
          refine lv_istore (lv' := [(8, .int 0), (6, .long 0), (0, .ref (X.2.1 0)), (1, .int x1), (3, .int x3), (4, .long x4_9)]) (pc := 86) hx hcb dX11_chance_86 hl (by decide) rfl (fun ls hl => ?_)
          obtain ⟨K127, hk127, h⟩ := h
          have hK127 : ∀ (x6_10 : Int64) (H : Heap) (locs : List Loc) (ls : Array Slot), K127 x6_10 → kW kZM X (kA kZM X) s σ8 H locs → lv_has ls 14 [(3, .int x3), (4, .long x4_9), (6, .long x6_10)] → W p l e rm_X11_chance s m args below meth c H locs 0 0 Q (F0 m 127 ls []) := by
            intro x6_10 H locs ls h hW hl
            have h := hk127 x6_10 h
            refine lv_lload (pc := 127) hx hcb dX11_chance_127 (lv_at hl 2 rfl) ?_
            refine lv_lstore (lv' := [(8, .long x6_10), (3, .int x3), (4, .long x4_9), (6, .long x6_10)]) (pc := 129) hx hcb dX11_chance_129 hl (by decide) rfl (fun ls hl => ?_)
            refine lv_lload (pc := 131) hx hcb dX11_chance_131 (lv_at hl 2 rfl) ?_
            refine lv_lstore (lv' := [(10, .long x4_9), (8, .long x6_10), (3, .int x3), (4, .long x4_9), (6, .long x6_10)]) (pc := 133) hx hcb dX11_chance_133 hl (by decide) rfl (fun ls hl => ?_)
            obtain ⟨K160, hk160, h⟩ := h
            have hK160 : ∀ (x8_11 : Int64) (H : Heap) (locs : List Loc) (ls : Array Slot), K160 x8_11 → kW kZM X (kA kZM X) s σ8 H locs → lv_has ls 14 [(3, .int x3), (4, .long x4_9), (6, .long x6_10), (8, .long x8_11)] → W p l e rm_X11_chance s m args below meth c H locs 0 0 Q (F0 m 160 ls []) := by
              intro x8_11 H locs ls h hW hl
              have h := hk160 x8_11 h
              refine lv_iload_n (pc := 160) hx hcb dX11_chance_160 rfl (lv_at hl 0 rfl) ?_
              refine lv_if_ne (tgt := 172) (pc := 161) hx hcb dX11_chance_161 (by decide) (fun c161 => ?_) (fun c161 => ?_)
              · have h := h.1 c161
                refine lv_lload (pc := 172) hx hcb dX11_chance_172 (lv_at hl 1 rfl) ?_
                refine lv_lload (pc := 174) hx hcb dX11_chance_174 (lv_at hl 3 rfl) ?_
                have hne176 := h.1
                have h := h.2
                refine lv_ldiv (pc := 176) hx hcb dX11_chance_176 hne176 ?_
                exact hret _ _ _ _ _ _ h hW dX11_chance_177
              · have h := h.2 c161
                refine lv_lload (pc := 164) hx hcb dX11_chance_164 (lv_at hl 2 rfl) ?_
                refine lv_lload (pc := 166) hx hcb dX11_chance_166 (lv_at hl 3 rfl) ?_
                have hne168 := h.1
                have h := h.2
                refine lv_ldiv (pc := 168) hx hcb dX11_chance_168 hne168 ?_
                refine lv_goto (tgt := 177) (pc := 169) hx hcb dX11_chance_169 (by decide) ?_
                exact hret _ _ _ _ _ _ h hW dX11_chance_177
            have hL135 : ∀ (n : Nat) (x8_12 : Int64) (x10_13 : Int64) (H : Heap) (locs : List Loc) (ls : Array Slot), wp_X11_chance_L135 K160 n x8_12 x10_13 → kW kZM X (kA kZM X) s σ8 H locs → lv_has ls 14 [(3, .int x3), (4, .long x4_9), (6, .long x6_10), (8, .long x8_12), (10, .long x10_13)] → W p l e rm_X11_chance s m args below meth c H locs 0 0 Q (F0 m 135 ls []) := by
              intro n
              induction n with
              | zero =>
                intro x8_12 x10_13 H locs ls h
                exact False.elim h
              | succ n ih =>
                intro x8_12 x10_13 H locs ls h hW hl
                unfold wp_X11_chance_L135 at h
                refine lv_lload (pc := 135) hx hcb dX11_chance_135 (lv_at hl 4 rfl) ?_
                refine lv_lconst (v := 0) (pc := 137) hx hcb dX11_chance_137 rfl ?_
                refine W.lcmp (pc := 138) hx hcb dX11_chance_138 ?_
                refine lv_if_eq (tgt := 160) (pc := 139) hx hcb dX11_chance_139 (by decide) (fun c139 => ?_) (fun c139 => ?_)
                · have h := h.1 c139
                  exact hK160 x8_12 _ _ _ h hW (lv_sub hl [0, 1, 2, 3] rfl)
                · have h := h.2 c139
                  refine lv_lload (pc := 142) hx hcb dX11_chance_142 (lv_at hl 3 rfl) ?_
                  refine lv_lload (pc := 144) hx hcb dX11_chance_144 (lv_at hl 4 rfl) ?_
                  have hne146 := h.1
                  have h := h.2
                  refine lv_lrem (pc := 146) hx hcb dX11_chance_146 hne146 ?_
                  refine lv_topl (fun x12_14 ex12_14 => ?_)
                  have h := h x12_14 ex12_14
                  refine lv_lstore (lv' := [(12, .long x12_14), (3, .int x3), (4, .long x4_9), (6, .long x6_10), (8, .long x8_12), (10, .long x10_13)]) (pc := 147) hx hcb dX11_chance_147 hl (by decide) rfl (fun ls hl => ?_)
                  refine lv_lload (pc := 149) hx hcb dX11_chance_149 (lv_at hl 5 rfl) ?_
                  refine lv_lstore (lv' := [(8, .long x10_13), (12, .long x12_14), (3, .int x3), (4, .long x4_9), (6, .long x6_10), (10, .long x10_13)]) (pc := 151) hx hcb dX11_chance_151 hl (by decide) rfl (fun ls hl => ?_)
                  refine lv_lload (pc := 153) hx hcb dX11_chance_153 (lv_at hl 1 rfl) ?_
                  refine lv_lstore (lv' := [(10, .long x12_14), (8, .long x10_13), (12, .long x12_14), (3, .int x3), (4, .long x4_9), (6, .long x6_10)]) (pc := 155) hx hcb dX11_chance_155 hl (by decide) rfl (fun ls hl => ?_)
                  refine lv_goto (tgt := 135) (pc := 157) hx hcb dX11_chance_157 (by decide) ?_
                  exact ih x10_13 x12_14 _ _ _ h hW (lv_sub hl [3, 4, 5, 1, 0] rfl)
            obtain ⟨n, h⟩ := h
            exact hL135 n x6_10 x4_9 _ _ _ h hW (lv_sub hl [2, 3, 4, 1, 0] rfl)
          have hL88 : ∀ (n : Nat) (x6_15 : Int64) (x8_16 : Int32) (H : Heap) (locs : List Loc) (ls : Array Slot), wp_X11_chance_L88 x1 σ8 K127 n x6_15 x8_16 → kW kZM X (kA kZM X) s σ8 H locs → lv_has ls 14 [(0, .ref (X.2.1 0)), (1, .int x1), (3, .int x3), (4, .long x4_9), (6, .long x6_15), (8, .int x8_16)] → W p l e rm_X11_chance s m args below meth c H locs 0 0 Q (F0 m 88 ls []) := by
            intro n
            induction n with
            | zero =>
              intro x6_15 x8_16 H locs ls h
              exact False.elim h
            | succ n ih =>
              intro x6_15 x8_16 H locs ls h hW hl
              unfold wp_X11_chance_L88 at h
              refine lv_iload (pc := 88) hx hcb dX11_chance_88 (lv_at hl 5 rfl) ?_
              refine lv_sipush (v := 1008) (pc := 90) hx hcb dX11_chance_90 rfl ?_
              refine lv_icmp_ge (tgt := 127) (pc := 93) hx hcb dX11_chance_93 (by decide) (fun c93 => ?_) (fun c93 => ?_)
              · have h := h.1 c93
                exact hK127 x6_15 _ _ _ h hW (lv_sub hl [2, 3, 4] rfl)
              · have h := h.2 c93
                refine lv_lload (pc := 96) hx hcb dX11_chance_96 (lv_at hl 4 rfl) ?_
                refine lv_iload (pc := 98) hx hcb dX11_chance_98 (lv_at hl 5 rfl) ?_
                refine kci (krunS (As := [.int x8_16]) (rest := [.long x6_15]) (pc := 100) hx hcb hml hown hts hS hW (c_X11_yardOf l X σ8 x8_16 _ h) mf_X11_yardOf q1004 ⟨rfl, rfl⟩ ⟨Nat.le_of_ble_eq_true rfl, Nat.le_of_ble_eq_true rfl⟩ rfl hl.1 rfl (Nat.le_of_ble_eq_true rfl) dX11_chance_100 ⟨Nat.zero_le _, Nat.zero_le _⟩) hS hW (fun r18 σ17 H locs h hW => ?_)
                obtain ⟨h, rfl⟩ := h
                refine lv_iload_n (pc := 103) hx hcb dX11_chance_103 rfl (lv_at hl 1 rfl) ?_
                obtain ⟨K118, hk118, h⟩ := h
                have hK118 : ∀ (v19 : Int64) (H : Heap) (locs : List Loc) (ls : Array Slot), K118 v19 → kW kZM X (kA kZM X) s σ8 H locs → lv_has ls 14 [(0, .ref (X.2.1 0)), (1, .int x1), (3, .int x3), (4, .long x4_9), (8, .int x8_16)] → W p l e rm_X11_chance s m args below meth c H locs 0 0 Q (F0 m 118 ls [.long v19, .long x6_15]) := by
                  intro v19 H locs ls h hW hl
                  have h := hk118 v19 h
                  refine lv_ladd (pc := 118) hx hcb dX11_chance_118 ?_
                  refine lv_topl (fun x6_20 ex6_20 => ?_)
                  have h := h x6_20 ex6_20
                  refine lv_lstore (lv' := [(6, .long x6_20), (0, .ref (X.2.1 0)), (1, .int x1), (3, .int x3), (4, .long x4_9), (8, .int x8_16)]) (pc := 119) hx hcb dX11_chance_119 hl (by decide) rfl (fun ls hl => ?_)
                  refine lv_iinc (v := x8_16 + 1) (lv' := [(8, .int (x8_16 + 1)), (6, .long x6_20), (0, .ref (X.2.1 0)), (1, .int x1), (3, .int x3), (4, .long x4_9)]) (pc := 121) hx hcb dX11_chance_121 hl (k := 5) rfl rfl (by decide) rfl (fun ls hl => ?_)
                  refine lv_goto (tgt := 88) (pc := 124) hx hcb dX11_chance_124 (by decide) ?_
                  exact ih x6_20 (x8_16 + 1) _ _ _ h hW (lv_sub hl [2, 3, 4, 5, 1, 0] rfl)
                refine lv_icmp_ne (tgt := 117) (pc := 104) hx hcb dX11_chance_104 (by decide) (fun c104 => ?_) (fun c104 => ?_)
                · have h := h.1 c104
                  refine lv_lconst (v := 0) (pc := 117) hx hcb dX11_chance_117 rfl ?_
                  exact hK118 0 _ _ _ h hW (lv_sub hl [0, 1, 2, 3, 5] rfl)
                · have h := h.2 c104
                  refine lv_aload_n (pc := 107) hx hcb dX11_chance_107 rfl (lv_at hl 0 rfl) ?_
                  refine kget (v := .ref (X.2.1 15)) (pc := 108) hx hcb hts hown hS hW iwX11 kOM_0 rfl 22 (by decide) q880 rfl rfl dX11_chance_108 ?_
                  refine lv_iload (pc := 111) hx hcb dX11_chance_111 (lv_at hl 5 rfl) ?_
                  have hin21 := h.1
                  have h := h.2
                  refine klald (x8_16.toNatClampNeg) (pc := 113) hx hcb hS hW kJM_15 rfl (kin_of hin21 (by decide)) dX11_chance_113 ?_
                  refine lv_goto (tgt := 118) (pc := 114) hx hcb dX11_chance_114 (by decide) ?_
                  exact hK118 (σ8.2.1 15 (x8_16.toNatClampNeg)) _ _ _ h hW (lv_sub hl [0, 1, 2, 3, 5] rfl)
          obtain ⟨n, h⟩ := h
          exact hL88 n 0 0 _ _ _ h hW (lv_sub hl [2, 3, 4, 5, 1, 0] rfl)
        have hL47 : ∀ (n : Nat) (σ22 : Mm) (x4_23 : Int64) (x6_24 : Int32) (H : Heap) (locs : List Loc) (ls : Array Slot), wp_X11_chance_L47 x2 K82 n σ22 x4_23 x6_24 → kW kZM X (kA kZM X) s σ22 H locs → lv_has ls 14 [(0, .ref (X.2.1 0)), (1, .int x1), (2, .int x2), (3, .int x3), (4, .long x4_23), (6, .int x6_24)] → W p l e rm_X11_chance s m args below meth c H locs 0 0 Q (F0 m 47 ls []) := by
          intro n
          induction n with
          | zero =>
            intro σ22 x4_23 x6_24 H locs ls h
            exact False.elim h
          | succ n ih =>
            intro σ22 x4_23 x6_24 H locs ls h hW hl
            unfold wp_X11_chance_L47 at h
            refine lv_iload (pc := 47) hx hcb dX11_chance_47 (lv_at hl 5 rfl) ?_
            refine lv_iload_n (pc := 49) hx hcb dX11_chance_49 rfl (lv_at hl 2 rfl) ?_
            refine lv_icmp_ge (tgt := 82) (pc := 50) hx hcb dX11_chance_50 (by decide) (fun c50 => ?_) (fun c50 => ?_)
            · have h := h.1 c50
              exact hK82 σ22 x4_23 _ _ _ h hW (lv_sub hl [0, 1, 3, 4] rfl)
            · have h := h.2 c50
              refine lv_aload_n (pc := 53) hx hcb dX11_chance_53 rfl (lv_at hl 0 rfl) ?_
              refine lv_aload_n (pc := 54) hx hcb dX11_chance_54 rfl (lv_at hl 0 rfl) ?_
              refine kget (v := .ref (X.2.1 4)) (pc := 55) hx hcb hts hown hS hW iwX11 kOM_0 rfl 7 (by decide) q865 rfl rfl dX11_chance_55 ?_
              refine lv_iconst (v := 0) (pc := 58) hx hcb dX11_chance_58 rfl ?_
              refine kiald 0 (pc := 59) hx hcb hS hW kIM_4 rfl (kin_of ⟨by decide, by decide⟩ (by decide)) dX11_chance_59 ?_
              refine lv_iload (pc := 60) hx hcb dX11_chance_60 (lv_at hl 5 rfl) ?_
              refine lv_iadd (pc := 62) hx hcb dX11_chance_62 ?_
              refine lv_iconst (v := (-1)) (pc := 63) hx hcb dX11_chance_63 rfl ?_
              refine lv_iconst (v := 1) (pc := 64) hx hcb dX11_chance_64 rfl ?_
              refine kcv (krunV (As := [.int ((σ22.1 4 0) + x6_24), .int (-1), .int 1]) (rest := []) (pc := 65) hx hcb hml hown hts hS hW (c_X11_goOn l X σ22 ((σ22.1 4 0) + x6_24) (-1) 1 _ h) mf_X11_goOn q1122 kOM_0 rfl ⟨rfl, rfl⟩ ⟨Nat.le_of_ble_eq_true rfl, Nat.le_of_ble_eq_true rfl⟩ rfl hl.1 rfl (Nat.le_of_ble_eq_true rfl) dX11_chance_65 ⟨Nat.zero_le _, Nat.zero_le _⟩) hS hW (fun σ25 H locs h hW => ?_)
              refine lv_lload (pc := 68) hx hcb dX11_chance_68 (lv_at hl 4 rfl) ?_
              refine kldc2 (v := 120) (pc := 70) hx hcb hown hts q1135 dX11_chance_70 ?_
              refine lv_lmul (pc := 73) hx hcb dX11_chance_73 ?_
              refine lv_topl (fun x4_26 ex4_26 => ?_)
              have h := h x4_26 ex4_26
              refine lv_lstore (lv' := [(4, .long x4_26), (0, .ref (X.2.1 0)), (1, .int x1), (2, .int x2), (3, .int x3), (6, .int x6_24)]) (pc := 74) hx hcb dX11_chance_74 hl (by decide) rfl (fun ls hl => ?_)
              refine lv_iinc (v := x6_24 + 1) (lv' := [(6, .int (x6_24 + 1)), (4, .long x4_26), (0, .ref (X.2.1 0)), (1, .int x1), (2, .int x2), (3, .int x3)]) (pc := 76) hx hcb dX11_chance_76 hl (k := 5) rfl rfl (by decide) rfl (fun ls hl => ?_)
              refine lv_goto (tgt := 47) (pc := 79) hx hcb dX11_chance_79 (by decide) ?_
              exact ih σ25 x4_26 (x6_24 + 1) _ _ _ h hW (lv_sub hl [2, 3, 4, 5, 1, 0] rfl)
        obtain ⟨n, h⟩ := h
        exact hL47 n σ7 1 0 _ _ _ h hW (lv_sub hl [2, 3, 4, 5, 1, 0] rfl)
      · have h := h.2 c24
        refine kldc2 (v := (-1)) (pc := 27) hx hcb hown hts q1134 dX11_chance_27 ?_
        exact hret _ _ _ _ _ _ h hW dX11_chance_30
abbrev rm_X11_count : Room := { frames := 0, cells := 0, slots := 0, locals := 0 }
set_option maxHeartbeats 4000000 in
set_option maxRecDepth 100000 in
theorem c_X11_count (l : Launch) (X : KX) (σ : Mm) (x1 : Int32) (Φ : Int32 → Prop) (h : wp_X11_count σ x1 Φ) : Met l yX11_count (.code yX11_count cX11_count 2 (some .int) :: kT) rm_X11_count (va_Pc [.ref (X.2.1 0), .int x1] (kPre kZM X σ)) (va_Qi (fun r σ' => Φ r ∧ σ = σ') (fun σ' t => kPre kZM X σ' t) (kA kZM X)) 0 0 (kA kZM X) := by
  refine kofI (by decide) (Nat.le_of_ble_eq_true rfl) ?_
  intro p e s m args below meth c ls Q hx hcb hml hown hts hS hW hl hret
  have hown : s.vm.findClass RX11 = some m.cls := hown
  have hl : lv_has ls 2 [(0, .ref (X.2.1 0)), (1, .int x1)] := hl
  unfold wp_X11_count at h
  refine lv_iload_n (pc := 0) hx hcb dX11_count_0 rfl (lv_at hl 1 rfl) ?_
  refine lv_topi (fun w1 ew1 => ?_)
  have h := h w1 ew1
  by_cases hsw : w1.toInt < 0 ∨ 7 < w1.toInt
  · have h := h.2.2.2.2.2.2.2.2 hsw
    refine lv_tableOut (tgt := 94) (pc := 1) hx hcb dX11_count_1 hsw (by decide) ?_
    refine lv_iconst (v := (-1)) (pc := 94) hx hcb dX11_count_94 rfl ?_
    exact hret _ _ _ _ _ _ rfl ⟨h, rfl⟩ hW dX11_count_95
  · have hcs : w1.toInt = 0 ∨ w1.toInt = 1 ∨ w1.toInt = 2 ∨ w1.toInt = 3 ∨ w1.toInt = 4 ∨ w1.toInt = 5 ∨ w1.toInt = 6 ∨ w1.toInt = 7 := by omega
    rcases hcs with csw | csw | csw | csw | csw | csw | csw | csw
    · have h := h.1 (ksw csw rfl)
      refine lv_tableIn (off := 47) (tgt := 48) (pc := 1) hx hcb dX11_count_1 (fun q => hsw (Or.inl q)) (fun q => hsw (Or.inr q)) (by rw [csw]; rfl) (by decide) ?_
      refine lv_aload_n (pc := 48) hx hcb dX11_count_48 rfl (lv_at hl 0 rfl) ?_
      refine kget (v := .ref (X.2.1 1)) (pc := 49) hx hcb hts hown hS hW iwX11 kOM_0 rfl 0 (by decide) q858 rfl rfl dX11_count_49 ?_
      refine lv_iconst (v := 0) (pc := 52) hx hcb dX11_count_52 rfl ?_
      refine kiald 0 (pc := 53) hx hcb hS hW kIM_1 rfl (kin_of ⟨by decide, by decide⟩ (by decide)) dX11_count_53 ?_
      exact hret _ _ _ _ _ _ rfl ⟨h, rfl⟩ hW dX11_count_54
    · have h := h.2.1 (ksw csw rfl)
      refine lv_tableIn (off := 54) (tgt := 55) (pc := 1) hx hcb dX11_count_1 (fun q => hsw (Or.inl q)) (fun q => hsw (Or.inr q)) (by rw [csw]; rfl) (by decide) ?_
      refine lv_aload_n (pc := 55) hx hcb dX11_count_55 rfl (lv_at hl 0 rfl) ?_
      refine kget (v := .ref (X.2.1 1)) (pc := 56) hx hcb hts hown hS hW iwX11 kOM_0 rfl 0 (by decide) q858 rfl rfl dX11_count_56 ?_
      refine lv_iconst (v := 1) (pc := 59) hx hcb dX11_count_59 rfl ?_
      refine kiald 1 (pc := 60) hx hcb hS hW kIM_1 rfl (kin_of ⟨by decide, by decide⟩ (by decide)) dX11_count_60 ?_
      exact hret _ _ _ _ _ _ rfl ⟨h, rfl⟩ hW dX11_count_61
    · have h := h.2.2.1 (ksw csw rfl)
      refine lv_tableIn (off := 61) (tgt := 62) (pc := 1) hx hcb dX11_count_1 (fun q => hsw (Or.inl q)) (fun q => hsw (Or.inr q)) (by rw [csw]; rfl) (by decide) ?_
      refine lv_aload_n (pc := 62) hx hcb dX11_count_62 rfl (lv_at hl 0 rfl) ?_
      refine kget (v := .ref (X.2.1 4)) (pc := 63) hx hcb hts hown hS hW iwX11 kOM_0 rfl 7 (by decide) q865 rfl rfl dX11_count_63 ?_
      refine lv_iconst (v := 0) (pc := 66) hx hcb dX11_count_66 rfl ?_
      refine kiald 0 (pc := 67) hx hcb hS hW kIM_4 rfl (kin_of ⟨by decide, by decide⟩ (by decide)) dX11_count_67 ?_
      exact hret _ _ _ _ _ _ rfl ⟨h, rfl⟩ hW dX11_count_68
    · have h := h.2.2.2.1 (ksw csw rfl)
      refine lv_tableIn (off := 68) (tgt := 69) (pc := 1) hx hcb dX11_count_1 (fun q => hsw (Or.inl q)) (fun q => hsw (Or.inr q)) (by rw [csw]; rfl) (by decide) ?_
      refine lv_aload_n (pc := 69) hx hcb dX11_count_69 rfl (lv_at hl 0 rfl) ?_
      refine kget (v := .int (σ.1 0 14)) (pc := 70) hx hcb hts hown hS hW iwX11 kOM_0 rfl 14 (by decide) q872 rfl rfl dX11_count_70 ?_
      exact hret _ _ _ _ _ _ rfl ⟨h, rfl⟩ hW dX11_count_73
    · have h := h.2.2.2.2.1 (ksw csw rfl)
      refine lv_tableIn (off := 73) (tgt := 74) (pc := 1) hx hcb dX11_count_1 (fun q => hsw (Or.inl q)) (fun q => hsw (Or.inr q)) (by rw [csw]; rfl) (by decide) ?_
      refine lv_aload_n (pc := 74) hx hcb dX11_count_74 rfl (lv_at hl 0 rfl) ?_
      refine kget (v := .int (σ.1 0 21)) (pc := 75) hx hcb hts hown hS hW iwX11 kOM_0 rfl 21 (by decide) q879 rfl rfl dX11_count_75 ?_
      exact hret _ _ _ _ _ _ rfl ⟨h, rfl⟩ hW dX11_count_78
    · have h := h.2.2.2.2.2.1 (ksw csw rfl)
      refine lv_tableIn (off := 78) (tgt := 79) (pc := 1) hx hcb dX11_count_1 (fun q => hsw (Or.inl q)) (fun q => hsw (Or.inr q)) (by rw [csw]; rfl) (by decide) ?_
      refine lv_aload_n (pc := 79) hx hcb dX11_count_79 rfl (lv_at hl 0 rfl) ?_
      refine kget (v := .int (σ.1 0 9)) (pc := 80) hx hcb hts hown hS hW iwX11 kOM_0 rfl 9 (by decide) q867 rfl rfl dX11_count_80 ?_
      exact hret _ _ _ _ _ _ rfl ⟨h, rfl⟩ hW dX11_count_83
    · have h := h.2.2.2.2.2.2.1 (ksw csw rfl)
      refine lv_tableIn (off := 83) (tgt := 84) (pc := 1) hx hcb dX11_count_1 (fun q => hsw (Or.inl q)) (fun q => hsw (Or.inr q)) (by rw [csw]; rfl) (by decide) ?_
      refine lv_aload_n (pc := 84) hx hcb dX11_count_84 rfl (lv_at hl 0 rfl) ?_
      refine kget (v := .int (σ.1 0 11)) (pc := 85) hx hcb hts hown hS hW iwX11 kOM_0 rfl 11 (by decide) q869 rfl rfl dX11_count_85 ?_
      exact hret _ _ _ _ _ _ rfl ⟨h, rfl⟩ hW dX11_count_88
    · have h := h.2.2.2.2.2.2.2.1 (ksw csw rfl)
      refine lv_tableIn (off := 88) (tgt := 89) (pc := 1) hx hcb dX11_count_1 (fun q => hsw (Or.inl q)) (fun q => hsw (Or.inr q)) (by rw [csw]; rfl) (by decide) ?_
      refine lv_aload_n (pc := 89) hx hcb dX11_count_89 rfl (lv_at hl 0 rfl) ?_
      refine kget (v := .int (σ.1 0 3)) (pc := 90) hx hcb hts hown hS hW iwX11 kOM_0 rfl 3 (by decide) q861 rfl rfl dX11_count_90 ?_
      exact hret _ _ _ _ _ _ rfl ⟨h, rfl⟩ hW dX11_count_93
abbrev rm_X11_here : Room := { frames := 0, cells := 0, slots := 0, locals := 0 }
set_option maxHeartbeats 4000000 in
set_option maxRecDepth 100000 in
theorem c_X11_here (l : Launch) (X : KX) (σ : Mm)  (Φ : Int32 → Prop) (h : wp_X11_here σ  Φ) : Met l yX11_here (.code yX11_here cX11_here 1 (some .int) :: kT) rm_X11_here (va_Pc [.ref (X.2.1 0)] (kPre kZM X σ)) (va_Qi (fun r σ' => Φ r ∧ σ = σ') (fun σ' t => kPre kZM X σ' t) (kA kZM X)) 0 0 (kA kZM X) := by
  refine kofI (by decide) (Nat.le_of_ble_eq_true rfl) ?_
  intro p e s m args below meth c ls Q hx hcb hml hown hts hS hW hl hret
  have hown : s.vm.findClass RX11 = some m.cls := hown
  have hl : lv_has ls 1 [(0, .ref (X.2.1 0))] := hl
  unfold wp_X11_here at h
  refine lv_aload_n (pc := 0) hx hcb dX11_here_0 rfl (lv_at hl 0 rfl) ?_
  refine kget (v := .int (σ.1 0 4)) (pc := 1) hx hcb hts hown hS hW iwX11 kOM_0 rfl 4 (by decide) q862 rfl rfl dX11_here_1 ?_
  refine lv_aload_n (pc := 4) hx hcb dX11_here_4 rfl (lv_at hl 0 rfl) ?_
  refine kget (v := .int (σ.1 0 3)) (pc := 5) hx hcb hts hown hS hW iwX11 kOM_0 rfl 3 (by decide) q861 rfl rfl dX11_here_5 ?_
  refine lv_icmp_ge (tgt := 27) (pc := 8) hx hcb dX11_here_8 (by decide) (fun c8 => ?_) (fun c8 => ?_)
  · have h := h.1 c8
    refine lv_iconst (v := (-1)) (pc := 27) hx hcb dX11_here_27 rfl ?_
    exact hret _ _ _ _ _ _ rfl ⟨h, rfl⟩ hW dX11_here_28
  · have h := h.2 c8
    refine lv_aload_n (pc := 11) hx hcb dX11_here_11 rfl (lv_at hl 0 rfl) ?_
    refine kget (v := .ref (X.2.1 3)) (pc := 12) hx hcb hts hown hS hW iwX11 kOM_0 rfl 2 (by decide) q860 rfl rfl dX11_here_12 ?_
    refine lv_aload_n (pc := 15) hx hcb dX11_here_15 rfl (lv_at hl 0 rfl) ?_
    refine kget (v := .int (σ.1 0 4)) (pc := 16) hx hcb hts hown hS hW iwX11 kOM_0 rfl 4 (by decide) q862 rfl rfl dX11_here_16 ?_
    have hin1 := h.1
    have h := h.2
    refine kbald ((σ.1 0 4).toNatClampNeg) (pc := 19) hx hcb hS hW kBM_3 rfl (kin_of hin1 (by decide)) dX11_here_19 ?_
    refine lv_sipush (v := 255) (pc := 20) hx hcb dX11_here_20 rfl ?_
    refine lv_iand (pc := 23) hx hcb dX11_here_23 ?_
    refine lv_goto (tgt := 28) (pc := 24) hx hcb dX11_here_24 (by decide) ?_
    exact hret _ _ _ _ _ _ rfl ⟨h, rfl⟩ hW dX11_here_28
abbrev rm_X11_due : Room := { frames := 1, cells := 0, slots := 0, locals := 20 }
set_option maxHeartbeats 4000000 in
set_option maxRecDepth 100000 in
theorem c_X11_due (l : Launch) (X : KX) (σ : Mm) (x1 : Int32) (Φ : Mm → Prop) (h : wp_X11_due σ x1 Φ) : Met l yX11_due (.code yX11_due cX11_due 2 none :: kT) rm_X11_due (va_Pc [.ref (X.2.1 0), .int x1] (kPre kZM X σ)) (va_Qv (fun σ' => Φ σ') (fun σ' t => kPre kZM X σ' t) (kA kZM X)) 0 0 (kA kZM X) := by
  refine kofV (by decide) (Nat.le_of_ble_eq_true rfl) ?_
  intro p e s m args below meth c ls Q hx hcb hml hown hts hS hW hl hret
  have hown : s.vm.findClass RX11 = some m.cls := hown
  have hl : lv_has ls 2 [(0, .ref (X.2.1 0)), (1, .int x1)] := hl
  unfold wp_X11_due at h
  refine lv_aload_n (pc := 0) hx hcb dX11_due_0 rfl (lv_at hl 0 rfl) ?_
  refine lv_aload_n (pc := 1) hx hcb dX11_due_1 rfl (lv_at hl 0 rfl) ?_
  refine kget (v := .int (σ.1 0 5)) (pc := 2) hx hcb hts hown hS hW iwX11 kOM_0 rfl 5 (by decide) q863 rfl rfl dX11_due_2 ?_
  obtain ⟨K21, hk21, h⟩ := h
  have hK21 : ∀ (v1 : Int32) (H : Heap) (locs : List Loc) (ls : Array Slot), K21 v1 → kW kZM X (kA kZM X) s σ H locs → lv_has ls 2 [(0, .ref (X.2.1 0))] → W p l e rm_X11_due s m args below meth c H locs 0 0 Q (F0 m 21 ls [.int v1, .ref (X.2.1 0)]) := by
    intro v1 H locs ls h hW hl
    have h := hk21 v1 h
    have hbt21 := h.1
    have h := h.2
    refine kput (ty := .boolean) (pc := 21) hx hcb hts hown hS hW iwX11 tyX11 tyX11_ok nmX11 kOM_0 rfl 5 (by decide) q863 rfl rfl rfl (kbit_n hbt21) (kbit_f hbt21) (Nat.le_of_ble_eq_true rfl) rfl dX11_due_21 (fun σ2 H locs eσ2 hW => ?_)
    have h := h σ2 eσ2
    refine lv_aload_n (pc := 24) hx hcb dX11_due_24 rfl (lv_at hl 0 rfl) ?_
    refine lv_dup (pc := 25) hx hcb dX11_due_25 rfl ?_
    refine kget (v := .int (σ2.1 0 4)) (pc := 26) hx hcb hts hown hS hW iwX11 kOM_0 rfl 4 (by decide) q862 rfl rfl dX11_due_26 ?_
    refine lv_iconst (v := 1) (pc := 29) hx hcb dX11_due_29 rfl ?_
    refine lv_iadd (pc := 30) hx hcb dX11_due_30 ?_
    refine kput (ty := .int) (pc := 31) hx hcb hts hown hS hW iwX11 tyX11 tyX11_ok nmX11 kOM_0 rfl 4 (by decide) q862 rfl rfl rfl rfl rfl (Nat.le_of_ble_eq_true rfl) rfl dX11_due_31 (fun σ3 H locs eσ3 hW => ?_)
    have h := h σ3 eσ3
    exact hret _ _ _ _ _ h hW dX11_due_34
  obtain ⟨K16, hk16, h⟩ := h
  have hK16 : ∀  (H : Heap) (locs : List Loc) (ls : Array Slot), K16 → kW kZM X (kA kZM X) s σ H locs → lv_has ls 2 [(0, .ref (X.2.1 0))] → W p l e rm_X11_due s m args below meth c H locs 0 0 Q (F0 m 16 ls [.ref (X.2.1 0)]) := by
    intro  H locs ls h hW hl
    have h := hk16 h
    refine lv_iconst (v := 1) (pc := 16) hx hcb dX11_due_16 rfl ?_
    refine lv_goto (tgt := 21) (pc := 17) hx hcb dX11_due_17 (by decide) ?_
    exact hK21 1 _ _ _ h hW (lv_sub hl [0] rfl)
  refine lv_if_ne (tgt := 16) (pc := 5) hx hcb dX11_due_5 (by decide) (fun c5 => ?_) (fun c5 => ?_)
  · have h := h.1 c5
    exact hK16  _ _ _ h hW (lv_sub hl [0] rfl)
  · have h := h.2 c5
    refine lv_aload_n (pc := 8) hx hcb dX11_due_8 rfl (lv_at hl 0 rfl) ?_
    refine kci (krunV (As := []) (rest := [.ref (X.2.1 0)]) (pc := 9) hx hcb hml hown hts hS hW (c_X11_here l X σ  _ h) mf_X11_here q956 kOM_0 rfl ⟨rfl, rfl⟩ ⟨Nat.le_of_ble_eq_true rfl, Nat.le_of_ble_eq_true rfl⟩ rfl hl.1 rfl (Nat.le_of_ble_eq_true rfl) dX11_due_9 ⟨Nat.zero_le _, Nat.zero_le _⟩) hS hW (fun r5 σ4 H locs h hW => ?_)
    obtain ⟨h, rfl⟩ := h
    refine lv_iload_n (pc := 12) hx hcb dX11_due_12 rfl (lv_at hl 1 rfl) ?_
    refine lv_icmp_eq (tgt := 20) (pc := 13) hx hcb dX11_due_13 (by decide) (fun c13 => ?_) (fun c13 => ?_)
    · have h := h.1 c13
      refine lv_iconst (v := 0) (pc := 20) hx hcb dX11_due_20 rfl ?_
      exact hK21 0 _ _ _ h hW (lv_sub hl [0] rfl)
    · have h := h.2 c13
      exact hK16  _ _ _ h hW (lv_sub hl [0] rfl)
abbrev rm_X11_far : Room := { frames := 2, cells := 0, slots := 0, locals := 43 }
set_option maxHeartbeats 4000000 in
set_option maxRecDepth 100000 in
theorem c_X11_far (l : Launch) (X : KX) (σ : Mm) (x1 : Int32) (x2 : Int32) (Φ : Int32 → Prop) (h : wp_X11_far σ x1 x2 Φ) : Met l yX11_far (.code yX11_far cX11_far 3 (some .int) :: kT) rm_X11_far (va_Pc [.ref (X.2.1 0), .int x1, .int x2] (kPre kZM X σ)) (va_Qi (fun r σ' => Φ r ∧ σ = σ') (fun σ' t => kPre kZM X σ' t) (kA kZM X)) 0 0 (kA kZM X) := by
  refine kofI (by decide) (Nat.le_of_ble_eq_true rfl) ?_
  intro p e s m args below meth c ls Q hx hcb hml hown hts hS hW hl hret
  have hown : s.vm.findClass RX11 = some m.cls := hown
  have hl : lv_has ls 3 [(0, .ref (X.2.1 0)), (1, .int x1), (2, .int x2)] := hl
  unfold wp_X11_far at h
  refine lv_aload_n (pc := 0) hx hcb dX11_far_0 rfl (lv_at hl 0 rfl) ?_
  refine lv_iload_n (pc := 1) hx hcb dX11_far_1 rfl (lv_at hl 1 rfl) ?_
  refine kci (krunV (As := [.int x1]) (rest := []) (pc := 2) hx hcb hml hown hts hS hW (c_X11_isYard l X σ x1 _ h) mf_X11_isYard q980 kOM_0 rfl ⟨rfl, rfl⟩ ⟨Nat.le_of_ble_eq_true rfl, Nat.le_of_ble_eq_true rfl⟩ rfl hl.1 rfl (Nat.le_of_ble_eq_true rfl) dX11_far_2 ⟨Nat.zero_le _, Nat.zero_le _⟩) hS hW (fun r2 σ1 H locs h hW => ?_)
  obtain ⟨h, rfl⟩ := h
  refine lv_if_eq (tgt := 16) (pc := 5) hx hcb dX11_far_5 (by decide) (fun c5 => ?_) (fun c5 => ?_)
  · have h := h.1 c5
    refine lv_iconst (v := (-1)) (pc := 16) hx hcb dX11_far_16 rfl ?_
    exact hret _ _ _ _ _ _ rfl ⟨h, rfl⟩ hW dX11_far_17
  · have h := h.2 c5
    refine lv_aload_n (pc := 8) hx hcb dX11_far_8 rfl (lv_at hl 0 rfl) ?_
    refine lv_iload_n (pc := 9) hx hcb dX11_far_9 rfl (lv_at hl 2 rfl) ?_
    refine kci (krunV (As := [.int x2]) (rest := []) (pc := 10) hx hcb hml hown hts hS hW (c_X11_isYard l X σ x2 _ h) mf_X11_isYard q980 kOM_0 rfl ⟨rfl, rfl⟩ ⟨Nat.le_of_ble_eq_true rfl, Nat.le_of_ble_eq_true rfl⟩ rfl hl.1 rfl (Nat.le_of_ble_eq_true rfl) dX11_far_10 ⟨Nat.zero_le _, Nat.zero_le _⟩) hS hW (fun r4 σ3 H locs h hW => ?_)
    obtain ⟨h, rfl⟩ := h
    refine lv_if_ne (tgt := 18) (pc := 13) hx hcb dX11_far_13 (by decide) (fun c13 => ?_) (fun c13 => ?_)
    · have h := h.1 c13
      refine lv_aload_n (pc := 18) hx hcb dX11_far_18 rfl (lv_at hl 0 rfl) ?_
      refine kget (v := .ref (X.2.1 2)) (pc := 19) hx hcb hts hown hS hW iwX11 kOM_0 rfl 1 (by decide) q859 rfl rfl dX11_far_19 ?_
      refine lv_bipush (v := 8) (pc := 22) hx hcb dX11_far_22 rfl ?_
      refine lv_iload_n (pc := 24) hx hcb dX11_far_24 rfl (lv_at hl 1 rfl) ?_
      refine lv_imul (pc := 25) hx hcb dX11_far_25 ?_
      refine lv_iload_n (pc := 26) hx hcb dX11_far_26 rfl (lv_at hl 2 rfl) ?_
      refine lv_iadd (pc := 27) hx hcb dX11_far_27 ?_
      have hin5 := h.1
      have h := h.2
      refine kiald (((8 * x1) + x2).toNatClampNeg) (pc := 28) hx hcb hS hW kIM_2 rfl (kin_of hin5 (by decide)) dX11_far_28 ?_
      refine kldc (v := 999999) (pc := 29) hx hcb hown hts q857 dX11_far_29 ?_
      refine lv_icmp_lt (tgt := 39) (pc := 31) hx hcb dX11_far_31 (by decide) (fun c31 => ?_) (fun c31 => ?_)
      · have h := h.1 c31
        refine lv_aload_n (pc := 39) hx hcb dX11_far_39 rfl (lv_at hl 0 rfl) ?_
        refine kget (v := .ref (X.2.1 2)) (pc := 40) hx hcb hts hown hS hW iwX11 kOM_0 rfl 1 (by decide) q859 rfl rfl dX11_far_40 ?_
        refine lv_bipush (v := 8) (pc := 43) hx hcb dX11_far_43 rfl ?_
        refine lv_iload_n (pc := 45) hx hcb dX11_far_45 rfl (lv_at hl 1 rfl) ?_
        refine lv_imul (pc := 46) hx hcb dX11_far_46 ?_
        refine lv_iload_n (pc := 47) hx hcb dX11_far_47 rfl (lv_at hl 2 rfl) ?_
        refine lv_iadd (pc := 48) hx hcb dX11_far_48 ?_
        have hin6 := h.1
        have h := h.2
        refine kiald (((8 * x1) + x2).toNatClampNeg) (pc := 49) hx hcb hS hW kIM_2 rfl (kin_of hin6 (by decide)) dX11_far_49 ?_
        exact hret _ _ _ _ _ _ rfl ⟨h, rfl⟩ hW dX11_far_50
      · have h := h.2 c31
        refine lv_bipush (v := (-4)) (pc := 34) hx hcb dX11_far_34 rfl ?_
        refine lv_goto (tgt := 50) (pc := 36) hx hcb dX11_far_36 (by decide) ?_
        exact hret _ _ _ _ _ _ rfl ⟨h, rfl⟩ hW dX11_far_50
    · have h := h.2 c13
      refine lv_iconst (v := (-1)) (pc := 16) hx hcb dX11_far_16 rfl ?_
      exact hret _ _ _ _ _ _ rfl ⟨h, rfl⟩ hW dX11_far_17
abbrev rm_X11_number : Room := { frames := 1, cells := 0, slots := 0, locals := 22 }
set_option maxHeartbeats 4000000 in
set_option maxRecDepth 100000 in
theorem c_X11_number (l : Launch) (X : KX) (σ : Mm) (x1 : Int32) (x2 : Int32) (Φ : Int32 → Mm → Prop) (h : wp_X11_number σ x1 x2 Φ) : Met l yX11_number (.code yX11_number cX11_number 5 (some .int) :: kT) rm_X11_number (va_Pc [.ref (X.2.1 0), .int x1, .int x2] (kPre kZM X σ)) (va_Qi (fun r σ' => Φ r σ') (fun σ' t => kPre kZM X σ' t) (kA kZM X)) 0 0 (kA kZM X) := by
  refine kofI (by decide) (Nat.le_of_ble_eq_true rfl) ?_
  intro p e s m args below meth c ls Q hx hcb hml hown hts hS hW hl hret
  have hown : s.vm.findClass RX11 = some m.cls := hown
  have hl : lv_has ls 5 [(0, .ref (X.2.1 0)), (1, .int x1), (2, .int x2)] := hl
  unfold wp_X11_number at h
  refine lv_iconst (v := 0) (pc := 0) hx hcb dX11_number_0 rfl ?_
  refine lv_istore_n (lv' := [(3, .int 0), (0, .ref (X.2.1 0)), (1, .int x1), (2, .int x2)]) (pc := 1) hx hcb dX11_number_1 rfl hl (by decide) rfl (fun ls hl => ?_)
  refine lv_iconst (v := 0) (pc := 2) hx hcb dX11_number_2 rfl ?_
  refine lv_istore (lv' := [(4, .int 0), (3, .int 0), (0, .ref (X.2.1 0)), (1, .int x1), (2, .int x2)]) (pc := 3) hx hcb dX11_number_3 hl (by decide) rfl (fun ls hl => ?_)
  obtain ⟨K54, hk54, h⟩ := h
  have hK54 : ∀ (σ1 : Mm) (x3_2 : Int32) (x4_3 : Int32) (H : Heap) (locs : List Loc) (ls : Array Slot), K54 σ1 x3_2 x4_3 → kW kZM X (kA kZM X) s σ1 H locs → lv_has ls 5 [(0, .ref (X.2.1 0)), (1, .int x1), (2, .int x2), (3, .int x3_2), (4, .int x4_3)] → W p l e rm_X11_number s m args below meth c H locs 0 0 Q (F0 m 54 ls []) := by
    intro σ1 x3_2 x4_3 H locs ls h hW hl
    have h := hk54 σ1 x3_2 x4_3 h
    refine lv_aload_n (pc := 54) hx hcb dX11_number_54 rfl (lv_at hl 0 rfl) ?_
    refine lv_aload_n (pc := 55) hx hcb dX11_number_55 rfl (lv_at hl 0 rfl) ?_
    refine kget (v := .int (σ1.1 0 5)) (pc := 56) hx hcb hts hown hS hW iwX11 kOM_0 rfl 5 (by decide) q863 rfl rfl dX11_number_56 ?_
    obtain ⟨K81, hk81, h⟩ := h
    have hK81 : ∀ (v4 : Int32) (H : Heap) (locs : List Loc) (ls : Array Slot), K81 v4 → kW kZM X (kA kZM X) s σ1 H locs → lv_has ls 5 [(3, .int x3_2)] → W p l e rm_X11_number s m args below meth c H locs 0 0 Q (F0 m 81 ls [.int v4, .ref (X.2.1 0)]) := by
      intro v4 H locs ls h hW hl
      have h := hk81 v4 h
      have hbt81 := h.1
      have h := h.2
      refine kput (ty := .boolean) (pc := 81) hx hcb hts hown hS hW iwX11 tyX11 tyX11_ok nmX11 kOM_0 rfl 5 (by decide) q863 rfl rfl rfl (kbit_n hbt81) (kbit_f hbt81) (Nat.le_of_ble_eq_true rfl) rfl dX11_number_81 (fun σ5 H locs eσ5 hW => ?_)
      have h := h σ5 eσ5
      refine lv_iload_n (pc := 84) hx hcb dX11_number_84 rfl (lv_at hl 0 rfl) ?_
      exact hret _ _ _ _ _ _ rfl h hW dX11_number_85
    obtain ⟨K76, hk76, h⟩ := h
    have hK76 : ∀  (H : Heap) (locs : List Loc) (ls : Array Slot), K76 → kW kZM X (kA kZM X) s σ1 H locs → lv_has ls 5 [(3, .int x3_2)] → W p l e rm_X11_number s m args below meth c H locs 0 0 Q (F0 m 76 ls [.ref (X.2.1 0)]) := by
      intro  H locs ls h hW hl
      have h := hk76 h
      refine lv_iconst (v := 1) (pc := 76) hx hcb dX11_number_76 rfl ?_
      refine lv_goto (tgt := 81) (pc := 77) hx hcb dX11_number_77 (by decide) ?_
      exact hK81 1 _ _ _ h hW (lv_sub hl [0] rfl)
    refine lv_if_ne (tgt := 76) (pc := 59) hx hcb dX11_number_59 (by decide) (fun c59 => ?_) (fun c59 => ?_)
    · have h := h.1 c59
      exact hK76  _ _ _ h hW (lv_sub hl [3] rfl)
    · have h := h.2 c59
      refine lv_iload (pc := 62) hx hcb dX11_number_62 (lv_at hl 4 rfl) ?_
      refine lv_if_eq (tgt := 76) (pc := 64) hx hcb dX11_number_64 (by decide) (fun c64 => ?_) (fun c64 => ?_)
      · have h := h.1 c64
        exact hK76  _ _ _ h hW (lv_sub hl [3] rfl)
      · have h := h.2 c64
        refine lv_iload_n (pc := 67) hx hcb dX11_number_67 rfl (lv_at hl 3 rfl) ?_
        refine lv_iload_n (pc := 68) hx hcb dX11_number_68 rfl (lv_at hl 1 rfl) ?_
        refine lv_iload_n (pc := 69) hx hcb dX11_number_69 rfl (lv_at hl 2 rfl) ?_
        refine kci (krunS (As := [.int x3_2, .int x1, .int x2]) (rest := [.ref (X.2.1 0)]) (pc := 70) hx hcb hml hown hts hS hW (c_X11_in l X σ1 x3_2 x1 x2 _ h) mf_X11_in q936 ⟨rfl, rfl⟩ ⟨Nat.le_of_ble_eq_true rfl, Nat.le_of_ble_eq_true rfl⟩ rfl hl.1 rfl (Nat.le_of_ble_eq_true rfl) dX11_number_70 ⟨Nat.zero_le _, Nat.zero_le _⟩) hS hW (fun r7 σ6 H locs h hW => ?_)
        obtain ⟨h, rfl⟩ := h
        refine lv_if_ne (tgt := 80) (pc := 73) hx hcb dX11_number_73 (by decide) (fun c73 => ?_) (fun c73 => ?_)
        · have h := h.1 c73
          refine lv_iconst (v := 0) (pc := 80) hx hcb dX11_number_80 rfl ?_
          exact hK81 0 _ _ _ h hW (lv_sub hl [3] rfl)
        · have h := h.2 c73
          exact hK76  _ _ _ h hW (lv_sub hl [3] rfl)
  have hL5 : ∀ (n : Nat) (σ8 : Mm) (x3_9 : Int32) (x4_10 : Int32) (H : Heap) (locs : List Loc) (ls : Array Slot), wp_X11_number_L5 K54 n σ8 x3_9 x4_10 → kW kZM X (kA kZM X) s σ8 H locs → lv_has ls 5 [(0, .ref (X.2.1 0)), (1, .int x1), (2, .int x2), (3, .int x3_9), (4, .int x4_10)] → W p l e rm_X11_number s m args below meth c H locs 0 0 Q (F0 m 5 ls []) := by
    intro n
    induction n with
    | zero =>
      intro σ8 x3_9 x4_10 H locs ls h
      exact False.elim h
    | succ n ih =>
      intro σ8 x3_9 x4_10 H locs ls h hW hl
      unfold wp_X11_number_L5 at h
      refine lv_iload (pc := 5) hx hcb dX11_number_5 (lv_at hl 4 rfl) ?_
      refine lv_iconst (v := 2) (pc := 7) hx hcb dX11_number_7 rfl ?_
      refine lv_icmp_ge (tgt := 54) (pc := 8) hx hcb dX11_number_8 (by decide) (fun c8 => ?_) (fun c8 => ?_)
      · have h := h.1 c8
        exact hK54 σ8 x3_9 x4_10 _ _ _ h hW (lv_sub hl [0, 1, 2, 3, 4] rfl)
      · have h := h.2 c8
        refine lv_aload_n (pc := 11) hx hcb dX11_number_11 rfl (lv_at hl 0 rfl) ?_
        refine kci (krunV (As := []) (rest := []) (pc := 12) hx hcb hml hown hts hS hW (c_X11_here l X σ8  _ h) mf_X11_here q956 kOM_0 rfl ⟨rfl, rfl⟩ ⟨Nat.le_of_ble_eq_true rfl, Nat.le_of_ble_eq_true rfl⟩ rfl hl.1 rfl (Nat.le_of_ble_eq_true rfl) dX11_number_12 ⟨Nat.zero_le _, Nat.zero_le _⟩) hS hW (fun r12 σ11 H locs h hW => ?_)
        obtain ⟨h, rfl⟩ := h
        refine lv_bipush (v := 48) (pc := 15) hx hcb dX11_number_15 rfl ?_
        refine lv_bipush (v := 57) (pc := 17) hx hcb dX11_number_17 rfl ?_
        refine kci (krunS (As := [.int r12, .int 48, .int 57]) (rest := []) (pc := 19) hx hcb hml hown hts hS hW (c_X11_in l X σ8 r12 48 57 _ h) mf_X11_in q936 ⟨rfl, rfl⟩ ⟨Nat.le_of_ble_eq_true rfl, Nat.le_of_ble_eq_true rfl⟩ rfl hl.1 rfl (Nat.le_of_ble_eq_true rfl) dX11_number_19 ⟨Nat.zero_le _, Nat.zero_le _⟩) hS hW (fun r14 σ13 H locs h hW => ?_)
        obtain ⟨h, rfl⟩ := h
        refine lv_if_eq (tgt := 54) (pc := 22) hx hcb dX11_number_22 (by decide) (fun c22 => ?_) (fun c22 => ?_)
        · have h := h.1 c22
          exact hK54 σ8 x3_9 x4_10 _ _ _ h hW (lv_sub hl [0, 1, 2, 3, 4] rfl)
        · have h := h.2 c22
          refine lv_bipush (v := 10) (pc := 25) hx hcb dX11_number_25 rfl ?_
          refine lv_iload_n (pc := 27) hx hcb dX11_number_27 rfl (lv_at hl 3 rfl) ?_
          refine lv_imul (pc := 28) hx hcb dX11_number_28 ?_
          refine lv_aload_n (pc := 29) hx hcb dX11_number_29 rfl (lv_at hl 0 rfl) ?_
          refine kci (krunV (As := []) (rest := [.int (10 * x3_9)]) (pc := 30) hx hcb hml hown hts hS hW (c_X11_here l X σ8  _ h) mf_X11_here q956 kOM_0 rfl ⟨rfl, rfl⟩ ⟨Nat.le_of_ble_eq_true rfl, Nat.le_of_ble_eq_true rfl⟩ rfl hl.1 rfl (Nat.le_of_ble_eq_true rfl) dX11_number_30 ⟨Nat.zero_le _, Nat.zero_le _⟩) hS hW (fun r16 σ15 H locs h hW => ?_)
          obtain ⟨h, rfl⟩ := h
          refine lv_iadd (pc := 33) hx hcb dX11_number_33 ?_
          refine lv_bipush (v := 48) (pc := 34) hx hcb dX11_number_34 rfl ?_
          refine lv_isub (pc := 36) hx hcb dX11_number_36 ?_
          refine lv_topi (fun x3_17 ex3_17 => ?_)
          have h := h x3_17 ex3_17
          refine lv_istore_n (lv' := [(3, .int x3_17), (0, .ref (X.2.1 0)), (1, .int x1), (2, .int x2), (4, .int x4_10)]) (pc := 37) hx hcb dX11_number_37 rfl hl (by decide) rfl (fun ls hl => ?_)
          refine lv_aload_n (pc := 38) hx hcb dX11_number_38 rfl (lv_at hl 1 rfl) ?_
          refine lv_dup (pc := 39) hx hcb dX11_number_39 rfl ?_
          refine kget (v := .int (σ8.1 0 4)) (pc := 40) hx hcb hts hown hS hW iwX11 kOM_0 rfl 4 (by decide) q862 rfl rfl dX11_number_40 ?_
          refine lv_iconst (v := 1) (pc := 43) hx hcb dX11_number_43 rfl ?_
          refine lv_iadd (pc := 44) hx hcb dX11_number_44 ?_
          refine kput (ty := .int) (pc := 45) hx hcb hts hown hS hW iwX11 tyX11 tyX11_ok nmX11 kOM_0 rfl 4 (by decide) q862 rfl rfl rfl rfl rfl (Nat.le_of_ble_eq_true rfl) rfl dX11_number_45 (fun σ18 H locs eσ18 hW => ?_)
          have h := h σ18 eσ18
          refine lv_iinc (v := x4_10 + 1) (lv' := [(4, .int (x4_10 + 1)), (3, .int x3_17), (0, .ref (X.2.1 0)), (1, .int x1), (2, .int x2)]) (pc := 48) hx hcb dX11_number_48 hl (k := 4) rfl rfl (by decide) rfl (fun ls hl => ?_)
          refine lv_goto (tgt := 5) (pc := 51) hx hcb dX11_number_51 (by decide) ?_
          exact ih σ18 x3_17 (x4_10 + 1) _ _ _ h hW (lv_sub hl [2, 3, 4, 1, 0] rfl)
  obtain ⟨n, h⟩ := h
  exact hL5 n σ 0 0 _ _ _ h hW (lv_sub hl [2, 3, 4, 1, 0] rfl)
abbrev rm_X11_link : Room := { frames := 0, cells := 0, slots := 0, locals := 0 }
set_option maxHeartbeats 4000000 in
set_option maxRecDepth 100000 in
theorem c_X11_link (l : Launch) (X : KX) (σ : Mm) (x1 : Int32) (x2 : Int32) (x3 : Int32) (Φ : Mm → Prop) (h : wp_X11_link σ x1 x2 x3 Φ) : Met l yX11_link (.code yX11_link cX11_link 4 none :: kT) rm_X11_link (va_Pc [.ref (X.2.1 0), .int x1, .int x2, .int x3] (kPre kZM X σ)) (va_Qv (fun σ' => Φ σ') (fun σ' t => kPre kZM X σ' t) (kA kZM X)) 0 0 (kA kZM X) := by
  refine kofV (by decide) (Nat.le_of_ble_eq_true rfl) ?_
  intro p e s m args below meth c ls Q hx hcb hml hown hts hS hW hl hret
  have hown : s.vm.findClass RX11 = some m.cls := hown
  have hl : lv_has ls 4 [(0, .ref (X.2.1 0)), (1, .int x1), (2, .int x2), (3, .int x3)] := hl
  unfold wp_X11_link at h
  refine lv_aload_n (pc := 0) hx hcb dX11_link_0 rfl (lv_at hl 0 rfl) ?_
  refine kget (v := .ref (X.2.1 1)) (pc := 1) hx hcb hts hown hS hW iwX11 kOM_0 rfl 0 (by decide) q858 rfl rfl dX11_link_1 ?_
  refine lv_iload_n (pc := 4) hx hcb dX11_link_4 rfl (lv_at hl 1 rfl) ?_
  refine lv_iconst (v := 4) (pc := 5) hx hcb dX11_link_5 rfl ?_
  refine lv_iadd (pc := 6) hx hcb dX11_link_6 ?_
  refine lv_iload_n (pc := 7) hx hcb dX11_link_7 rfl (lv_at hl 2 rfl) ?_
  refine lv_iadd (pc := 8) hx hcb dX11_link_8 ?_
  refine lv_dup2_11 (pc := 9) hx hcb dX11_link_9 rfl rfl ?_
  have hin1 := h.1
  have h := h.2
  refine kiald (((x1 + 4) + x2).toNatClampNeg) (pc := 10) hx hcb hS hW kIM_1 rfl (kin_of hin1 (by decide)) dX11_link_10 ?_
  refine lv_iconst (v := 1) (pc := 11) hx hcb dX11_link_11 rfl ?_
  refine lv_iload_n (pc := 12) hx hcb dX11_link_12 rfl (lv_at hl 3 rfl) ?_
  refine lv_ishl (pc := 13) hx hcb dX11_link_13 ?_
  refine lv_ior (pc := 14) hx hcb dX11_link_14 ?_
  have hin2 := h.1
  have h := h.2
  refine kiast (((x1 + 4) + x2).toNatClampNeg) (pc := 15) hx hcb hS hW kIM_1 rfl (kin_of hin2 (by decide)) dX11_link_15 (fun σ3 H locs eσ3 hW => ?_)
  have h := h σ3 eσ3
  refine lv_aload_n (pc := 16) hx hcb dX11_link_16 rfl (lv_at hl 0 rfl) ?_
  refine kget (v := .ref (X.2.1 1)) (pc := 17) hx hcb hts hown hS hW iwX11 kOM_0 rfl 0 (by decide) q858 rfl rfl dX11_link_17 ?_
  refine lv_iload_n (pc := 20) hx hcb dX11_link_20 rfl (lv_at hl 1 rfl) ?_
  refine lv_iconst (v := 4) (pc := 21) hx hcb dX11_link_21 rfl ?_
  refine lv_iadd (pc := 22) hx hcb dX11_link_22 ?_
  refine lv_iload_n (pc := 23) hx hcb dX11_link_23 rfl (lv_at hl 3 rfl) ?_
  refine lv_iadd (pc := 24) hx hcb dX11_link_24 ?_
  refine lv_dup2_11 (pc := 25) hx hcb dX11_link_25 rfl rfl ?_
  have hin4 := h.1
  have h := h.2
  refine kiald (((x1 + 4) + x3).toNatClampNeg) (pc := 26) hx hcb hS hW kIM_1 rfl (kin_of hin4 (by decide)) dX11_link_26 ?_
  refine lv_iconst (v := 1) (pc := 27) hx hcb dX11_link_27 rfl ?_
  refine lv_iload_n (pc := 28) hx hcb dX11_link_28 rfl (lv_at hl 2 rfl) ?_
  refine lv_ishl (pc := 29) hx hcb dX11_link_29 ?_
  refine lv_ior (pc := 30) hx hcb dX11_link_30 ?_
  have hin5 := h.1
  have h := h.2
  refine kiast (((x1 + 4) + x3).toNatClampNeg) (pc := 31) hx hcb hS hW kIM_1 rfl (kin_of hin5 (by decide)) dX11_link_31 (fun σ6 H locs eσ6 hW => ?_)
  have h := h σ6 eσ6
  exact hret _ _ _ _ _ h hW dX11_link_32
abbrev rm_X11_readWay : Room := { frames := 1, cells := 0, slots := 0, locals := 22 }
set_option maxHeartbeats 4000000 in
set_option maxRecDepth 100000 in
theorem c_X11_readWay (l : Launch) (X : KX) (σ : Mm)  (Φ : Mm → Prop) (h : wp_X11_readWay σ  Φ) : Met l yX11_readWay (.code yX11_readWay cX11_readWay 3 none :: kT) rm_X11_readWay (va_Pc [.ref (X.2.1 0)] (kPre kZM X σ)) (va_Qv (fun σ' => Φ σ') (fun σ' t => kPre kZM X σ' t) (kA kZM X)) 0 0 (kA kZM X) := by
  refine kofV (by decide) (Nat.le_of_ble_eq_true rfl) ?_
  intro p e s m args below meth c ls Q hx hcb hml hown hts hS hW hl hret
  have hown : s.vm.findClass RX11 = some m.cls := hown
  have hl : lv_has ls 3 [(0, .ref (X.2.1 0))] := hl
  unfold wp_X11_readWay at h
  refine lv_aload_n (pc := 0) hx hcb dX11_readWay_0 rfl (lv_at hl 0 rfl) ?_
  refine kget (v := .ref (X.2.1 1)) (pc := 1) hx hcb hts hown hS hW iwX11 kOM_0 rfl 0 (by decide) q858 rfl rfl dX11_readWay_1 ?_
  refine lv_bipush (v := 83) (pc := 4) hx hcb dX11_readWay_4 rfl ?_
  refine kiald 83 (pc := 6) hx hcb hS hW kIM_1 rfl (kin_of ⟨by decide, by decide⟩ (by decide)) dX11_readWay_6 ?_
  refine lv_iconst (v := 1) (pc := 7) hx hcb dX11_readWay_7 rfl ?_
  refine lv_isub (pc := 8) hx hcb dX11_readWay_8 ?_
  refine lv_topi (fun x1_1 ex1_1 => ?_)
  have h := h x1_1 ex1_1
  refine lv_istore_n (lv' := [(1, .int x1_1), (0, .ref (X.2.1 0))]) (pc := 9) hx hcb dX11_readWay_9 rfl hl (by decide) rfl (fun ls hl => ?_)
  refine lv_iconst (v := 0) (pc := 10) hx hcb dX11_readWay_10 rfl ?_
  refine lv_istore_n (lv' := [(2, .int 0), (1, .int x1_1), (0, .ref (X.2.1 0))]) (pc := 11) hx hcb dX11_readWay_11 rfl hl (by decide) rfl (fun ls hl => ?_)
  obtain ⟨K73, hk73, h⟩ := h
  have hK73 : ∀ (σ2 : Mm) (x2_3 : Int32) (H : Heap) (locs : List Loc) (ls : Array Slot), K73 σ2 x2_3 → kW kZM X (kA kZM X) s σ2 H locs → lv_has ls 3 [(0, .ref (X.2.1 0)), (1, .int x1_1), (2, .int x2_3)] → W p l e rm_X11_readWay s m args below meth c H locs 0 0 Q (F0 m 73 ls []) := by
    intro σ2 x2_3 H locs ls h hW hl
    have h := hk73 σ2 x2_3 h
    refine lv_aload_n (pc := 73) hx hcb dX11_readWay_73 rfl (lv_at hl 0 rfl) ?_
    refine lv_aload_n (pc := 74) hx hcb dX11_readWay_74 rfl (lv_at hl 0 rfl) ?_
    refine kget (v := .int (σ2.1 0 5)) (pc := 75) hx hcb hts hown hS hW iwX11 kOM_0 rfl 5 (by decide) q863 rfl rfl dX11_readWay_75 ?_
    obtain ⟨K94, hk94, h⟩ := h
    have hK94 : ∀ (v4 : Int32) (H : Heap) (locs : List Loc) (ls : Array Slot), K94 v4 → kW kZM X (kA kZM X) s σ2 H locs → lv_has ls 3 [(0, .ref (X.2.1 0)), (1, .int x1_1), (2, .int x2_3)] → W p l e rm_X11_readWay s m args below meth c H locs 0 0 Q (F0 m 94 ls [.int v4, .ref (X.2.1 0)]) := by
      intro v4 H locs ls h hW hl
      have h := hk94 v4 h
      have hbt94 := h.1
      have h := h.2
      refine kput (ty := .boolean) (pc := 94) hx hcb hts hown hS hW iwX11 tyX11 tyX11_ok nmX11 kOM_0 rfl 5 (by decide) q863 rfl rfl rfl (kbit_n hbt94) (kbit_f hbt94) (Nat.le_of_ble_eq_true rfl) rfl dX11_readWay_94 (fun σ5 H locs eσ5 hW => ?_)
      have h := h σ5 eσ5
      refine lv_iload_n (pc := 97) hx hcb dX11_readWay_97 rfl (lv_at hl 1 rfl) ?_
      refine lv_if_lt (tgt := 111) (pc := 98) hx hcb dX11_readWay_98 (by decide) (fun c98 => ?_) (fun c98 => ?_)
      · have h := h.1 c98
        exact hret _ _ _ _ _ h hW dX11_readWay_111
      · have h := h.2 c98
        refine lv_aload_n (pc := 101) hx hcb dX11_readWay_101 rfl (lv_at hl 0 rfl) ?_
        refine kget (v := .ref (X.2.1 1)) (pc := 102) hx hcb hts hown hS hW iwX11 kOM_0 rfl 0 (by decide) q858 rfl rfl dX11_readWay_102 ?_
        refine lv_bipush (v := 99) (pc := 105) hx hcb dX11_readWay_105 rfl ?_
        refine lv_iload_n (pc := 107) hx hcb dX11_readWay_107 rfl (lv_at hl 1 rfl) ?_
        refine lv_iadd (pc := 108) hx hcb dX11_readWay_108 ?_
        refine lv_iload_n (pc := 109) hx hcb dX11_readWay_109 rfl (lv_at hl 2 rfl) ?_
        have hin6 := h.1
        have h := h.2
        refine kiast ((99 + x1_1).toNatClampNeg) (pc := 110) hx hcb hS hW kIM_1 rfl (kin_of hin6 (by decide)) dX11_readWay_110 (fun σ7 H locs eσ7 hW => ?_)
        have h := h σ7 eσ7
        exact hret _ _ _ _ _ h hW dX11_readWay_111
    obtain ⟨K89, hk89, h⟩ := h
    have hK89 : ∀  (H : Heap) (locs : List Loc) (ls : Array Slot), K89 → kW kZM X (kA kZM X) s σ2 H locs → lv_has ls 3 [(0, .ref (X.2.1 0)), (1, .int x1_1), (2, .int x2_3)] → W p l e rm_X11_readWay s m args below meth c H locs 0 0 Q (F0 m 89 ls [.ref (X.2.1 0)]) := by
      intro  H locs ls h hW hl
      have h := hk89 h
      refine lv_iconst (v := 1) (pc := 89) hx hcb dX11_readWay_89 rfl ?_
      refine lv_goto (tgt := 94) (pc := 90) hx hcb dX11_readWay_90 (by decide) ?_
      exact hK94 1 _ _ _ h hW (lv_sub hl [0, 1, 2] rfl)
    refine lv_if_ne (tgt := 89) (pc := 78) hx hcb dX11_readWay_78 (by decide) (fun c78 => ?_) (fun c78 => ?_)
    · have h := h.1 c78
      exact hK89  _ _ _ h hW (lv_sub hl [0, 1, 2] rfl)
    · have h := h.2 c78
      refine lv_iload_n (pc := 81) hx hcb dX11_readWay_81 rfl (lv_at hl 2 rfl) ?_
      refine lv_if_eq (tgt := 89) (pc := 82) hx hcb dX11_readWay_82 (by decide) (fun c82 => ?_) (fun c82 => ?_)
      · have h := h.1 c82
        exact hK89  _ _ _ h hW (lv_sub hl [0, 1, 2] rfl)
      · have h := h.2 c82
        refine lv_iload_n (pc := 85) hx hcb dX11_readWay_85 rfl (lv_at hl 1 rfl) ?_
        refine lv_if_ge (tgt := 93) (pc := 86) hx hcb dX11_readWay_86 (by decide) (fun c86 => ?_) (fun c86 => ?_)
        · have h := h.1 c86
          refine lv_iconst (v := 0) (pc := 93) hx hcb dX11_readWay_93 rfl ?_
          exact hK94 0 _ _ _ h hW (lv_sub hl [0, 1, 2] rfl)
        · have h := h.2 c86
          exact hK89  _ _ _ h hW (lv_sub hl [0, 1, 2] rfl)
  have hL12 : ∀ (n : Nat) (σ8 : Mm) (x2_9 : Int32) (H : Heap) (locs : List Loc) (ls : Array Slot), wp_X11_readWay_L12 x1_1 K73 n σ8 x2_9 → kW kZM X (kA kZM X) s σ8 H locs → lv_has ls 3 [(0, .ref (X.2.1 0)), (1, .int x1_1), (2, .int x2_9)] → W p l e rm_X11_readWay s m args below meth c H locs 0 0 Q (F0 m 12 ls []) := by
    intro n
    induction n with
    | zero =>
      intro σ8 x2_9 H locs ls h
      exact False.elim h
    | succ n ih =>
      intro σ8 x2_9 H locs ls h hW hl
      unfold wp_X11_readWay_L12 at h
      refine lv_iload_n (pc := 12) hx hcb dX11_readWay_12 rfl (lv_at hl 2 rfl) ?_
      refine lv_bipush (v := 12) (pc := 13) hx hcb dX11_readWay_13 rfl ?_
      refine lv_icmp_ge (tgt := 73) (pc := 15) hx hcb dX11_readWay_15 (by decide) (fun c15 => ?_) (fun c15 => ?_)
      · have h := h.1 c15
        exact hK73 σ8 x2_9 _ _ _ h hW (lv_sub hl [0, 1, 2] rfl)
      · have h := h.2 c15
        refine lv_aload_n (pc := 18) hx hcb dX11_readWay_18 rfl (lv_at hl 0 rfl) ?_
        refine kci (krunV (As := []) (rest := []) (pc := 19) hx hcb hml hown hts hS hW (c_X11_here l X σ8  _ h) mf_X11_here q956 kOM_0 rfl ⟨rfl, rfl⟩ ⟨Nat.le_of_ble_eq_true rfl, Nat.le_of_ble_eq_true rfl⟩ rfl hl.1 rfl (Nat.le_of_ble_eq_true rfl) dX11_readWay_19 ⟨Nat.zero_le _, Nat.zero_le _⟩) hS hW (fun r11 σ10 H locs h hW => ?_)
        obtain ⟨h, rfl⟩ := h
        refine lv_bipush (v := 48) (pc := 22) hx hcb dX11_readWay_22 rfl ?_
        refine lv_bipush (v := 55) (pc := 24) hx hcb dX11_readWay_24 rfl ?_
        refine kci (krunS (As := [.int r11, .int 48, .int 55]) (rest := []) (pc := 26) hx hcb hml hown hts hS hW (c_X11_in l X σ8 r11 48 55 _ h) mf_X11_in q936 ⟨rfl, rfl⟩ ⟨Nat.le_of_ble_eq_true rfl, Nat.le_of_ble_eq_true rfl⟩ rfl hl.1 rfl (Nat.le_of_ble_eq_true rfl) dX11_readWay_26 ⟨Nat.zero_le _, Nat.zero_le _⟩) hS hW (fun r13 σ12 H locs h hW => ?_)
        obtain ⟨h, rfl⟩ := h
        refine lv_if_eq (tgt := 73) (pc := 29) hx hcb dX11_readWay_29 (by decide) (fun c29 => ?_) (fun c29 => ?_)
        · have h := h.1 c29
          exact hK73 σ8 x2_9 _ _ _ h hW (lv_sub hl [0, 1, 2] rfl)
        · have h := h.2 c29
          refine lv_iload_n (pc := 32) hx hcb dX11_readWay_32 rfl (lv_at hl 1 rfl) ?_
          obtain ⟨K57, hk57, h⟩ := h
          have hK57 : ∀ (σ14 : Mm) (H : Heap) (locs : List Loc) (ls : Array Slot), K57 σ14 → kW kZM X (kA kZM X) s σ14 H locs → lv_has ls 3 [(0, .ref (X.2.1 0)), (1, .int x1_1), (2, .int x2_9)] → W p l e rm_X11_readWay s m args below meth c H locs 0 0 Q (F0 m 57 ls []) := by
            intro σ14 H locs ls h hW hl
            have h := hk57 σ14 h
            refine lv_iinc (v := x2_9 + 1) (lv' := [(2, .int (x2_9 + 1)), (0, .ref (X.2.1 0)), (1, .int x1_1)]) (pc := 57) hx hcb dX11_readWay_57 hl (k := 2) rfl rfl (by decide) rfl (fun ls hl => ?_)
            refine lv_aload_n (pc := 60) hx hcb dX11_readWay_60 rfl (lv_at hl 1 rfl) ?_
            refine lv_dup (pc := 61) hx hcb dX11_readWay_61 rfl ?_
            refine kget (v := .int (σ14.1 0 4)) (pc := 62) hx hcb hts hown hS hW iwX11 kOM_0 rfl 4 (by decide) q862 rfl rfl dX11_readWay_62 ?_
            refine lv_iconst (v := 1) (pc := 65) hx hcb dX11_readWay_65 rfl ?_
            refine lv_iadd (pc := 66) hx hcb dX11_readWay_66 ?_
            refine kput (ty := .int) (pc := 67) hx hcb hts hown hS hW iwX11 tyX11 tyX11_ok nmX11 kOM_0 rfl 4 (by decide) q862 rfl rfl rfl rfl rfl (Nat.le_of_ble_eq_true rfl) rfl dX11_readWay_67 (fun σ15 H locs eσ15 hW => ?_)
            have h := h σ15 eσ15
            refine lv_goto (tgt := 12) (pc := 70) hx hcb dX11_readWay_70 (by decide) ?_
            exact ih σ15 (x2_9 + 1) _ _ _ h hW (lv_sub hl [1, 2, 0] rfl)
          refine lv_if_lt (tgt := 57) (pc := 33) hx hcb dX11_readWay_33 (by decide) (fun c33 => ?_) (fun c33 => ?_)
          · have h := h.1 c33
            exact hK57 σ8 _ _ _ h hW (lv_sub hl [0, 1, 2] rfl)
          · have h := h.2 c33
            refine lv_aload_n (pc := 36) hx hcb dX11_readWay_36 rfl (lv_at hl 0 rfl) ?_
            refine kget (v := .ref (X.2.1 1)) (pc := 37) hx hcb hts hown hS hW iwX11 kOM_0 rfl 0 (by decide) q858 rfl rfl dX11_readWay_37 ?_
            refine lv_bipush (v := 104) (pc := 40) hx hcb dX11_readWay_40 rfl ?_
            refine lv_bipush (v := 12) (pc := 42) hx hcb dX11_readWay_42 rfl ?_
            refine lv_iload_n (pc := 44) hx hcb dX11_readWay_44 rfl (lv_at hl 1 rfl) ?_
            refine lv_imul (pc := 45) hx hcb dX11_readWay_45 ?_
            refine lv_iadd (pc := 46) hx hcb dX11_readWay_46 ?_
            refine lv_iload_n (pc := 47) hx hcb dX11_readWay_47 rfl (lv_at hl 2 rfl) ?_
            refine lv_iadd (pc := 48) hx hcb dX11_readWay_48 ?_
            refine lv_aload_n (pc := 49) hx hcb dX11_readWay_49 rfl (lv_at hl 0 rfl) ?_
            refine kci (krunV (As := []) (rest := [.int ((104 + (12 * x1_1)) + x2_9), .ref (X.2.1 1)]) (pc := 50) hx hcb hml hown hts hS hW (c_X11_here l X σ8  _ h) mf_X11_here q956 kOM_0 rfl ⟨rfl, rfl⟩ ⟨Nat.le_of_ble_eq_true rfl, Nat.le_of_ble_eq_true rfl⟩ rfl hl.1 rfl (Nat.le_of_ble_eq_true rfl) dX11_readWay_50 ⟨Nat.zero_le _, Nat.zero_le _⟩) hS hW (fun r17 σ16 H locs h hW => ?_)
            obtain ⟨h, rfl⟩ := h
            refine lv_bipush (v := 48) (pc := 53) hx hcb dX11_readWay_53 rfl ?_
            refine lv_isub (pc := 55) hx hcb dX11_readWay_55 ?_
            have hin18 := h.1
            have h := h.2
            refine kiast (((104 + (12 * x1_1)) + x2_9).toNatClampNeg) (pc := 56) hx hcb hS hW kIM_1 rfl (kin_of hin18 (by decide)) dX11_readWay_56 (fun σ19 H locs eσ19 hW => ?_)
            have h := h σ19 eσ19
            exact hK57 σ19 _ _ _ h hW (lv_sub hl [0, 1, 2] rfl)
  obtain ⟨n, h⟩ := h
  exact hL12 n σ 0 _ _ _ h hW (lv_sub hl [2, 1, 0] rfl)
