abbrev rm_X1_feedersAt : Room := { frames := 1, cells := 0, slots := 0, locals := 23 }
set_option maxHeartbeats 4000000 in
set_option maxRecDepth 100000 in
theorem c_X1_feedersAt (l : Launch) (X : KX) (σ : Mm) (b0 : Nat) (hb0 : kFm b0) (x1 : Int32) (x2 : Int32) (Φ : Int32 → Prop) (h : wp_X1_feedersAt σ b0 x1 x2 Φ) : Met l yX1_feedersAt (.code yX1_feedersAt cX1_feedersAt 5 (some .int) :: kT) rm_X1_feedersAt (va_Pc [.ref (X.2.1 b0), .int x1, .int x2] (kPre kZC X σ)) (va_Qi (fun r σ' => Φ r ∧ σ = σ') (fun σ' t => kPre kZC X σ' t) (kA kZC X)) 0 0 (kA kZC X) := by
  refine kofI (by decide) (Nat.le_of_ble_eq_true rfl) ?_
  intro p e s m args below meth c ls Q hx hcb hml hown hts hS hW hl hret
  have hown : s.vm.findClass RX1 = some m.cls := hown
  have hl : lv_has ls 5 [(0, .ref (X.2.1 b0)), (1, .int x1), (2, .int x2)] := hl
  unfold wp_X1_feedersAt at h
  refine lv_iconst (v := 0) (pc := 0) hx hcb dX1_feedersAt_0 rfl ?_
  refine lv_istore_n (lv' := [(3, .int 0), (0, .ref (X.2.1 b0)), (1, .int x1), (2, .int x2)]) (pc := 1) hx hcb dX1_feedersAt_1 rfl hl (by decide) rfl (fun ls hl => ?_)
  refine lv_iconst (v := 0) (pc := 2) hx hcb dX1_feedersAt_2 rfl ?_
  refine lv_istore (lv' := [(4, .int 0), (3, .int 0), (0, .ref (X.2.1 b0)), (1, .int x1), (2, .int x2)]) (pc := 3) hx hcb dX1_feedersAt_3 hl (by decide) rfl (fun ls hl => ?_)
  have hL5 : ∀ (n : Nat) (x3_1 : Int32) (x4_2 : Int32) (H : Heap) (locs : List Loc) (ls : Array Slot), wp_X1_feedersAt_L5 b0 x1 x2 σ Φ n x3_1 x4_2 → kW kZC X (kA kZC X) s σ H locs → lv_has ls 5 [(0, .ref (X.2.1 b0)), (1, .int x1), (2, .int x2), (3, .int x3_1), (4, .int x4_2)] → W p l e rm_X1_feedersAt s m args below meth c H locs 0 0 Q (F0 m 5 ls []) := by
    intro n
    induction n with
    | zero =>
      intro x3_1 x4_2 H locs ls h
      exact False.elim h
    | succ n ih =>
      intro x3_1 x4_2 H locs ls h hW hl
      unfold wp_X1_feedersAt_L5 at h
      refine lv_iload (pc := 5) hx hcb dX1_feedersAt_5 (lv_at hl 4 rfl) ?_
      refine lv_aload_n (pc := 7) hx hcb dX1_feedersAt_7 rfl (lv_at hl 0 rfl) ?_
      refine kget (v := .int (σ.1 b0 6)) (pc := 8) hx hcb hts hown hS hW iwX1 (kO_X1 hb0) rfl 6 (by decide) q116 rfl rfl dX1_feedersAt_8 ?_
      refine lv_icmp_ge (tgt := 34) (pc := 11) hx hcb dX1_feedersAt_11 (by decide) (fun c11 => ?_) (fun c11 => ?_)
      · have h := h.1 c11
        refine lv_iload_n (pc := 34) hx hcb dX1_feedersAt_34 rfl (lv_at hl 3 rfl) ?_
        exact hret _ _ _ _ _ _ rfl ⟨h, rfl⟩ hW dX1_feedersAt_35
      · have h := h.2 c11
        refine lv_aload_n (pc := 14) hx hcb dX1_feedersAt_14 rfl (lv_at hl 0 rfl) ?_
        refine lv_iload (pc := 15) hx hcb dX1_feedersAt_15 (lv_at hl 4 rfl) ?_
        refine lv_iload_n (pc := 17) hx hcb dX1_feedersAt_17 rfl (lv_at hl 2 rfl) ?_
        refine kci (krunV (As := [.int x4_2, .int x2]) (rest := []) (pc := 18) hx hcb hml hown hts hS hW (c_X1_yardAt l X σ b0 hb0 x4_2 x2 _ h) mf_X1_yardAt q518 (kO_X1 hb0) rfl ⟨rfl, rfl⟩ ⟨Nat.le_of_ble_eq_true rfl, Nat.le_of_ble_eq_true rfl⟩ rfl hl.1 rfl (Nat.le_of_ble_eq_true rfl) dX1_feedersAt_18 ⟨Nat.zero_le _, Nat.zero_le _⟩) hS hW (fun r4 σ3 H locs h hW => ?_)
        obtain ⟨h, rfl⟩ := h
        refine lv_iload_n (pc := 21) hx hcb dX1_feedersAt_21 rfl (lv_at hl 1 rfl) ?_
        obtain ⟨K28, hk28, h⟩ := h
        have hK28 : ∀ (x3_5 : Int32) (H : Heap) (locs : List Loc) (ls : Array Slot), K28 x3_5 → kW kZC X (kA kZC X) s σ H locs → lv_has ls 5 [(0, .ref (X.2.1 b0)), (1, .int x1), (2, .int x2), (3, .int x3_5), (4, .int x4_2)] → W p l e rm_X1_feedersAt s m args below meth c H locs 0 0 Q (F0 m 28 ls []) := by
          intro x3_5 H locs ls h hW hl
          have h := hk28 x3_5 h
          refine lv_iinc (v := x4_2 + 1) (lv' := [(4, .int (x4_2 + 1)), (0, .ref (X.2.1 b0)), (1, .int x1), (2, .int x2), (3, .int x3_5)]) (pc := 28) hx hcb dX1_feedersAt_28 hl (k := 4) rfl rfl (by decide) rfl (fun ls hl => ?_)
          refine lv_goto (tgt := 5) (pc := 31) hx hcb dX1_feedersAt_31 (by decide) ?_
          exact ih x3_5 (x4_2 + 1) _ _ _ h hW (lv_sub hl [1, 2, 3, 4, 0] rfl)
        refine lv_icmp_ne (tgt := 28) (pc := 22) hx hcb dX1_feedersAt_22 (by decide) (fun c22 => ?_) (fun c22 => ?_)
        · have h := h.1 c22
          exact hK28 x3_1 _ _ _ h hW (lv_sub hl [0, 1, 2, 3, 4] rfl)
        · have h := h.2 c22
          refine lv_iinc (v := x3_1 + 1) (lv' := [(3, .int (x3_1 + 1)), (0, .ref (X.2.1 b0)), (1, .int x1), (2, .int x2), (4, .int x4_2)]) (pc := 25) hx hcb dX1_feedersAt_25 hl (k := 3) rfl rfl (by decide) rfl (fun ls hl => ?_)
          exact hK28 (x3_1 + 1) _ _ _ h hW (lv_sub hl [1, 2, 3, 0, 4] rfl)
  obtain ⟨n, h⟩ := h
  exact hL5 n 0 0 _ _ _ h hW (lv_sub hl [2, 3, 4, 1, 0] rfl)
abbrev rm_X1_firstState : Room := { frames := 1, cells := 0, slots := 0, locals := 22 }
set_option maxHeartbeats 4000000 in
set_option maxRecDepth 100000 in
theorem c_X1_firstState (l : Launch) (X : KX) (σ : Mm) (b0 : Nat) (hb0 : kFm b0) (Φ : Int32 → Prop) (h : wp_X1_firstState σ b0 Φ) : Met l yX1_firstState (.code yX1_firstState cX1_firstState 1 (some .int) :: kT) rm_X1_firstState (va_Pc [.ref (X.2.1 b0)] (kPre kZC X σ)) (va_Qi (fun r σ' => Φ r ∧ σ = σ') (fun σ' t => kPre kZC X σ' t) (kA kZC X)) 0 0 (kA kZC X) := by
  refine kofI (by decide) (Nat.le_of_ble_eq_true rfl) ?_
  intro p e s m args below meth c ls Q hx hcb hml hown hts hS hW hl hret
  have hown : s.vm.findClass RX1 = some m.cls := hown
  have hl : lv_has ls 1 [(0, .ref (X.2.1 b0))] := hl
  unfold wp_X1_firstState at h
  refine lv_aload_n (pc := 0) hx hcb dX1_firstState_0 rfl (lv_at hl 0 rfl) ?_
  refine kget (v := .int (σ.1 b0 8)) (pc := 1) hx hcb hts hown hS hW iwX1 (kO_X1 hb0) rfl 8 (by decide) q118 rfl rfl dX1_firstState_1 ?_
  refine lv_iconst (v := (-1)) (pc := 4) hx hcb dX1_firstState_4 rfl ?_
  refine lv_iconst (v := 0) (pc := 5) hx hcb dX1_firstState_5 rfl ?_
  refine kci (krunSN (As := [.int (σ.1 b0 8), .int (-1), .int 0]) (rest := []) (pc := 6) hx hcb hml hown hts hS hW (c_X10_packed l X σ (σ.1 b0 8) (-1) 0 _ h) mf_X10_packed q418 ⟨rfl, rfl⟩ ⟨Nat.le_of_ble_eq_true rfl, Nat.le_of_ble_eq_true rfl⟩ rfl hl.1 rfl (Nat.le_of_ble_eq_true rfl) dX1_firstState_6 ⟨Nat.zero_le _, Nat.zero_le _⟩) hS hW (fun r2 σ1 H locs h hW => ?_)
  obtain ⟨h, rfl⟩ := h
  exact hret _ _ _ _ _ _ rfl ⟨h, rfl⟩ hW dX1_firstState_9
abbrev rm_X1_hasPerson : Room := { frames := 0, cells := 0, slots := 0, locals := 0 }
set_option maxHeartbeats 4000000 in
set_option maxRecDepth 100000 in
theorem c_X1_hasPerson (l : Launch) (X : KX) (σ : Mm) (b0 : Nat) (hb0 : kFm b0) (x1 : Int32) (Φ : Int32 → Prop) (h : wp_X1_hasPerson σ b0 x1 Φ) : Met l yX1_hasPerson (.code yX1_hasPerson cX1_hasPerson 2 (some .boolean) :: kT) rm_X1_hasPerson (va_Pc [.ref (X.2.1 b0), .int x1] (kPre kZC X σ)) (va_Qi (fun r σ' => Φ r ∧ σ = σ') (fun σ' t => kPre kZC X σ' t) (kA kZC X)) 0 0 (kA kZC X) := by
  refine kofI (by decide) (Nat.le_of_ble_eq_true rfl) ?_
  intro p e s m args below meth c ls Q hx hcb hml hown hts hS hW hl hret
  have hown : s.vm.findClass RX1 = some m.cls := hown
  have hl : lv_has ls 2 [(0, .ref (X.2.1 b0)), (1, .int x1)] := hl
  unfold wp_X1_hasPerson at h
  refine lv_iload_n (pc := 0) hx hcb dX1_hasPerson_0 rfl (lv_at hl 1 rfl) ?_
  refine lv_if_lt (tgt := 16) (pc := 1) hx hcb dX1_hasPerson_1 (by decide) (fun c1 => ?_) (fun c1 => ?_)
  · have h := h.1 c1
    refine lv_iconst (v := 0) (pc := 16) hx hcb dX1_hasPerson_16 rfl ?_
    exact hret _ _ _ _ _ _ rfl ⟨h, rfl⟩ hW dX1_hasPerson_17
  · have h := h.2 c1
    refine lv_iload_n (pc := 4) hx hcb dX1_hasPerson_4 rfl (lv_at hl 1 rfl) ?_
    refine lv_aload_n (pc := 5) hx hcb dX1_hasPerson_5 rfl (lv_at hl 0 rfl) ?_
    refine kget (v := .int (σ.1 b0 6)) (pc := 6) hx hcb hts hown hS hW iwX1 (kO_X1 hb0) rfl 6 (by decide) q116 rfl rfl dX1_hasPerson_6 ?_
    refine lv_icmp_ge (tgt := 16) (pc := 9) hx hcb dX1_hasPerson_9 (by decide) (fun c9 => ?_) (fun c9 => ?_)
    · have h := h.1 c9
      refine lv_iconst (v := 0) (pc := 16) hx hcb dX1_hasPerson_16 rfl ?_
      exact hret _ _ _ _ _ _ rfl ⟨h, rfl⟩ hW dX1_hasPerson_17
    · have h := h.2 c9
      refine lv_iconst (v := 1) (pc := 12) hx hcb dX1_hasPerson_12 rfl ?_
      refine lv_goto (tgt := 17) (pc := 13) hx hcb dX1_hasPerson_13 (by decide) ?_
      exact hret _ _ _ _ _ _ rfl ⟨h, rfl⟩ hW dX1_hasPerson_17
abbrev rm_X1_hasYard : Room := { frames := 0, cells := 0, slots := 0, locals := 0 }
set_option maxHeartbeats 4000000 in
set_option maxRecDepth 100000 in
theorem c_X1_hasYard (l : Launch) (X : KX) (σ : Mm) (b0 : Nat) (hb0 : kFm b0) (x1 : Int32) (Φ : Int32 → Prop) (h : wp_X1_hasYard σ b0 x1 Φ) : Met l yX1_hasYard (.code yX1_hasYard cX1_hasYard 2 (some .boolean) :: kT) rm_X1_hasYard (va_Pc [.ref (X.2.1 b0), .int x1] (kPre kZC X σ)) (va_Qi (fun r σ' => Φ r ∧ σ = σ') (fun σ' t => kPre kZC X σ' t) (kA kZC X)) 0 0 (kA kZC X) := by
  refine kofI (by decide) (Nat.le_of_ble_eq_true rfl) ?_
  intro p e s m args below meth c ls Q hx hcb hml hown hts hS hW hl hret
  have hown : s.vm.findClass RX1 = some m.cls := hown
  have hl : lv_has ls 2 [(0, .ref (X.2.1 b0)), (1, .int x1)] := hl
  unfold wp_X1_hasYard at h
  refine lv_iload_n (pc := 0) hx hcb dX1_hasYard_0 rfl (lv_at hl 1 rfl) ?_
  refine lv_if_lt (tgt := 16) (pc := 1) hx hcb dX1_hasYard_1 (by decide) (fun c1 => ?_) (fun c1 => ?_)
  · have h := h.1 c1
    refine lv_iconst (v := 0) (pc := 16) hx hcb dX1_hasYard_16 rfl ?_
    exact hret _ _ _ _ _ _ rfl ⟨h, rfl⟩ hW dX1_hasYard_17
  · have h := h.2 c1
    refine lv_iload_n (pc := 4) hx hcb dX1_hasYard_4 rfl (lv_at hl 1 rfl) ?_
    refine lv_aload_n (pc := 5) hx hcb dX1_hasYard_5 rfl (lv_at hl 0 rfl) ?_
    refine kget (v := .int (σ.1 b0 5)) (pc := 6) hx hcb hts hown hS hW iwX1 (kO_X1 hb0) rfl 5 (by decide) q115 rfl rfl dX1_hasYard_6 ?_
    refine lv_icmp_ge (tgt := 16) (pc := 9) hx hcb dX1_hasYard_9 (by decide) (fun c9 => ?_) (fun c9 => ?_)
    · have h := h.1 c9
      refine lv_iconst (v := 0) (pc := 16) hx hcb dX1_hasYard_16 rfl ?_
      exact hret _ _ _ _ _ _ rfl ⟨h, rfl⟩ hW dX1_hasYard_17
    · have h := h.2 c9
      refine lv_iconst (v := 1) (pc := 12) hx hcb dX1_hasYard_12 rfl ?_
      refine lv_goto (tgt := 17) (pc := 13) hx hcb dX1_hasYard_13 (by decide) ?_
      exact hret _ _ _ _ _ _ rfl ⟨h, rfl⟩ hW dX1_hasYard_17
abbrev rm_X1_lowestNearer : Room := { frames := 1, cells := 0, slots := 0, locals := 22 }
set_option maxHeartbeats 4000000 in
set_option maxRecDepth 100000 in
theorem c_X1_lowestNearer (l : Launch) (X : KX) (σ : Mm) (b0 : Nat) (hb0 : kFm b0) (x1 : Int32) (x2 : Int32) (Φ : Int32 → Prop) (h : wp_X1_lowestNearer σ b0 x1 x2 Φ) : Met l yX1_lowestNearer (.code yX1_lowestNearer cX1_lowestNearer 5 (some .int) :: kT) rm_X1_lowestNearer (va_Pc [.ref (X.2.1 b0), .int x1, .int x2] (kPre kZC X σ)) (va_Qi (fun r σ' => Φ r ∧ σ = σ') (fun σ' t => kPre kZC X σ' t) (kA kZC X)) 0 0 (kA kZC X) := by
  refine kofI (by decide) (Nat.le_of_ble_eq_true rfl) ?_
  intro p e s m args below meth c ls Q hx hcb hml hown hts hS hW hl hret
  have hown : s.vm.findClass RX1 = some m.cls := hown
  have hl : lv_has ls 5 [(0, .ref (X.2.1 b0)), (1, .int x1), (2, .int x2)] := hl
  unfold wp_X1_lowestNearer at h
  refine lv_aload_n (pc := 0) hx hcb dX1_lowestNearer_0 rfl (lv_at hl 0 rfl) ?_
  refine lv_iload_n (pc := 1) hx hcb dX1_lowestNearer_1 rfl (lv_at hl 1 rfl) ?_
  refine lv_iload_n (pc := 2) hx hcb dX1_lowestNearer_2 rfl (lv_at hl 2 rfl) ?_
  refine kci (krunV (As := [.int x1, .int x2]) (rest := []) (pc := 3) hx hcb hml hown hts hS hW (c_X1_distance l X σ b0 hb0 x1 x2 _ h) mf_X1_distance q398 (kO_X1 hb0) rfl ⟨rfl, rfl⟩ ⟨Nat.le_of_ble_eq_true rfl, Nat.le_of_ble_eq_true rfl⟩ rfl hl.1 rfl (Nat.le_of_ble_eq_true rfl) dX1_lowestNearer_3 ⟨Nat.zero_le _, Nat.zero_le _⟩) hS hW (fun r2 σ1 H locs h hW => ?_)
  obtain ⟨h, rfl⟩ := h
  refine lv_istore_n (lv' := [(3, .int r2), (0, .ref (X.2.1 b0)), (1, .int x1), (2, .int x2)]) (pc := 6) hx hcb dX1_lowestNearer_6 rfl hl (by decide) rfl (fun ls hl => ?_)
  refine lv_iload_n (pc := 7) hx hcb dX1_lowestNearer_7 rfl (lv_at hl 0 rfl) ?_
  refine lv_bipush (v := 99) (pc := 8) hx hcb dX1_lowestNearer_8 rfl ?_
  refine lv_icmp_ne (tgt := 15) (pc := 10) hx hcb dX1_lowestNearer_10 (by decide) (fun c10 => ?_) (fun c10 => ?_)
  · have h := h.1 c10
    refine lv_iconst (v := 0) (pc := 15) hx hcb dX1_lowestNearer_15 rfl ?_
    refine lv_istore (lv' := [(4, .int 0), (3, .int r2), (0, .ref (X.2.1 b0)), (1, .int x1), (2, .int x2)]) (pc := 16) hx hcb dX1_lowestNearer_16 hl (by decide) rfl (fun ls hl => ?_)
    have hL18 : ∀ (n : Nat) (x4_3 : Int32) (H : Heap) (locs : List Loc) (ls : Array Slot), wp_X1_lowestNearer_L18 b0 x1 x2 σ Φ r2 n x4_3 → kW kZC X (kA kZC X) s σ H locs → lv_has ls 5 [(0, .ref (X.2.1 b0)), (1, .int x1), (2, .int x2), (3, .int r2), (4, .int x4_3)] → W p l e rm_X1_lowestNearer s m args below meth c H locs 0 0 Q (F0 m 18 ls []) := by
      intro n
      induction n with
      | zero =>
        intro x4_3 H locs ls h
        exact False.elim h
      | succ n ih =>
        intro x4_3 H locs ls h hW hl
        unfold wp_X1_lowestNearer_L18 at h
        refine lv_iload (pc := 18) hx hcb dX1_lowestNearer_18 (lv_at hl 4 rfl) ?_
        refine lv_bipush (v := 8) (pc := 20) hx hcb dX1_lowestNearer_20 rfl ?_
        refine lv_icmp_ge (tgt := 58) (pc := 22) hx hcb dX1_lowestNearer_22 (by decide) (fun c22 => ?_) (fun c22 => ?_)
        · have h := h.1 c22
          refine lv_iload_n (pc := 58) hx hcb dX1_lowestNearer_58 rfl (lv_at hl 1 rfl) ?_
          exact hret _ _ _ _ _ _ rfl ⟨h, rfl⟩ hW dX1_lowestNearer_59
        · have h := h.2 c22
          refine lv_aload_n (pc := 25) hx hcb dX1_lowestNearer_25 rfl (lv_at hl 0 rfl) ?_
          refine lv_iload_n (pc := 26) hx hcb dX1_lowestNearer_26 rfl (lv_at hl 1 rfl) ?_
          refine lv_iload (pc := 27) hx hcb dX1_lowestNearer_27 (lv_at hl 4 rfl) ?_
          refine kci (krunV (As := [.int x1, .int x4_3]) (rest := []) (pc := 29) hx hcb hml hown hts hS hW (c_X1_distance l X σ b0 hb0 x1 x4_3 _ h) mf_X1_distance q398 (kO_X1 hb0) rfl ⟨rfl, rfl⟩ ⟨Nat.le_of_ble_eq_true rfl, Nat.le_of_ble_eq_true rfl⟩ rfl hl.1 rfl (Nat.le_of_ble_eq_true rfl) dX1_lowestNearer_29 ⟨Nat.zero_le _, Nat.zero_le _⟩) hS hW (fun r5 σ4 H locs h hW => ?_)
          obtain ⟨h, rfl⟩ := h
          refine lv_iconst (v := 1) (pc := 32) hx hcb dX1_lowestNearer_32 rfl ?_
          obtain ⟨K52, hk52, h⟩ := h
          have hK52 : ∀  (H : Heap) (locs : List Loc) (ls : Array Slot), K52 → kW kZC X (kA kZC X) s σ H locs → lv_has ls 5 [(0, .ref (X.2.1 b0)), (1, .int x1), (2, .int x2), (3, .int r2), (4, .int x4_3)] → W p l e rm_X1_lowestNearer s m args below meth c H locs 0 0 Q (F0 m 52 ls []) := by
            intro  H locs ls h hW hl
            have h := hk52 h
            refine lv_iinc (v := x4_3 + 1) (lv' := [(4, .int (x4_3 + 1)), (0, .ref (X.2.1 b0)), (1, .int x1), (2, .int x2), (3, .int r2)]) (pc := 52) hx hcb dX1_lowestNearer_52 hl (k := 4) rfl rfl (by decide) rfl (fun ls hl => ?_)
            refine lv_goto (tgt := 18) (pc := 55) hx hcb dX1_lowestNearer_55 (by decide) ?_
            exact ih (x4_3 + 1) _ _ _ h hW (lv_sub hl [1, 2, 3, 4, 0] rfl)
          refine lv_icmp_ne (tgt := 52) (pc := 33) hx hcb dX1_lowestNearer_33 (by decide) (fun c33 => ?_) (fun c33 => ?_)
          · have h := h.1 c33
            exact hK52  _ _ _ h hW (lv_sub hl [0, 1, 2, 3, 4] rfl)
          · have h := h.2 c33
            refine lv_aload_n (pc := 36) hx hcb dX1_lowestNearer_36 rfl (lv_at hl 0 rfl) ?_
            refine lv_iload (pc := 37) hx hcb dX1_lowestNearer_37 (lv_at hl 4 rfl) ?_
            refine lv_iload_n (pc := 39) hx hcb dX1_lowestNearer_39 rfl (lv_at hl 2 rfl) ?_
            refine kci (krunV (As := [.int x4_3, .int x2]) (rest := []) (pc := 40) hx hcb hml hown hts hS hW (c_X1_distance l X σ b0 hb0 x4_3 x2 _ h) mf_X1_distance q398 (kO_X1 hb0) rfl ⟨rfl, rfl⟩ ⟨Nat.le_of_ble_eq_true rfl, Nat.le_of_ble_eq_true rfl⟩ rfl hl.1 rfl (Nat.le_of_ble_eq_true rfl) dX1_lowestNearer_40 ⟨Nat.zero_le _, Nat.zero_le _⟩) hS hW (fun r7 σ6 H locs h hW => ?_)
            obtain ⟨h, rfl⟩ := h
            refine lv_iload_n (pc := 43) hx hcb dX1_lowestNearer_43 rfl (lv_at hl 3 rfl) ?_
            refine lv_iconst (v := 1) (pc := 44) hx hcb dX1_lowestNearer_44 rfl ?_
            refine lv_isub (pc := 45) hx hcb dX1_lowestNearer_45 ?_
            refine lv_icmp_ne (tgt := 52) (pc := 46) hx hcb dX1_lowestNearer_46 (by decide) (fun c46 => ?_) (fun c46 => ?_)
            · have h := h.1 c46
              exact hK52  _ _ _ h hW (lv_sub hl [0, 1, 2, 3, 4] rfl)
            · have h := h.2 c46
              refine lv_iload (pc := 49) hx hcb dX1_lowestNearer_49 (lv_at hl 4 rfl) ?_
              exact hret _ _ _ _ _ _ rfl ⟨h, rfl⟩ hW dX1_lowestNearer_51
    obtain ⟨n, h⟩ := h
    exact hL18 n 0 _ _ _ h hW (lv_sub hl [2, 3, 4, 1, 0] rfl)
  · have h := h.2 c10
    refine lv_iload_n (pc := 13) hx hcb dX1_lowestNearer_13 rfl (lv_at hl 2 rfl) ?_
    exact hret _ _ _ _ _ _ rfl ⟨h, rfl⟩ hW dX1_lowestNearer_14
abbrev rm_X1_measure : Room := { frames := 2, cells := 0, slots := 0, locals := 46 }
set_option maxHeartbeats 4000000 in
set_option maxRecDepth 100000 in
theorem c_X1_measure (l : Launch) (X : KX) (σ : Mm) (b0 : Nat) (hb0 : kFm b0) (Φ : Mm → Prop) (h : wp_X1_measure σ b0 Φ) : Met l yX1_measure (.code yX1_measure cX1_measure 5 none :: kT) rm_X1_measure (va_Pc [.ref (X.2.1 b0)] (kPre kZC X σ)) (va_Qv (fun σ' => Φ σ') (fun σ' t => kPre kZC X σ' t) (kA kZC X)) 0 0 (kA kZC X) := by
  refine kofV (by decide) (Nat.le_of_ble_eq_true rfl) ?_
  intro p e s m args below meth c ls Q hx hcb hml hown hts hS hW hl hret
  have hown : s.vm.findClass RX1 = some m.cls := hown
  have hl : lv_has ls 5 [(0, .ref (X.2.1 b0))] := hl
  unfold wp_X1_measure at h
  refine lv_iconst (v := 0) (pc := 0) hx hcb dX1_measure_0 rfl ?_
  refine lv_istore_n (lv' := [(1, .int 0), (0, .ref (X.2.1 b0))]) (pc := 1) hx hcb dX1_measure_1 rfl hl (by decide) rfl (fun ls hl => ?_)
  obtain ⟨K86, hk86, h⟩ := h
  have hK86 : ∀ (σ1 : Mm) (H : Heap) (locs : List Loc) (ls : Array Slot), K86 σ1 → kW kZC X (kA kZC X) s σ1 H locs → lv_has ls 5 [(0, .ref (X.2.1 b0))] → W p l e rm_X1_measure s m args below meth c H locs 0 0 Q (F0 m 86 ls []) := by
    intro σ1 H locs ls h hW hl
    have h := hk86 σ1 h
    refine lv_iconst (v := 0) (pc := 86) hx hcb dX1_measure_86 rfl ?_
    refine lv_istore_n (lv' := [(1, .int 0), (0, .ref (X.2.1 b0))]) (pc := 87) hx hcb dX1_measure_87 rfl hl (by decide) rfl (fun ls hl => ?_)
    have hL88 : ∀ (n : Nat) (σ2 : Mm) (x1_3 : Int32) (H : Heap) (locs : List Loc) (ls : Array Slot), wp_X1_measure_L88 b0 Φ n σ2 x1_3 → kW kZC X (kA kZC X) s σ2 H locs → lv_has ls 5 [(0, .ref (X.2.1 b0)), (1, .int x1_3)] → W p l e rm_X1_measure s m args below meth c H locs 0 0 Q (F0 m 88 ls []) := by
      intro n
      induction n with
      | zero =>
        intro σ2 x1_3 H locs ls h
        exact False.elim h
      | succ n ih =>
        intro σ2 x1_3 H locs ls h hW hl
        unfold wp_X1_measure_L88 at h
        refine lv_iload_n (pc := 88) hx hcb dX1_measure_88 rfl (lv_at hl 1 rfl) ?_
        refine lv_bipush (v := 8) (pc := 89) hx hcb dX1_measure_89 rfl ?_
        refine lv_icmp_ge (tgt := 131) (pc := 91) hx hcb dX1_measure_91 (by decide) (fun c91 => ?_) (fun c91 => ?_)
        · have h := h.1 c91
          exact hret _ _ _ _ _ h hW dX1_measure_131
        · have h := h.2 c91
          refine lv_iconst (v := 0) (pc := 94) hx hcb dX1_measure_94 rfl ?_
          refine lv_istore_n (lv' := [(2, .int 0), (0, .ref (X.2.1 b0)), (1, .int x1_3)]) (pc := 95) hx hcb dX1_measure_95 rfl hl (by decide) rfl (fun ls hl => ?_)
          obtain ⟨K125, hk125, h⟩ := h
          have hK125 : ∀ (σ4 : Mm) (H : Heap) (locs : List Loc) (ls : Array Slot), K125 σ4 → kW kZC X (kA kZC X) s σ4 H locs → lv_has ls 5 [(0, .ref (X.2.1 b0)), (1, .int x1_3)] → W p l e rm_X1_measure s m args below meth c H locs 0 0 Q (F0 m 125 ls []) := by
            intro σ4 H locs ls h hW hl
            have h := hk125 σ4 h
            refine lv_iinc (v := x1_3 + 1) (lv' := [(1, .int (x1_3 + 1)), (0, .ref (X.2.1 b0))]) (pc := 125) hx hcb dX1_measure_125 hl (k := 1) rfl rfl (by decide) rfl (fun ls hl => ?_)
            refine lv_goto (tgt := 88) (pc := 128) hx hcb dX1_measure_128 (by decide) ?_
            exact ih σ4 (x1_3 + 1) _ _ _ h hW (lv_sub hl [1, 0] rfl)
          have hL96 : ∀ (n : Nat) (σ5 : Mm) (x2_6 : Int32) (H : Heap) (locs : List Loc) (ls : Array Slot), wp_X1_measure_L96 b0 x1_3 K125 n σ5 x2_6 → kW kZC X (kA kZC X) s σ5 H locs → lv_has ls 5 [(0, .ref (X.2.1 b0)), (1, .int x1_3), (2, .int x2_6)] → W p l e rm_X1_measure s m args below meth c H locs 0 0 Q (F0 m 96 ls []) := by
            intro n
            induction n with
            | zero =>
              intro σ5 x2_6 H locs ls h
              exact False.elim h
            | succ n ih =>
              intro σ5 x2_6 H locs ls h hW hl
              unfold wp_X1_measure_L96 at h
              refine lv_iload_n (pc := 96) hx hcb dX1_measure_96 rfl (lv_at hl 2 rfl) ?_
              refine lv_bipush (v := 8) (pc := 97) hx hcb dX1_measure_97 rfl ?_
              refine lv_icmp_ge (tgt := 125) (pc := 99) hx hcb dX1_measure_99 (by decide) (fun c99 => ?_) (fun c99 => ?_)
              · have h := h.1 c99
                exact hK125 σ5 _ _ _ h hW (lv_sub hl [0, 1] rfl)
              · have h := h.2 c99
                refine lv_aload_n (pc := 102) hx hcb dX1_measure_102 rfl (lv_at hl 0 rfl) ?_
                refine kget (v := .ref (X.2.1 (b0 + 2))) (pc := 103) hx hcb hts hown hS hW iwX1 (kO_X1 hb0) rfl 1 (by decide) q111 rfl rfl dX1_measure_103 ?_
                refine lv_iload_n (pc := 106) hx hcb dX1_measure_106 rfl (lv_at hl 1 rfl) ?_
                refine lv_bipush (v := 8) (pc := 107) hx hcb dX1_measure_107 rfl ?_
                refine lv_imul (pc := 109) hx hcb dX1_measure_109 ?_
                refine lv_iload_n (pc := 110) hx hcb dX1_measure_110 rfl (lv_at hl 2 rfl) ?_
                refine lv_iadd (pc := 111) hx hcb dX1_measure_111 ?_
                refine lv_aload_n (pc := 112) hx hcb dX1_measure_112 rfl (lv_at hl 0 rfl) ?_
                refine lv_iload_n (pc := 113) hx hcb dX1_measure_113 rfl (lv_at hl 1 rfl) ?_
                refine lv_iload_n (pc := 114) hx hcb dX1_measure_114 rfl (lv_at hl 2 rfl) ?_
                refine kci (krunV (As := [.int x1_3, .int x2_6]) (rest := [.int ((x1_3 * 8) + x2_6), .ref (X.2.1 (b0 + 2))]) (pc := 115) hx hcb hml hown hts hS hW (c_X1_lowestNearer l X σ5 b0 hb0 x1_3 x2_6 _ h) mf_X1_lowestNearer q402 (kO_X1 hb0) rfl ⟨rfl, rfl⟩ ⟨Nat.le_of_ble_eq_true rfl, Nat.le_of_ble_eq_true rfl⟩ rfl hl.1 rfl (Nat.le_of_ble_eq_true rfl) dX1_measure_115 ⟨Nat.zero_le _, Nat.zero_le _⟩) hS hW (fun r8 σ7 H locs h hW => ?_)
                obtain ⟨h, rfl⟩ := h
                have hin9 := h.1
                have h := h.2
                refine kiast (((x1_3 * 8) + x2_6).toNatClampNeg) (pc := 118) hx hcb hS hW (kA_X1_1 hb0) rfl (kin_of hin9 (by decide)) dX1_measure_118 (fun σ10 H locs eσ10 hW => ?_)
                have h := h σ10 eσ10
                refine lv_iinc (v := x2_6 + 1) (lv' := [(2, .int (x2_6 + 1)), (0, .ref (X.2.1 b0)), (1, .int x1_3)]) (pc := 119) hx hcb dX1_measure_119 hl (k := 2) rfl rfl (by decide) rfl (fun ls hl => ?_)
                refine lv_goto (tgt := 96) (pc := 122) hx hcb dX1_measure_122 (by decide) ?_
                exact ih σ10 (x2_6 + 1) _ _ _ h hW (lv_sub hl [1, 2, 0] rfl)
          obtain ⟨n, h⟩ := h
          exact hL96 n σ2 0 _ _ _ h hW (lv_sub hl [1, 2, 0] rfl)
    obtain ⟨n, h⟩ := h
    exact hL88 n σ1 0 _ _ _ h hW (lv_sub hl [1, 0] rfl)
  have hL2 : ∀ (n : Nat) (σ11 : Mm) (x1_12 : Int32) (H : Heap) (locs : List Loc) (ls : Array Slot), wp_X1_measure_L2 b0 K86 n σ11 x1_12 → kW kZC X (kA kZC X) s σ11 H locs → lv_has ls 5 [(0, .ref (X.2.1 b0)), (1, .int x1_12)] → W p l e rm_X1_measure s m args below meth c H locs 0 0 Q (F0 m 2 ls []) := by
    intro n
    induction n with
    | zero =>
      intro σ11 x1_12 H locs ls h
      exact False.elim h
    | succ n ih =>
      intro σ11 x1_12 H locs ls h hW hl
      unfold wp_X1_measure_L2 at h
      refine lv_iload_n (pc := 2) hx hcb dX1_measure_2 rfl (lv_at hl 1 rfl) ?_
      refine lv_bipush (v := 8) (pc := 3) hx hcb dX1_measure_3 rfl ?_
      refine lv_icmp_ge (tgt := 86) (pc := 5) hx hcb dX1_measure_5 (by decide) (fun c5 => ?_) (fun c5 => ?_)
      · have h := h.1 c5
        exact hK86 σ11 _ _ _ h hW (lv_sub hl [0] rfl)
      · have h := h.2 c5
        refine lv_iconst (v := 0) (pc := 8) hx hcb dX1_measure_8 rfl ?_
        refine lv_istore_n (lv' := [(2, .int 0), (0, .ref (X.2.1 b0)), (1, .int x1_12)]) (pc := 9) hx hcb dX1_measure_9 rfl hl (by decide) rfl (fun ls hl => ?_)
        obtain ⟨K80, hk80, h⟩ := h
        have hK80 : ∀ (σ13 : Mm) (H : Heap) (locs : List Loc) (ls : Array Slot), K80 σ13 → kW kZC X (kA kZC X) s σ13 H locs → lv_has ls 5 [(0, .ref (X.2.1 b0)), (1, .int x1_12)] → W p l e rm_X1_measure s m args below meth c H locs 0 0 Q (F0 m 80 ls []) := by
          intro σ13 H locs ls h hW hl
          have h := hk80 σ13 h
          refine lv_iinc (v := x1_12 + 1) (lv' := [(1, .int (x1_12 + 1)), (0, .ref (X.2.1 b0))]) (pc := 80) hx hcb dX1_measure_80 hl (k := 1) rfl rfl (by decide) rfl (fun ls hl => ?_)
          refine lv_goto (tgt := 2) (pc := 83) hx hcb dX1_measure_83 (by decide) ?_
          exact ih σ13 (x1_12 + 1) _ _ _ h hW (lv_sub hl [1, 0] rfl)
        have hL10 : ∀ (n : Nat) (σ14 : Mm) (x2_15 : Int32) (H : Heap) (locs : List Loc) (ls : Array Slot), wp_X1_measure_L10 b0 x1_12 K80 n σ14 x2_15 → kW kZC X (kA kZC X) s σ14 H locs → lv_has ls 5 [(0, .ref (X.2.1 b0)), (1, .int x1_12), (2, .int x2_15)] → W p l e rm_X1_measure s m args below meth c H locs 0 0 Q (F0 m 10 ls []) := by
          intro n
          induction n with
          | zero =>
            intro σ14 x2_15 H locs ls h
            exact False.elim h
          | succ n ih =>
            intro σ14 x2_15 H locs ls h hW hl
            unfold wp_X1_measure_L10 at h
            refine lv_iload_n (pc := 10) hx hcb dX1_measure_10 rfl (lv_at hl 2 rfl) ?_
            refine lv_bipush (v := 8) (pc := 11) hx hcb dX1_measure_11 rfl ?_
            refine lv_icmp_ge (tgt := 80) (pc := 13) hx hcb dX1_measure_13 (by decide) (fun c13 => ?_) (fun c13 => ?_)
            · have h := h.1 c13
              exact hK80 σ14 _ _ _ h hW (lv_sub hl [0, 1] rfl)
            · have h := h.2 c13
              refine lv_iconst (v := 0) (pc := 16) hx hcb dX1_measure_16 rfl ?_
              refine lv_istore_n (lv' := [(3, .int 0), (0, .ref (X.2.1 b0)), (1, .int x1_12), (2, .int x2_15)]) (pc := 17) hx hcb dX1_measure_17 rfl hl (by decide) rfl (fun ls hl => ?_)
              obtain ⟨K74, hk74, h⟩ := h
              have hK74 : ∀ (σ16 : Mm) (H : Heap) (locs : List Loc) (ls : Array Slot), K74 σ16 → kW kZC X (kA kZC X) s σ16 H locs → lv_has ls 5 [(0, .ref (X.2.1 b0)), (1, .int x1_12), (2, .int x2_15)] → W p l e rm_X1_measure s m args below meth c H locs 0 0 Q (F0 m 74 ls []) := by
                intro σ16 H locs ls h hW hl
                have h := hk74 σ16 h
                refine lv_iinc (v := x2_15 + 1) (lv' := [(2, .int (x2_15 + 1)), (0, .ref (X.2.1 b0)), (1, .int x1_12)]) (pc := 74) hx hcb dX1_measure_74 hl (k := 2) rfl rfl (by decide) rfl (fun ls hl => ?_)
                refine lv_goto (tgt := 10) (pc := 77) hx hcb dX1_measure_77 (by decide) ?_
                exact ih σ16 (x2_15 + 1) _ _ _ h hW (lv_sub hl [1, 2, 0] rfl)
              have hL18 : ∀ (n : Nat) (σ17 : Mm) (x3_18 : Int32) (H : Heap) (locs : List Loc) (ls : Array Slot), wp_X1_measure_L18 b0 x1_12 x2_15 K74 n σ17 x3_18 → kW kZC X (kA kZC X) s σ17 H locs → lv_has ls 5 [(0, .ref (X.2.1 b0)), (1, .int x1_12), (2, .int x2_15), (3, .int x3_18)] → W p l e rm_X1_measure s m args below meth c H locs 0 0 Q (F0 m 18 ls []) := by
                intro n
                induction n with
                | zero =>
                  intro σ17 x3_18 H locs ls h
                  exact False.elim h
                | succ n ih =>
                  intro σ17 x3_18 H locs ls h hW hl
                  unfold wp_X1_measure_L18 at h
                  refine lv_iload_n (pc := 18) hx hcb dX1_measure_18 rfl (lv_at hl 3 rfl) ?_
                  refine lv_bipush (v := 8) (pc := 19) hx hcb dX1_measure_19 rfl ?_
                  refine lv_icmp_ge (tgt := 74) (pc := 21) hx hcb dX1_measure_21 (by decide) (fun c21 => ?_) (fun c21 => ?_)
                  · have h := h.1 c21
                    exact hK74 σ17 _ _ _ h hW (lv_sub hl [0, 1, 2] rfl)
                  · have h := h.2 c21
                    refine lv_aload_n (pc := 24) hx hcb dX1_measure_24 rfl (lv_at hl 0 rfl) ?_
                    refine lv_iload_n (pc := 25) hx hcb dX1_measure_25 rfl (lv_at hl 2 rfl) ?_
                    refine lv_iload_n (pc := 26) hx hcb dX1_measure_26 rfl (lv_at hl 1 rfl) ?_
                    refine kci (krunV (As := [.int x2_15, .int x1_12]) (rest := []) (pc := 27) hx hcb hml hown hts hS hW (c_X1_distance l X σ17 b0 hb0 x2_15 x1_12 _ h) mf_X1_distance q398 (kO_X1 hb0) rfl ⟨rfl, rfl⟩ ⟨Nat.le_of_ble_eq_true rfl, Nat.le_of_ble_eq_true rfl⟩ rfl hl.1 rfl (Nat.le_of_ble_eq_true rfl) dX1_measure_27 ⟨Nat.zero_le _, Nat.zero_le _⟩) hS hW (fun r20 σ19 H locs h hW => ?_)
                    obtain ⟨h, rfl⟩ := h
                    refine lv_aload_n (pc := 30) hx hcb dX1_measure_30 rfl (lv_at hl 0 rfl) ?_
                    refine lv_iload_n (pc := 31) hx hcb dX1_measure_31 rfl (lv_at hl 1 rfl) ?_
                    refine lv_iload_n (pc := 32) hx hcb dX1_measure_32 rfl (lv_at hl 3 rfl) ?_
                    refine kci (krunV (As := [.int x1_12, .int x3_18]) (rest := [.int r20]) (pc := 33) hx hcb hml hown hts hS hW (c_X1_distance l X σ17 b0 hb0 x1_12 x3_18 _ h) mf_X1_distance q398 (kO_X1 hb0) rfl ⟨rfl, rfl⟩ ⟨Nat.le_of_ble_eq_true rfl, Nat.le_of_ble_eq_true rfl⟩ rfl hl.1 rfl (Nat.le_of_ble_eq_true rfl) dX1_measure_33 ⟨Nat.zero_le _, Nat.zero_le _⟩) hS hW (fun r22 σ21 H locs h hW => ?_)
                    obtain ⟨h, rfl⟩ := h
                    refine lv_iadd (pc := 36) hx hcb dX1_measure_36 ?_
                    refine lv_topi (fun x4_23 ex4_23 => ?_)
                    have h := h x4_23 ex4_23
                    refine lv_istore (lv' := [(4, .int x4_23), (0, .ref (X.2.1 b0)), (1, .int x1_12), (2, .int x2_15), (3, .int x3_18)]) (pc := 37) hx hcb dX1_measure_37 hl (by decide) rfl (fun ls hl => ?_)
                    refine lv_iload (pc := 39) hx hcb dX1_measure_39 (lv_at hl 0 rfl) ?_
                    refine lv_aload_n (pc := 41) hx hcb dX1_measure_41 rfl (lv_at hl 1 rfl) ?_
                    refine kget (v := .ref (X.2.1 (b0 + 1))) (pc := 42) hx hcb hts hown hS hW iwX1 (kO_X1 hb0) rfl 0 (by decide) q110 rfl rfl dX1_measure_42 ?_
                    refine lv_iload_n (pc := 45) hx hcb dX1_measure_45 rfl (lv_at hl 3 rfl) ?_
                    refine lv_bipush (v := 8) (pc := 46) hx hcb dX1_measure_46 rfl ?_
                    refine lv_imul (pc := 48) hx hcb dX1_measure_48 ?_
                    refine lv_iload_n (pc := 49) hx hcb dX1_measure_49 rfl (lv_at hl 4 rfl) ?_
                    refine lv_iadd (pc := 50) hx hcb dX1_measure_50 ?_
                    have hin24 := h.1
                    have h := h.2
                    refine kiald (((x2_15 * 8) + x3_18).toNatClampNeg) (pc := 51) hx hcb hS hW (kA_X1_0 hb0) rfl (kin_of hin24 (by decide)) dX1_measure_51 ?_
                    obtain ⟨K68, hk68, h⟩ := h
                    have hK68 : ∀ (σ25 : Mm) (H : Heap) (locs : List Loc) (ls : Array Slot), K68 σ25 → kW kZC X (kA kZC X) s σ25 H locs → lv_has ls 5 [(0, .ref (X.2.1 b0)), (1, .int x1_12), (2, .int x2_15), (3, .int x3_18)] → W p l e rm_X1_measure s m args below meth c H locs 0 0 Q (F0 m 68 ls []) := by
                      intro σ25 H locs ls h hW hl
                      have h := hk68 σ25 h
                      refine lv_iinc (v := x3_18 + 1) (lv' := [(3, .int (x3_18 + 1)), (0, .ref (X.2.1 b0)), (1, .int x1_12), (2, .int x2_15)]) (pc := 68) hx hcb dX1_measure_68 hl (k := 3) rfl rfl (by decide) rfl (fun ls hl => ?_)
                      refine lv_goto (tgt := 18) (pc := 71) hx hcb dX1_measure_71 (by decide) ?_
                      exact ih σ25 (x3_18 + 1) _ _ _ h hW (lv_sub hl [1, 2, 3, 0] rfl)
                    refine lv_icmp_ge (tgt := 68) (pc := 52) hx hcb dX1_measure_52 (by decide) (fun c52 => ?_) (fun c52 => ?_)
                    · have h := h.1 c52
                      exact hK68 σ17 _ _ _ h hW (lv_sub hl [1, 2, 3, 4] rfl)
                    · have h := h.2 c52
                      refine lv_aload_n (pc := 55) hx hcb dX1_measure_55 rfl (lv_at hl 1 rfl) ?_
                      refine kget (v := .ref (X.2.1 (b0 + 1))) (pc := 56) hx hcb hts hown hS hW iwX1 (kO_X1 hb0) rfl 0 (by decide) q110 rfl rfl dX1_measure_56 ?_
                      refine lv_iload_n (pc := 59) hx hcb dX1_measure_59 rfl (lv_at hl 3 rfl) ?_
                      refine lv_bipush (v := 8) (pc := 60) hx hcb dX1_measure_60 rfl ?_
                      refine lv_imul (pc := 62) hx hcb dX1_measure_62 ?_
                      refine lv_iload_n (pc := 63) hx hcb dX1_measure_63 rfl (lv_at hl 4 rfl) ?_
                      refine lv_iadd (pc := 64) hx hcb dX1_measure_64 ?_
                      refine lv_iload (pc := 65) hx hcb dX1_measure_65 (lv_at hl 0 rfl) ?_
                      have hin26 := h.1
                      have h := h.2
                      refine kiast (((x2_15 * 8) + x3_18).toNatClampNeg) (pc := 67) hx hcb hS hW (kA_X1_0 hb0) rfl (kin_of hin26 (by decide)) dX1_measure_67 (fun σ27 H locs eσ27 hW => ?_)
                      have h := h σ27 eσ27
                      exact hK68 σ27 _ _ _ h hW (lv_sub hl [1, 2, 3, 4] rfl)
              obtain ⟨n, h⟩ := h
              exact hL18 n σ14 0 _ _ _ h hW (lv_sub hl [1, 2, 3, 0] rfl)
        obtain ⟨n, h⟩ := h
        exact hL10 n σ11 0 _ _ _ h hW (lv_sub hl [1, 2, 0] rfl)
  obtain ⟨n, h⟩ := h
  exact hL2 n σ 0 _ _ _ h hW (lv_sub hl [1, 0] rfl)
abbrev rm_X1_tellForgetting : Room := { frames := 0, cells := 0, slots := 0, locals := 0 }
set_option maxHeartbeats 4000000 in
set_option maxRecDepth 100000 in
theorem c_X1_tellForgetting (l : Launch) (X : KX) (σ : Mm) (b0 : Nat) (hb0 : kFm b0) (x1 : Int32) (Φ : Int32 → Mm → Prop) (h : wp_X1_tellForgetting σ b0 x1 Φ) : Met l yX1_tellForgetting (.code yX1_tellForgetting cX1_tellForgetting 2 (some .boolean) :: kT) rm_X1_tellForgetting (va_Pc [.ref (X.2.1 b0), .int x1] (kPre kZC X σ)) (va_Qi (fun r σ' => Φ r σ') (fun σ' t => kPre kZC X σ' t) (kA kZC X)) 0 0 (kA kZC X) := by
  refine kofI (by decide) (Nat.le_of_ble_eq_true rfl) ?_
  intro p e s m args below meth c ls Q hx hcb hml hown hts hS hW hl hret
  have hown : s.vm.findClass RX1 = some m.cls := hown
  have hl : lv_has ls 2 [(0, .ref (X.2.1 b0)), (1, .int x1)] := hl
  unfold wp_X1_tellForgetting at h
  refine lv_iload_n (pc := 0) hx hcb dX1_tellForgetting_0 rfl (lv_at hl 1 rfl) ?_
  refine lv_if_lt (tgt := 10) (pc := 1) hx hcb dX1_tellForgetting_1 (by decide) (fun c1 => ?_) (fun c1 => ?_)
  · have h := h.1 c1
    refine lv_iconst (v := 0) (pc := 10) hx hcb dX1_tellForgetting_10 rfl ?_
    exact hret _ _ _ _ _ _ rfl h hW dX1_tellForgetting_11
  · have h := h.2 c1
    refine lv_iload_n (pc := 4) hx hcb dX1_tellForgetting_4 rfl (lv_at hl 1 rfl) ?_
    refine lv_bipush (v := 20) (pc := 5) hx hcb dX1_tellForgetting_5 rfl ?_
    refine lv_icmp_le (tgt := 12) (pc := 7) hx hcb dX1_tellForgetting_7 (by decide) (fun c7 => ?_) (fun c7 => ?_)
    · have h := h.1 c7
      refine lv_aload_n (pc := 12) hx hcb dX1_tellForgetting_12 rfl (lv_at hl 0 rfl) ?_
      refine lv_iload_n (pc := 13) hx hcb dX1_tellForgetting_13 rfl (lv_at hl 1 rfl) ?_
      refine kput (ty := .int) (pc := 14) hx hcb hts hown hS hW iwX1 tyX1 tyX1_ok nmX1 (kO_X1 hb0) rfl 7 (by decide) q117 rfl rfl rfl rfl rfl (Nat.le_of_ble_eq_true rfl) rfl dX1_tellForgetting_14 (fun σ1 H locs eσ1 hW => ?_)
      have h := h σ1 eσ1
      refine lv_iconst (v := 1) (pc := 17) hx hcb dX1_tellForgetting_17 rfl ?_
      exact hret _ _ _ _ _ _ rfl h hW dX1_tellForgetting_18
    · have h := h.2 c7
      refine lv_iconst (v := 0) (pc := 10) hx hcb dX1_tellForgetting_10 rfl ?_
      exact hret _ _ _ _ _ _ rfl h hW dX1_tellForgetting_11
abbrev rm_X1_tellLane : Room := { frames := 1, cells := 0, slots := 0, locals := 21 }
set_option maxHeartbeats 4000000 in
set_option maxRecDepth 100000 in
theorem c_X1_tellLane (l : Launch) (X : KX) (σ : Mm) (b0 : Nat) (hb0 : kFm b0) (x1 : Int32) (x2 : Int32) (Φ : Int32 → Mm → Prop) (h : wp_X1_tellLane σ b0 x1 x2 Φ) : Met l yX1_tellLane (.code yX1_tellLane cX1_tellLane 3 (some .boolean) :: kT) rm_X1_tellLane (va_Pc [.ref (X.2.1 b0), .int x1, .int x2] (kPre kZC X σ)) (va_Qi (fun r σ' => Φ r σ') (fun σ' t => kPre kZC X σ' t) (kA kZC X)) 0 0 (kA kZC X) := by
  refine kofI (by decide) (Nat.le_of_ble_eq_true rfl) ?_
  intro p e s m args below meth c ls Q hx hcb hml hown hts hS hW hl hret
  have hown : s.vm.findClass RX1 = some m.cls := hown
  have hl : lv_has ls 3 [(0, .ref (X.2.1 b0)), (1, .int x1), (2, .int x2)] := hl
  unfold wp_X1_tellLane at h
  refine lv_aload_n (pc := 0) hx hcb dX1_tellLane_0 rfl (lv_at hl 0 rfl) ?_
  refine lv_iload_n (pc := 1) hx hcb dX1_tellLane_1 rfl (lv_at hl 1 rfl) ?_
  refine kci (krunV (As := [.int x1]) (rest := []) (pc := 2) hx hcb hml hown hts hS hW (c_X1_hasYard l X σ b0 hb0 x1 _ h) mf_X1_hasYard q362 (kO_X1 hb0) rfl ⟨rfl, rfl⟩ ⟨Nat.le_of_ble_eq_true rfl, Nat.le_of_ble_eq_true rfl⟩ rfl hl.1 rfl (Nat.le_of_ble_eq_true rfl) dX1_tellLane_2 ⟨Nat.zero_le _, Nat.zero_le _⟩) hS hW (fun r2 σ1 H locs h hW => ?_)
  obtain ⟨h, rfl⟩ := h
  refine lv_if_eq (tgt := 21) (pc := 5) hx hcb dX1_tellLane_5 (by decide) (fun c5 => ?_) (fun c5 => ?_)
  · have h := h.1 c5
    refine lv_iconst (v := 0) (pc := 21) hx hcb dX1_tellLane_21 rfl ?_
    exact hret _ _ _ _ _ _ rfl h hW dX1_tellLane_22
  · have h := h.2 c5
    refine lv_aload_n (pc := 8) hx hcb dX1_tellLane_8 rfl (lv_at hl 0 rfl) ?_
    refine lv_iload_n (pc := 9) hx hcb dX1_tellLane_9 rfl (lv_at hl 2 rfl) ?_
    refine kci (krunV (As := [.int x2]) (rest := []) (pc := 10) hx hcb hml hown hts hS hW (c_X1_hasYard l X σ b0 hb0 x2 _ h) mf_X1_hasYard q362 (kO_X1 hb0) rfl ⟨rfl, rfl⟩ ⟨Nat.le_of_ble_eq_true rfl, Nat.le_of_ble_eq_true rfl⟩ rfl hl.1 rfl (Nat.le_of_ble_eq_true rfl) dX1_tellLane_10 ⟨Nat.zero_le _, Nat.zero_le _⟩) hS hW (fun r4 σ3 H locs h hW => ?_)
    obtain ⟨h, rfl⟩ := h
    refine lv_if_eq (tgt := 21) (pc := 13) hx hcb dX1_tellLane_13 (by decide) (fun c13 => ?_) (fun c13 => ?_)
    · have h := h.1 c13
      refine lv_iconst (v := 0) (pc := 21) hx hcb dX1_tellLane_21 rfl ?_
      exact hret _ _ _ _ _ _ rfl h hW dX1_tellLane_22
    · have h := h.2 c13
      refine lv_iload_n (pc := 16) hx hcb dX1_tellLane_16 rfl (lv_at hl 1 rfl) ?_
      refine lv_iload_n (pc := 17) hx hcb dX1_tellLane_17 rfl (lv_at hl 2 rfl) ?_
      refine lv_icmp_ne (tgt := 23) (pc := 18) hx hcb dX1_tellLane_18 (by decide) (fun c18 => ?_) (fun c18 => ?_)
      · have h := h.1 c18
        refine lv_aload_n (pc := 23) hx hcb dX1_tellLane_23 rfl (lv_at hl 0 rfl) ?_
        refine kget (v := .ref (X.2.1 (b0 + 1))) (pc := 24) hx hcb hts hown hS hW iwX1 (kO_X1 hb0) rfl 0 (by decide) q110 rfl rfl dX1_tellLane_24 ?_
        refine lv_iload_n (pc := 27) hx hcb dX1_tellLane_27 rfl (lv_at hl 1 rfl) ?_
        refine lv_bipush (v := 8) (pc := 28) hx hcb dX1_tellLane_28 rfl ?_
        refine lv_imul (pc := 30) hx hcb dX1_tellLane_30 ?_
        refine lv_iload_n (pc := 31) hx hcb dX1_tellLane_31 rfl (lv_at hl 2 rfl) ?_
        refine lv_iadd (pc := 32) hx hcb dX1_tellLane_32 ?_
        refine lv_iconst (v := 1) (pc := 33) hx hcb dX1_tellLane_33 rfl ?_
        have hin5 := h.1
        have h := h.2
        refine kiast (((x1 * 8) + x2).toNatClampNeg) (pc := 34) hx hcb hS hW (kA_X1_0 hb0) rfl (kin_of hin5 (by decide)) dX1_tellLane_34 (fun σ6 H locs eσ6 hW => ?_)
        have h := h σ6 eσ6
        refine lv_aload_n (pc := 35) hx hcb dX1_tellLane_35 rfl (lv_at hl 0 rfl) ?_
        refine kget (v := .ref (X.2.1 (b0 + 1))) (pc := 36) hx hcb hts hown hS hW iwX1 (kO_X1 hb0) rfl 0 (by decide) q110 rfl rfl dX1_tellLane_36 ?_
        refine lv_iload_n (pc := 39) hx hcb dX1_tellLane_39 rfl (lv_at hl 2 rfl) ?_
        refine lv_bipush (v := 8) (pc := 40) hx hcb dX1_tellLane_40 rfl ?_
        refine lv_imul (pc := 42) hx hcb dX1_tellLane_42 ?_
        refine lv_iload_n (pc := 43) hx hcb dX1_tellLane_43 rfl (lv_at hl 1 rfl) ?_
        refine lv_iadd (pc := 44) hx hcb dX1_tellLane_44 ?_
        refine lv_iconst (v := 1) (pc := 45) hx hcb dX1_tellLane_45 rfl ?_
        have hin7 := h.1
        have h := h.2
        refine kiast (((x2 * 8) + x1).toNatClampNeg) (pc := 46) hx hcb hS hW (kA_X1_0 hb0) rfl (kin_of hin7 (by decide)) dX1_tellLane_46 (fun σ8 H locs eσ8 hW => ?_)
        have h := h σ8 eσ8
        refine lv_aload_n (pc := 47) hx hcb dX1_tellLane_47 rfl (lv_at hl 0 rfl) ?_
        refine lv_iconst (v := 1) (pc := 48) hx hcb dX1_tellLane_48 rfl ?_
        refine kput (ty := .boolean) (pc := 49) hx hcb hts hown hS hW iwX1 tyX1 tyX1_ok nmX1 (kO_X1 hb0) rfl 9 (by decide) q119 rfl rfl rfl rfl rfl (Nat.le_of_ble_eq_true rfl) rfl dX1_tellLane_49 (fun σ9 H locs eσ9 hW => ?_)
        have h := h σ9 eσ9
        refine lv_iconst (v := 1) (pc := 52) hx hcb dX1_tellLane_52 rfl ?_
        exact hret _ _ _ _ _ _ rfl h hW dX1_tellLane_53
      · have h := h.2 c18
        refine lv_iconst (v := 0) (pc := 21) hx hcb dX1_tellLane_21 rfl ?_
        exact hret _ _ _ _ _ _ rfl h hW dX1_tellLane_22
abbrev rm_X1_tellPerson : Room := { frames := 0, cells := 0, slots := 0, locals := 0 }
set_option maxHeartbeats 4000000 in
set_option maxRecDepth 100000 in
theorem c_X1_tellPerson (l : Launch) (X : KX) (σ : Mm) (b0 : Nat) (hb0 : kFm b0) (x1 : Int32) (Φ : Int32 → Mm → Prop) (h : wp_X1_tellPerson σ b0 x1 Φ) : Met l yX1_tellPerson (.code yX1_tellPerson cX1_tellPerson 2 (some .boolean) :: kT) rm_X1_tellPerson (va_Pc [.ref (X.2.1 b0), .int x1] (kPre kZC X σ)) (va_Qi (fun r σ' => Φ r σ') (fun σ' t => kPre kZC X σ' t) (kA kZC X)) 0 0 (kA kZC X) := by
  refine kofI (by decide) (Nat.le_of_ble_eq_true rfl) ?_
  intro p e s m args below meth c ls Q hx hcb hml hown hts hS hW hl hret
  have hown : s.vm.findClass RX1 = some m.cls := hown
  have hl : lv_has ls 2 [(0, .ref (X.2.1 b0)), (1, .int x1)] := hl
  unfold wp_X1_tellPerson at h
  refine lv_aload_n (pc := 0) hx hcb dX1_tellPerson_0 rfl (lv_at hl 0 rfl) ?_
  refine kget (v := .int (σ.1 b0 6)) (pc := 1) hx hcb hts hown hS hW iwX1 (kO_X1 hb0) rfl 6 (by decide) q116 rfl rfl dX1_tellPerson_1 ?_
  refine lv_iconst (v := 5) (pc := 4) hx hcb dX1_tellPerson_4 rfl ?_
  refine lv_icmp_ge (tgt := 18) (pc := 5) hx hcb dX1_tellPerson_5 (by decide) (fun c5 => ?_) (fun c5 => ?_)
  · have h := h.1 c5
    refine lv_iconst (v := 0) (pc := 18) hx hcb dX1_tellPerson_18 rfl ?_
    exact hret _ _ _ _ _ _ rfl h hW dX1_tellPerson_19
  · have h := h.2 c5
    refine lv_iload_n (pc := 8) hx hcb dX1_tellPerson_8 rfl (lv_at hl 1 rfl) ?_
    refine lv_if_lt (tgt := 18) (pc := 9) hx hcb dX1_tellPerson_9 (by decide) (fun c9 => ?_) (fun c9 => ?_)
    · have h := h.1 c9
      refine lv_iconst (v := 0) (pc := 18) hx hcb dX1_tellPerson_18 rfl ?_
      exact hret _ _ _ _ _ _ rfl h hW dX1_tellPerson_19
    · have h := h.2 c9
      refine lv_iload_n (pc := 12) hx hcb dX1_tellPerson_12 rfl (lv_at hl 1 rfl) ?_
      refine lv_bipush (v := 99) (pc := 13) hx hcb dX1_tellPerson_13 rfl ?_
      refine lv_icmp_le (tgt := 20) (pc := 15) hx hcb dX1_tellPerson_15 (by decide) (fun c15 => ?_) (fun c15 => ?_)
      · have h := h.1 c15
        refine lv_aload_n (pc := 20) hx hcb dX1_tellPerson_20 rfl (lv_at hl 0 rfl) ?_
        refine kget (v := .ref (X.2.1 (b0 + 3))) (pc := 21) hx hcb hts hown hS hW iwX1 (kO_X1 hb0) rfl 2 (by decide) q112 rfl rfl dX1_tellPerson_21 ?_
        refine lv_aload_n (pc := 24) hx hcb dX1_tellPerson_24 rfl (lv_at hl 0 rfl) ?_
        refine kget (v := .int (σ.1 b0 6)) (pc := 25) hx hcb hts hown hS hW iwX1 (kO_X1 hb0) rfl 6 (by decide) q116 rfl rfl dX1_tellPerson_25 ?_
        refine lv_iload_n (pc := 28) hx hcb dX1_tellPerson_28 rfl (lv_at hl 1 rfl) ?_
        have hin1 := h.1
        have h := h.2
        refine kiast ((σ.1 b0 6).toNatClampNeg) (pc := 29) hx hcb hS hW (kA_X1_2 hb0) rfl (kin_of hin1 (by decide)) dX1_tellPerson_29 (fun σ2 H locs eσ2 hW => ?_)
        have h := h σ2 eσ2
        refine lv_aload_n (pc := 30) hx hcb dX1_tellPerson_30 rfl (lv_at hl 0 rfl) ?_
        refine kget (v := .ref (X.2.1 (b0 + 5))) (pc := 31) hx hcb hts hown hS hW iwX1 (kO_X1 hb0) rfl 4 (by decide) q114 rfl rfl dX1_tellPerson_31 ?_
        refine lv_aload_n (pc := 34) hx hcb dX1_tellPerson_34 rfl (lv_at hl 0 rfl) ?_
        refine kget (v := .int (σ2.1 b0 6)) (pc := 35) hx hcb hts hown hS hW iwX1 (kO_X1 hb0) rfl 6 (by decide) q116 rfl rfl dX1_tellPerson_35 ?_
        refine lv_iconst (v := 0) (pc := 38) hx hcb dX1_tellPerson_38 rfl ?_
        have hin3 := h.1
        have h := h.2
        refine kiast ((σ2.1 b0 6).toNatClampNeg) (pc := 39) hx hcb hS hW (kA_X1_4 hb0) rfl (kin_of hin3 (by decide)) dX1_tellPerson_39 (fun σ4 H locs eσ4 hW => ?_)
        have h := h σ4 eσ4
        refine lv_aload_n (pc := 40) hx hcb dX1_tellPerson_40 rfl (lv_at hl 0 rfl) ?_
        refine lv_dup (pc := 41) hx hcb dX1_tellPerson_41 rfl ?_
        refine kget (v := .int (σ4.1 b0 6)) (pc := 42) hx hcb hts hown hS hW iwX1 (kO_X1 hb0) rfl 6 (by decide) q116 rfl rfl dX1_tellPerson_42 ?_
        refine lv_iconst (v := 1) (pc := 45) hx hcb dX1_tellPerson_45 rfl ?_
        refine lv_iadd (pc := 46) hx hcb dX1_tellPerson_46 ?_
        refine kput (ty := .int) (pc := 47) hx hcb hts hown hS hW iwX1 tyX1 tyX1_ok nmX1 (kO_X1 hb0) rfl 6 (by decide) q116 rfl rfl rfl rfl rfl (Nat.le_of_ble_eq_true rfl) rfl dX1_tellPerson_47 (fun σ5 H locs eσ5 hW => ?_)
        have h := h σ5 eσ5
        refine lv_iconst (v := 1) (pc := 50) hx hcb dX1_tellPerson_50 rfl ?_
        exact hret _ _ _ _ _ _ rfl h hW dX1_tellPerson_51
      · have h := h.2 c15
        refine lv_iconst (v := 0) (pc := 18) hx hcb dX1_tellPerson_18 rfl ?_
        exact hret _ _ _ _ _ _ rfl h hW dX1_tellPerson_19
abbrev rm_X1_tellStart : Room := { frames := 0, cells := 0, slots := 0, locals := 0 }
set_option maxHeartbeats 4000000 in
set_option maxRecDepth 100000 in
theorem c_X1_tellStart (l : Launch) (X : KX) (σ : Mm) (b0 : Nat) (hb0 : kFm b0) (x1 : Int32) (Φ : Int32 → Mm → Prop) (h : wp_X1_tellStart σ b0 x1 Φ) : Met l yX1_tellStart (.code yX1_tellStart cX1_tellStart 2 (some .boolean) :: kT) rm_X1_tellStart (va_Pc [.ref (X.2.1 b0), .int x1] (kPre kZC X σ)) (va_Qi (fun r σ' => Φ r σ') (fun σ' t => kPre kZC X σ' t) (kA kZC X)) 0 0 (kA kZC X) := by
  refine kofI (by decide) (Nat.le_of_ble_eq_true rfl) ?_
  intro p e s m args below meth c ls Q hx hcb hml hown hts hS hW hl hret
  have hown : s.vm.findClass RX1 = some m.cls := hown
  have hl : lv_has ls 2 [(0, .ref (X.2.1 b0)), (1, .int x1)] := hl
  unfold wp_X1_tellStart at h
  refine lv_iload_n (pc := 0) hx hcb dX1_tellStart_0 rfl (lv_at hl 1 rfl) ?_
  refine lv_if_lt (tgt := 10) (pc := 1) hx hcb dX1_tellStart_1 (by decide) (fun c1 => ?_) (fun c1 => ?_)
  · have h := h.1 c1
    refine lv_iconst (v := 0) (pc := 10) hx hcb dX1_tellStart_10 rfl ?_
    exact hret _ _ _ _ _ _ rfl h hW dX1_tellStart_11
  · have h := h.2 c1
    refine lv_iload_n (pc := 4) hx hcb dX1_tellStart_4 rfl (lv_at hl 1 rfl) ?_
    refine lv_bipush (v := 8) (pc := 5) hx hcb dX1_tellStart_5 rfl ?_
    refine lv_icmp_lt (tgt := 12) (pc := 7) hx hcb dX1_tellStart_7 (by decide) (fun c7 => ?_) (fun c7 => ?_)
    · have h := h.1 c7
      refine lv_aload_n (pc := 12) hx hcb dX1_tellStart_12 rfl (lv_at hl 0 rfl) ?_
      refine lv_iload_n (pc := 13) hx hcb dX1_tellStart_13 rfl (lv_at hl 1 rfl) ?_
      refine kput (ty := .int) (pc := 14) hx hcb hts hown hS hW iwX1 tyX1 tyX1_ok nmX1 (kO_X1 hb0) rfl 8 (by decide) q118 rfl rfl rfl rfl rfl (Nat.le_of_ble_eq_true rfl) rfl dX1_tellStart_14 (fun σ1 H locs eσ1 hW => ?_)
      have h := h σ1 eσ1
      refine lv_iconst (v := 1) (pc := 17) hx hcb dX1_tellStart_17 rfl ?_
      exact hret _ _ _ _ _ _ rfl h hW dX1_tellStart_18
    · have h := h.2 c7
      refine lv_iconst (v := 0) (pc := 10) hx hcb dX1_tellStart_10 rfl ?_
      exact hret _ _ _ _ _ _ rfl h hW dX1_tellStart_11
abbrev rm_X1_tellYards : Room := { frames := 0, cells := 0, slots := 0, locals := 0 }
set_option maxHeartbeats 4000000 in
set_option maxRecDepth 100000 in
theorem c_X1_tellYards (l : Launch) (X : KX) (σ : Mm) (b0 : Nat) (hb0 : kFm b0) (x1 : Int32) (Φ : Int32 → Mm → Prop) (h : wp_X1_tellYards σ b0 x1 Φ) : Met l yX1_tellYards (.code yX1_tellYards cX1_tellYards 2 (some .boolean) :: kT) rm_X1_tellYards (va_Pc [.ref (X.2.1 b0), .int x1] (kPre kZC X σ)) (va_Qi (fun r σ' => Φ r σ') (fun σ' t => kPre kZC X σ' t) (kA kZC X)) 0 0 (kA kZC X) := by
  refine kofI (by decide) (Nat.le_of_ble_eq_true rfl) ?_
  intro p e s m args below meth c ls Q hx hcb hml hown hts hS hW hl hret
  have hown : s.vm.findClass RX1 = some m.cls := hown
  have hl : lv_has ls 2 [(0, .ref (X.2.1 b0)), (1, .int x1)] := hl
  unfold wp_X1_tellYards at h
  refine lv_iload_n (pc := 0) hx hcb dX1_tellYards_0 rfl (lv_at hl 1 rfl) ?_
  refine lv_iconst (v := 2) (pc := 1) hx hcb dX1_tellYards_1 rfl ?_
  refine lv_icmp_lt (tgt := 18) (pc := 2) hx hcb dX1_tellYards_2 (by decide) (fun c2 => ?_) (fun c2 => ?_)
  · have h := h.1 c2
    refine lv_iconst (v := 0) (pc := 18) hx hcb dX1_tellYards_18 rfl ?_
    exact hret _ _ _ _ _ _ rfl h hW dX1_tellYards_19
  · have h := h.2 c2
    refine lv_iload_n (pc := 5) hx hcb dX1_tellYards_5 rfl (lv_at hl 1 rfl) ?_
    refine lv_bipush (v := 8) (pc := 6) hx hcb dX1_tellYards_6 rfl ?_
    refine lv_icmp_gt (tgt := 18) (pc := 8) hx hcb dX1_tellYards_8 (by decide) (fun c8 => ?_) (fun c8 => ?_)
    · have h := h.1 c8
      refine lv_iconst (v := 0) (pc := 18) hx hcb dX1_tellYards_18 rfl ?_
      exact hret _ _ _ _ _ _ rfl h hW dX1_tellYards_19
    · have h := h.2 c8
      refine lv_aload_n (pc := 11) hx hcb dX1_tellYards_11 rfl (lv_at hl 0 rfl) ?_
      refine kget (v := .int (σ.1 b0 9)) (pc := 12) hx hcb hts hown hS hW iwX1 (kO_X1 hb0) rfl 9 (by decide) q119 rfl rfl dX1_tellYards_12 ?_
      refine lv_if_eq (tgt := 20) (pc := 15) hx hcb dX1_tellYards_15 (by decide) (fun c15 => ?_) (fun c15 => ?_)
      · have h := h.1 c15
        refine lv_aload_n (pc := 20) hx hcb dX1_tellYards_20 rfl (lv_at hl 0 rfl) ?_
        refine lv_iload_n (pc := 21) hx hcb dX1_tellYards_21 rfl (lv_at hl 1 rfl) ?_
        refine kput (ty := .int) (pc := 22) hx hcb hts hown hS hW iwX1 tyX1 tyX1_ok nmX1 (kO_X1 hb0) rfl 5 (by decide) q115 rfl rfl rfl rfl rfl (Nat.le_of_ble_eq_true rfl) rfl dX1_tellYards_22 (fun σ1 H locs eσ1 hW => ?_)
        have h := h σ1 eσ1
        refine lv_iconst (v := 1) (pc := 25) hx hcb dX1_tellYards_25 rfl ?_
        exact hret _ _ _ _ _ _ rfl h hW dX1_tellYards_26
      · have h := h.2 c15
        refine lv_iconst (v := 0) (pc := 18) hx hcb dX1_tellYards_18 rfl ?_
        exact hret _ _ _ _ _ _ rfl h hW dX1_tellYards_19
abbrev rm_X1_unfed : Room := { frames := 2, cells := 0, slots := 0, locals := 48 }
set_option maxHeartbeats 4000000 in
set_option maxRecDepth 100000 in
theorem c_X1_unfed (l : Launch) (X : KX) (σ : Mm) (b0 : Nat) (hb0 : kFm b0) (x1 : Int32) (x2 : Int32) (x3 : Int32) (Φ : Int32 → Prop) (h : wp_X1_unfed σ b0 x1 x2 x3 Φ) : Met l yX1_unfed (.code yX1_unfed cX1_unfed 6 (some .int) :: kT) rm_X1_unfed (va_Pc [.ref (X.2.1 b0), .int x1, .int x2, .int x3] (kPre kZC X σ)) (va_Qi (fun r σ' => Φ r ∧ σ = σ') (fun σ' t => kPre kZC X σ' t) (kA kZC X)) 0 0 (kA kZC X) := by
  refine kofI (by decide) (Nat.le_of_ble_eq_true rfl) ?_
  intro p e s m args below meth c ls Q hx hcb hml hown hts hS hW hl hret
  have hown : s.vm.findClass RX1 = some m.cls := hown
  have hl : lv_has ls 6 [(0, .ref (X.2.1 b0)), (1, .int x1), (2, .int x2), (3, .int x3)] := hl
  unfold wp_X1_unfed at h
  refine lv_iload_n (pc := 0) hx hcb dX1_unfed_0 rfl (lv_at hl 1 rfl) ?_
  refine lv_istore (lv' := [(4, .int x1), (0, .ref (X.2.1 b0)), (1, .int x1), (2, .int x2), (3, .int x3)]) (pc := 1) hx hcb dX1_unfed_1 hl (by decide) rfl (fun ls hl => ?_)
  refine lv_iconst (v := 1) (pc := 3) hx hcb dX1_unfed_3 rfl ?_
  refine lv_istore (lv' := [(5, .int 1), (4, .int x1), (0, .ref (X.2.1 b0)), (1, .int x1), (2, .int x2), (3, .int x3)]) (pc := 4) hx hcb dX1_unfed_4 hl (by decide) rfl (fun ls hl => ?_)
  have hL6 : ∀ (n : Nat) (x4_1 : Int32) (x5_2 : Int32) (H : Heap) (locs : List Loc) (ls : Array Slot), wp_X1_unfed_L6 b0 x2 x3 σ Φ n x4_1 x5_2 → kW kZC X (kA kZC X) s σ H locs → lv_has ls 6 [(0, .ref (X.2.1 b0)), (2, .int x2), (3, .int x3), (4, .int x4_1), (5, .int x5_2)] → W p l e rm_X1_unfed s m args below meth c H locs 0 0 Q (F0 m 6 ls []) := by
    intro n
    induction n with
    | zero =>
      intro x4_1 x5_2 H locs ls h
      exact False.elim h
    | succ n ih =>
      intro x4_1 x5_2 H locs ls h hW hl
      unfold wp_X1_unfed_L6 at h
      refine lv_iload (pc := 6) hx hcb dX1_unfed_6 (lv_at hl 4 rfl) ?_
      refine lv_iload_n (pc := 8) hx hcb dX1_unfed_8 rfl (lv_at hl 2 rfl) ?_
      refine lv_icmp_gt (tgt := 30) (pc := 9) hx hcb dX1_unfed_9 (by decide) (fun c9 => ?_) (fun c9 => ?_)
      · have h := h.1 c9
        refine lv_iload (pc := 30) hx hcb dX1_unfed_30 (lv_at hl 3 rfl) ?_
        exact hret _ _ _ _ _ _ rfl ⟨h, rfl⟩ hW dX1_unfed_32
      · have h := h.2 c9
        refine lv_aload_n (pc := 12) hx hcb dX1_unfed_12 rfl (lv_at hl 0 rfl) ?_
        refine lv_iload (pc := 13) hx hcb dX1_unfed_13 (lv_at hl 3 rfl) ?_
        refine lv_iload_n (pc := 15) hx hcb dX1_unfed_15 rfl (lv_at hl 1 rfl) ?_
        refine lv_iload (pc := 16) hx hcb dX1_unfed_16 (lv_at hl 4 rfl) ?_
        refine lv_iadd (pc := 18) hx hcb dX1_unfed_18 ?_
        refine kci (krunV (As := [.int x4_1, .int (x2 + x5_2)]) (rest := []) (pc := 19) hx hcb hml hown hts hS hW (c_X1_onward l X σ b0 hb0 x4_1 (x2 + x5_2) _ h) mf_X1_onward q543 (kO_X1 hb0) rfl ⟨rfl, rfl⟩ ⟨Nat.le_of_ble_eq_true rfl, Nat.le_of_ble_eq_true rfl⟩ rfl hl.1 rfl (Nat.le_of_ble_eq_true rfl) dX1_unfed_19 ⟨Nat.zero_le _, Nat.zero_le _⟩) hS hW (fun r4 σ3 H locs h hW => ?_)
        obtain ⟨h, rfl⟩ := h
        refine lv_istore (lv' := [(4, .int r4), (0, .ref (X.2.1 b0)), (2, .int x2), (3, .int x3), (5, .int x5_2)]) (pc := 22) hx hcb dX1_unfed_22 hl (by decide) rfl (fun ls hl => ?_)
        refine lv_iinc (v := x5_2 + 1) (lv' := [(5, .int (x5_2 + 1)), (4, .int r4), (0, .ref (X.2.1 b0)), (2, .int x2), (3, .int x3)]) (pc := 24) hx hcb dX1_unfed_24 hl (k := 4) rfl rfl (by decide) rfl (fun ls hl => ?_)
        refine lv_goto (tgt := 6) (pc := 27) hx hcb dX1_unfed_27 (by decide) ?_
        exact ih r4 (x5_2 + 1) _ _ _ h hW (lv_sub hl [2, 3, 4, 1, 0] rfl)
  obtain ⟨n, h⟩ := h
  exact hL6 n x1 1 _ _ _ h hW (lv_sub hl [2, 4, 5, 1, 0] rfl)
abbrev rm_X1_yards : Room := { frames := 0, cells := 0, slots := 0, locals := 0 }
set_option maxHeartbeats 4000000 in
set_option maxRecDepth 100000 in
theorem c_X1_yards (l : Launch) (X : KX) (σ : Mm) (b0 : Nat) (hb0 : kFm b0) (Φ : Int32 → Prop) (h : wp_X1_yards σ b0 Φ) : Met l yX1_yards (.code yX1_yards cX1_yards 1 (some .int) :: kT) rm_X1_yards (va_Pc [.ref (X.2.1 b0)] (kPre kZC X σ)) (va_Qi (fun r σ' => Φ r ∧ σ = σ') (fun σ' t => kPre kZC X σ' t) (kA kZC X)) 0 0 (kA kZC X) := by
  refine kofI (by decide) (Nat.le_of_ble_eq_true rfl) ?_
  intro p e s m args below meth c ls Q hx hcb hml hown hts hS hW hl hret
  have hown : s.vm.findClass RX1 = some m.cls := hown
  have hl : lv_has ls 1 [(0, .ref (X.2.1 b0))] := hl
  unfold wp_X1_yards at h
  refine lv_aload_n (pc := 0) hx hcb dX1_yards_0 rfl (lv_at hl 0 rfl) ?_
  refine kget (v := .int (σ.1 b0 5)) (pc := 1) hx hcb hts hown hS hW iwX1 (kO_X1 hb0) rfl 5 (by decide) q115 rfl rfl dX1_yards_1 ?_
  exact hret _ _ _ _ _ _ rfl ⟨h, rfl⟩ hW dX1_yards_4
abbrev rm_X2_clear : Room := { frames := 0, cells := 0, slots := 0, locals := 0 }
set_option maxHeartbeats 4000000 in
set_option maxRecDepth 100000 in
theorem c_X2_clear (l : Launch) (X : KX) (σ : Mm) (b0 : Nat) (hb0 : kFr b0) (Φ : Mm → Prop) (h : wp_X2_clear σ b0 Φ) : Met l yX2_clear (.code yX2_clear cX2_clear 2 none :: kT) rm_X2_clear (va_Pc [.ref (X.2.1 b0)] (kPre kZC X σ)) (va_Qv (fun σ' => Φ σ') (fun σ' t => kPre kZC X σ' t) (kA kZC X)) 0 0 (kA kZC X) := by
  refine kofV (by decide) (Nat.le_of_ble_eq_true rfl) ?_
  intro p e s m args below meth c ls Q hx hcb hml hown hts hS hW hl hret
  have hown : s.vm.findClass RX2 = some m.cls := hown
  have hl : lv_has ls 2 [(0, .ref (X.2.1 b0))] := hl
  unfold wp_X2_clear at h
  refine lv_iconst (v := 0) (pc := 0) hx hcb dX2_clear_0 rfl ?_
  refine lv_istore_n (lv' := [(1, .int 0), (0, .ref (X.2.1 b0))]) (pc := 1) hx hcb dX2_clear_1 rfl hl (by decide) rfl (fun ls hl => ?_)
  obtain ⟨K30, hk30, h⟩ := h
  have hK30 : ∀ (σ1 : Mm) (H : Heap) (locs : List Loc) (ls : Array Slot), K30 σ1 → kW kZC X (kA kZC X) s σ1 H locs → lv_has ls 2 [(0, .ref (X.2.1 b0))] → W p l e rm_X2_clear s m args below meth c H locs 0 0 Q (F0 m 30 ls []) := by
    intro σ1 H locs ls h hW hl
    have h := hk30 σ1 h
    refine lv_aload_n (pc := 30) hx hcb dX2_clear_30 rfl (lv_at hl 0 rfl) ?_
    refine lv_iconst (v := 0) (pc := 31) hx hcb dX2_clear_31 rfl ?_
    refine kput (ty := .int) (pc := 32) hx hcb hts hown hS hW iwX2 tyX2 tyX2_ok nmX2 (kO_X2 hb0) rfl 2 (by decide) q221 rfl rfl rfl rfl rfl (Nat.le_of_ble_eq_true rfl) rfl dX2_clear_32 (fun σ2 H locs eσ2 hW => ?_)
    have h := h σ2 eσ2
    exact hret _ _ _ _ _ h hW dX2_clear_35
  have hL2 : ∀ (n : Nat) (σ3 : Mm) (x1_4 : Int32) (H : Heap) (locs : List Loc) (ls : Array Slot), wp_X2_clear_L2 b0 K30 n σ3 x1_4 → kW kZC X (kA kZC X) s σ3 H locs → lv_has ls 2 [(0, .ref (X.2.1 b0)), (1, .int x1_4)] → W p l e rm_X2_clear s m args below meth c H locs 0 0 Q (F0 m 2 ls []) := by
    intro n
    induction n with
    | zero =>
      intro σ3 x1_4 H locs ls h
      exact False.elim h
    | succ n ih =>
      intro σ3 x1_4 H locs ls h hW hl
      unfold wp_X2_clear_L2 at h
      refine lv_iload_n (pc := 2) hx hcb dX2_clear_2 rfl (lv_at hl 1 rfl) ?_
      refine lv_aload_n (pc := 3) hx hcb dX2_clear_3 rfl (lv_at hl 0 rfl) ?_
      refine kget (v := .int (σ3.1 b0 2)) (pc := 4) hx hcb hts hown hS hW iwX2 (kO_X2 hb0) rfl 2 (by decide) q221 rfl rfl dX2_clear_4 ?_
      refine lv_icmp_ge (tgt := 30) (pc := 7) hx hcb dX2_clear_7 (by decide) (fun c7 => ?_) (fun c7 => ?_)
      · have h := h.1 c7
        exact hK30 σ3 _ _ _ h hW (lv_sub hl [0] rfl)
      · have h := h.2 c7
        refine lv_aload_n (pc := 10) hx hcb dX2_clear_10 rfl (lv_at hl 0 rfl) ?_
        refine kget (v := .ref (X.2.1 (b0 + 2))) (pc := 11) hx hcb hts hown hS hW iwX2 (kO_X2 hb0) rfl 1 (by decide) q220 rfl rfl dX2_clear_11 ?_
        refine lv_aload_n (pc := 14) hx hcb dX2_clear_14 rfl (lv_at hl 0 rfl) ?_
        refine kget (v := .ref (X.2.1 (b0 + 1))) (pc := 15) hx hcb hts hown hS hW iwX2 (kO_X2 hb0) rfl 0 (by decide) q219 rfl rfl dX2_clear_15 ?_
        refine lv_iload_n (pc := 18) hx hcb dX2_clear_18 rfl (lv_at hl 1 rfl) ?_
        have hin5 := h.1
        have h := h.2
        refine kiald (x1_4.toNatClampNeg) (pc := 19) hx hcb hS hW (kA_X2_0 hb0) rfl (kin_of hin5 (by decide)) dX2_clear_19 ?_
        refine kldc2 (v := (-1)) (pc := 20) hx hcb hown hts q215 dX2_clear_20 ?_
        have hin6 := h.1
        have h := h.2
        refine klast ((σ3.1 (b0 + 1) (x1_4.toNatClampNeg)).toNatClampNeg) (pc := 23) hx hcb hS hW (kA_X2_1 hb0) rfl (kin_of hin6 (by decide)) dX2_clear_23 (fun σ7 H locs eσ7 hW => ?_)
        have h := h σ7 eσ7
        refine lv_iinc (v := x1_4 + 1) (lv' := [(1, .int (x1_4 + 1)), (0, .ref (X.2.1 b0))]) (pc := 24) hx hcb dX2_clear_24 hl (k := 1) rfl rfl (by decide) rfl (fun ls hl => ?_)
        refine lv_goto (tgt := 2) (pc := 27) hx hcb dX2_clear_27 (by decide) ?_
        exact ih σ7 (x1_4 + 1) _ _ _ h hW (lv_sub hl [1, 0] rfl)
  obtain ⟨n, h⟩ := h
  exact hL2 n σ 0 _ _ _ h hW (lv_sub hl [1, 0] rfl)
abbrev rm_X2_keepThoseAt : Room := { frames := 1, cells := 0, slots := 0, locals := 20 }
set_option maxHeartbeats 4000000 in
set_option maxRecDepth 100000 in
theorem c_X2_keepThoseAt (l : Launch) (X : KX) (σ : Mm) (b0 : Nat) (hb0 : kFr b0) (x1 : Int32) (Φ : Mm → Prop) (h : wp_X2_keepThoseAt σ b0 x1 Φ) : Met l yX2_keepThoseAt (.code yX2_keepThoseAt cX2_keepThoseAt 5 none :: kT) rm_X2_keepThoseAt (va_Pc [.ref (X.2.1 b0), .int x1] (kPre kZC X σ)) (va_Qv (fun σ' => Φ σ') (fun σ' t => kPre kZC X σ' t) (kA kZC X)) 0 0 (kA kZC X) := by
  refine kofV (by decide) (Nat.le_of_ble_eq_true rfl) ?_
  intro p e s m args below meth c ls Q hx hcb hml hown hts hS hW hl hret
  have hown : s.vm.findClass RX2 = some m.cls := hown
  have hl : lv_has ls 5 [(0, .ref (X.2.1 b0)), (1, .int x1)] := hl
  unfold wp_X2_keepThoseAt at h
  refine lv_iconst (v := 0) (pc := 0) hx hcb dX2_keepThoseAt_0 rfl ?_
  refine lv_istore_n (lv' := [(2, .int 0), (0, .ref (X.2.1 b0)), (1, .int x1)]) (pc := 1) hx hcb dX2_keepThoseAt_1 rfl hl (by decide) rfl (fun ls hl => ?_)
  refine lv_iconst (v := 0) (pc := 2) hx hcb dX2_keepThoseAt_2 rfl ?_
  refine lv_istore_n (lv' := [(3, .int 0), (2, .int 0), (0, .ref (X.2.1 b0)), (1, .int x1)]) (pc := 3) hx hcb dX2_keepThoseAt_3 rfl hl (by decide) rfl (fun ls hl => ?_)
  obtain ⟨K59, hk59, h⟩ := h
  have hK59 : ∀ (σ1 : Mm) (x2_2 : Int32) (H : Heap) (locs : List Loc) (ls : Array Slot), K59 σ1 x2_2 → kW kZC X (kA kZC X) s σ1 H locs → lv_has ls 5 [(0, .ref (X.2.1 b0)), (2, .int x2_2)] → W p l e rm_X2_keepThoseAt s m args below meth c H locs 0 0 Q (F0 m 59 ls []) := by
    intro σ1 x2_2 H locs ls h hW hl
    have h := hk59 σ1 x2_2 h
    refine lv_aload_n (pc := 59) hx hcb dX2_keepThoseAt_59 rfl (lv_at hl 0 rfl) ?_
    refine lv_iload_n (pc := 60) hx hcb dX2_keepThoseAt_60 rfl (lv_at hl 1 rfl) ?_
    refine kput (ty := .int) (pc := 61) hx hcb hts hown hS hW iwX2 tyX2 tyX2_ok nmX2 (kO_X2 hb0) rfl 2 (by decide) q221 rfl rfl rfl rfl rfl (Nat.le_of_ble_eq_true rfl) rfl dX2_keepThoseAt_61 (fun σ3 H locs eσ3 hW => ?_)
    have h := h σ3 eσ3
    exact hret _ _ _ _ _ h hW dX2_keepThoseAt_64
  have hL4 : ∀ (n : Nat) (σ4 : Mm) (x2_5 : Int32) (x3_6 : Int32) (H : Heap) (locs : List Loc) (ls : Array Slot), wp_X2_keepThoseAt_L4 b0 x1 K59 n σ4 x2_5 x3_6 → kW kZC X (kA kZC X) s σ4 H locs → lv_has ls 5 [(0, .ref (X.2.1 b0)), (1, .int x1), (2, .int x2_5), (3, .int x3_6)] → W p l e rm_X2_keepThoseAt s m args below meth c H locs 0 0 Q (F0 m 4 ls []) := by
    intro n
    induction n with
    | zero =>
      intro σ4 x2_5 x3_6 H locs ls h
      exact False.elim h
    | succ n ih =>
      intro σ4 x2_5 x3_6 H locs ls h hW hl
      unfold wp_X2_keepThoseAt_L4 at h
      refine lv_iload_n (pc := 4) hx hcb dX2_keepThoseAt_4 rfl (lv_at hl 3 rfl) ?_
      refine lv_aload_n (pc := 5) hx hcb dX2_keepThoseAt_5 rfl (lv_at hl 0 rfl) ?_
      refine kget (v := .int (σ4.1 b0 2)) (pc := 6) hx hcb hts hown hS hW iwX2 (kO_X2 hb0) rfl 2 (by decide) q221 rfl rfl dX2_keepThoseAt_6 ?_
      refine lv_icmp_ge (tgt := 59) (pc := 9) hx hcb dX2_keepThoseAt_9 (by decide) (fun c9 => ?_) (fun c9 => ?_)
      · have h := h.1 c9
        exact hK59 σ4 x2_5 _ _ _ h hW (lv_sub hl [0, 2] rfl)
      · have h := h.2 c9
        refine lv_aload_n (pc := 12) hx hcb dX2_keepThoseAt_12 rfl (lv_at hl 0 rfl) ?_
        refine kget (v := .ref (X.2.1 (b0 + 1))) (pc := 13) hx hcb hts hown hS hW iwX2 (kO_X2 hb0) rfl 0 (by decide) q219 rfl rfl dX2_keepThoseAt_13 ?_
        refine lv_iload_n (pc := 16) hx hcb dX2_keepThoseAt_16 rfl (lv_at hl 3 rfl) ?_
        have hin7 := h.1
        have h := h.2
        refine kiald (x3_6.toNatClampNeg) (pc := 17) hx hcb hS hW (kA_X2_0 hb0) rfl (kin_of hin7 (by decide)) dX2_keepThoseAt_17 ?_
        refine lv_topi (fun x4_8 ex4_8 => ?_)
        have h := h x4_8 ex4_8
        refine lv_istore (lv' := [(4, .int x4_8), (0, .ref (X.2.1 b0)), (1, .int x1), (2, .int x2_5), (3, .int x3_6)]) (pc := 18) hx hcb dX2_keepThoseAt_18 hl (by decide) rfl (fun ls hl => ?_)
        refine lv_iload (pc := 20) hx hcb dX2_keepThoseAt_20 (lv_at hl 0 rfl) ?_
        refine kci (krunSN (As := [.int x4_8]) (rest := []) (pc := 22) hx hcb hml hown hts hS hW (c_X10_yardOf l X σ4 x4_8 _ h) mf_X10_yardOf q646 ⟨rfl, rfl⟩ ⟨Nat.le_of_ble_eq_true rfl, Nat.le_of_ble_eq_true rfl⟩ rfl hl.1 rfl (Nat.le_of_ble_eq_true rfl) dX2_keepThoseAt_22 ⟨Nat.zero_le _, Nat.zero_le _⟩) hS hW (fun r10 σ9 H locs h hW => ?_)
        obtain ⟨h, rfl⟩ := h
        refine lv_iload_n (pc := 25) hx hcb dX2_keepThoseAt_25 rfl (lv_at hl 2 rfl) ?_
        obtain ⟨K53, hk53, h⟩ := h
        have hK53 : ∀ (σ11 : Mm) (x2_12 : Int32) (H : Heap) (locs : List Loc) (ls : Array Slot), K53 σ11 x2_12 → kW kZC X (kA kZC X) s σ11 H locs → lv_has ls 5 [(0, .ref (X.2.1 b0)), (1, .int x1), (2, .int x2_12), (3, .int x3_6)] → W p l e rm_X2_keepThoseAt s m args below meth c H locs 0 0 Q (F0 m 53 ls []) := by
          intro σ11 x2_12 H locs ls h hW hl
          have h := hk53 σ11 x2_12 h
          refine lv_iinc (v := x3_6 + 1) (lv' := [(3, .int (x3_6 + 1)), (0, .ref (X.2.1 b0)), (1, .int x1), (2, .int x2_12)]) (pc := 53) hx hcb dX2_keepThoseAt_53 hl (k := 3) rfl rfl (by decide) rfl (fun ls hl => ?_)
          refine lv_goto (tgt := 4) (pc := 56) hx hcb dX2_keepThoseAt_56 (by decide) ?_
          exact ih σ11 x2_12 (x3_6 + 1) _ _ _ h hW (lv_sub hl [1, 2, 3, 0] rfl)
        refine lv_icmp_ne (tgt := 43) (pc := 26) hx hcb dX2_keepThoseAt_26 (by decide) (fun c26 => ?_) (fun c26 => ?_)
        · have h := h.1 c26
          refine lv_aload_n (pc := 43) hx hcb dX2_keepThoseAt_43 rfl (lv_at hl 1 rfl) ?_
          refine kget (v := .ref (X.2.1 (b0 + 2))) (pc := 44) hx hcb hts hown hS hW iwX2 (kO_X2 hb0) rfl 1 (by decide) q220 rfl rfl dX2_keepThoseAt_44 ?_
          refine lv_iload (pc := 47) hx hcb dX2_keepThoseAt_47 (lv_at hl 0 rfl) ?_
          refine kldc2 (v := (-1)) (pc := 49) hx hcb hown hts q215 dX2_keepThoseAt_49 ?_
          have hin13 := h.1
          have h := h.2
          refine klast (x4_8.toNatClampNeg) (pc := 52) hx hcb hS hW (kA_X2_1 hb0) rfl (kin_of hin13 (by decide)) dX2_keepThoseAt_52 (fun σ14 H locs eσ14 hW => ?_)
          have h := h σ14 eσ14
          exact hK53 σ14 x2_5 _ _ _ h hW (lv_sub hl [1, 2, 3, 4] rfl)
        · have h := h.2 c26
          refine lv_aload_n (pc := 29) hx hcb dX2_keepThoseAt_29 rfl (lv_at hl 1 rfl) ?_
          refine kget (v := .ref (X.2.1 (b0 + 1))) (pc := 30) hx hcb hts hown hS hW iwX2 (kO_X2 hb0) rfl 0 (by decide) q219 rfl rfl dX2_keepThoseAt_30 ?_
          refine lv_iload_n (pc := 33) hx hcb dX2_keepThoseAt_33 rfl (lv_at hl 3 rfl) ?_
          refine lv_iload (pc := 34) hx hcb dX2_keepThoseAt_34 (lv_at hl 0 rfl) ?_
          have hin15 := h.1
          have h := h.2
          refine kiast (x2_5.toNatClampNeg) (pc := 36) hx hcb hS hW (kA_X2_0 hb0) rfl (kin_of hin15 (by decide)) dX2_keepThoseAt_36 (fun σ16 H locs eσ16 hW => ?_)
          have h := h σ16 eσ16
          refine lv_iinc (v := x2_5 + 1) (lv' := [(2, .int (x2_5 + 1)), (4, .int x4_8), (0, .ref (X.2.1 b0)), (1, .int x1), (3, .int x3_6)]) (pc := 37) hx hcb dX2_keepThoseAt_37 hl (k := 3) rfl rfl (by decide) rfl (fun ls hl => ?_)
          refine lv_goto (tgt := 53) (pc := 40) hx hcb dX2_keepThoseAt_40 (by decide) ?_
          exact hK53 σ16 (x2_5 + 1) _ _ _ h hW (lv_sub hl [2, 3, 0, 4] rfl)
  obtain ⟨n, h⟩ := h
  exact hL4 n σ 0 0 _ _ _ h hW (lv_sub hl [2, 3, 1, 0] rfl)
abbrev rm_X2_least : Room := { frames := 0, cells := 0, slots := 0, locals := 0 }
set_option maxHeartbeats 4000000 in
set_option maxRecDepth 100000 in
theorem c_X2_least (l : Launch) (X : KX) (σ : Mm) (b0 : Nat) (hb0 : kFr b0) (Φ : Int64 → Prop) (h : wp_X2_least σ b0 Φ) : Met l yX2_least (.code yX2_least cX2_least 4 (some .long) :: kT) rm_X2_least (va_Pc [.ref (X.2.1 b0)] (kPre kZC X σ)) (va_Ql (fun r σ' => Φ r ∧ σ = σ') (fun σ' t => kPre kZC X σ' t) (kA kZC X)) 0 0 (kA kZC X) := by
  refine kofL (by decide) (Nat.le_of_ble_eq_true rfl) ?_
  intro p e s m args below meth c ls Q hx hcb hml hown hts hS hW hl hret
  have hown : s.vm.findClass RX2 = some m.cls := hown
  have hl : lv_has ls 4 [(0, .ref (X.2.1 b0))] := hl
  unfold wp_X2_least at h
  refine kldc2 (v := (-1)) (pc := 0) hx hcb hown hts q215 dX2_least_0 ?_
  refine lv_lstore_n (lv' := [(1, .long (-1)), (0, .ref (X.2.1 b0))]) (pc := 3) hx hcb dX2_least_3 rfl hl (by decide) rfl (fun ls hl => ?_)
  refine lv_iconst (v := 0) (pc := 4) hx hcb dX2_least_4 rfl ?_
  refine lv_istore_n (lv' := [(3, .int 0), (1, .long (-1)), (0, .ref (X.2.1 b0))]) (pc := 5) hx hcb dX2_least_5 rfl hl (by decide) rfl (fun ls hl => ?_)
  have hL6 : ∀ (n : Nat) (x1_1 : Int64) (x3_2 : Int32) (H : Heap) (locs : List Loc) (ls : Array Slot), wp_X2_least_L6 b0 σ Φ n x1_1 x3_2 → kW kZC X (kA kZC X) s σ H locs → lv_has ls 4 [(0, .ref (X.2.1 b0)), (1, .long x1_1), (3, .int x3_2)] → W p l e rm_X2_least s m args below meth c H locs 0 0 Q (F0 m 6 ls []) := by
    intro n
    induction n with
    | zero =>
      intro x1_1 x3_2 H locs ls h
      exact False.elim h
    | succ n ih =>
      intro x1_1 x3_2 H locs ls h hW hl
      unfold wp_X2_least_L6 at h
      refine lv_iload_n (pc := 6) hx hcb dX2_least_6 rfl (lv_at hl 2 rfl) ?_
      refine lv_aload_n (pc := 7) hx hcb dX2_least_7 rfl (lv_at hl 0 rfl) ?_
      refine kget (v := .int (σ.1 b0 2)) (pc := 8) hx hcb hts hown hS hW iwX2 (kO_X2 hb0) rfl 2 (by decide) q221 rfl rfl dX2_least_8 ?_
      refine lv_icmp_ge (tgt := 56) (pc := 11) hx hcb dX2_least_11 (by decide) (fun c11 => ?_) (fun c11 => ?_)
      · have h := h.1 c11
        refine lv_lload_n (pc := 56) hx hcb dX2_least_56 rfl (lv_at hl 1 rfl) ?_
        exact hret _ _ _ _ _ _ ⟨h, rfl⟩ hW dX2_least_57
      · have h := h.2 c11
        refine lv_lload_n (pc := 14) hx hcb dX2_least_14 rfl (lv_at hl 1 rfl) ?_
        refine kldc2 (v := (-1)) (pc := 15) hx hcb hown hts q215 dX2_least_15 ?_
        refine W.lcmp (pc := 18) hx hcb dX2_least_18 ?_
        obtain ⟨K50, hk50, h⟩ := h
        have hK50 : ∀ (x1_3 : Int64) (H : Heap) (locs : List Loc) (ls : Array Slot), K50 x1_3 → kW kZC X (kA kZC X) s σ H locs → lv_has ls 4 [(0, .ref (X.2.1 b0)), (1, .long x1_3), (3, .int x3_2)] → W p l e rm_X2_least s m args below meth c H locs 0 0 Q (F0 m 50 ls []) := by
          intro x1_3 H locs ls h hW hl
          have h := hk50 x1_3 h
          refine lv_iinc (v := x3_2 + 1) (lv' := [(3, .int (x3_2 + 1)), (0, .ref (X.2.1 b0)), (1, .long x1_3)]) (pc := 50) hx hcb dX2_least_50 hl (k := 2) rfl rfl (by decide) rfl (fun ls hl => ?_)
          refine lv_goto (tgt := 6) (pc := 53) hx hcb dX2_least_53 (by decide) ?_
          exact ih x1_3 (x3_2 + 1) _ _ _ h hW (lv_sub hl [1, 2, 0] rfl)
        obtain ⟨K38, hk38, h⟩ := h
        have hK38 : ∀  (H : Heap) (locs : List Loc) (ls : Array Slot), K38 → kW kZC X (kA kZC X) s σ H locs → lv_has ls 4 [(0, .ref (X.2.1 b0)), (3, .int x3_2)] → W p l e rm_X2_least s m args below meth c H locs 0 0 Q (F0 m 38 ls []) := by
          intro  H locs ls h hW hl
          have h := hk38 h
          refine lv_aload_n (pc := 38) hx hcb dX2_least_38 rfl (lv_at hl 0 rfl) ?_
          refine kget (v := .ref (X.2.1 (b0 + 2))) (pc := 39) hx hcb hts hown hS hW iwX2 (kO_X2 hb0) rfl 1 (by decide) q220 rfl rfl dX2_least_39 ?_
          refine lv_aload_n (pc := 42) hx hcb dX2_least_42 rfl (lv_at hl 0 rfl) ?_
          refine kget (v := .ref (X.2.1 (b0 + 1))) (pc := 43) hx hcb hts hown hS hW iwX2 (kO_X2 hb0) rfl 0 (by decide) q219 rfl rfl dX2_least_43 ?_
          refine lv_iload_n (pc := 46) hx hcb dX2_least_46 rfl (lv_at hl 1 rfl) ?_
          have hin4 := h.1
          have h := h.2
          refine kiald (x3_2.toNatClampNeg) (pc := 47) hx hcb hS hW (kA_X2_0 hb0) rfl (kin_of hin4 (by decide)) dX2_least_47 ?_
          have hin5 := h.1
          have h := h.2
          refine klald ((σ.1 (b0 + 1) (x3_2.toNatClampNeg)).toNatClampNeg) (pc := 48) hx hcb hS hW (kA_X2_1 hb0) rfl (kin_of hin5 (by decide)) dX2_least_48 ?_
          refine lv_topl (fun x1_6 ex1_6 => ?_)
          have h := h x1_6 ex1_6
          refine lv_lstore_n (lv' := [(1, .long x1_6), (0, .ref (X.2.1 b0)), (3, .int x3_2)]) (pc := 49) hx hcb dX2_least_49 rfl hl (by decide) rfl (fun ls hl => ?_)
          exact hK50 x1_6 _ _ _ h hW (lv_sub hl [1, 0, 2] rfl)
        refine lv_if_eq (tgt := 38) (pc := 19) hx hcb dX2_least_19 (by decide) (fun c19 => ?_) (fun c19 => ?_)
        · have h := h.1 c19
          exact hK38  _ _ _ h hW (lv_sub hl [0, 2] rfl)
        · have h := h.2 c19
          refine lv_aload_n (pc := 22) hx hcb dX2_least_22 rfl (lv_at hl 0 rfl) ?_
          refine kget (v := .ref (X.2.1 (b0 + 2))) (pc := 23) hx hcb hts hown hS hW iwX2 (kO_X2 hb0) rfl 1 (by decide) q220 rfl rfl dX2_least_23 ?_
          refine lv_aload_n (pc := 26) hx hcb dX2_least_26 rfl (lv_at hl 0 rfl) ?_
          refine kget (v := .ref (X.2.1 (b0 + 1))) (pc := 27) hx hcb hts hown hS hW iwX2 (kO_X2 hb0) rfl 0 (by decide) q219 rfl rfl dX2_least_27 ?_
          refine lv_iload_n (pc := 30) hx hcb dX2_least_30 rfl (lv_at hl 2 rfl) ?_
          have hin7 := h.1
          have h := h.2
          refine kiald (x3_2.toNatClampNeg) (pc := 31) hx hcb hS hW (kA_X2_0 hb0) rfl (kin_of hin7 (by decide)) dX2_least_31 ?_
          have hin8 := h.1
          have h := h.2
          refine klald ((σ.1 (b0 + 1) (x3_2.toNatClampNeg)).toNatClampNeg) (pc := 32) hx hcb hS hW (kA_X2_1 hb0) rfl (kin_of hin8 (by decide)) dX2_least_32 ?_
          refine lv_lload_n (pc := 33) hx hcb dX2_least_33 rfl (lv_at hl 1 rfl) ?_
          refine W.lcmp (pc := 34) hx hcb dX2_least_34 ?_
          refine lv_if_ge (tgt := 50) (pc := 35) hx hcb dX2_least_35 (by decide) (fun c35 => ?_) (fun c35 => ?_)
          · have h := h.1 c35
            exact hK50 x1_1 _ _ _ h hW (lv_sub hl [0, 1, 2] rfl)
          · have h := h.2 c35
            exact hK38  _ _ _ h hW (lv_sub hl [0, 2] rfl)
  obtain ⟨n, h⟩ := h
  exact hL6 n (-1) 0 _ _ _ h hW (lv_sub hl [2, 1, 0] rfl)
abbrev rm_X2_number : Room := { frames := 0, cells := 0, slots := 0, locals := 0 }
set_option maxHeartbeats 4000000 in
set_option maxRecDepth 100000 in
theorem c_X2_number (l : Launch) (X : KX) (σ : Mm) (b0 : Nat) (hb0 : kFr b0) (x1 : Int32) (Φ : Int64 → Prop) (h : wp_X2_number σ b0 x1 Φ) : Met l yX2_number (.code yX2_number cX2_number 2 (some .long) :: kT) rm_X2_number (va_Pc [.ref (X.2.1 b0), .int x1] (kPre kZC X σ)) (va_Ql (fun r σ' => Φ r ∧ σ = σ') (fun σ' t => kPre kZC X σ' t) (kA kZC X)) 0 0 (kA kZC X) := by
  refine kofL (by decide) (Nat.le_of_ble_eq_true rfl) ?_
  intro p e s m args below meth c ls Q hx hcb hml hown hts hS hW hl hret
  have hown : s.vm.findClass RX2 = some m.cls := hown
  have hl : lv_has ls 2 [(0, .ref (X.2.1 b0)), (1, .int x1)] := hl
  unfold wp_X2_number at h
  refine lv_iload_n (pc := 0) hx hcb dX2_number_0 rfl (lv_at hl 1 rfl) ?_
  refine lv_if_lt (tgt := 26) (pc := 1) hx hcb dX2_number_1 (by decide) (fun c1 => ?_) (fun c1 => ?_)
  · have h := h.1 c1
    refine lv_lconst (v := 0) (pc := 26) hx hcb dX2_number_26 rfl ?_
    exact hret _ _ _ _ _ _ ⟨h, rfl⟩ hW dX2_number_27
  · have h := h.2 c1
    refine lv_iload_n (pc := 4) hx hcb dX2_number_4 rfl (lv_at hl 1 rfl) ?_
    refine lv_aload_n (pc := 5) hx hcb dX2_number_5 rfl (lv_at hl 0 rfl) ?_
    refine kget (v := .int (σ.1 b0 2)) (pc := 6) hx hcb hts hown hS hW iwX2 (kO_X2 hb0) rfl 2 (by decide) q221 rfl rfl dX2_number_6 ?_
    refine lv_icmp_ge (tgt := 26) (pc := 9) hx hcb dX2_number_9 (by decide) (fun c9 => ?_) (fun c9 => ?_)
    · have h := h.1 c9
      refine lv_lconst (v := 0) (pc := 26) hx hcb dX2_number_26 rfl ?_
      exact hret _ _ _ _ _ _ ⟨h, rfl⟩ hW dX2_number_27
    · have h := h.2 c9
      refine lv_aload_n (pc := 12) hx hcb dX2_number_12 rfl (lv_at hl 0 rfl) ?_
      refine kget (v := .ref (X.2.1 (b0 + 2))) (pc := 13) hx hcb hts hown hS hW iwX2 (kO_X2 hb0) rfl 1 (by decide) q220 rfl rfl dX2_number_13 ?_
      refine lv_aload_n (pc := 16) hx hcb dX2_number_16 rfl (lv_at hl 0 rfl) ?_
      refine kget (v := .ref (X.2.1 (b0 + 1))) (pc := 17) hx hcb hts hown hS hW iwX2 (kO_X2 hb0) rfl 0 (by decide) q219 rfl rfl dX2_number_17 ?_
      refine lv_iload_n (pc := 20) hx hcb dX2_number_20 rfl (lv_at hl 1 rfl) ?_
      have hin1 := h.1
      have h := h.2
      refine kiald (x1.toNatClampNeg) (pc := 21) hx hcb hS hW (kA_X2_0 hb0) rfl (kin_of hin1 (by decide)) dX2_number_21 ?_
      have hin2 := h.1
      have h := h.2
      refine klald ((σ.1 (b0 + 1) (x1.toNatClampNeg)).toNatClampNeg) (pc := 22) hx hcb hS hW (kA_X2_1 hb0) rfl (kin_of hin2 (by decide)) dX2_number_22 ?_
      refine lv_goto (tgt := 27) (pc := 23) hx hcb dX2_number_23 (by decide) ?_
      exact hret _ _ _ _ _ _ ⟨h, rfl⟩ hW dX2_number_27
abbrev rm_X2_put : Room := { frames := 1, cells := 0, slots := 0, locals := 23 }
set_option maxHeartbeats 4000000 in
set_option maxRecDepth 100000 in
theorem c_X2_put (l : Launch) (X : KX) (σ : Mm) (b0 : Nat) (hb0 : kFr b0) (x1 : Int32) (x2 : Int64) (x4 : Int32) (Φ : Mm → Prop) (h : wp_X2_put σ b0 x1 x2 x4 Φ) : Met l yX2_put (.code yX2_put cX2_put 5 none :: kT) rm_X2_put (va_Pc [.ref (X.2.1 b0), .int x1, .long x2, .int x4] (kPre kZC X σ)) (va_Qv (fun σ' => Φ σ') (fun σ' t => kPre kZC X σ' t) (kA kZC X)) 0 0 (kA kZC X) := by
  refine kofV (by decide) (Nat.le_of_ble_eq_true rfl) ?_
  intro p e s m args below meth c ls Q hx hcb hml hown hts hS hW hl hret
  have hown : s.vm.findClass RX2 = some m.cls := hown
  have hl : lv_has ls 5 [(0, .ref (X.2.1 b0)), (1, .int x1), (2, .long x2), (4, .int x4)] := hl
  unfold wp_X2_put at h
  refine lv_iload_n (pc := 0) hx hcb dX2_put_0 rfl (lv_at hl 1 rfl) ?_
  refine lv_if_lt (tgt := 11) (pc := 1) hx hcb dX2_put_1 (by decide) (fun c1 => ?_) (fun c1 => ?_)
  · have h := h.1 c1
    exact hret _ _ _ _ _ h hW dX2_put_11
  · have h := h.2 c1
    refine lv_iload_n (pc := 4) hx hcb dX2_put_4 rfl (lv_at hl 1 rfl) ?_
    refine lv_sipush (v := 960) (pc := 5) hx hcb dX2_put_5 rfl ?_
    refine lv_icmp_lt (tgt := 12) (pc := 8) hx hcb dX2_put_8 (by decide) (fun c8 => ?_) (fun c8 => ?_)
    · have h := h.1 c8
      refine lv_aload_n (pc := 12) hx hcb dX2_put_12 rfl (lv_at hl 0 rfl) ?_
      refine kget (v := .ref (X.2.1 (b0 + 2))) (pc := 13) hx hcb hts hown hS hW iwX2 (kO_X2 hb0) rfl 1 (by decide) q220 rfl rfl dX2_put_13 ?_
      refine lv_iload_n (pc := 16) hx hcb dX2_put_16 rfl (lv_at hl 1 rfl) ?_
      have hin1 := h.1
      have h := h.2
      refine klald (x1.toNatClampNeg) (pc := 17) hx hcb hS hW (kA_X2_1 hb0) rfl (kin_of hin1 (by decide)) dX2_put_17 ?_
      refine kldc2 (v := (-1)) (pc := 18) hx hcb hown hts q215 dX2_put_18 ?_
      refine W.lcmp (pc := 21) hx hcb dX2_put_21 ?_
      refine lv_if_eq (tgt := 60) (pc := 22) hx hcb dX2_put_22 (by decide) (fun c22 => ?_) (fun c22 => ?_)
      · have h := h.1 c22
        refine lv_aload_n (pc := 60) hx hcb dX2_put_60 rfl (lv_at hl 0 rfl) ?_
        refine kget (v := .int (σ.1 b0 2)) (pc := 61) hx hcb hts hown hS hW iwX2 (kO_X2 hb0) rfl 2 (by decide) q221 rfl rfl dX2_put_61 ?_
        refine lv_sipush (v := 960) (pc := 64) hx hcb dX2_put_64 rfl ?_
        refine lv_icmp_ge (tgt := 97) (pc := 67) hx hcb dX2_put_67 (by decide) (fun c67 => ?_) (fun c67 => ?_)
        · have h := h.1 c67
          exact hret _ _ _ _ _ h hW dX2_put_97
        · have h := h.2 c67
          refine lv_aload_n (pc := 70) hx hcb dX2_put_70 rfl (lv_at hl 0 rfl) ?_
          refine kget (v := .ref (X.2.1 (b0 + 1))) (pc := 71) hx hcb hts hown hS hW iwX2 (kO_X2 hb0) rfl 0 (by decide) q219 rfl rfl dX2_put_71 ?_
          refine lv_aload_n (pc := 74) hx hcb dX2_put_74 rfl (lv_at hl 0 rfl) ?_
          refine kget (v := .int (σ.1 b0 2)) (pc := 75) hx hcb hts hown hS hW iwX2 (kO_X2 hb0) rfl 2 (by decide) q221 rfl rfl dX2_put_75 ?_
          refine lv_iload_n (pc := 78) hx hcb dX2_put_78 rfl (lv_at hl 1 rfl) ?_
          have hin2 := h.1
          have h := h.2
          refine kiast ((σ.1 b0 2).toNatClampNeg) (pc := 79) hx hcb hS hW (kA_X2_0 hb0) rfl (kin_of hin2 (by decide)) dX2_put_79 (fun σ3 H locs eσ3 hW => ?_)
          have h := h σ3 eσ3
          refine lv_aload_n (pc := 80) hx hcb dX2_put_80 rfl (lv_at hl 0 rfl) ?_
          refine kget (v := .ref (X.2.1 (b0 + 2))) (pc := 81) hx hcb hts hown hS hW iwX2 (kO_X2 hb0) rfl 1 (by decide) q220 rfl rfl dX2_put_81 ?_
          refine lv_iload_n (pc := 84) hx hcb dX2_put_84 rfl (lv_at hl 1 rfl) ?_
          refine lv_lload_n (pc := 85) hx hcb dX2_put_85 rfl (lv_at hl 2 rfl) ?_
          have hin4 := h.1
          have h := h.2
          refine klast (x1.toNatClampNeg) (pc := 86) hx hcb hS hW (kA_X2_1 hb0) rfl (kin_of hin4 (by decide)) dX2_put_86 (fun σ5 H locs eσ5 hW => ?_)
          have h := h σ5 eσ5
          refine lv_aload_n (pc := 87) hx hcb dX2_put_87 rfl (lv_at hl 0 rfl) ?_
          refine lv_dup (pc := 88) hx hcb dX2_put_88 rfl ?_
          refine kget (v := .int (σ5.1 b0 2)) (pc := 89) hx hcb hts hown hS hW iwX2 (kO_X2 hb0) rfl 2 (by decide) q221 rfl rfl dX2_put_89 ?_
          refine lv_iconst (v := 1) (pc := 92) hx hcb dX2_put_92 rfl ?_
          refine lv_iadd (pc := 93) hx hcb dX2_put_93 ?_
          refine kput (ty := .int) (pc := 94) hx hcb hts hown hS hW iwX2 tyX2 tyX2_ok nmX2 (kO_X2 hb0) rfl 2 (by decide) q221 rfl rfl rfl rfl rfl (Nat.le_of_ble_eq_true rfl) rfl dX2_put_94 (fun σ6 H locs eσ6 hW => ?_)
          have h := h σ6 eσ6
          exact hret _ _ _ _ _ h hW dX2_put_97
      · have h := h.2 c22
        refine lv_aload_n (pc := 25) hx hcb dX2_put_25 rfl (lv_at hl 0 rfl) ?_
        refine kget (v := .ref (X.2.1 (b0 + 2))) (pc := 26) hx hcb hts hown hS hW iwX2 (kO_X2 hb0) rfl 1 (by decide) q220 rfl rfl dX2_put_26 ?_
        refine lv_iload_n (pc := 29) hx hcb dX2_put_29 rfl (lv_at hl 1 rfl) ?_
        refine lv_iload (pc := 30) hx hcb dX2_put_30 (lv_at hl 3 rfl) ?_
        obtain ⟨K56, hk56, h⟩ := h
        have hK56 : ∀ (v7 : Int64) (H : Heap) (locs : List Loc) (ls : Array Slot), K56 v7 → kW kZC X (kA kZC X) s σ H locs → lv_has ls 5 [] → W p l e rm_X2_put s m args below meth c H locs 0 0 Q (F0 m 56 ls [.long v7, .int x1, .ref (X.2.1 (b0 + 2))]) := by
          intro v7 H locs ls h hW hl
          have h := hk56 v7 h
          have hin8 := h.1
          have h := h.2
          refine klast (x1.toNatClampNeg) (pc := 56) hx hcb hS hW (kA_X2_1 hb0) rfl (kin_of hin8 (by decide)) dX2_put_56 (fun σ9 H locs eσ9 hW => ?_)
          have h := h σ9 eσ9
          refine lv_goto (tgt := 97) (pc := 57) hx hcb dX2_put_57 (by decide) ?_
          exact hret _ _ _ _ _ h hW dX2_put_97
        refine lv_if_eq (tgt := 48) (pc := 32) hx hcb dX2_put_32 (by decide) (fun c32 => ?_) (fun c32 => ?_)
        · have h := h.1 c32
          refine lv_aload_n (pc := 48) hx hcb dX2_put_48 rfl (lv_at hl 0 rfl) ?_
          refine kget (v := .ref (X.2.1 (b0 + 2))) (pc := 49) hx hcb hts hown hS hW iwX2 (kO_X2 hb0) rfl 1 (by decide) q220 rfl rfl dX2_put_49 ?_
          refine lv_iload_n (pc := 52) hx hcb dX2_put_52 rfl (lv_at hl 1 rfl) ?_
          have hin10 := h.1
          have h := h.2
          refine klald (x1.toNatClampNeg) (pc := 53) hx hcb hS hW (kA_X2_1 hb0) rfl (kin_of hin10 (by decide)) dX2_put_53 ?_
          refine lv_lload_n (pc := 54) hx hcb dX2_put_54 rfl (lv_at hl 2 rfl) ?_
          refine lv_ladd (pc := 55) hx hcb dX2_put_55 ?_
          exact hK56 ((σ.2.1 (b0 + 2) (x1.toNatClampNeg)) + x2) _ _ _ h hW (lv_sub hl [] rfl)
        · have h := h.2 c32
          refine lv_aload_n (pc := 35) hx hcb dX2_put_35 rfl (lv_at hl 0 rfl) ?_
          refine kget (v := .ref (X.2.1 (b0 + 2))) (pc := 36) hx hcb hts hown hS hW iwX2 (kO_X2 hb0) rfl 1 (by decide) q220 rfl rfl dX2_put_36 ?_
          refine lv_iload_n (pc := 39) hx hcb dX2_put_39 rfl (lv_at hl 1 rfl) ?_
          have hin11 := h.1
          have h := h.2
          refine klald (x1.toNatClampNeg) (pc := 40) hx hcb hS hW (kA_X2_1 hb0) rfl (kin_of hin11 (by decide)) dX2_put_40 ?_
          refine lv_lload_n (pc := 41) hx hcb dX2_put_41 rfl (lv_at hl 2 rfl) ?_
          refine va_mmin_long (pc := 42) hx hcb (hml.trans hl.1.symm) hown (hts _ q612) (hts _ q613) (hts _ q68) (hts _ q614) (Nat.le_of_ble_eq_true rfl) (Nat.le_of_ble_eq_true rfl) (Nat.zero_le _) (Nat.zero_le _) dX2_put_42 ?_
          refine lv_goto (tgt := 56) (pc := 45) hx hcb dX2_put_45 (by decide) ?_
          exact hK56 (if x2 < σ.2.1 (b0 + 2) (x1.toNatClampNeg) then x2 else σ.2.1 (b0 + 2) (x1.toNatClampNeg)) _ _ _ h hW (lv_sub hl [] rfl)
    · have h := h.2 c8
      exact hret _ _ _ _ _ h hW dX2_put_11
abbrev rm_X2_size : Room := { frames := 0, cells := 0, slots := 0, locals := 0 }
set_option maxHeartbeats 4000000 in
set_option maxRecDepth 100000 in
theorem c_X2_size (l : Launch) (X : KX) (σ : Mm) (b0 : Nat) (hb0 : kFr b0) (Φ : Int32 → Prop) (h : wp_X2_size σ b0 Φ) : Met l yX2_size (.code yX2_size cX2_size 1 (some .int) :: kT) rm_X2_size (va_Pc [.ref (X.2.1 b0)] (kPre kZC X σ)) (va_Qi (fun r σ' => Φ r ∧ σ = σ') (fun σ' t => kPre kZC X σ' t) (kA kZC X)) 0 0 (kA kZC X) := by
  refine kofI (by decide) (Nat.le_of_ble_eq_true rfl) ?_
  intro p e s m args below meth c ls Q hx hcb hml hown hts hS hW hl hret
  have hown : s.vm.findClass RX2 = some m.cls := hown
  have hl : lv_has ls 1 [(0, .ref (X.2.1 b0))] := hl
  unfold wp_X2_size at h
  refine lv_aload_n (pc := 0) hx hcb dX2_size_0 rfl (lv_at hl 0 rfl) ?_
  refine kget (v := .int (σ.1 b0 2)) (pc := 1) hx hcb hts hown hS hW iwX2 (kO_X2 hb0) rfl 2 (by decide) q221 rfl rfl dX2_size_1 ?_
  exact hret _ _ _ _ _ _ rfl ⟨h, rfl⟩ hW dX2_size_4
abbrev rm_X2_state : Room := { frames := 0, cells := 0, slots := 0, locals := 0 }
set_option maxHeartbeats 4000000 in
set_option maxRecDepth 100000 in
theorem c_X2_state (l : Launch) (X : KX) (σ : Mm) (b0 : Nat) (hb0 : kFr b0) (x1 : Int32) (Φ : Int32 → Prop) (h : wp_X2_state σ b0 x1 Φ) : Met l yX2_state (.code yX2_state cX2_state 2 (some .int) :: kT) rm_X2_state (va_Pc [.ref (X.2.1 b0), .int x1] (kPre kZC X σ)) (va_Qi (fun r σ' => Φ r ∧ σ = σ') (fun σ' t => kPre kZC X σ' t) (kA kZC X)) 0 0 (kA kZC X) := by
  refine kofI (by decide) (Nat.le_of_ble_eq_true rfl) ?_
  intro p e s m args below meth c ls Q hx hcb hml hown hts hS hW hl hret
  have hown : s.vm.findClass RX2 = some m.cls := hown
  have hl : lv_has ls 2 [(0, .ref (X.2.1 b0)), (1, .int x1)] := hl
  unfold wp_X2_state at h
  refine lv_iload_n (pc := 0) hx hcb dX2_state_0 rfl (lv_at hl 1 rfl) ?_
  refine lv_if_lt (tgt := 21) (pc := 1) hx hcb dX2_state_1 (by decide) (fun c1 => ?_) (fun c1 => ?_)
  · have h := h.1 c1
    refine lv_iconst (v := 0) (pc := 21) hx hcb dX2_state_21 rfl ?_
    exact hret _ _ _ _ _ _ rfl ⟨h, rfl⟩ hW dX2_state_22
  · have h := h.2 c1
    refine lv_iload_n (pc := 4) hx hcb dX2_state_4 rfl (lv_at hl 1 rfl) ?_
    refine lv_aload_n (pc := 5) hx hcb dX2_state_5 rfl (lv_at hl 0 rfl) ?_
    refine kget (v := .int (σ.1 b0 2)) (pc := 6) hx hcb hts hown hS hW iwX2 (kO_X2 hb0) rfl 2 (by decide) q221 rfl rfl dX2_state_6 ?_
    refine lv_icmp_ge (tgt := 21) (pc := 9) hx hcb dX2_state_9 (by decide) (fun c9 => ?_) (fun c9 => ?_)
    · have h := h.1 c9
      refine lv_iconst (v := 0) (pc := 21) hx hcb dX2_state_21 rfl ?_
      exact hret _ _ _ _ _ _ rfl ⟨h, rfl⟩ hW dX2_state_22
    · have h := h.2 c9
      refine lv_aload_n (pc := 12) hx hcb dX2_state_12 rfl (lv_at hl 0 rfl) ?_
      refine kget (v := .ref (X.2.1 (b0 + 1))) (pc := 13) hx hcb hts hown hS hW iwX2 (kO_X2 hb0) rfl 0 (by decide) q219 rfl rfl dX2_state_13 ?_
      refine lv_iload_n (pc := 16) hx hcb dX2_state_16 rfl (lv_at hl 1 rfl) ?_
      have hin1 := h.1
      have h := h.2
      refine kiald (x1.toNatClampNeg) (pc := 17) hx hcb hS hW (kA_X2_0 hb0) rfl (kin_of hin1 (by decide)) dX2_state_17 ?_
      refine lv_goto (tgt := 22) (pc := 18) hx hcb dX2_state_18 (by decide) ?_
      exact hret _ _ _ _ _ _ rfl ⟨h, rfl⟩ hW dX2_state_22
abbrev rm_X2_sum : Room := { frames := 0, cells := 0, slots := 0, locals := 0 }
set_option maxHeartbeats 4000000 in
set_option maxRecDepth 100000 in
theorem c_X2_sum (l : Launch) (X : KX) (σ : Mm) (b0 : Nat) (hb0 : kFr b0) (Φ : Int64 → Prop) (h : wp_X2_sum σ b0 Φ) : Met l yX2_sum (.code yX2_sum cX2_sum 4 (some .long) :: kT) rm_X2_sum (va_Pc [.ref (X.2.1 b0)] (kPre kZC X σ)) (va_Ql (fun r σ' => Φ r ∧ σ = σ') (fun σ' t => kPre kZC X σ' t) (kA kZC X)) 0 0 (kA kZC X) := by
  refine kofL (by decide) (Nat.le_of_ble_eq_true rfl) ?_
  intro p e s m args below meth c ls Q hx hcb hml hown hts hS hW hl hret
  have hown : s.vm.findClass RX2 = some m.cls := hown
  have hl : lv_has ls 4 [(0, .ref (X.2.1 b0))] := hl
  unfold wp_X2_sum at h
  refine lv_lconst (v := 0) (pc := 0) hx hcb dX2_sum_0 rfl ?_
  refine lv_lstore_n (lv' := [(1, .long 0), (0, .ref (X.2.1 b0))]) (pc := 1) hx hcb dX2_sum_1 rfl hl (by decide) rfl (fun ls hl => ?_)
  refine lv_iconst (v := 0) (pc := 2) hx hcb dX2_sum_2 rfl ?_
  refine lv_istore_n (lv' := [(3, .int 0), (1, .long 0), (0, .ref (X.2.1 b0))]) (pc := 3) hx hcb dX2_sum_3 rfl hl (by decide) rfl (fun ls hl => ?_)
  have hL4 : ∀ (n : Nat) (x1_1 : Int64) (x3_2 : Int32) (H : Heap) (locs : List Loc) (ls : Array Slot), wp_X2_sum_L4 b0 σ Φ n x1_1 x3_2 → kW kZC X (kA kZC X) s σ H locs → lv_has ls 4 [(0, .ref (X.2.1 b0)), (1, .long x1_1), (3, .int x3_2)] → W p l e rm_X2_sum s m args below meth c H locs 0 0 Q (F0 m 4 ls []) := by
    intro n
    induction n with
    | zero =>
      intro x1_1 x3_2 H locs ls h
      exact False.elim h
    | succ n ih =>
      intro x1_1 x3_2 H locs ls h hW hl
      unfold wp_X2_sum_L4 at h
      refine lv_iload_n (pc := 4) hx hcb dX2_sum_4 rfl (lv_at hl 2 rfl) ?_
      refine lv_aload_n (pc := 5) hx hcb dX2_sum_5 rfl (lv_at hl 0 rfl) ?_
      refine kget (v := .int (σ.1 b0 2)) (pc := 6) hx hcb hts hown hS hW iwX2 (kO_X2 hb0) rfl 2 (by decide) q221 rfl rfl dX2_sum_6 ?_
      refine lv_icmp_ge (tgt := 32) (pc := 9) hx hcb dX2_sum_9 (by decide) (fun c9 => ?_) (fun c9 => ?_)
      · have h := h.1 c9
        refine lv_lload_n (pc := 32) hx hcb dX2_sum_32 rfl (lv_at hl 1 rfl) ?_
        exact hret _ _ _ _ _ _ ⟨h, rfl⟩ hW dX2_sum_33
      · have h := h.2 c9
        refine lv_lload_n (pc := 12) hx hcb dX2_sum_12 rfl (lv_at hl 1 rfl) ?_
        refine lv_aload_n (pc := 13) hx hcb dX2_sum_13 rfl (lv_at hl 0 rfl) ?_
        refine kget (v := .ref (X.2.1 (b0 + 2))) (pc := 14) hx hcb hts hown hS hW iwX2 (kO_X2 hb0) rfl 1 (by decide) q220 rfl rfl dX2_sum_14 ?_
        refine lv_aload_n (pc := 17) hx hcb dX2_sum_17 rfl (lv_at hl 0 rfl) ?_
        refine kget (v := .ref (X.2.1 (b0 + 1))) (pc := 18) hx hcb hts hown hS hW iwX2 (kO_X2 hb0) rfl 0 (by decide) q219 rfl rfl dX2_sum_18 ?_
        refine lv_iload_n (pc := 21) hx hcb dX2_sum_21 rfl (lv_at hl 2 rfl) ?_
        have hin3 := h.1
        have h := h.2
        refine kiald (x3_2.toNatClampNeg) (pc := 22) hx hcb hS hW (kA_X2_0 hb0) rfl (kin_of hin3 (by decide)) dX2_sum_22 ?_
        have hin4 := h.1
        have h := h.2
        refine klald ((σ.1 (b0 + 1) (x3_2.toNatClampNeg)).toNatClampNeg) (pc := 23) hx hcb hS hW (kA_X2_1 hb0) rfl (kin_of hin4 (by decide)) dX2_sum_23 ?_
        refine lv_ladd (pc := 24) hx hcb dX2_sum_24 ?_
        refine lv_topl (fun x1_5 ex1_5 => ?_)
        have h := h x1_5 ex1_5
        refine lv_lstore_n (lv' := [(1, .long x1_5), (0, .ref (X.2.1 b0)), (3, .int x3_2)]) (pc := 25) hx hcb dX2_sum_25 rfl hl (by decide) rfl (fun ls hl => ?_)
        refine lv_iinc (v := x3_2 + 1) (lv' := [(3, .int (x3_2 + 1)), (1, .long x1_5), (0, .ref (X.2.1 b0))]) (pc := 26) hx hcb dX2_sum_26 hl (k := 2) rfl rfl (by decide) rfl (fun ls hl => ?_)
        refine lv_goto (tgt := 4) (pc := 29) hx hcb dX2_sum_29 (by decide) ?_
        exact ih x1_5 (x3_2 + 1) _ _ _ h hW (lv_sub hl [2, 1, 0] rfl)
  obtain ⟨n, h⟩ := h
  exact hL4 n 0 0 _ _ _ h hW (lv_sub hl [2, 1, 0] rfl)
abbrev rm_X3_begin : Room := { frames := 2, cells := 0, slots := 0, locals := 42 }
set_option maxHeartbeats 4000000 in
set_option maxRecDepth 100000 in
theorem c_X3_begin (l : Launch) (X : KX) (σ : Mm) (b1 : Nat) (hb1 : kFm b1) (Φ : Mm → Prop) (h : wp_X3_begin σ b1 Φ) : Met l yX3_begin (.code yX3_begin cX3_begin 2 none :: kT) rm_X3_begin (va_Pc [.ref (X.2.1 16), .ref (X.2.1 b1)] (kPre kZC X σ)) (va_Qv (fun σ' => Φ σ') (fun σ' t => kPre kZC X σ' t) (kA kZC X)) 0 0 (kA kZC X) := by
  refine kofV (by decide) (Nat.le_of_ble_eq_true rfl) ?_
  intro p e s m args below meth c ls Q hx hcb hml hown hts hS hW hl hret
  have hown : s.vm.findClass RX3 = some m.cls := hown
  have hl : lv_has ls 2 [(0, .ref (X.2.1 16)), (1, .ref (X.2.1 b1))] := hl
  unfold wp_X3_begin at h
  refine lv_aload_n (pc := 0) hx hcb dX3_begin_0 rfl (lv_at hl 0 rfl) ?_
  refine lv_iconst (v := 0) (pc := 1) hx hcb dX3_begin_1 rfl ?_
  refine kput (ty := .int) (pc := 2) hx hcb hts hown hS hW iwX3 tyX3 tyX3_ok nmX3 kOC_16 rfl 0 (by decide) q148 rfl rfl rfl rfl rfl (Nat.le_of_ble_eq_true rfl) rfl dX3_begin_2 (fun σ1 H locs eσ1 hW => ?_)
  have h := h σ1 eσ1
  refine lv_aload_n (pc := 5) hx hcb dX3_begin_5 rfl (lv_at hl 0 rfl) ?_
  refine lv_aload_n (pc := 6) hx hcb dX3_begin_6 rfl (lv_at hl 1 rfl) ?_
  refine kci (krunV (As := []) (rest := [.ref (X.2.1 16)]) (pc := 7) hx hcb hml hown hts hS hW (c_X1_firstState l X σ1 b1 hb1 _ h) mf_X1_firstState q414 (kO_X1 hb1) rfl ⟨rfl, rfl⟩ ⟨Nat.le_of_ble_eq_true rfl, Nat.le_of_ble_eq_true rfl⟩ rfl hl.1 rfl (Nat.le_of_ble_eq_true rfl) dX3_begin_7 ⟨Nat.zero_le _, Nat.zero_le _⟩) hS hW (fun r3 σ2 H locs h hW => ?_)
  obtain ⟨h, rfl⟩ := h
  refine kput (ty := .int) (pc := 10) hx hcb hts hown hS hW iwX3 tyX3 tyX3_ok nmX3 kOC_16 rfl 1 (by decide) q153 rfl rfl rfl rfl rfl (Nat.le_of_ble_eq_true rfl) rfl dX3_begin_10 (fun σ4 H locs eσ4 hW => ?_)
  have h := h σ4 eσ4
  refine lv_aload_n (pc := 13) hx hcb dX3_begin_13 rfl (lv_at hl 0 rfl) ?_
  refine lv_iconst (v := 0) (pc := 14) hx hcb dX3_begin_14 rfl ?_
  refine kput (ty := .int) (pc := 15) hx hcb hts hown hS hW iwX3 tyX3 tyX3_ok nmX3 kOC_16 rfl 2 (by decide) q158 rfl rfl rfl rfl rfl (Nat.le_of_ble_eq_true rfl) rfl dX3_begin_15 (fun σ5 H locs eσ5 hW => ?_)
  have h := h σ5 eσ5
  exact hret _ _ _ _ _ h hW dX3_begin_18
abbrev rm_X4_clear : Room := { frames := 0, cells := 0, slots := 0, locals := 0 }
set_option maxHeartbeats 4000000 in
set_option maxRecDepth 100000 in
theorem c_X4_clear (l : Launch) (X : KX) (σ : Mm) (b0 : Nat) (hb0 : kMs b0) (Φ : Mm → Prop) (h : wp_X4_clear σ b0 Φ) : Met l yX4_clear (.code yX4_clear cX4_clear 1 none :: kT) rm_X4_clear (va_Pc [.ref (X.2.1 b0)] (kPre kZC X σ)) (va_Qv (fun σ' => Φ σ') (fun σ' t => kPre kZC X σ' t) (kA kZC X)) 0 0 (kA kZC X) := by
  refine kofV (by decide) (Nat.le_of_ble_eq_true rfl) ?_
  intro p e s m args below meth c ls Q hx hcb hml hown hts hS hW hl hret
  have hown : s.vm.findClass RX4 = some m.cls := hown
  have hl : lv_has ls 1 [(0, .ref (X.2.1 b0))] := hl
  unfold wp_X4_clear at h
  refine lv_aload_n (pc := 0) hx hcb dX4_clear_0 rfl (lv_at hl 0 rfl) ?_
  refine lv_iconst (v := 0) (pc := 1) hx hcb dX4_clear_1 rfl ?_
  refine kput (ty := .int) (pc := 2) hx hcb hts hown hS hW iwX4 tyX4 tyX4_ok nmX4 (kO_X4 hb0) rfl 3 (by decide) q177 rfl rfl rfl rfl rfl (Nat.le_of_ble_eq_true rfl) rfl dX4_clear_2 (fun σ1 H locs eσ1 hW => ?_)
  have h := h σ1 eσ1
  exact hret _ _ _ _ _ h hW dX4_clear_5
abbrev rm_X4_dropLowest : Room := { frames := 0, cells := 0, slots := 0, locals := 0 }
set_option maxHeartbeats 4000000 in
set_option maxRecDepth 100000 in
theorem c_X4_dropLowest (l : Launch) (X : KX) (σ : Mm) (b0 : Nat) (hb0 : kMs b0) (Φ : Mm → Prop) (h : wp_X4_dropLowest σ b0 Φ) : Met l yX4_dropLowest (.code yX4_dropLowest cX4_dropLowest 2 none :: kT) rm_X4_dropLowest (va_Pc [.ref (X.2.1 b0)] (kPre kZC X σ)) (va_Qv (fun σ' => Φ σ') (fun σ' t => kPre kZC X σ' t) (kA kZC X)) 0 0 (kA kZC X) := by
  refine kofV (by decide) (Nat.le_of_ble_eq_true rfl) ?_
  intro p e s m args below meth c ls Q hx hcb hml hown hts hS hW hl hret
  have hown : s.vm.findClass RX4 = some m.cls := hown
  have hl : lv_has ls 2 [(0, .ref (X.2.1 b0))] := hl
  unfold wp_X4_dropLowest at h
  refine lv_iconst (v := 1) (pc := 0) hx hcb dX4_dropLowest_0 rfl ?_
  refine lv_istore_n (lv' := [(1, .int 1), (0, .ref (X.2.1 b0))]) (pc := 1) hx hcb dX4_dropLowest_1 rfl hl (by decide) rfl (fun ls hl => ?_)
  obtain ⟨K56, hk56, h⟩ := h
  have hK56 : ∀ (σ1 : Mm) (H : Heap) (locs : List Loc) (ls : Array Slot), K56 σ1 → kW kZC X (kA kZC X) s σ1 H locs → lv_has ls 2 [(0, .ref (X.2.1 b0))] → W p l e rm_X4_dropLowest s m args below meth c H locs 0 0 Q (F0 m 56 ls []) := by
    intro σ1 H locs ls h hW hl
    have h := hk56 σ1 h
    refine lv_aload_n (pc := 56) hx hcb dX4_dropLowest_56 rfl (lv_at hl 0 rfl) ?_
    refine lv_bipush (v := 7) (pc := 57) hx hcb dX4_dropLowest_57 rfl ?_
    refine kput (ty := .int) (pc := 59) hx hcb hts hown hS hW iwX4 tyX4 tyX4_ok nmX4 (kO_X4 hb0) rfl 3 (by decide) q177 rfl rfl rfl rfl rfl (Nat.le_of_ble_eq_true rfl) rfl dX4_dropLowest_59 (fun σ2 H locs eσ2 hW => ?_)
    have h := h σ2 eσ2
    exact hret _ _ _ _ _ h hW dX4_dropLowest_62
  have hL2 : ∀ (n : Nat) (σ3 : Mm) (x1_4 : Int32) (H : Heap) (locs : List Loc) (ls : Array Slot), wp_X4_dropLowest_L2 b0 K56 n σ3 x1_4 → kW kZC X (kA kZC X) s σ3 H locs → lv_has ls 2 [(0, .ref (X.2.1 b0)), (1, .int x1_4)] → W p l e rm_X4_dropLowest s m args below meth c H locs 0 0 Q (F0 m 2 ls []) := by
    intro n
    induction n with
    | zero =>
      intro σ3 x1_4 H locs ls h
      exact False.elim h
    | succ n ih =>
      intro σ3 x1_4 H locs ls h hW hl
      unfold wp_X4_dropLowest_L2 at h
      refine lv_iload_n (pc := 2) hx hcb dX4_dropLowest_2 rfl (lv_at hl 1 rfl) ?_
      refine lv_bipush (v := 8) (pc := 3) hx hcb dX4_dropLowest_3 rfl ?_
      refine lv_icmp_ge (tgt := 56) (pc := 5) hx hcb dX4_dropLowest_5 (by decide) (fun c5 => ?_) (fun c5 => ?_)
      · have h := h.1 c5
        exact hK56 σ3 _ _ _ h hW (lv_sub hl [0] rfl)
      · have h := h.2 c5
        refine lv_aload_n (pc := 8) hx hcb dX4_dropLowest_8 rfl (lv_at hl 0 rfl) ?_
        refine kget (v := .ref (X.2.1 (b0 + 1))) (pc := 9) hx hcb hts hown hS hW iwX4 (kO_X4 hb0) rfl 0 (by decide) q174 rfl rfl dX4_dropLowest_9 ?_
        refine lv_iload_n (pc := 12) hx hcb dX4_dropLowest_12 rfl (lv_at hl 1 rfl) ?_
        refine lv_iconst (v := 1) (pc := 13) hx hcb dX4_dropLowest_13 rfl ?_
        refine lv_isub (pc := 14) hx hcb dX4_dropLowest_14 ?_
        refine lv_aload_n (pc := 15) hx hcb dX4_dropLowest_15 rfl (lv_at hl 0 rfl) ?_
        refine kget (v := .ref (X.2.1 (b0 + 1))) (pc := 16) hx hcb hts hown hS hW iwX4 (kO_X4 hb0) rfl 0 (by decide) q174 rfl rfl dX4_dropLowest_16 ?_
        refine lv_iload_n (pc := 19) hx hcb dX4_dropLowest_19 rfl (lv_at hl 1 rfl) ?_
        have hin5 := h.1
        have h := h.2
        refine kiald (x1_4.toNatClampNeg) (pc := 20) hx hcb hS hW (kA_X4_0 hb0) rfl (kin_of hin5 (by decide)) dX4_dropLowest_20 ?_
        have hin6 := h.1
        have h := h.2
        refine kiast ((x1_4 - 1).toNatClampNeg) (pc := 21) hx hcb hS hW (kA_X4_0 hb0) rfl (kin_of hin6 (by decide)) dX4_dropLowest_21 (fun σ7 H locs eσ7 hW => ?_)
        have h := h σ7 eσ7
        refine lv_aload_n (pc := 22) hx hcb dX4_dropLowest_22 rfl (lv_at hl 0 rfl) ?_
        refine kget (v := .ref (X.2.1 (b0 + 2))) (pc := 23) hx hcb hts hown hS hW iwX4 (kO_X4 hb0) rfl 1 (by decide) q175 rfl rfl dX4_dropLowest_23 ?_
        refine lv_iload_n (pc := 26) hx hcb dX4_dropLowest_26 rfl (lv_at hl 1 rfl) ?_
        refine lv_iconst (v := 1) (pc := 27) hx hcb dX4_dropLowest_27 rfl ?_
        refine lv_isub (pc := 28) hx hcb dX4_dropLowest_28 ?_
        refine lv_aload_n (pc := 29) hx hcb dX4_dropLowest_29 rfl (lv_at hl 0 rfl) ?_
        refine kget (v := .ref (X.2.1 (b0 + 2))) (pc := 30) hx hcb hts hown hS hW iwX4 (kO_X4 hb0) rfl 1 (by decide) q175 rfl rfl dX4_dropLowest_30 ?_
        refine lv_iload_n (pc := 33) hx hcb dX4_dropLowest_33 rfl (lv_at hl 1 rfl) ?_
        have hin8 := h.1
        have h := h.2
        refine kiald (x1_4.toNatClampNeg) (pc := 34) hx hcb hS hW (kA_X4_1 hb0) rfl (kin_of hin8 (by decide)) dX4_dropLowest_34 ?_
        have hin9 := h.1
        have h := h.2
        refine kiast ((x1_4 - 1).toNatClampNeg) (pc := 35) hx hcb hS hW (kA_X4_1 hb0) rfl (kin_of hin9 (by decide)) dX4_dropLowest_35 (fun σ10 H locs eσ10 hW => ?_)
        have h := h σ10 eσ10
        refine lv_aload_n (pc := 36) hx hcb dX4_dropLowest_36 rfl (lv_at hl 0 rfl) ?_
        refine kget (v := .ref (X.2.1 (b0 + 3))) (pc := 37) hx hcb hts hown hS hW iwX4 (kO_X4 hb0) rfl 2 (by decide) q176 rfl rfl dX4_dropLowest_37 ?_
        refine lv_iload_n (pc := 40) hx hcb dX4_dropLowest_40 rfl (lv_at hl 1 rfl) ?_
        refine lv_iconst (v := 1) (pc := 41) hx hcb dX4_dropLowest_41 rfl ?_
        refine lv_isub (pc := 42) hx hcb dX4_dropLowest_42 ?_
        refine lv_aload_n (pc := 43) hx hcb dX4_dropLowest_43 rfl (lv_at hl 0 rfl) ?_
        refine kget (v := .ref (X.2.1 (b0 + 3))) (pc := 44) hx hcb hts hown hS hW iwX4 (kO_X4 hb0) rfl 2 (by decide) q176 rfl rfl dX4_dropLowest_44 ?_
        refine lv_iload_n (pc := 47) hx hcb dX4_dropLowest_47 rfl (lv_at hl 1 rfl) ?_
        have hin11 := h.1
        have h := h.2
        refine kiald (x1_4.toNatClampNeg) (pc := 48) hx hcb hS hW (kA_X4_2 hb0) rfl (kin_of hin11 (by decide)) dX4_dropLowest_48 ?_
        have hin12 := h.1
        have h := h.2
        refine kiast ((x1_4 - 1).toNatClampNeg) (pc := 49) hx hcb hS hW (kA_X4_2 hb0) rfl (kin_of hin12 (by decide)) dX4_dropLowest_49 (fun σ13 H locs eσ13 hW => ?_)
        have h := h σ13 eσ13
        refine lv_iinc (v := x1_4 + 1) (lv' := [(1, .int (x1_4 + 1)), (0, .ref (X.2.1 b0))]) (pc := 50) hx hcb dX4_dropLowest_50 hl (k := 1) rfl rfl (by decide) rfl (fun ls hl => ?_)
        refine lv_goto (tgt := 2) (pc := 53) hx hcb dX4_dropLowest_53 (by decide) ?_
        exact ih σ13 (x1_4 + 1) _ _ _ h hW (lv_sub hl [1, 0] rfl)
  obtain ⟨n, h⟩ := h
  exact hL2 n σ 1 _ _ _ h hW (lv_sub hl [1, 0] rfl)
abbrev rm_X4_pop : Room := { frames := 0, cells := 0, slots := 0, locals := 0 }
set_option maxHeartbeats 4000000 in
set_option maxRecDepth 100000 in
theorem c_X4_pop (l : Launch) (X : KX) (σ : Mm) (b0 : Nat) (hb0 : kMs b0) (Φ : Mm → Prop) (h : wp_X4_pop σ b0 Φ) : Met l yX4_pop (.code yX4_pop cX4_pop 2 none :: kT) rm_X4_pop (va_Pc [.ref (X.2.1 b0), .ref (X.2.1 16)] (kPre kZC X σ)) (va_Qv (fun σ' => Φ σ') (fun σ' t => kPre kZC X σ' t) (kA kZC X)) 0 0 (kA kZC X) := by
  refine kofV (by decide) (Nat.le_of_ble_eq_true rfl) ?_
  intro p e s m args below meth c ls Q hx hcb hml hown hts hS hW hl hret
  have hown : s.vm.findClass RX4 = some m.cls := hown
  have hl : lv_has ls 2 [(0, .ref (X.2.1 b0)), (1, .ref (X.2.1 16))] := hl
  unfold wp_X4_pop at h
  refine lv_aload_n (pc := 0) hx hcb dX4_pop_0 rfl (lv_at hl 0 rfl) ?_
  refine kget (v := .int (σ.1 b0 3)) (pc := 1) hx hcb hts hown hS hW iwX4 (kO_X4 hb0) rfl 3 (by decide) q177 rfl rfl dX4_pop_1 ?_
  refine lv_if_le (tgt := 56) (pc := 4) hx hcb dX4_pop_4 (by decide) (fun c4 => ?_) (fun c4 => ?_)
  · have h := h.1 c4
    exact hret _ _ _ _ _ h hW dX4_pop_56
  · have h := h.2 c4
    refine lv_aload_n (pc := 7) hx hcb dX4_pop_7 rfl (lv_at hl 0 rfl) ?_
    refine lv_dup (pc := 8) hx hcb dX4_pop_8 rfl ?_
    refine kget (v := .int (σ.1 b0 3)) (pc := 9) hx hcb hts hown hS hW iwX4 (kO_X4 hb0) rfl 3 (by decide) q177 rfl rfl dX4_pop_9 ?_
    refine lv_iconst (v := 1) (pc := 12) hx hcb dX4_pop_12 rfl ?_
    refine lv_isub (pc := 13) hx hcb dX4_pop_13 ?_
    refine kput (ty := .int) (pc := 14) hx hcb hts hown hS hW iwX4 tyX4 tyX4_ok nmX4 (kO_X4 hb0) rfl 3 (by decide) q177 rfl rfl rfl rfl rfl (Nat.le_of_ble_eq_true rfl) rfl dX4_pop_14 (fun σ1 H locs eσ1 hW => ?_)
    have h := h σ1 eσ1
    refine lv_aload_n (pc := 17) hx hcb dX4_pop_17 rfl (lv_at hl 1 rfl) ?_
    refine lv_aload_n (pc := 18) hx hcb dX4_pop_18 rfl (lv_at hl 0 rfl) ?_
    refine kget (v := .ref (X.2.1 (b0 + 1))) (pc := 19) hx hcb hts hown hS hW iwX4 (kO_X4 hb0) rfl 0 (by decide) q174 rfl rfl dX4_pop_19 ?_
    refine lv_aload_n (pc := 22) hx hcb dX4_pop_22 rfl (lv_at hl 0 rfl) ?_
    refine kget (v := .int (σ1.1 b0 3)) (pc := 23) hx hcb hts hown hS hW iwX4 (kO_X4 hb0) rfl 3 (by decide) q177 rfl rfl dX4_pop_23 ?_
    have hin2 := h.1
    have h := h.2
    refine kiald ((σ1.1 b0 3).toNatClampNeg) (pc := 26) hx hcb hS hW (kA_X4_0 hb0) rfl (kin_of hin2 (by decide)) dX4_pop_26 ?_
    refine kputN (ty := .int) (pc := 27) hx hcb hts hown hS hW iwX3 tyX3 tyX3_ok nmX3 kOC_16 rfl 0 (by decide) q151 rfl rfl rfl rfl rfl (Nat.le_of_ble_eq_true rfl) rfl dX4_pop_27 (fun σ3 H locs eσ3 hW => ?_)
    have h := h σ3 eσ3
    refine lv_aload_n (pc := 30) hx hcb dX4_pop_30 rfl (lv_at hl 1 rfl) ?_
    refine lv_aload_n (pc := 31) hx hcb dX4_pop_31 rfl (lv_at hl 0 rfl) ?_
    refine kget (v := .ref (X.2.1 (b0 + 2))) (pc := 32) hx hcb hts hown hS hW iwX4 (kO_X4 hb0) rfl 1 (by decide) q175 rfl rfl dX4_pop_32 ?_
    refine lv_aload_n (pc := 35) hx hcb dX4_pop_35 rfl (lv_at hl 0 rfl) ?_
    refine kget (v := .int (σ3.1 b0 3)) (pc := 36) hx hcb hts hown hS hW iwX4 (kO_X4 hb0) rfl 3 (by decide) q177 rfl rfl dX4_pop_36 ?_
    have hin4 := h.1
    have h := h.2
    refine kiald ((σ3.1 b0 3).toNatClampNeg) (pc := 39) hx hcb hS hW (kA_X4_1 hb0) rfl (kin_of hin4 (by decide)) dX4_pop_39 ?_
    refine kputN (ty := .int) (pc := 40) hx hcb hts hown hS hW iwX3 tyX3 tyX3_ok nmX3 kOC_16 rfl 1 (by decide) q156 rfl rfl rfl rfl rfl (Nat.le_of_ble_eq_true rfl) rfl dX4_pop_40 (fun σ5 H locs eσ5 hW => ?_)
    have h := h σ5 eσ5
    refine lv_aload_n (pc := 43) hx hcb dX4_pop_43 rfl (lv_at hl 1 rfl) ?_
    refine lv_aload_n (pc := 44) hx hcb dX4_pop_44 rfl (lv_at hl 0 rfl) ?_
    refine kget (v := .ref (X.2.1 (b0 + 3))) (pc := 45) hx hcb hts hown hS hW iwX4 (kO_X4 hb0) rfl 2 (by decide) q176 rfl rfl dX4_pop_45 ?_
    refine lv_aload_n (pc := 48) hx hcb dX4_pop_48 rfl (lv_at hl 0 rfl) ?_
    refine kget (v := .int (σ5.1 b0 3)) (pc := 49) hx hcb hts hown hS hW iwX4 (kO_X4 hb0) rfl 3 (by decide) q177 rfl rfl dX4_pop_49 ?_
    have hin6 := h.1
    have h := h.2
    refine kiald ((σ5.1 b0 3).toNatClampNeg) (pc := 52) hx hcb hS hW (kA_X4_2 hb0) rfl (kin_of hin6 (by decide)) dX4_pop_52 ?_
    refine kputN (ty := .int) (pc := 53) hx hcb hts hown hS hW iwX3 tyX3 tyX3_ok nmX3 kOC_16 rfl 2 (by decide) q159 rfl rfl rfl rfl rfl (Nat.le_of_ble_eq_true rfl) rfl dX4_pop_53 (fun σ7 H locs eσ7 hW => ?_)
    have h := h σ7 eσ7
    exact hret _ _ _ _ _ h hW dX4_pop_56
abbrev rm_X4_push : Room := { frames := 1, cells := 0, slots := 0, locals := 21 }
set_option maxHeartbeats 4000000 in
set_option maxRecDepth 100000 in
theorem c_X4_push (l : Launch) (X : KX) (σ : Mm) (b0 : Nat) (hb0 : kMs b0) (Φ : Mm → Prop) (h : wp_X4_push σ b0 Φ) : Met l yX4_push (.code yX4_push cX4_push 2 none :: kT) rm_X4_push (va_Pc [.ref (X.2.1 b0), .ref (X.2.1 16)] (kPre kZC X σ)) (va_Qv (fun σ' => Φ σ') (fun σ' t => kPre kZC X σ' t) (kA kZC X)) 0 0 (kA kZC X) := by
  refine kofV (by decide) (Nat.le_of_ble_eq_true rfl) ?_
  intro p e s m args below meth c ls Q hx hcb hml hown hts hS hW hl hret
  have hown : s.vm.findClass RX4 = some m.cls := hown
  have hl : lv_has ls 2 [(0, .ref (X.2.1 b0)), (1, .ref (X.2.1 16))] := hl
  unfold wp_X4_push at h
  refine lv_aload_n (pc := 0) hx hcb dX4_push_0 rfl (lv_at hl 0 rfl) ?_
  refine kget (v := .int (σ.1 b0 3)) (pc := 1) hx hcb hts hown hS hW iwX4 (kO_X4 hb0) rfl 3 (by decide) q177 rfl rfl dX4_push_1 ?_
  refine lv_bipush (v := 8) (pc := 4) hx hcb dX4_push_4 rfl ?_
  obtain ⟨K13, hk13, h⟩ := h
  have hK13 : ∀ (σ1 : Mm) (H : Heap) (locs : List Loc) (ls : Array Slot), K13 σ1 → kW kZC X (kA kZC X) s σ1 H locs → lv_has ls 2 [(0, .ref (X.2.1 b0)), (1, .ref (X.2.1 16))] → W p l e rm_X4_push s m args below meth c H locs 0 0 Q (F0 m 13 ls []) := by
    intro σ1 H locs ls h hW hl
    have h := hk13 σ1 h
    refine lv_aload_n (pc := 13) hx hcb dX4_push_13 rfl (lv_at hl 0 rfl) ?_
    refine kget (v := .ref (X.2.1 (b0 + 1))) (pc := 14) hx hcb hts hown hS hW iwX4 (kO_X4 hb0) rfl 0 (by decide) q174 rfl rfl dX4_push_14 ?_
    refine lv_aload_n (pc := 17) hx hcb dX4_push_17 rfl (lv_at hl 0 rfl) ?_
    refine kget (v := .int (σ1.1 b0 3)) (pc := 18) hx hcb hts hown hS hW iwX4 (kO_X4 hb0) rfl 3 (by decide) q177 rfl rfl dX4_push_18 ?_
    refine lv_aload_n (pc := 21) hx hcb dX4_push_21 rfl (lv_at hl 1 rfl) ?_
    refine kgetN (v := .int (σ1.1 16 0)) (pc := 22) hx hcb hts hown hS hW iwX3 kOC_16 rfl 0 (by decide) q151 rfl rfl dX4_push_22 ?_
    have hin2 := h.1
    have h := h.2
    refine kiast ((σ1.1 b0 3).toNatClampNeg) (pc := 25) hx hcb hS hW (kA_X4_0 hb0) rfl (kin_of hin2 (by decide)) dX4_push_25 (fun σ3 H locs eσ3 hW => ?_)
    have h := h σ3 eσ3
    refine lv_aload_n (pc := 26) hx hcb dX4_push_26 rfl (lv_at hl 0 rfl) ?_
    refine kget (v := .ref (X.2.1 (b0 + 2))) (pc := 27) hx hcb hts hown hS hW iwX4 (kO_X4 hb0) rfl 1 (by decide) q175 rfl rfl dX4_push_27 ?_
    refine lv_aload_n (pc := 30) hx hcb dX4_push_30 rfl (lv_at hl 0 rfl) ?_
    refine kget (v := .int (σ3.1 b0 3)) (pc := 31) hx hcb hts hown hS hW iwX4 (kO_X4 hb0) rfl 3 (by decide) q177 rfl rfl dX4_push_31 ?_
    refine lv_aload_n (pc := 34) hx hcb dX4_push_34 rfl (lv_at hl 1 rfl) ?_
    refine kgetN (v := .int (σ3.1 16 1)) (pc := 35) hx hcb hts hown hS hW iwX3 kOC_16 rfl 1 (by decide) q156 rfl rfl dX4_push_35 ?_
    have hin4 := h.1
    have h := h.2
    refine kiast ((σ3.1 b0 3).toNatClampNeg) (pc := 38) hx hcb hS hW (kA_X4_1 hb0) rfl (kin_of hin4 (by decide)) dX4_push_38 (fun σ5 H locs eσ5 hW => ?_)
    have h := h σ5 eσ5
    refine lv_aload_n (pc := 39) hx hcb dX4_push_39 rfl (lv_at hl 0 rfl) ?_
    refine kget (v := .ref (X.2.1 (b0 + 3))) (pc := 40) hx hcb hts hown hS hW iwX4 (kO_X4 hb0) rfl 2 (by decide) q176 rfl rfl dX4_push_40 ?_
    refine lv_aload_n (pc := 43) hx hcb dX4_push_43 rfl (lv_at hl 0 rfl) ?_
    refine kget (v := .int (σ5.1 b0 3)) (pc := 44) hx hcb hts hown hS hW iwX4 (kO_X4 hb0) rfl 3 (by decide) q177 rfl rfl dX4_push_44 ?_
    refine lv_aload_n (pc := 47) hx hcb dX4_push_47 rfl (lv_at hl 1 rfl) ?_
    refine kgetN (v := .int (σ5.1 16 2)) (pc := 48) hx hcb hts hown hS hW iwX3 kOC_16 rfl 2 (by decide) q159 rfl rfl dX4_push_48 ?_
    have hin6 := h.1
    have h := h.2
    refine kiast ((σ5.1 b0 3).toNatClampNeg) (pc := 51) hx hcb hS hW (kA_X4_2 hb0) rfl (kin_of hin6 (by decide)) dX4_push_51 (fun σ7 H locs eσ7 hW => ?_)
    have h := h σ7 eσ7
    refine lv_aload_n (pc := 52) hx hcb dX4_push_52 rfl (lv_at hl 0 rfl) ?_
    refine lv_dup (pc := 53) hx hcb dX4_push_53 rfl ?_
    refine kget (v := .int (σ7.1 b0 3)) (pc := 54) hx hcb hts hown hS hW iwX4 (kO_X4 hb0) rfl 3 (by decide) q177 rfl rfl dX4_push_54 ?_
    refine lv_iconst (v := 1) (pc := 57) hx hcb dX4_push_57 rfl ?_
    refine lv_iadd (pc := 58) hx hcb dX4_push_58 ?_
    refine kput (ty := .int) (pc := 59) hx hcb hts hown hS hW iwX4 tyX4 tyX4_ok nmX4 (kO_X4 hb0) rfl 3 (by decide) q177 rfl rfl rfl rfl rfl (Nat.le_of_ble_eq_true rfl) rfl dX4_push_59 (fun σ8 H locs eσ8 hW => ?_)
    have h := h σ8 eσ8
    exact hret _ _ _ _ _ h hW dX4_push_62
  refine lv_icmp_lt (tgt := 13) (pc := 6) hx hcb dX4_push_6 (by decide) (fun c6 => ?_) (fun c6 => ?_)
  · have h := h.1 c6
    exact hK13 σ _ _ _ h hW (lv_sub hl [0, 1] rfl)
  · have h := h.2 c6
    refine lv_aload_n (pc := 9) hx hcb dX4_push_9 rfl (lv_at hl 0 rfl) ?_
    refine kcv (krunV (As := []) (rest := []) (pc := 10) hx hcb hml hown hts hS hW (c_X4_dropLowest l X σ b0 hb0 _ h) mf_X4_dropLowest q526 (kO_X4 hb0) rfl ⟨rfl, rfl⟩ ⟨Nat.le_of_ble_eq_true rfl, Nat.le_of_ble_eq_true rfl⟩ rfl hl.1 rfl (Nat.le_of_ble_eq_true rfl) dX4_push_10 ⟨Nat.zero_le _, Nat.zero_le _⟩) hS hW (fun σ9 H locs h hW => ?_)
    exact hK13 σ9 _ _ _ h hW (lv_sub hl [0, 1] rfl)
abbrev rm_X4_size : Room := { frames := 0, cells := 0, slots := 0, locals := 0 }
set_option maxHeartbeats 4000000 in
set_option maxRecDepth 100000 in
theorem c_X4_size (l : Launch) (X : KX) (σ : Mm) (b0 : Nat) (hb0 : kMs b0) (Φ : Int32 → Prop) (h : wp_X4_size σ b0 Φ) : Met l yX4_size (.code yX4_size cX4_size 1 (some .int) :: kT) rm_X4_size (va_Pc [.ref (X.2.1 b0)] (kPre kZC X σ)) (va_Qi (fun r σ' => Φ r ∧ σ = σ') (fun σ' t => kPre kZC X σ' t) (kA kZC X)) 0 0 (kA kZC X) := by
  refine kofI (by decide) (Nat.le_of_ble_eq_true rfl) ?_
  intro p e s m args below meth c ls Q hx hcb hml hown hts hS hW hl hret
  have hown : s.vm.findClass RX4 = some m.cls := hown
  have hl : lv_has ls 1 [(0, .ref (X.2.1 b0))] := hl
  unfold wp_X4_size at h
  refine lv_aload_n (pc := 0) hx hcb dX4_size_0 rfl (lv_at hl 0 rfl) ?_
  refine kget (v := .int (σ.1 b0 3)) (pc := 1) hx hcb hts hown hS hW iwX4 (kO_X4 hb0) rfl 3 (by decide) q177 rfl rfl dX4_size_1 ?_
  exact hret _ _ _ _ _ _ rfl ⟨h, rfl⟩ hW dX4_size_4
abbrev rm_X8_byteAt : Room := { frames := 0, cells := 0, slots := 0, locals := 0 }
set_option maxHeartbeats 4000000 in
set_option maxRecDepth 100000 in
theorem c_X8_byteAt (l : Launch) (X : KX) (σ : Mm) (x1 : Int32) (Φ : Int32 → Prop) (h : wp_X8_byteAt σ x1 Φ) : Met l yX8_byteAt (.code yX8_byteAt cX8_byteAt 2 (some .int) :: kT) rm_X8_byteAt (va_Pc [.ref (X.2.1 1), .int x1] (kPre kZC X σ)) (va_Qi (fun r σ' => Φ r ∧ σ = σ') (fun σ' t => kPre kZC X σ' t) (kA kZC X)) 0 0 (kA kZC X) := by
  refine kofI (by decide) (Nat.le_of_ble_eq_true rfl) ?_
  intro p e s m args below meth c ls Q hx hcb hml hown hts hS hW hl hret
  have hown : s.vm.findClass RX8 = some m.cls := hown
  have hl : lv_has ls 2 [(0, .ref (X.2.1 1)), (1, .int x1)] := hl
  unfold wp_X8_byteAt at h
  refine lv_iload_n (pc := 0) hx hcb dX8_byteAt_0 rfl (lv_at hl 1 rfl) ?_
  refine lv_if_lt (tgt := 25) (pc := 1) hx hcb dX8_byteAt_1 (by decide) (fun c1 => ?_) (fun c1 => ?_)
  · have h := h.1 c1
    refine lv_iconst (v := (-1)) (pc := 25) hx hcb dX8_byteAt_25 rfl ?_
    exact hret _ _ _ _ _ _ rfl ⟨h, rfl⟩ hW dX8_byteAt_26
  · have h := h.2 c1
    refine lv_iload_n (pc := 4) hx hcb dX8_byteAt_4 rfl (lv_at hl 1 rfl) ?_
    refine lv_aload_n (pc := 5) hx hcb dX8_byteAt_5 rfl (lv_at hl 0 rfl) ?_
    refine kget (v := .int (σ.1 1 1)) (pc := 6) hx hcb hts hown hS hW iwX8 kOC_1 rfl 1 (by decide) q84 rfl rfl dX8_byteAt_6 ?_
    refine lv_icmp_ge (tgt := 25) (pc := 9) hx hcb dX8_byteAt_9 (by decide) (fun c9 => ?_) (fun c9 => ?_)
    · have h := h.1 c9
      refine lv_iconst (v := (-1)) (pc := 25) hx hcb dX8_byteAt_25 rfl ?_
      exact hret _ _ _ _ _ _ rfl ⟨h, rfl⟩ hW dX8_byteAt_26
    · have h := h.2 c9
      refine lv_aload_n (pc := 12) hx hcb dX8_byteAt_12 rfl (lv_at hl 0 rfl) ?_
      refine kget (v := .ref (X.2.1 2)) (pc := 13) hx hcb hts hown hS hW iwX8 kOC_1 rfl 0 (by decide) q83 rfl rfl dX8_byteAt_13 ?_
      refine lv_iload_n (pc := 16) hx hcb dX8_byteAt_16 rfl (lv_at hl 1 rfl) ?_
      have hin1 := h.1
      have h := h.2
      refine kbald (x1.toNatClampNeg) (pc := 17) hx hcb hS hW kBC_2 rfl (kin_of hin1 (by decide)) dX8_byteAt_17 ?_
      refine lv_sipush (v := 255) (pc := 18) hx hcb dX8_byteAt_18 rfl ?_
      refine lv_iand (pc := 21) hx hcb dX8_byteAt_21 ?_
      refine lv_goto (tgt := 26) (pc := 22) hx hcb dX8_byteAt_22 (by decide) ?_
      exact hret _ _ _ _ _ _ rfl ⟨h, rfl⟩ hW dX8_byteAt_26
abbrev rm_X5_figureHere : Room := { frames := 1, cells := 0, slots := 0, locals := 21 }
set_option maxHeartbeats 4000000 in
set_option maxRecDepth 100000 in
theorem c_X5_figureHere (l : Launch) (X : KX) (σ : Mm)  (Φ : Int32 → Prop) (h : wp_X5_figureHere σ  Φ) : Met l yX5_figureHere (.code yX5_figureHere cX5_figureHere 2 (some .int) :: kT) rm_X5_figureHere (va_Pc [.ref (X.2.1 3)] (kPre kZC X σ)) (va_Qi (fun r σ' => Φ r ∧ σ = σ') (fun σ' t => kPre kZC X σ' t) (kA kZC X)) 0 0 (kA kZC X) := by
  refine kofI (by decide) (Nat.le_of_ble_eq_true rfl) ?_
  intro p e s m args below meth c ls Q hx hcb hml hown hts hS hW hl hret
  have hown : s.vm.findClass RX5 = some m.cls := hown
  have hl : lv_has ls 2 [(0, .ref (X.2.1 3))] := hl
  unfold wp_X5_figureHere at h
  refine lv_aload_n (pc := 0) hx hcb dX5_figureHere_0 rfl (lv_at hl 0 rfl) ?_
  refine kget (v := .ref (X.2.1 1)) (pc := 1) hx hcb hts hown hS hW iwX5 kOC_3 rfl 0 (by decide) q97 rfl rfl dX5_figureHere_1 ?_
  refine lv_aload_n (pc := 4) hx hcb dX5_figureHere_4 rfl (lv_at hl 0 rfl) ?_
  refine kget (v := .int (σ.1 3 1)) (pc := 5) hx hcb hts hown hS hW iwX5 kOC_3 rfl 1 (by decide) q98 rfl rfl dX5_figureHere_5 ?_
  refine kci (krunV (As := [.int (σ.1 3 1)]) (rest := []) (pc := 8) hx hcb hml hown hts hS hW (c_X8_byteAt l X σ (σ.1 3 1) _ h) mf_X8_byteAt q338 kOC_1 rfl ⟨rfl, rfl⟩ ⟨Nat.le_of_ble_eq_true rfl, Nat.le_of_ble_eq_true rfl⟩ rfl hl.1 rfl (Nat.le_of_ble_eq_true rfl) dX5_figureHere_8 ⟨Nat.zero_le _, Nat.zero_le _⟩) hS hW (fun r2 σ1 H locs h hW => ?_)
  obtain ⟨h, rfl⟩ := h
  refine lv_istore_n (lv' := [(1, .int r2), (0, .ref (X.2.1 3))]) (pc := 11) hx hcb dX5_figureHere_11 rfl hl (by decide) rfl (fun ls hl => ?_)
  refine lv_iload_n (pc := 12) hx hcb dX5_figureHere_12 rfl (lv_at hl 0 rfl) ?_
  refine lv_bipush (v := 48) (pc := 13) hx hcb dX5_figureHere_13 rfl ?_
  refine lv_icmp_lt (tgt := 31) (pc := 15) hx hcb dX5_figureHere_15 (by decide) (fun c15 => ?_) (fun c15 => ?_)
  · have h := h.1 c15
    refine lv_iconst (v := (-1)) (pc := 31) hx hcb dX5_figureHere_31 rfl ?_
    exact hret _ _ _ _ _ _ rfl ⟨h, rfl⟩ hW dX5_figureHere_32
  · have h := h.2 c15
    refine lv_iload_n (pc := 18) hx hcb dX5_figureHere_18 rfl (lv_at hl 0 rfl) ?_
    refine lv_bipush (v := 57) (pc := 19) hx hcb dX5_figureHere_19 rfl ?_
    refine lv_icmp_gt (tgt := 31) (pc := 21) hx hcb dX5_figureHere_21 (by decide) (fun c21 => ?_) (fun c21 => ?_)
    · have h := h.1 c21
      refine lv_iconst (v := (-1)) (pc := 31) hx hcb dX5_figureHere_31 rfl ?_
      exact hret _ _ _ _ _ _ rfl ⟨h, rfl⟩ hW dX5_figureHere_32
    · have h := h.2 c21
      refine lv_iload_n (pc := 24) hx hcb dX5_figureHere_24 rfl (lv_at hl 0 rfl) ?_
      refine lv_bipush (v := 48) (pc := 25) hx hcb dX5_figureHere_25 rfl ?_
      refine lv_isub (pc := 27) hx hcb dX5_figureHere_27 ?_
      refine lv_goto (tgt := 32) (pc := 28) hx hcb dX5_figureHere_28 (by decide) ?_
      exact hret _ _ _ _ _ _ rfl ⟨h, rfl⟩ hW dX5_figureHere_32
abbrev rm_X8_length : Room := { frames := 0, cells := 0, slots := 0, locals := 0 }
set_option maxHeartbeats 4000000 in
set_option maxRecDepth 100000 in
theorem c_X8_length (l : Launch) (X : KX) (σ : Mm)  (Φ : Int32 → Prop) (h : wp_X8_length σ  Φ) : Met l yX8_length (.code yX8_length cX8_length 1 (some .int) :: kT) rm_X8_length (va_Pc [.ref (X.2.1 1)] (kPre kZC X σ)) (va_Qi (fun r σ' => Φ r ∧ σ = σ') (fun σ' t => kPre kZC X σ' t) (kA kZC X)) 0 0 (kA kZC X) := by
  refine kofI (by decide) (Nat.le_of_ble_eq_true rfl) ?_
  intro p e s m args below meth c ls Q hx hcb hml hown hts hS hW hl hret
  have hown : s.vm.findClass RX8 = some m.cls := hown
  have hl : lv_has ls 1 [(0, .ref (X.2.1 1))] := hl
  unfold wp_X8_length at h
  refine lv_aload_n (pc := 0) hx hcb dX8_length_0 rfl (lv_at hl 0 rfl) ?_
  refine kget (v := .int (σ.1 1 1)) (pc := 1) hx hcb hts hown hS hW iwX8 kOC_1 rfl 1 (by decide) q84 rfl rfl dX8_length_1 ?_
  exact hret _ _ _ _ _ _ rfl ⟨h, rfl⟩ hW dX8_length_4
abbrev rm_X5_readNumber : Room := { frames := 2, cells := 0, slots := 0, locals := 42 }
set_option maxHeartbeats 4000000 in
set_option maxRecDepth 100000 in
theorem c_X5_readNumber (l : Launch) (X : KX) (σ : Mm)  (Φ : Int32 → Mm → Prop) (h : wp_X5_readNumber σ  Φ) : Met l yX5_readNumber (.code yX5_readNumber cX5_readNumber 3 (some .int) :: kT) rm_X5_readNumber (va_Pc [.ref (X.2.1 3)] (kPre kZC X σ)) (va_Qi (fun r σ' => Φ r σ') (fun σ' t => kPre kZC X σ' t) (kA kZC X)) 0 0 (kA kZC X) := by
  refine kofI (by decide) (Nat.le_of_ble_eq_true rfl) ?_
  intro p e s m args below meth c ls Q hx hcb hml hown hts hS hW hl hret
  have hown : s.vm.findClass RX5 = some m.cls := hown
  have hl : lv_has ls 3 [(0, .ref (X.2.1 3))] := hl
  unfold wp_X5_readNumber at h
  refine lv_aload_n (pc := 0) hx hcb dX5_readNumber_0 rfl (lv_at hl 0 rfl) ?_
  refine kci (krunV (As := []) (rest := []) (pc := 1) hx hcb hml hown hts hS hW (c_X5_figureHere l X σ  _ h) mf_X5_figureHere q350 kOC_3 rfl ⟨rfl, rfl⟩ ⟨Nat.le_of_ble_eq_true rfl, Nat.le_of_ble_eq_true rfl⟩ rfl hl.1 rfl (Nat.le_of_ble_eq_true rfl) dX5_readNumber_1 ⟨Nat.zero_le _, Nat.zero_le _⟩) hS hW (fun r2 σ1 H locs h hW => ?_)
  obtain ⟨h, rfl⟩ := h
  refine lv_istore_n (lv' := [(1, .int r2), (0, .ref (X.2.1 3))]) (pc := 4) hx hcb dX5_readNumber_4 rfl hl (by decide) rfl (fun ls hl => ?_)
  refine lv_iload_n (pc := 5) hx hcb dX5_readNumber_5 rfl (lv_at hl 0 rfl) ?_
  refine lv_if_ge (tgt := 11) (pc := 6) hx hcb dX5_readNumber_6 (by decide) (fun c6 => ?_) (fun c6 => ?_)
  · have h := h.1 c6
    refine lv_aload_n (pc := 11) hx hcb dX5_readNumber_11 rfl (lv_at hl 1 rfl) ?_
    refine lv_dup (pc := 12) hx hcb dX5_readNumber_12 rfl ?_
    refine kget (v := .int (σ.1 3 1)) (pc := 13) hx hcb hts hown hS hW iwX5 kOC_3 rfl 1 (by decide) q98 rfl rfl dX5_readNumber_13 ?_
    refine lv_iconst (v := 1) (pc := 16) hx hcb dX5_readNumber_16 rfl ?_
    refine lv_iadd (pc := 17) hx hcb dX5_readNumber_17 ?_
    refine kput (ty := .int) (pc := 18) hx hcb hts hown hS hW iwX5 tyX5 tyX5_ok nmX5 kOC_3 rfl 1 (by decide) q98 rfl rfl rfl rfl rfl (Nat.le_of_ble_eq_true rfl) rfl dX5_readNumber_18 (fun σ3 H locs eσ3 hW => ?_)
    have h := h σ3 eσ3
    refine lv_aload_n (pc := 21) hx hcb dX5_readNumber_21 rfl (lv_at hl 1 rfl) ?_
    refine kci (krunV (As := []) (rest := []) (pc := 22) hx hcb hml hown hts hS hW (c_X5_figureHere l X σ3  _ h) mf_X5_figureHere q350 kOC_3 rfl ⟨rfl, rfl⟩ ⟨Nat.le_of_ble_eq_true rfl, Nat.le_of_ble_eq_true rfl⟩ rfl hl.1 rfl (Nat.le_of_ble_eq_true rfl) dX5_readNumber_22 ⟨Nat.zero_le _, Nat.zero_le _⟩) hS hW (fun r5 σ4 H locs h hW => ?_)
    obtain ⟨h, rfl⟩ := h
    refine lv_istore_n (lv' := [(2, .int r5), (1, .int r2), (0, .ref (X.2.1 3))]) (pc := 25) hx hcb dX5_readNumber_25 rfl hl (by decide) rfl (fun ls hl => ?_)
    refine lv_iload_n (pc := 26) hx hcb dX5_readNumber_26 rfl (lv_at hl 0 rfl) ?_
    refine lv_if_ge (tgt := 32) (pc := 27) hx hcb dX5_readNumber_27 (by decide) (fun c27 => ?_) (fun c27 => ?_)
    · have h := h.1 c27
      refine lv_aload_n (pc := 32) hx hcb dX5_readNumber_32 rfl (lv_at hl 2 rfl) ?_
      refine lv_dup (pc := 33) hx hcb dX5_readNumber_33 rfl ?_
      refine kget (v := .int (σ3.1 3 1)) (pc := 34) hx hcb hts hown hS hW iwX5 kOC_3 rfl 1 (by decide) q98 rfl rfl dX5_readNumber_34 ?_
      refine lv_iconst (v := 1) (pc := 37) hx hcb dX5_readNumber_37 rfl ?_
      refine lv_iadd (pc := 38) hx hcb dX5_readNumber_38 ?_
      refine kput (ty := .int) (pc := 39) hx hcb hts hown hS hW iwX5 tyX5 tyX5_ok nmX5 kOC_3 rfl 1 (by decide) q98 rfl rfl rfl rfl rfl (Nat.le_of_ble_eq_true rfl) rfl dX5_readNumber_39 (fun σ6 H locs eσ6 hW => ?_)
      have h := h σ6 eσ6
      refine lv_iload_n (pc := 42) hx hcb dX5_readNumber_42 rfl (lv_at hl 1 rfl) ?_
      refine lv_bipush (v := 10) (pc := 43) hx hcb dX5_readNumber_43 rfl ?_
      refine lv_imul (pc := 45) hx hcb dX5_readNumber_45 ?_
      refine lv_iload_n (pc := 46) hx hcb dX5_readNumber_46 rfl (lv_at hl 0 rfl) ?_
      refine lv_iadd (pc := 47) hx hcb dX5_readNumber_47 ?_
      exact hret _ _ _ _ _ _ rfl h hW dX5_readNumber_48
    · have h := h.2 c27
      refine lv_iload_n (pc := 30) hx hcb dX5_readNumber_30 rfl (lv_at hl 1 rfl) ?_
      exact hret _ _ _ _ _ _ rfl h hW dX5_readNumber_31
  · have h := h.2 c6
    refine lv_iconst (v := (-1)) (pc := 9) hx hcb dX5_readNumber_9 rfl ?_
    exact hret _ _ _ _ _ _ rfl h hW dX5_readNumber_10
