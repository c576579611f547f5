abbrev rm_X11_whomOf : Room := { frames := 0, cells := 0, slots := 0, locals := 0 }
set_option maxHeartbeats 4000000 in
set_option maxRecDepth 100000 in
theorem c_X11_whomOf (l : Launch) (X : KX) (σ : Mm) (x0 : Int32) (Φ : Int32 → Prop) (h : wp_X11_whomOf x0 Φ) : Met l yX11_whomOf (.code yX11_whomOf cX11_whomOf 1 (some .int) :: kT) rm_X11_whomOf (va_Pc [.int x0] (kPre kZM X σ)) (va_Qi (fun r σ' => Φ r ∧ σ = σ') (fun σ' t => kPre kZM X σ' t) (kA kZM X)) 0 0 (kA kZM X) := by
  refine kofI (by decide) (Nat.le_of_ble_eq_true rfl) ?_
  intro p e s m args below meth c ls Q hx hcb hml hown hts hS hW hl hret
  have hown : s.vm.findClass RX11 = some m.cls := hown
  have hl : lv_has ls 1 [(0, .int x0)] := hl
  unfold wp_X11_whomOf at h
  refine lv_iload_n (pc := 0) hx hcb dX11_whomOf_0 rfl (lv_at hl 0 rfl) ?_
  refine lv_bipush (v := 8) (pc := 1) hx hcb dX11_whomOf_1 rfl ?_
  refine lv_idiv (pc := 3) hx hcb dX11_whomOf_3 (by decide) ?_
  refine lv_bipush (v := 6) (pc := 4) hx hcb dX11_whomOf_4 rfl ?_
  refine lv_irem (pc := 6) hx hcb dX11_whomOf_6 (by decide) ?_
  refine lv_iconst (v := 1) (pc := 7) hx hcb dX11_whomOf_7 rfl ?_
  refine lv_isub (pc := 8) hx hcb dX11_whomOf_8 ?_
  exact hret _ _ _ _ _ _ rfl ⟨h, rfl⟩ hW dX11_whomOf_9
abbrev rm_X11_yardOf : Room := { frames := 0, cells := 0, slots := 0, locals := 0 }
set_option maxHeartbeats 4000000 in
set_option maxRecDepth 100000 in
theorem c_X11_yardOf (l : Launch) (X : KX) (σ : Mm) (x0 : Int32) (Φ : Int32 → Prop) (h : wp_X11_yardOf x0 Φ) : Met l yX11_yardOf (.code yX11_yardOf cX11_yardOf 1 (some .int) :: kT) rm_X11_yardOf (va_Pc [.int x0] (kPre kZM X σ)) (va_Qi (fun r σ' => Φ r ∧ σ = σ') (fun σ' t => kPre kZM X σ' t) (kA kZM X)) 0 0 (kA kZM X) := by
  refine kofI (by decide) (Nat.le_of_ble_eq_true rfl) ?_
  intro p e s m args below meth c ls Q hx hcb hml hown hts hS hW hl hret
  have hown : s.vm.findClass RX11 = some m.cls := hown
  have hl : lv_has ls 1 [(0, .int x0)] := hl
  unfold wp_X11_yardOf at h
  refine lv_iload_n (pc := 0) hx hcb dX11_yardOf_0 rfl (lv_at hl 0 rfl) ?_
  refine lv_bipush (v := 8) (pc := 1) hx hcb dX11_yardOf_1 rfl ?_
  refine lv_irem (pc := 3) hx hcb dX11_yardOf_3 (by decide) ?_
  exact hret _ _ _ _ _ _ rfl ⟨h, rfl⟩ hW dX11_yardOf_4
abbrev rm_X11_placeOf : Room := { frames := 0, cells := 0, slots := 0, locals := 0 }
set_option maxHeartbeats 4000000 in
set_option maxRecDepth 100000 in
theorem c_X11_placeOf (l : Launch) (X : KX) (σ : Mm) (x1 : Int32) (x2 : Int32) (Φ : Int32 → Prop) (h : wp_X11_placeOf σ x1 x2 Φ) : Met l yX11_placeOf (.code yX11_placeOf cX11_placeOf 3 (some .int) :: kT) rm_X11_placeOf (va_Pc [.ref (X.2.1 0), .int x1, .int x2] (kPre kZM X σ)) (va_Qi (fun r σ' => Φ r ∧ σ = σ') (fun σ' t => kPre kZM X σ' t) (kA kZM X)) 0 0 (kA kZM X) := by
  refine kofI (by decide) (Nat.le_of_ble_eq_true rfl) ?_
  intro p e s m args below meth c ls Q hx hcb hml hown hts hS hW hl hret
  have hown : s.vm.findClass RX11 = some m.cls := hown
  have hl : lv_has ls 3 [(0, .ref (X.2.1 0)), (1, .int x1), (2, .int x2)] := hl
  unfold wp_X11_placeOf at h
  refine lv_aload_n (pc := 0) hx hcb dX11_placeOf_0 rfl (lv_at hl 0 rfl) ?_
  refine kget (v := .ref (X.2.1 1)) (pc := 1) hx hcb hts hown hS hW iwX11 kOM_0 rfl 0 (by decide) q858 rfl rfl dX11_placeOf_1 ?_
  refine lv_bipush (v := 22) (pc := 4) hx hcb dX11_placeOf_4 rfl ?_
  refine lv_bipush (v := 12) (pc := 6) hx hcb dX11_placeOf_6 rfl ?_
  refine lv_iload_n (pc := 8) hx hcb dX11_placeOf_8 rfl (lv_at hl 1 rfl) ?_
  refine lv_imul (pc := 9) hx hcb dX11_placeOf_9 ?_
  refine lv_iadd (pc := 10) hx hcb dX11_placeOf_10 ?_
  refine lv_iload_n (pc := 11) hx hcb dX11_placeOf_11 rfl (lv_at hl 2 rfl) ?_
  refine lv_aload_n (pc := 12) hx hcb dX11_placeOf_12 rfl (lv_at hl 0 rfl) ?_
  refine kget (v := .ref (X.2.1 1)) (pc := 13) hx hcb hts hown hS hW iwX11 kOM_0 rfl 0 (by decide) q858 rfl rfl dX11_placeOf_13 ?_
  refine lv_bipush (v := 17) (pc := 16) hx hcb dX11_placeOf_16 rfl ?_
  refine lv_iload_n (pc := 18) hx hcb dX11_placeOf_18 rfl (lv_at hl 1 rfl) ?_
  refine lv_iadd (pc := 19) hx hcb dX11_placeOf_19 ?_
  have hin1 := h.1
  have h := h.2
  refine kiald ((17 + x1).toNatClampNeg) (pc := 20) hx hcb hS hW kIM_1 rfl (kin_of hin1 (by decide)) dX11_placeOf_20 ?_
  have hne21 := h.1
  have h := h.2
  refine lv_irem (pc := 21) hx hcb dX11_placeOf_21 hne21 ?_
  refine lv_iadd (pc := 22) hx hcb dX11_placeOf_22 ?_
  have hin2 := h.1
  have h := h.2
  refine kiald (((22 + (12 * x1)) + (x2 - x2 / (σ.1 1 ((17 + x1).toNatClampNeg)) * (σ.1 1 ((17 + x1).toNatClampNeg)))).toNatClampNeg) (pc := 23) hx hcb hS hW kIM_1 rfl (kin_of hin2 (by decide)) dX11_placeOf_23 ?_
  exact hret _ _ _ _ _ _ rfl ⟨h, rfl⟩ hW dX11_placeOf_24
abbrev rm_X11_after : Room := { frames := 1, cells := 0, slots := 0, locals := 22 }
set_option maxHeartbeats 4000000 in
set_option maxRecDepth 100000 in
theorem c_X11_after (l : Launch) (X : KX) (σ : Mm) (x1 : Int32) (x2 : Int32) (Φ : Int32 → Prop) (h : wp_X11_after σ x1 x2 Φ) : Met l yX11_after (.code yX11_after cX11_after 9 (some .int) :: kT) rm_X11_after (va_Pc [.ref (X.2.1 0), .int x1, .int x2] (kPre kZM X σ)) (va_Qi (fun r σ' => Φ r ∧ σ = σ') (fun σ' t => kPre kZM X σ' t) (kA kZM X)) 0 0 (kA kZM X) := by
  refine kofI (by decide) (Nat.le_of_ble_eq_true rfl) ?_
  intro p e s m args below meth c ls Q hx hcb hml hown hts hS hW hl hret
  have hown : s.vm.findClass RX11 = some m.cls := hown
  have hl : lv_has ls 9 [(0, .ref (X.2.1 0)), (1, .int x1), (2, .int x2)] := hl
  unfold wp_X11_after at h
  refine lv_iload_n (pc := 0) hx hcb dX11_after_0 rfl (lv_at hl 1 rfl) ?_
  refine kci (krunS (As := [.int x1]) (rest := []) (pc := 1) hx hcb hml hown hts hS hW (c_X11_whomOf l X σ x1 _ h) mf_X11_whomOf q1027 ⟨rfl, rfl⟩ ⟨Nat.le_of_ble_eq_true rfl, Nat.le_of_ble_eq_true rfl⟩ rfl hl.1 rfl (Nat.le_of_ble_eq_true rfl) dX11_after_1 ⟨Nat.zero_le _, Nat.zero_le _⟩) hS hW (fun r2 σ1 H locs h hW => ?_)
  obtain ⟨h, rfl⟩ := h
  refine lv_istore_n (lv' := [(3, .int r2), (0, .ref (X.2.1 0)), (1, .int x1), (2, .int x2)]) (pc := 4) hx hcb dX11_after_4 rfl hl (by decide) rfl (fun ls hl => ?_)
  refine lv_iload_n (pc := 5) hx hcb dX11_after_5 rfl (lv_at hl 2 rfl) ?_
  refine kci (krunS (As := [.int x1]) (rest := []) (pc := 6) hx hcb hml hown hts hS hW (c_X11_yardOf l X σ x1 _ h) mf_X11_yardOf q1004 ⟨rfl, rfl⟩ ⟨Nat.le_of_ble_eq_true rfl, Nat.le_of_ble_eq_true rfl⟩ rfl hl.1 rfl (Nat.le_of_ble_eq_true rfl) dX11_after_6 ⟨Nat.zero_le _, Nat.zero_le _⟩) hS hW (fun r4 σ3 H locs h hW => ?_)
  obtain ⟨h, rfl⟩ := h
  refine lv_istore (lv' := [(4, .int r4), (3, .int r2), (0, .ref (X.2.1 0)), (1, .int x1), (2, .int x2)]) (pc := 9) hx hcb dX11_after_9 hl (by decide) rfl (fun ls hl => ?_)
  refine lv_iload_n (pc := 11) hx hcb dX11_after_11 rfl (lv_at hl 1 rfl) ?_
  refine lv_if_ge (tgt := 18) (pc := 12) hx hcb dX11_after_12 (by decide) (fun c12 => ?_) (fun c12 => ?_)
  · have h := h.1 c12
    refine lv_iload_n (pc := 18) hx hcb dX11_after_18 rfl (lv_at hl 3 rfl) ?_
    refine lv_bipush (v := 48) (pc := 19) hx hcb dX11_after_19 rfl ?_
    refine lv_idiv (pc := 21) hx hcb dX11_after_21 (by decide) ?_
    refine lv_topi (fun x5_5 ex5_5 => ?_)
    have h := h x5_5 ex5_5
    refine lv_istore (lv' := [(5, .int x5_5), (4, .int r4), (3, .int r2), (0, .ref (X.2.1 0)), (1, .int x1), (2, .int x2)]) (pc := 22) hx hcb dX11_after_22 hl (by decide) rfl (fun ls hl => ?_)
    refine lv_aload_n (pc := 24) hx hcb dX11_after_24 rfl (lv_at hl 3 rfl) ?_
    refine kget (v := .ref (X.2.1 1)) (pc := 25) hx hcb hts hown hS hW iwX11 kOM_0 rfl 0 (by decide) q858 rfl rfl dX11_after_25 ?_
    refine lv_iconst (v := 2) (pc := 28) hx hcb dX11_after_28 rfl ?_
    refine kiald 2 (pc := 29) hx hcb hS hW kIM_1 rfl (kin_of ⟨by decide, by decide⟩ (by decide)) dX11_after_29 ?_
    obtain ⟨K44, hk44, h⟩ := h
    have hK44 : ∀ (x5_6 : Int32) (H : Heap) (locs : List Loc) (ls : Array Slot), K44 x5_6 → kW kZM X (kA kZM X) s σ H locs → lv_has ls 9 [(0, .ref (X.2.1 0)), (2, .int x2), (3, .int r2), (4, .int r4), (5, .int x5_6)] → W p l e rm_X11_after s m args below meth c H locs 0 0 Q (F0 m 44 ls []) := by
      intro x5_6 H locs ls h hW hl
      have h := hk44 x5_6 h
      refine lv_aload_n (pc := 44) hx hcb dX11_after_44 rfl (lv_at hl 0 rfl) ?_
      refine lv_iload_n (pc := 45) hx hcb dX11_after_45 rfl (lv_at hl 2 rfl) ?_
      refine lv_iload_n (pc := 46) hx hcb dX11_after_46 rfl (lv_at hl 1 rfl) ?_
      refine kci (krunV (As := [.int r2, .int x2]) (rest := []) (pc := 47) hx hcb hml hown hts hS hW (c_X11_placeOf l X σ r2 x2 _ h) mf_X11_placeOf q992 kOM_0 rfl ⟨rfl, rfl⟩ ⟨Nat.le_of_ble_eq_true rfl, Nat.le_of_ble_eq_true rfl⟩ rfl hl.1 rfl (Nat.le_of_ble_eq_true rfl) dX11_after_47 ⟨Nat.zero_le _, Nat.zero_le _⟩) hS hW (fun r8 σ7 H locs h hW => ?_)
      obtain ⟨h, rfl⟩ := h
      refine lv_istore (lv' := [(6, .int r8), (0, .ref (X.2.1 0)), (2, .int x2), (3, .int r2), (4, .int r4), (5, .int x5_6)]) (pc := 50) hx hcb dX11_after_50 hl (by decide) rfl (fun ls hl => ?_)
      refine lv_aload_n (pc := 52) hx hcb dX11_after_52 rfl (lv_at hl 1 rfl) ?_
      refine kget (v := .ref (X.2.1 2)) (pc := 53) hx hcb hts hown hS hW iwX11 kOM_0 rfl 1 (by decide) q859 rfl rfl dX11_after_53 ?_
      refine lv_bipush (v := 8) (pc := 56) hx hcb dX11_after_56 rfl ?_
      refine lv_iload (pc := 58) hx hcb dX11_after_58 (lv_at hl 4 rfl) ?_
      refine lv_imul (pc := 60) hx hcb dX11_after_60 ?_
      refine lv_iload (pc := 61) hx hcb dX11_after_61 (lv_at hl 0 rfl) ?_
      refine lv_iadd (pc := 63) hx hcb dX11_after_63 ?_
      have hin9 := h.1
      have h := h.2
      refine kiald (((8 * r4) + r8).toNatClampNeg) (pc := 64) hx hcb hS hW kIM_2 rfl (kin_of hin9 (by decide)) dX11_after_64 ?_
      refine lv_topi (fun x7_10 ex7_10 => ?_)
      have h := h x7_10 ex7_10
      refine lv_istore (lv' := [(7, .int x7_10), (6, .int r8), (0, .ref (X.2.1 0)), (2, .int x2), (3, .int r2), (4, .int r4), (5, .int x5_6)]) (pc := 65) hx hcb dX11_after_65 hl (by decide) rfl (fun ls hl => ?_)
      refine lv_iload (pc := 67) hx hcb dX11_after_67 (lv_at hl 0 rfl) ?_
      obtain ⟨K129, hk129, h⟩ := h
      have hK129 : ∀ (x4_11 : Int32) (H : Heap) (locs : List Loc) (ls : Array Slot), K129 x4_11 → kW kZM X (kA kZM X) s σ H locs → lv_has ls 9 [(3, .int r2), (4, .int x4_11), (5, .int x5_6)] → W p l e rm_X11_after s m args below meth c H locs 0 0 Q (F0 m 129 ls []) := by
        intro x4_11 H locs ls h hW hl
        have h := hk129 x4_11 h
        refine lv_iload (pc := 129) hx hcb dX11_after_129 (lv_at hl 1 rfl) ?_
        refine lv_bipush (v := 8) (pc := 131) hx hcb dX11_after_131 rfl ?_
        refine lv_iload_n (pc := 133) hx hcb dX11_after_133 rfl (lv_at hl 0 rfl) ?_
        refine lv_iconst (v := 1) (pc := 134) hx hcb dX11_after_134 rfl ?_
        refine lv_iadd (pc := 135) hx hcb dX11_after_135 ?_
        refine lv_imul (pc := 136) hx hcb dX11_after_136 ?_
        refine lv_iadd (pc := 137) hx hcb dX11_after_137 ?_
        refine lv_bipush (v := 48) (pc := 138) hx hcb dX11_after_138 rfl ?_
        refine lv_iload (pc := 140) hx hcb dX11_after_140 (lv_at hl 2 rfl) ?_
        refine lv_imul (pc := 142) hx hcb dX11_after_142 ?_
        refine lv_iadd (pc := 143) hx hcb dX11_after_143 ?_
        exact hret _ _ _ _ _ _ rfl ⟨h, rfl⟩ hW dX11_after_144
      refine lv_if_le (tgt := 129) (pc := 69) hx hcb dX11_after_69 (by decide) (fun c69 => ?_) (fun c69 => ?_)
      · have h := h.1 c69
        exact hK129 r4 _ _ _ h hW (lv_sub hl [4, 5, 6] rfl)
      · have h := h.2 c69
        refine lv_iload (pc := 72) hx hcb dX11_after_72 (lv_at hl 0 rfl) ?_
        refine kldc (v := 999999) (pc := 74) hx hcb hown hts q857 dX11_after_74 ?_
        refine lv_icmp_ge (tgt := 129) (pc := 76) hx hcb dX11_after_76 (by decide) (fun c76 => ?_) (fun c76 => ?_)
        · have h := h.1 c76
          exact hK129 r4 _ _ _ h hW (lv_sub hl [4, 5, 6] rfl)
        · have h := h.2 c76
          refine lv_iconst (v := 0) (pc := 79) hx hcb dX11_after_79 rfl ?_
          refine lv_istore (lv' := [(8, .int 0), (7, .int x7_10), (6, .int r8), (0, .ref (X.2.1 0)), (2, .int x2), (3, .int r2), (4, .int r4), (5, .int x5_6)]) (pc := 80) hx hcb dX11_after_80 hl (by decide) rfl (fun ls hl => ?_)
          obtain ⟨K125, hk125, h⟩ := h
          have hK125 : ∀ (x8_12 : Int32) (H : Heap) (locs : List Loc) (ls : Array Slot), K125 x8_12 → kW kZM X (kA kZM X) s σ H locs → lv_has ls 9 [(3, .int r2), (5, .int x5_6), (8, .int x8_12)] → W p l e rm_X11_after s m args below meth c H locs 0 0 Q (F0 m 125 ls []) := by
            intro x8_12 H locs ls h hW hl
            have h := hk125 x8_12 h
            refine lv_iload (pc := 125) hx hcb dX11_after_125 (lv_at hl 2 rfl) ?_
            refine lv_istore (lv' := [(4, .int x8_12), (3, .int r2), (5, .int x5_6), (8, .int x8_12)]) (pc := 127) hx hcb dX11_after_127 hl (by decide) rfl (fun ls hl => ?_)
            exact hK129 x8_12 _ _ _ h hW (lv_sub hl [1, 0, 2] rfl)
          have hL82 : ∀ (n : Nat) (x8_13 : Int32) (H : Heap) (locs : List Loc) (ls : Array Slot), wp_X11_after_L82 σ r4 r8 x7_10 K125 n x8_13 → kW kZM X (kA kZM X) s σ H locs → lv_has ls 9 [(0, .ref (X.2.1 0)), (3, .int r2), (4, .int r4), (5, .int x5_6), (6, .int r8), (7, .int x7_10), (8, .int x8_13)] → W p l e rm_X11_after s m args below meth c H locs 0 0 Q (F0 m 82 ls []) := by
            intro n
            induction n with
            | zero =>
              intro x8_13 H locs ls h
              exact False.elim h
            | succ n ih =>
              intro x8_13 H locs ls h hW hl
              unfold wp_X11_after_L82 at h
              refine lv_aload_n (pc := 82) hx hcb dX11_after_82 rfl (lv_at hl 0 rfl) ?_
              refine kget (v := .ref (X.2.1 1)) (pc := 83) hx hcb hts hown hS hW iwX11 kOM_0 rfl 0 (by decide) q858 rfl rfl dX11_after_83 ?_
              refine lv_iconst (v := 4) (pc := 86) hx hcb dX11_after_86 rfl ?_
              refine lv_iload (pc := 87) hx hcb dX11_after_87 (lv_at hl 2 rfl) ?_
              refine lv_iadd (pc := 89) hx hcb dX11_after_89 ?_
              have hin14 := h.1
              have h := h.2
              refine kiald ((4 + r4).toNatClampNeg) (pc := 90) hx hcb hS hW kIM_1 rfl (kin_of hin14 (by decide)) dX11_after_90 ?_
              refine lv_iload (pc := 91) hx hcb dX11_after_91 (lv_at hl 6 rfl) ?_
              refine lv_ishr (pc := 93) hx hcb dX11_after_93 ?_
              refine lv_iconst (v := 1) (pc := 94) hx hcb dX11_after_94 rfl ?_
              refine lv_iand (pc := 95) hx hcb dX11_after_95 ?_
              obtain ⟨K119, hk119, h⟩ := h
              have hK119 : ∀  (H : Heap) (locs : List Loc) (ls : Array Slot), K119 → kW kZM X (kA kZM X) s σ H locs → lv_has ls 9 [(0, .ref (X.2.1 0)), (3, .int r2), (4, .int r4), (5, .int x5_6), (6, .int r8), (7, .int x7_10), (8, .int x8_13)] → W p l e rm_X11_after s m args below meth c H locs 0 0 Q (F0 m 119 ls []) := by
                intro  H locs ls h hW hl
                have h := hk119 h
                refine lv_iinc (v := x8_13 + 1) (lv' := [(8, .int (x8_13 + 1)), (0, .ref (X.2.1 0)), (3, .int r2), (4, .int r4), (5, .int x5_6), (6, .int r8), (7, .int x7_10)]) (pc := 119) hx hcb dX11_after_119 hl (k := 6) rfl rfl (by decide) rfl (fun ls hl => ?_)
                refine lv_goto (tgt := 82) (pc := 122) hx hcb dX11_after_122 (by decide) ?_
                exact ih (x8_13 + 1) _ _ _ h hW (lv_sub hl [1, 2, 3, 4, 5, 6, 0] rfl)
              refine lv_if_eq (tgt := 119) (pc := 96) hx hcb dX11_after_96 (by decide) (fun c96 => ?_) (fun c96 => ?_)
              · have h := h.1 c96
                exact hK119  _ _ _ h hW (lv_sub hl [0, 1, 2, 3, 4, 5, 6] rfl)
              · have h := h.2 c96
                refine lv_aload_n (pc := 99) hx hcb dX11_after_99 rfl (lv_at hl 0 rfl) ?_
                refine kget (v := .ref (X.2.1 2)) (pc := 100) hx hcb hts hown hS hW iwX11 kOM_0 rfl 1 (by decide) q859 rfl rfl dX11_after_100 ?_
                refine lv_bipush (v := 8) (pc := 103) hx hcb dX11_after_103 rfl ?_
                refine lv_iload (pc := 105) hx hcb dX11_after_105 (lv_at hl 6 rfl) ?_
                refine lv_imul (pc := 107) hx hcb dX11_after_107 ?_
                refine lv_iload (pc := 108) hx hcb dX11_after_108 (lv_at hl 4 rfl) ?_
                refine lv_iadd (pc := 110) hx hcb dX11_after_110 ?_
                have hin15 := h.1
                have h := h.2
                refine kiald (((8 * x8_13) + r8).toNatClampNeg) (pc := 111) hx hcb hS hW kIM_2 rfl (kin_of hin15 (by decide)) dX11_after_111 ?_
                refine lv_iload (pc := 112) hx hcb dX11_after_112 (lv_at hl 5 rfl) ?_
                refine lv_iconst (v := 1) (pc := 114) hx hcb dX11_after_114 rfl ?_
                refine lv_isub (pc := 115) hx hcb dX11_after_115 ?_
                refine lv_icmp_eq (tgt := 125) (pc := 116) hx hcb dX11_after_116 (by decide) (fun c116 => ?_) (fun c116 => ?_)
                · have h := h.1 c116
                  exact hK125 x8_13 _ _ _ h hW (lv_sub hl [1, 3, 6] rfl)
                · have h := h.2 c116
                  exact hK119  _ _ _ h hW (lv_sub hl [0, 1, 2, 3, 4, 5, 6] rfl)
          obtain ⟨n, h⟩ := h
          exact hL82 n 0 _ _ _ h hW (lv_sub hl [3, 5, 6, 7, 2, 1, 0] rfl)
    refine lv_if_le (tgt := 44) (pc := 30) hx hcb dX11_after_30 (by decide) (fun c30 => ?_) (fun c30 => ?_)
    · have h := h.1 c30
      exact hK44 x5_5 _ _ _ h hW (lv_sub hl [3, 5, 2, 1, 0] rfl)
    · have h := h.2 c30
      refine lv_iinc (v := x5_5 + (-1)) (lv' := [(5, .int (x5_5 + (-1))), (4, .int r4), (3, .int r2), (0, .ref (X.2.1 0)), (1, .int x1), (2, .int x2)]) (pc := 33) hx hcb dX11_after_33 hl (k := 0) rfl rfl (by decide) rfl (fun ls hl => ?_)
      refine lv_iload (pc := 36) hx hcb dX11_after_36 (lv_at hl 0 rfl) ?_
      refine lv_if_ne (tgt := 44) (pc := 38) hx hcb dX11_after_38 (by decide) (fun c38 => ?_) (fun c38 => ?_)
      · have h := h.1 c38
        exact hK44 (x5_5 + (-1)) _ _ _ h hW (lv_sub hl [3, 5, 2, 1, 0] rfl)
      · have h := h.2 c38
        refine lv_iload (pc := 41) hx hcb dX11_after_41 (lv_at hl 1 rfl) ?_
        exact hret _ _ _ _ _ _ rfl ⟨h, rfl⟩ hW dX11_after_43
  · have h := h.2 c12
    refine lv_iload (pc := 15) hx hcb dX11_after_15 (lv_at hl 0 rfl) ?_
    exact hret _ _ _ _ _ _ rfl ⟨h, rfl⟩ hW dX11_after_17
abbrev rm_X11_back : Room := { frames := 0, cells := 0, slots := 0, locals := 0 }
set_option maxHeartbeats 4000000 in
set_option maxRecDepth 100000 in
theorem c_X11_back (l : Launch) (X : KX) (σ : Mm)  (Φ : Int32 → Mm → Prop) (h : wp_X11_back σ  Φ) : Met l yX11_back (.code yX11_back cX11_back 2 (some .int) :: kT) rm_X11_back (va_Pc [.ref (X.2.1 0)] (kPre kZM X σ)) (va_Qi (fun r σ' => Φ r σ') (fun σ' t => kPre kZM X σ' t) (kA kZM X)) 0 0 (kA kZM X) := by
  refine kofI (by decide) (Nat.le_of_ble_eq_true rfl) ?_
  intro p e s m args below meth c ls Q hx hcb hml hown hts hS hW hl hret
  have hown : s.vm.findClass RX11 = some m.cls := hown
  have hl : lv_has ls 2 [(0, .ref (X.2.1 0))] := hl
  unfold wp_X11_back at h
  refine lv_aload_n (pc := 0) hx hcb dX11_back_0 rfl (lv_at hl 0 rfl) ?_
  refine kget (v := .int (σ.1 0 11)) (pc := 1) hx hcb hts hown hS hW iwX11 kOM_0 rfl 11 (by decide) q869 rfl rfl dX11_back_1 ?_
  refine lv_if_ne (tgt := 10) (pc := 4) hx hcb dX11_back_4 (by decide) (fun c4 => ?_) (fun c4 => ?_)
  · have h := h.1 c4
    refine lv_aload_n (pc := 10) hx hcb dX11_back_10 rfl (lv_at hl 0 rfl) ?_
    refine lv_dup (pc := 11) hx hcb dX11_back_11 rfl ?_
    refine kget (v := .int (σ.1 0 11)) (pc := 12) hx hcb hts hown hS hW iwX11 kOM_0 rfl 11 (by decide) q869 rfl rfl dX11_back_12 ?_
    refine lv_iconst (v := 1) (pc := 15) hx hcb dX11_back_15 rfl ?_
    refine lv_isub (pc := 16) hx hcb dX11_back_16 ?_
    refine kput (ty := .int) (pc := 17) hx hcb hts hown hS hW iwX11 tyX11 tyX11_ok nmX11 kOM_0 rfl 11 (by decide) q869 rfl rfl rfl rfl rfl (Nat.le_of_ble_eq_true rfl) rfl dX11_back_17 (fun σ1 H locs eσ1 hW => ?_)
    have h := h σ1 eσ1
    refine lv_iconst (v := 0) (pc := 20) hx hcb dX11_back_20 rfl ?_
    refine lv_istore_n (lv' := [(1, .int 0), (0, .ref (X.2.1 0))]) (pc := 21) hx hcb dX11_back_21 rfl hl (by decide) rfl (fun ls hl => ?_)
    obtain ⟨K52, hk52, h⟩ := h
    have hK52 : ∀ (σ2 : Mm) (H : Heap) (locs : List Loc) (ls : Array Slot), K52 σ2 → kW kZM X (kA kZM X) s σ2 H locs → lv_has ls 2 [(0, .ref (X.2.1 0))] → W p l e rm_X11_back s m args below meth c H locs 0 0 Q (F0 m 52 ls []) := by
      intro σ2 H locs ls h hW hl
      have h := hk52 σ2 h
      refine lv_aload_n (pc := 52) hx hcb dX11_back_52 rfl (lv_at hl 0 rfl) ?_
      refine lv_iconst (v := 0) (pc := 53) hx hcb dX11_back_53 rfl ?_
      refine kput (ty := .int) (pc := 54) hx hcb hts hown hS hW iwX11 tyX11 tyX11_ok nmX11 kOM_0 rfl 9 (by decide) q867 rfl rfl rfl rfl rfl (Nat.le_of_ble_eq_true rfl) rfl dX11_back_54 (fun σ3 H locs eσ3 hW => ?_)
      have h := h σ3 eσ3
      refine lv_aload_n (pc := 57) hx hcb dX11_back_57 rfl (lv_at hl 0 rfl) ?_
      refine kget (v := .int (σ3.1 0 11)) (pc := 58) hx hcb hts hown hS hW iwX11 kOM_0 rfl 11 (by decide) q869 rfl rfl dX11_back_58 ?_
      exact hret _ _ _ _ _ _ rfl h hW dX11_back_61
    have hL22 : ∀ (n : Nat) (σ4 : Mm) (x1_5 : Int32) (H : Heap) (locs : List Loc) (ls : Array Slot), wp_X11_back_L22 K52 n σ4 x1_5 → kW kZM X (kA kZM X) s σ4 H locs → lv_has ls 2 [(0, .ref (X.2.1 0)), (1, .int x1_5)] → W p l e rm_X11_back s m args below meth c H locs 0 0 Q (F0 m 22 ls []) := by
      intro n
      induction n with
      | zero =>
        intro σ4 x1_5 H locs ls h
        exact False.elim h
      | succ n ih =>
        intro σ4 x1_5 H locs ls h hW hl
        unfold wp_X11_back_L22 at h
        refine lv_iload_n (pc := 22) hx hcb dX11_back_22 rfl (lv_at hl 1 rfl) ?_
        refine lv_iconst (v := 3) (pc := 23) hx hcb dX11_back_23 rfl ?_
        refine lv_icmp_ge (tgt := 52) (pc := 24) hx hcb dX11_back_24 (by decide) (fun c24 => ?_) (fun c24 => ?_)
        · have h := h.1 c24
          exact hK52 σ4 _ _ _ h hW (lv_sub hl [0] rfl)
        · have h := h.2 c24
          refine lv_aload_n (pc := 27) hx hcb dX11_back_27 rfl (lv_at hl 0 rfl) ?_
          refine kget (v := .ref (X.2.1 4)) (pc := 28) hx hcb hts hown hS hW iwX11 kOM_0 rfl 7 (by decide) q865 rfl rfl dX11_back_28 ?_
          refine lv_iload_n (pc := 31) hx hcb dX11_back_31 rfl (lv_at hl 1 rfl) ?_
          refine lv_aload_n (pc := 32) hx hcb dX11_back_32 rfl (lv_at hl 0 rfl) ?_
          refine kget (v := .ref (X.2.1 6)) (pc := 33) hx hcb hts hown hS hW iwX11 kOM_0 rfl 10 (by decide) q868 rfl rfl dX11_back_33 ?_
          refine lv_iconst (v := 3) (pc := 36) hx hcb dX11_back_36 rfl ?_
          refine lv_aload_n (pc := 37) hx hcb dX11_back_37 rfl (lv_at hl 0 rfl) ?_
          refine kget (v := .int (σ4.1 0 11)) (pc := 38) hx hcb hts hown hS hW iwX11 kOM_0 rfl 11 (by decide) q869 rfl rfl dX11_back_38 ?_
          refine lv_imul (pc := 41) hx hcb dX11_back_41 ?_
          refine lv_iload_n (pc := 42) hx hcb dX11_back_42 rfl (lv_at hl 1 rfl) ?_
          refine lv_iadd (pc := 43) hx hcb dX11_back_43 ?_
          have hin6 := h.1
          have h := h.2
          refine kiald (((3 * (σ4.1 0 11)) + x1_5).toNatClampNeg) (pc := 44) hx hcb hS hW kIM_6 rfl (kin_of hin6 (by decide)) dX11_back_44 ?_
          have hin7 := h.1
          have h := h.2
          refine kiast (x1_5.toNatClampNeg) (pc := 45) hx hcb hS hW kIM_4 rfl (kin_of hin7 (by decide)) dX11_back_45 (fun σ8 H locs eσ8 hW => ?_)
          have h := h σ8 eσ8
          refine lv_iinc (v := x1_5 + 1) (lv' := [(1, .int (x1_5 + 1)), (0, .ref (X.2.1 0))]) (pc := 46) hx hcb dX11_back_46 hl (k := 1) rfl rfl (by decide) rfl (fun ls hl => ?_)
          refine lv_goto (tgt := 22) (pc := 49) hx hcb dX11_back_49 (by decide) ?_
          exact ih σ8 (x1_5 + 1) _ _ _ h hW (lv_sub hl [1, 0] rfl)
    obtain ⟨n, h⟩ := h
    exact hL22 n σ1 0 _ _ _ h hW (lv_sub hl [1, 0] rfl)
  · have h := h.2 c4
    refine lv_bipush (v := (-2)) (pc := 7) hx hcb dX11_back_7 rfl ?_
    exact hret _ _ _ _ _ _ rfl h hW dX11_back_9
abbrev rm_X11_bar : Room := { frames := 1, cells := 0, slots := 0, locals := 20 }
set_option maxHeartbeats 4000000 in
set_option maxRecDepth 100000 in
theorem c_X11_bar (l : Launch) (X : KX) (σ : Mm) (x1 : Int32) (Φ : Mm → Prop) (h : wp_X11_bar σ x1 Φ) : Met l yX11_bar (.code yX11_bar cX11_bar 4 none :: kT) rm_X11_bar (va_Pc [.ref (X.2.1 0), .int x1] (kPre kZM X σ)) (va_Qv (fun σ' => Φ σ') (fun σ' t => kPre kZM X σ' t) (kA kZM X)) 0 0 (kA kZM X) := by
  refine kofV (by decide) (Nat.le_of_ble_eq_true rfl) ?_
  intro p e s m args below meth c ls Q hx hcb hml hown hts hS hW hl hret
  have hown : s.vm.findClass RX11 = some m.cls := hown
  have hl : lv_has ls 4 [(0, .ref (X.2.1 0)), (1, .int x1)] := hl
  unfold wp_X11_bar at h
  refine lv_iconst (v := 0) (pc := 0) hx hcb dX11_bar_0 rfl ?_
  refine lv_istore_n (lv' := [(2, .int 0), (0, .ref (X.2.1 0)), (1, .int x1)]) (pc := 1) hx hcb dX11_bar_1 rfl hl (by decide) rfl (fun ls hl => ?_)
  have hL2 : ∀ (n : Nat) (σ1 : Mm) (x2_2 : Int32) (H : Heap) (locs : List Loc) (ls : Array Slot), wp_X11_bar_L2 x1 Φ n σ1 x2_2 → kW kZM X (kA kZM X) s σ1 H locs → lv_has ls 4 [(0, .ref (X.2.1 0)), (1, .int x1), (2, .int x2_2)] → W p l e rm_X11_bar s m args below meth c H locs 0 0 Q (F0 m 2 ls []) := by
    intro n
    induction n with
    | zero =>
      intro σ1 x2_2 H locs ls h
      exact False.elim h
    | succ n ih =>
      intro σ1 x2_2 H locs ls h hW hl
      unfold wp_X11_bar_L2 at h
      refine lv_iload_n (pc := 2) hx hcb dX11_bar_2 rfl (lv_at hl 2 rfl) ?_
      refine lv_aload_n (pc := 3) hx hcb dX11_bar_3 rfl (lv_at hl 0 rfl) ?_
      refine kget (v := .int (σ1.1 0 21)) (pc := 4) hx hcb hts hown hS hW iwX11 kOM_0 rfl 21 (by decide) q879 rfl rfl dX11_bar_4 ?_
      refine lv_icmp_ge (tgt := 70) (pc := 7) hx hcb dX11_bar_7 (by decide) (fun c7 => ?_) (fun c7 => ?_)
      · have h := h.1 c7
        exact hret _ _ _ _ _ h hW dX11_bar_70
      · have h := h.2 c7
        refine lv_iconst (v := 0) (pc := 10) hx hcb dX11_bar_10 rfl ?_
        refine lv_istore_n (lv' := [(3, .int 0), (0, .ref (X.2.1 0)), (1, .int x1), (2, .int x2_2)]) (pc := 11) hx hcb dX11_bar_11 rfl hl (by decide) rfl (fun ls hl => ?_)
        obtain ⟨K64, hk64, h⟩ := h
        have hK64 : ∀ (σ3 : Mm) (H : Heap) (locs : List Loc) (ls : Array Slot), K64 σ3 → kW kZM X (kA kZM X) s σ3 H locs → lv_has ls 4 [(0, .ref (X.2.1 0)), (1, .int x1), (2, .int x2_2)] → W p l e rm_X11_bar s m args below meth c H locs 0 0 Q (F0 m 64 ls []) := by
          intro σ3 H locs ls h hW hl
          have h := hk64 σ3 h
          refine lv_iinc (v := x2_2 + 1) (lv' := [(2, .int (x2_2 + 1)), (0, .ref (X.2.1 0)), (1, .int x1)]) (pc := 64) hx hcb dX11_bar_64 hl (k := 2) rfl rfl (by decide) rfl (fun ls hl => ?_)
          refine lv_goto (tgt := 2) (pc := 67) hx hcb dX11_bar_67 (by decide) ?_
          exact ih σ3 (x2_2 + 1) _ _ _ h hW (lv_sub hl [1, 2, 0] rfl)
        have hL12 : ∀ (n : Nat) (σ4 : Mm) (x3_5 : Int32) (H : Heap) (locs : List Loc) (ls : Array Slot), wp_X11_bar_L12 x1 x2_2 K64 n σ4 x3_5 → kW kZM X (kA kZM X) s σ4 H locs → lv_has ls 4 [(0, .ref (X.2.1 0)), (1, .int x1), (2, .int x2_2), (3, .int x3_5)] → W p l e rm_X11_bar s m args below meth c H locs 0 0 Q (F0 m 12 ls []) := by
          intro n
          induction n with
          | zero =>
            intro σ4 x3_5 H locs ls h
            exact False.elim h
          | succ n ih =>
            intro σ4 x3_5 H locs ls h hW hl
            unfold wp_X11_bar_L12 at h
            refine lv_iload_n (pc := 12) hx hcb dX11_bar_12 rfl (lv_at hl 3 rfl) ?_
            refine lv_sipush (v := 1008) (pc := 13) hx hcb dX11_bar_13 rfl ?_
            refine lv_icmp_ge (tgt := 64) (pc := 16) hx hcb dX11_bar_16 (by decide) (fun c16 => ?_) (fun c16 => ?_)
            · have h := h.1 c16
              exact hK64 σ4 _ _ _ h hW (lv_sub hl [0, 1, 2] rfl)
            · have h := h.2 c16
              refine lv_aload_n (pc := 19) hx hcb dX11_bar_19 rfl (lv_at hl 0 rfl) ?_
              refine kget (v := .ref (X.2.1 15)) (pc := 20) hx hcb hts hown hS hW iwX11 kOM_0 rfl 22 (by decide) q880 rfl rfl dX11_bar_20 ?_
              refine lv_iload_n (pc := 23) hx hcb dX11_bar_23 rfl (lv_at hl 3 rfl) ?_
              refine lv_aload_n (pc := 24) hx hcb dX11_bar_24 rfl (lv_at hl 0 rfl) ?_
              refine kget (v := .ref (X.2.1 14)) (pc := 25) hx hcb hts hown hS hW iwX11 kOM_0 rfl 20 (by decide) q878 rfl rfl dX11_bar_25 ?_
              refine lv_iload_n (pc := 28) hx hcb dX11_bar_28 rfl (lv_at hl 2 rfl) ?_
              have hin6 := h.1
              have h := h.2
              refine kiald (x2_2.toNatClampNeg) (pc := 29) hx hcb hS hW kIM_14 rfl (kin_of hin6 (by decide)) dX11_bar_29 ?_
              refine lv_iload_n (pc := 30) hx hcb dX11_bar_30 rfl (lv_at hl 1 rfl) ?_
              obtain ⟨K57, hk57, h⟩ := h
              have hK57 : ∀ (v7 : Int64) (H : Heap) (locs : List Loc) (ls : Array Slot), K57 v7 → kW kZM X (kA kZM X) s σ4 H locs → lv_has ls 4 [(0, .ref (X.2.1 0)), (1, .int x1), (2, .int x2_2), (3, .int x3_5)] → W p l e rm_X11_bar s m args below meth c H locs 0 0 Q (F0 m 57 ls [.long v7, .int x3_5, .ref (X.2.1 15)]) := by
                intro v7 H locs ls h hW hl
                have h := hk57 v7 h
                have hin8 := h.1
                have h := h.2
                refine klast (x3_5.toNatClampNeg) (pc := 57) hx hcb hS hW kJM_15 rfl (kin_of hin8 (by decide)) dX11_bar_57 (fun σ9 H locs eσ9 hW => ?_)
                have h := h σ9 eσ9
                refine lv_iinc (v := x3_5 + 1) (lv' := [(3, .int (x3_5 + 1)), (0, .ref (X.2.1 0)), (1, .int x1), (2, .int x2_2)]) (pc := 58) hx hcb dX11_bar_58 hl (k := 3) rfl rfl (by decide) rfl (fun ls hl => ?_)
                refine lv_goto (tgt := 12) (pc := 61) hx hcb dX11_bar_61 (by decide) ?_
                exact ih σ9 (x3_5 + 1) _ _ _ h hW (lv_sub hl [1, 2, 3, 0] rfl)
              obtain ⟨K51, hk51, h⟩ := h
              have hK51 : ∀  (H : Heap) (locs : List Loc) (ls : Array Slot), K51 → kW kZM X (kA kZM X) s σ4 H locs → lv_has ls 4 [(0, .ref (X.2.1 0)), (1, .int x1), (2, .int x2_2), (3, .int x3_5)] → W p l e rm_X11_bar s m args below meth c H locs 0 0 Q (F0 m 51 ls [.int x3_5, .ref (X.2.1 15)]) := by
                intro  H locs ls h hW hl
                have h := hk51 h
                refine lv_aload_n (pc := 51) hx hcb dX11_bar_51 rfl (lv_at hl 0 rfl) ?_
                refine kget (v := .ref (X.2.1 15)) (pc := 52) hx hcb hts hown hS hW iwX11 kOM_0 rfl 22 (by decide) q880 rfl rfl dX11_bar_52 ?_
                refine lv_iload_n (pc := 55) hx hcb dX11_bar_55 rfl (lv_at hl 3 rfl) ?_
                have hin10 := h.1
                have h := h.2
                refine klald (x3_5.toNatClampNeg) (pc := 56) hx hcb hS hW kJM_15 rfl (kin_of hin10 (by decide)) dX11_bar_56 ?_
                exact hK57 (σ4.2.1 15 (x3_5.toNatClampNeg)) _ _ _ h hW (lv_sub hl [0, 1, 2, 3] rfl)
              refine lv_icmp_ne (tgt := 51) (pc := 31) hx hcb dX11_bar_31 (by decide) (fun c31 => ?_) (fun c31 => ?_)
              · have h := h.1 c31
                exact hK51  _ _ _ h hW (lv_sub hl [0, 1, 2, 3] rfl)
              · have h := h.2 c31
                refine lv_iload_n (pc := 34) hx hcb dX11_bar_34 rfl (lv_at hl 3 rfl) ?_
                refine kci (krunS (As := [.int x3_5]) (rest := [.int x3_5, .ref (X.2.1 15)]) (pc := 35) hx hcb hml hown hts hS hW (c_X11_yardOf l X σ4 x3_5 _ h) mf_X11_yardOf q1004 ⟨rfl, rfl⟩ ⟨Nat.le_of_ble_eq_true rfl, Nat.le_of_ble_eq_true rfl⟩ rfl hl.1 rfl (Nat.le_of_ble_eq_true rfl) dX11_bar_35 ⟨Nat.zero_le _, Nat.zero_le _⟩) hS hW (fun r12 σ11 H locs h hW => ?_)
                obtain ⟨h, rfl⟩ := h
                refine lv_aload_n (pc := 38) hx hcb dX11_bar_38 rfl (lv_at hl 0 rfl) ?_
                refine kget (v := .ref (X.2.1 13)) (pc := 39) hx hcb hts hown hS hW iwX11 kOM_0 rfl 19 (by decide) q877 rfl rfl dX11_bar_39 ?_
                refine lv_iload_n (pc := 42) hx hcb dX11_bar_42 rfl (lv_at hl 2 rfl) ?_
                have hin13 := h.1
                have h := h.2
                refine kiald (x2_2.toNatClampNeg) (pc := 43) hx hcb hS hW kIM_13 rfl (kin_of hin13 (by decide)) dX11_bar_43 ?_
                refine lv_icmp_eq (tgt := 51) (pc := 44) hx hcb dX11_bar_44 (by decide) (fun c44 => ?_) (fun c44 => ?_)
                · have h := h.1 c44
                  exact hK51  _ _ _ h hW (lv_sub hl [0, 1, 2, 3] rfl)
                · have h := h.2 c44
                  refine lv_lconst (v := 0) (pc := 47) hx hcb dX11_bar_47 rfl ?_
                  refine lv_goto (tgt := 57) (pc := 48) hx hcb dX11_bar_48 (by decide) ?_
                  exact hK57 0 _ _ _ h hW (lv_sub hl [0, 1, 2, 3] rfl)
        obtain ⟨n, h⟩ := h
        exact hL12 n σ1 0 _ _ _ h hW (lv_sub hl [1, 2, 3, 0] rfl)
  obtain ⟨n, h⟩ := h
  exact hL2 n σ 0 _ _ _ h hW (lv_sub hl [1, 2, 0] rfl)
abbrev rm_X11_in : Room := { frames := 0, cells := 0, slots := 0, locals := 0 }
set_option maxHeartbeats 4000000 in
set_option maxRecDepth 100000 in
theorem c_X11_in (l : Launch) (X : KX) (σ : Mm) (x0 : Int32) (x1 : Int32) (x2 : Int32) (Φ : Int32 → Prop) (h : wp_X11_in x0 x1 x2 Φ) : Met l yX11_in (.code yX11_in cX11_in 3 (some .boolean) :: kT) rm_X11_in (va_Pc [.int x0, .int x1, .int x2] (kPre kZM X σ)) (va_Qi (fun r σ' => Φ r ∧ σ = σ') (fun σ' t => kPre kZM X σ' t) (kA kZM X)) 0 0 (kA kZM X) := by
  refine kofI (by decide) (Nat.le_of_ble_eq_true rfl) ?_
  intro p e s m args below meth c ls Q hx hcb hml hown hts hS hW hl hret
  have hown : s.vm.findClass RX11 = some m.cls := hown
  have hl : lv_has ls 3 [(0, .int x0), (1, .int x1), (2, .int x2)] := hl
  unfold wp_X11_in at h
  refine lv_iload_n (pc := 0) hx hcb dX11_in_0 rfl (lv_at hl 0 rfl) ?_
  refine lv_iload_n (pc := 1) hx hcb dX11_in_1 rfl (lv_at hl 1 rfl) ?_
  refine lv_icmp_lt (tgt := 14) (pc := 2) hx hcb dX11_in_2 (by decide) (fun c2 => ?_) (fun c2 => ?_)
  · have h := h.1 c2
    refine lv_iconst (v := 0) (pc := 14) hx hcb dX11_in_14 rfl ?_
    exact hret _ _ _ _ _ _ rfl ⟨h, rfl⟩ hW dX11_in_15
  · have h := h.2 c2
    refine lv_iload_n (pc := 5) hx hcb dX11_in_5 rfl (lv_at hl 0 rfl) ?_
    refine lv_iload_n (pc := 6) hx hcb dX11_in_6 rfl (lv_at hl 2 rfl) ?_
    refine lv_icmp_gt (tgt := 14) (pc := 7) hx hcb dX11_in_7 (by decide) (fun c7 => ?_) (fun c7 => ?_)
    · have h := h.1 c7
      refine lv_iconst (v := 0) (pc := 14) hx hcb dX11_in_14 rfl ?_
      exact hret _ _ _ _ _ _ rfl ⟨h, rfl⟩ hW dX11_in_15
    · have h := h.2 c7
      refine lv_iconst (v := 1) (pc := 10) hx hcb dX11_in_10 rfl ?_
      refine lv_goto (tgt := 15) (pc := 11) hx hcb dX11_in_11 (by decide) ?_
      exact hret _ _ _ _ _ _ rfl ⟨h, rfl⟩ hW dX11_in_15
abbrev rm_X11_isState : Room := { frames := 1, cells := 0, slots := 0, locals := 22 }
set_option maxHeartbeats 4000000 in
set_option maxRecDepth 100000 in
theorem c_X11_isState (l : Launch) (X : KX) (σ : Mm) (x1 : Int32) (Φ : Int32 → Prop) (h : wp_X11_isState σ x1 Φ) : Met l yX11_isState (.code yX11_isState cX11_isState 4 (some .boolean) :: kT) rm_X11_isState (va_Pc [.ref (X.2.1 0), .int x1] (kPre kZM X σ)) (va_Qi (fun r σ' => Φ r ∧ σ = σ') (fun σ' t => kPre kZM X σ' t) (kA kZM X)) 0 0 (kA kZM X) := by
  refine kofI (by decide) (Nat.le_of_ble_eq_true rfl) ?_
  intro p e s m args below meth c ls Q hx hcb hml hown hts hS hW hl hret
  have hown : s.vm.findClass RX11 = some m.cls := hown
  have hl : lv_has ls 4 [(0, .ref (X.2.1 0)), (1, .int x1)] := hl
  unfold wp_X11_isState at h
  refine lv_iload_n (pc := 0) hx hcb dX11_isState_0 rfl (lv_at hl 1 rfl) ?_
  refine lv_bipush (v := 48) (pc := 1) hx hcb dX11_isState_1 rfl ?_
  refine lv_idiv (pc := 3) hx hcb dX11_isState_3 (by decide) ?_
  refine lv_topi (fun x2_1 ex2_1 => ?_)
  have h := h x2_1 ex2_1
  refine lv_istore_n (lv' := [(2, .int x2_1), (0, .ref (X.2.1 0)), (1, .int x1)]) (pc := 4) hx hcb dX11_isState_4 rfl hl (by decide) rfl (fun ls hl => ?_)
  refine lv_iload_n (pc := 5) hx hcb dX11_isState_5 rfl (lv_at hl 2 rfl) ?_
  refine kci (krunS (As := [.int x1]) (rest := []) (pc := 6) hx hcb hml hown hts hS hW (c_X11_whomOf l X σ x1 _ h) mf_X11_whomOf q1027 ⟨rfl, rfl⟩ ⟨Nat.le_of_ble_eq_true rfl, Nat.le_of_ble_eq_true rfl⟩ rfl hl.1 rfl (Nat.le_of_ble_eq_true rfl) dX11_isState_6 ⟨Nat.zero_le _, Nat.zero_le _⟩) hS hW (fun r3 σ2 H locs h hW => ?_)
  obtain ⟨h, rfl⟩ := h
  obtain ⟨K44, hk44, h⟩ := h
  have hK44 : ∀ (v4 : Int32) (H : Heap) (locs : List Loc) (ls : Array Slot), K44 v4 → kW kZM X (kA kZM X) s σ H locs → lv_has ls 4 [(0, .ref (X.2.1 0)), (1, .int x1)] → W p l e rm_X11_isState s m args below meth c H locs 0 0 Q (F0 m 44 ls [.int v4]) := by
    intro v4 H locs ls h hW hl
    have h := hk44 v4 h
    refine lv_istore_n (lv' := [(3, .int v4), (0, .ref (X.2.1 0)), (1, .int x1)]) (pc := 44) hx hcb dX11_isState_44 rfl hl (by decide) rfl (fun ls hl => ?_)
    refine lv_iload_n (pc := 45) hx hcb dX11_isState_45 rfl (lv_at hl 2 rfl) ?_
    refine kci (krunS (As := [.int x1]) (rest := []) (pc := 46) hx hcb hml hown hts hS hW (c_X11_yardOf l X σ x1 _ h) mf_X11_yardOf q1004 ⟨rfl, rfl⟩ ⟨Nat.le_of_ble_eq_true rfl, Nat.le_of_ble_eq_true rfl⟩ rfl hl.1 rfl (Nat.le_of_ble_eq_true rfl) dX11_isState_46 ⟨Nat.zero_le _, Nat.zero_le _⟩) hS hW (fun r6 σ5 H locs h hW => ?_)
    obtain ⟨h, rfl⟩ := h
    refine lv_aload_n (pc := 49) hx hcb dX11_isState_49 rfl (lv_at hl 1 rfl) ?_
    refine kget (v := .ref (X.2.1 1)) (pc := 50) hx hcb hts hown hS hW iwX11 kOM_0 rfl 0 (by decide) q858 rfl rfl dX11_isState_50 ?_
    refine lv_iconst (v := 0) (pc := 53) hx hcb dX11_isState_53 rfl ?_
    refine kiald 0 (pc := 54) hx hcb hS hW kIM_1 rfl (kin_of ⟨by decide, by decide⟩ (by decide)) dX11_isState_54 ?_
    refine lv_icmp_ge (tgt := 79) (pc := 55) hx hcb dX11_isState_55 (by decide) (fun c55 => ?_) (fun c55 => ?_)
    · have h := h.1 c55
      refine lv_iconst (v := 0) (pc := 79) hx hcb dX11_isState_79 rfl ?_
      exact hret _ _ _ _ _ _ rfl ⟨h, rfl⟩ hW dX11_isState_80
    · have h := h.2 c55
      refine lv_iload_n (pc := 58) hx hcb dX11_isState_58 rfl (lv_at hl 2 rfl) ?_
      refine kci (krunS (As := [.int x1]) (rest := []) (pc := 59) hx hcb hml hown hts hS hW (c_X11_whomOf l X σ x1 _ h) mf_X11_whomOf q1027 ⟨rfl, rfl⟩ ⟨Nat.le_of_ble_eq_true rfl, Nat.le_of_ble_eq_true rfl⟩ rfl hl.1 rfl (Nat.le_of_ble_eq_true rfl) dX11_isState_59 ⟨Nat.zero_le _, Nat.zero_le _⟩) hS hW (fun r8 σ7 H locs h hW => ?_)
      obtain ⟨h, rfl⟩ := h
      refine lv_aload_n (pc := 62) hx hcb dX11_isState_62 rfl (lv_at hl 1 rfl) ?_
      refine kget (v := .ref (X.2.1 1)) (pc := 63) hx hcb hts hown hS hW iwX11 kOM_0 rfl 0 (by decide) q858 rfl rfl dX11_isState_63 ?_
      refine lv_iconst (v := 1) (pc := 66) hx hcb dX11_isState_66 rfl ?_
      refine kiald 1 (pc := 67) hx hcb hS hW kIM_1 rfl (kin_of ⟨by decide, by decide⟩ (by decide)) dX11_isState_67 ?_
      refine lv_icmp_ge (tgt := 79) (pc := 68) hx hcb dX11_isState_68 (by decide) (fun c68 => ?_) (fun c68 => ?_)
      · have h := h.1 c68
        refine lv_iconst (v := 0) (pc := 79) hx hcb dX11_isState_79 rfl ?_
        exact hret _ _ _ _ _ _ rfl ⟨h, rfl⟩ hW dX11_isState_80
      · have h := h.2 c68
        refine lv_iload_n (pc := 71) hx hcb dX11_isState_71 rfl (lv_at hl 0 rfl) ?_
        refine lv_if_eq (tgt := 79) (pc := 72) hx hcb dX11_isState_72 (by decide) (fun c72 => ?_) (fun c72 => ?_)
        · have h := h.1 c72
          refine lv_iconst (v := 0) (pc := 79) hx hcb dX11_isState_79 rfl ?_
          exact hret _ _ _ _ _ _ rfl ⟨h, rfl⟩ hW dX11_isState_80
        · have h := h.2 c72
          refine lv_iconst (v := 1) (pc := 75) hx hcb dX11_isState_75 rfl ?_
          refine lv_goto (tgt := 80) (pc := 76) hx hcb dX11_isState_76 (by decide) ?_
          exact hret _ _ _ _ _ _ rfl ⟨h, rfl⟩ hW dX11_isState_80
  obtain ⟨K21, hk21, h⟩ := h
  have hK21 : ∀  (H : Heap) (locs : List Loc) (ls : Array Slot), K21 → kW kZM X (kA kZM X) s σ H locs → lv_has ls 4 [(0, .ref (X.2.1 0)), (1, .int x1), (2, .int x2_1)] → W p l e rm_X11_isState s m args below meth c H locs 0 0 Q (F0 m 21 ls []) := by
    intro  H locs ls h hW hl
    have h := hk21 h
    refine lv_iload_n (pc := 21) hx hcb dX11_isState_21 rfl (lv_at hl 2 rfl) ?_
    refine lv_if_ne (tgt := 29) (pc := 22) hx hcb dX11_isState_22 (by decide) (fun c22 => ?_) (fun c22 => ?_)
    · have h := h.1 c22
      refine lv_iconst (v := 0) (pc := 29) hx hcb dX11_isState_29 rfl ?_
      refine lv_goto (tgt := 44) (pc := 30) hx hcb dX11_isState_30 (by decide) ?_
      exact hK44 0 _ _ _ h hW (lv_sub hl [0, 1] rfl)
    · have h := h.2 c22
      refine lv_iconst (v := 1) (pc := 25) hx hcb dX11_isState_25 rfl ?_
      refine lv_goto (tgt := 44) (pc := 26) hx hcb dX11_isState_26 (by decide) ?_
      exact hK44 1 _ _ _ h hW (lv_sub hl [0, 1] rfl)
  refine lv_if_lt (tgt := 21) (pc := 9) hx hcb dX11_isState_9 (by decide) (fun c9 => ?_) (fun c9 => ?_)
  · have h := h.1 c9
    exact hK21  _ _ _ h hW (lv_sub hl [1, 2, 0] rfl)
  · have h := h.2 c9
    refine lv_aload_n (pc := 12) hx hcb dX11_isState_12 rfl (lv_at hl 1 rfl) ?_
    refine kget (v := .ref (X.2.1 1)) (pc := 13) hx hcb hts hown hS hW iwX11 kOM_0 rfl 0 (by decide) q858 rfl rfl dX11_isState_13 ?_
    refine lv_iconst (v := 2) (pc := 16) hx hcb dX11_isState_16 rfl ?_
    refine kiald 2 (pc := 17) hx hcb hS hW kIM_1 rfl (kin_of ⟨by decide, by decide⟩ (by decide)) dX11_isState_17 ?_
    refine lv_if_ne (tgt := 33) (pc := 18) hx hcb dX11_isState_18 (by decide) (fun c18 => ?_) (fun c18 => ?_)
    · have h := h.1 c18
      refine lv_iload_n (pc := 33) hx hcb dX11_isState_33 rfl (lv_at hl 0 rfl) ?_
      refine lv_iconst (v := 1) (pc := 34) hx hcb dX11_isState_34 rfl ?_
      refine lv_aload_n (pc := 35) hx hcb dX11_isState_35 rfl (lv_at hl 1 rfl) ?_
      refine kget (v := .ref (X.2.1 1)) (pc := 36) hx hcb hts hown hS hW iwX11 kOM_0 rfl 0 (by decide) q858 rfl rfl dX11_isState_36 ?_
      refine lv_iconst (v := 2) (pc := 39) hx hcb dX11_isState_39 rfl ?_
      refine kiald 2 (pc := 40) hx hcb hS hW kIM_1 rfl (kin_of ⟨by decide, by decide⟩ (by decide)) dX11_isState_40 ?_
      refine kci (krunS (As := [.int x2_1, .int 1, .int (σ.1 1 2)]) (rest := []) (pc := 41) hx hcb hml hown hts hS hW (c_X11_in l X σ x2_1 1 (σ.1 1 2) _ h) mf_X11_in q936 ⟨rfl, rfl⟩ ⟨Nat.le_of_ble_eq_true rfl, Nat.le_of_ble_eq_true rfl⟩ rfl hl.1 rfl (Nat.le_of_ble_eq_true rfl) dX11_isState_41 ⟨Nat.zero_le _, Nat.zero_le _⟩) hS hW (fun r10 σ9 H locs h hW => ?_)
      obtain ⟨h, rfl⟩ := h
      exact hK44 r10 _ _ _ h hW (lv_sub hl [1, 2] rfl)
    · have h := h.2 c18
      exact hK21  _ _ _ h hW (lv_sub hl [1, 2, 0] rfl)
abbrev rm_X11_isUpTo : Room := { frames := 0, cells := 0, slots := 0, locals := 0 }
set_option maxHeartbeats 4000000 in
set_option maxRecDepth 100000 in
theorem c_X11_isUpTo (l : Launch) (X : KX) (σ : Mm) (x1 : Int32) (x2 : Int32) (Φ : Int32 → Prop) (h : wp_X11_isUpTo σ x1 x2 Φ) : Met l yX11_isUpTo (.code yX11_isUpTo cX11_isUpTo 3 (some .boolean) :: kT) rm_X11_isUpTo (va_Pc [.ref (X.2.1 0), .int x1, .int x2] (kPre kZM X σ)) (va_Qi (fun r σ' => Φ r ∧ σ = σ') (fun σ' t => kPre kZM X σ' t) (kA kZM X)) 0 0 (kA kZM X) := by
  refine kofI (by decide) (Nat.le_of_ble_eq_true rfl) ?_
  intro p e s m args below meth c ls Q hx hcb hml hown hts hS hW hl hret
  have hown : s.vm.findClass RX11 = some m.cls := hown
  have hl : lv_has ls 3 [(0, .ref (X.2.1 0)), (1, .int x1), (2, .int x2)] := hl
  unfold wp_X11_isUpTo at h
  refine lv_aload_n (pc := 0) hx hcb dX11_isUpTo_0 rfl (lv_at hl 0 rfl) ?_
  refine kget (v := .ref (X.2.1 8)) (pc := 1) hx hcb hts hown hS hW iwX11 kOM_0 rfl 13 (by decide) q871 rfl rfl dX11_isUpTo_1 ?_
  refine lv_iload_n (pc := 4) hx hcb dX11_isUpTo_4 rfl (lv_at hl 1 rfl) ?_
  have hin1 := h.1
  have h := h.2
  refine kiald (x1.toNatClampNeg) (pc := 5) hx hcb hS hW kIM_8 rfl (kin_of hin1 (by decide)) dX11_isUpTo_5 ?_
  refine lv_aload_n (pc := 6) hx hcb dX11_isUpTo_6 rfl (lv_at hl 0 rfl) ?_
  refine kget (v := .ref (X.2.1 8)) (pc := 7) hx hcb hts hown hS hW iwX11 kOM_0 rfl 13 (by decide) q871 rfl rfl dX11_isUpTo_7 ?_
  refine lv_iload_n (pc := 10) hx hcb dX11_isUpTo_10 rfl (lv_at hl 2 rfl) ?_
  have hin2 := h.1
  have h := h.2
  refine kiald (x2.toNatClampNeg) (pc := 11) hx hcb hS hW kIM_8 rfl (kin_of hin2 (by decide)) dX11_isUpTo_11 ?_
  refine lv_icmp_lt (tgt := 35) (pc := 12) hx hcb dX11_isUpTo_12 (by decide) (fun c12 => ?_) (fun c12 => ?_)
  · have h := h.1 c12
    refine lv_iconst (v := 1) (pc := 35) hx hcb dX11_isUpTo_35 rfl ?_
    refine lv_goto (tgt := 40) (pc := 36) hx hcb dX11_isUpTo_36 (by decide) ?_
    exact hret _ _ _ _ _ _ rfl ⟨h, rfl⟩ hW dX11_isUpTo_40
  · have h := h.2 c12
    refine lv_aload_n (pc := 15) hx hcb dX11_isUpTo_15 rfl (lv_at hl 0 rfl) ?_
    refine kget (v := .ref (X.2.1 8)) (pc := 16) hx hcb hts hown hS hW iwX11 kOM_0 rfl 13 (by decide) q871 rfl rfl dX11_isUpTo_16 ?_
    refine lv_iload_n (pc := 19) hx hcb dX11_isUpTo_19 rfl (lv_at hl 1 rfl) ?_
    have hin3 := h.1
    have h := h.2
    refine kiald (x1.toNatClampNeg) (pc := 20) hx hcb hS hW kIM_8 rfl (kin_of hin3 (by decide)) dX11_isUpTo_20 ?_
    refine lv_aload_n (pc := 21) hx hcb dX11_isUpTo_21 rfl (lv_at hl 0 rfl) ?_
    refine kget (v := .ref (X.2.1 8)) (pc := 22) hx hcb hts hown hS hW iwX11 kOM_0 rfl 13 (by decide) q871 rfl rfl dX11_isUpTo_22 ?_
    refine lv_iload_n (pc := 25) hx hcb dX11_isUpTo_25 rfl (lv_at hl 2 rfl) ?_
    have hin4 := h.1
    have h := h.2
    refine kiald (x2.toNatClampNeg) (pc := 26) hx hcb hS hW kIM_8 rfl (kin_of hin4 (by decide)) dX11_isUpTo_26 ?_
    refine lv_icmp_ne (tgt := 39) (pc := 27) hx hcb dX11_isUpTo_27 (by decide) (fun c27 => ?_) (fun c27 => ?_)
    · have h := h.1 c27
      refine lv_iconst (v := 0) (pc := 39) hx hcb dX11_isUpTo_39 rfl ?_
      exact hret _ _ _ _ _ _ rfl ⟨h, rfl⟩ hW dX11_isUpTo_40
    · have h := h.2 c27
      refine lv_iload_n (pc := 30) hx hcb dX11_isUpTo_30 rfl (lv_at hl 1 rfl) ?_
      refine lv_iload_n (pc := 31) hx hcb dX11_isUpTo_31 rfl (lv_at hl 2 rfl) ?_
      refine lv_icmp_gt (tgt := 39) (pc := 32) hx hcb dX11_isUpTo_32 (by decide) (fun c32 => ?_) (fun c32 => ?_)
      · have h := h.1 c32
        refine lv_iconst (v := 0) (pc := 39) hx hcb dX11_isUpTo_39 rfl ?_
        exact hret _ _ _ _ _ _ rfl ⟨h, rfl⟩ hW dX11_isUpTo_40
      · have h := h.2 c32
        refine lv_iconst (v := 1) (pc := 35) hx hcb dX11_isUpTo_35 rfl ?_
        refine lv_goto (tgt := 40) (pc := 36) hx hcb dX11_isUpTo_36 (by decide) ?_
        exact hret _ _ _ _ _ _ rfl ⟨h, rfl⟩ hW dX11_isUpTo_40
abbrev rm_X11_fits : Room := { frames := 1, cells := 0, slots := 0, locals := 22 }
set_option maxHeartbeats 4000000 in
set_option maxRecDepth 100000 in
theorem c_X11_fits (l : Launch) (X : KX) (σ : Mm) (x1 : Int32) (x2 : Int32) (x3 : Int32) (Φ : Int32 → Prop) (h : wp_X11_fits σ x1 x2 x3 Φ) : Met l yX11_fits (.code yX11_fits cX11_fits 6 (some .boolean) :: kT) rm_X11_fits (va_Pc [.ref (X.2.1 0), .int x1, .int x2, .int x3] (kPre kZM X σ)) (va_Qi (fun r σ' => Φ r ∧ σ = σ') (fun σ' t => kPre kZM X σ' t) (kA kZM X)) 0 0 (kA kZM X) := by
  refine kofI (by decide) (Nat.le_of_ble_eq_true rfl) ?_
  intro p e s m args below meth c ls Q hx hcb hml hown hts hS hW hl hret
  have hown : s.vm.findClass RX11 = some m.cls := hown
  have hl : lv_has ls 6 [(0, .ref (X.2.1 0)), (1, .int x1), (2, .int x2), (3, .int x3)] := hl
  unfold wp_X11_fits at h
  refine lv_iconst (v := 1) (pc := 0) hx hcb dX11_fits_0 rfl ?_
  refine lv_istore (lv' := [(4, .int 1), (0, .ref (X.2.1 0)), (1, .int x1), (2, .int x2), (3, .int x3)]) (pc := 1) hx hcb dX11_fits_1 hl (by decide) rfl (fun ls hl => ?_)
  refine lv_iconst (v := 0) (pc := 3) hx hcb dX11_fits_3 rfl ?_
  refine lv_istore (lv' := [(5, .int 0), (4, .int 1), (0, .ref (X.2.1 0)), (1, .int x1), (2, .int x2), (3, .int x3)]) (pc := 4) hx hcb dX11_fits_4 hl (by decide) rfl (fun ls hl => ?_)
  have hL6 : ∀ (n : Nat) (x4_1 : Int32) (x5_2 : Int32) (H : Heap) (locs : List Loc) (ls : Array Slot), wp_X11_fits_L6 x1 x2 x3 σ Φ n x4_1 x5_2 → kW kZM X (kA kZM X) s σ H locs → lv_has ls 6 [(0, .ref (X.2.1 0)), (1, .int x1), (2, .int x2), (3, .int x3), (4, .int x4_1), (5, .int x5_2)] → W p l e rm_X11_fits s m args below meth c H locs 0 0 Q (F0 m 6 ls []) := by
    intro n
    induction n with
    | zero =>
      intro x4_1 x5_2 H locs ls h
      exact False.elim h
    | succ n ih =>
      intro x4_1 x5_2 H locs ls h hW hl
      unfold wp_X11_fits_L6 at h
      refine lv_iload (pc := 6) hx hcb dX11_fits_6 (lv_at hl 5 rfl) ?_
      refine lv_aload_n (pc := 8) hx hcb dX11_fits_8 rfl (lv_at hl 0 rfl) ?_
      refine kget (v := .int (σ.1 0 14)) (pc := 9) hx hcb hts hown hS hW iwX11 kOM_0 rfl 14 (by decide) q872 rfl rfl dX11_fits_9 ?_
      refine lv_icmp_ge (tgt := 68) (pc := 12) hx hcb dX11_fits_12 (by decide) (fun c12 => ?_) (fun c12 => ?_)
      · have h := h.1 c12
        refine lv_iload (pc := 68) hx hcb dX11_fits_68 (lv_at hl 4 rfl) ?_
        have hbt := h.1
        have h := h.2
        exact hret _ _ _ _ _ _ (kbit_n hbt) ⟨h, rfl⟩ hW dX11_fits_70
      · have h := h.2 c12
        refine lv_iload (pc := 15) hx hcb dX11_fits_15 (lv_at hl 4 rfl) ?_
        obtain ⟨K60, hk60, h⟩ := h
        have hK60 : ∀ (v3 : Int32) (H : Heap) (locs : List Loc) (ls : Array Slot), K60 v3 → kW kZM X (kA kZM X) s σ H locs → lv_has ls 6 [(0, .ref (X.2.1 0)), (1, .int x1), (2, .int x2), (3, .int x3), (5, .int x5_2)] → W p l e rm_X11_fits s m args below meth c H locs 0 0 Q (F0 m 60 ls [.int v3]) := by
          intro v3 H locs ls h hW hl
          have h := hk60 v3 h
          refine lv_istore (lv' := [(4, .int v3), (0, .ref (X.2.1 0)), (1, .int x1), (2, .int x2), (3, .int x3), (5, .int x5_2)]) (pc := 60) hx hcb dX11_fits_60 hl (by decide) rfl (fun ls hl => ?_)
          refine lv_iinc (v := x5_2 + 1) (lv' := [(5, .int (x5_2 + 1)), (4, .int v3), (0, .ref (X.2.1 0)), (1, .int x1), (2, .int x2), (3, .int x3)]) (pc := 62) hx hcb dX11_fits_62 hl (k := 5) rfl rfl (by decide) rfl (fun ls hl => ?_)
          refine lv_goto (tgt := 6) (pc := 65) hx hcb dX11_fits_65 (by decide) ?_
          exact ih v3 (x5_2 + 1) _ _ _ h hW (lv_sub hl [2, 3, 4, 5, 1, 0] rfl)
        obtain ⟨K59, hk59, h⟩ := h
        have hK59 : ∀  (H : Heap) (locs : List Loc) (ls : Array Slot), K59 → kW kZM X (kA kZM X) s σ H locs → lv_has ls 6 [(0, .ref (X.2.1 0)), (1, .int x1), (2, .int x2), (3, .int x3), (5, .int x5_2)] → W p l e rm_X11_fits s m args below meth c H locs 0 0 Q (F0 m 59 ls []) := by
          intro  H locs ls h hW hl
          have h := hk59 h
          refine lv_iconst (v := 0) (pc := 59) hx hcb dX11_fits_59 rfl ?_
          exact hK60 0 _ _ _ h hW (lv_sub hl [0, 1, 2, 3, 4] rfl)
        refine lv_if_eq (tgt := 59) (pc := 17) hx hcb dX11_fits_17 (by decide) (fun c17 => ?_) (fun c17 => ?_)
        · have h := h.1 c17
          exact hK59  _ _ _ h hW (lv_sub hl [0, 1, 2, 3, 5] rfl)
        · have h := h.2 c17
          refine lv_aload_n (pc := 20) hx hcb dX11_fits_20 rfl (lv_at hl 0 rfl) ?_
          refine kget (v := .ref (X.2.1 8)) (pc := 21) hx hcb hts hown hS hW iwX11 kOM_0 rfl 13 (by decide) q871 rfl rfl dX11_fits_21 ?_
          refine lv_iload (pc := 24) hx hcb dX11_fits_24 (lv_at hl 5 rfl) ?_
          have hin4 := h.1
          have h := h.2
          refine kiald (x5_2.toNatClampNeg) (pc := 26) hx hcb hS hW kIM_8 rfl (kin_of hin4 (by decide)) dX11_fits_26 ?_
          refine lv_iload_n (pc := 27) hx hcb dX11_fits_27 rfl (lv_at hl 2 rfl) ?_
          obtain ⟨K55, hk55, h⟩ := h
          have hK55 : ∀  (H : Heap) (locs : List Loc) (ls : Array Slot), K55 → kW kZM X (kA kZM X) s σ H locs → lv_has ls 6 [(0, .ref (X.2.1 0)), (1, .int x1), (2, .int x2), (3, .int x3), (5, .int x5_2)] → W p l e rm_X11_fits s m args below meth c H locs 0 0 Q (F0 m 55 ls []) := by
            intro  H locs ls h hW hl
            have h := hk55 h
            refine lv_iconst (v := 1) (pc := 55) hx hcb dX11_fits_55 rfl ?_
            refine lv_goto (tgt := 60) (pc := 56) hx hcb dX11_fits_56 (by decide) ?_
            exact hK60 1 _ _ _ h hW (lv_sub hl [0, 1, 2, 3, 4] rfl)
          refine lv_icmp_ne (tgt := 55) (pc := 28) hx hcb dX11_fits_28 (by decide) (fun c28 => ?_) (fun c28 => ?_)
          · have h := h.1 c28
            exact hK55  _ _ _ h hW (lv_sub hl [0, 1, 2, 3, 5] rfl)
          · have h := h.2 c28
            refine lv_aload_n (pc := 31) hx hcb dX11_fits_31 rfl (lv_at hl 0 rfl) ?_
            refine lv_iload (pc := 32) hx hcb dX11_fits_32 (lv_at hl 5 rfl) ?_
            refine lv_iload_n (pc := 34) hx hcb dX11_fits_34 rfl (lv_at hl 3 rfl) ?_
            refine kci (krunV (As := [.int x5_2, .int x3]) (rest := []) (pc := 35) hx hcb hml hown hts hS hW (c_X11_isUpTo l X σ x5_2 x3 _ h) mf_X11_isUpTo q1054 kOM_0 rfl ⟨rfl, rfl⟩ ⟨Nat.le_of_ble_eq_true rfl, Nat.le_of_ble_eq_true rfl⟩ rfl hl.1 rfl (Nat.le_of_ble_eq_true rfl) dX11_fits_35 ⟨Nat.zero_le _, Nat.zero_le _⟩) hS hW (fun r6 σ5 H locs h hW => ?_)
            obtain ⟨h, rfl⟩ := h
            refine lv_if_eq (tgt := 55) (pc := 38) hx hcb dX11_fits_38 (by decide) (fun c38 => ?_) (fun c38 => ?_)
            · have h := h.1 c38
              exact hK55  _ _ _ h hW (lv_sub hl [0, 1, 2, 3, 5] rfl)
            · have h := h.2 c38
              refine lv_aload_n (pc := 41) hx hcb dX11_fits_41 rfl (lv_at hl 0 rfl) ?_
              refine kget (v := .ref (X.2.1 7)) (pc := 42) hx hcb hts hown hS hW iwX11 kOM_0 rfl 12 (by decide) q870 rfl rfl dX11_fits_42 ?_
              refine lv_iload (pc := 45) hx hcb dX11_fits_45 (lv_at hl 5 rfl) ?_
              have hin7 := h.1
              have h := h.2
              refine kiald (x5_2.toNatClampNeg) (pc := 47) hx hcb hS hW kIM_7 rfl (kin_of hin7 (by decide)) dX11_fits_47 ?_
              refine lv_iload_n (pc := 48) hx hcb dX11_fits_48 rfl (lv_at hl 1 rfl) ?_
              refine kci (krunS (As := [.int x1]) (rest := [.int (σ.1 7 (x5_2.toNatClampNeg))]) (pc := 49) hx hcb hml hown hts hS hW (c_X11_yardOf l X σ x1 _ h) mf_X11_yardOf q1004 ⟨rfl, rfl⟩ ⟨Nat.le_of_ble_eq_true rfl, Nat.le_of_ble_eq_true rfl⟩ rfl hl.1 rfl (Nat.le_of_ble_eq_true rfl) dX11_fits_49 ⟨Nat.zero_le _, Nat.zero_le _⟩) hS hW (fun r9 σ8 H locs h hW => ?_)
              obtain ⟨h, rfl⟩ := h
              refine lv_icmp_ne (tgt := 59) (pc := 52) hx hcb dX11_fits_52 (by decide) (fun c52 => ?_) (fun c52 => ?_)
              · have h := h.1 c52
                exact hK59  _ _ _ h hW (lv_sub hl [0, 1, 2, 3, 5] rfl)
              · have h := h.2 c52
                exact hK55  _ _ _ h hW (lv_sub hl [0, 1, 2, 3, 5] rfl)
  obtain ⟨n, h⟩ := h
  exact hL6 n 1 0 _ _ _ h hW (lv_sub hl [2, 3, 4, 5, 1, 0] rfl)
abbrev rm_X11_fedBy : Room := { frames := 1, cells := 0, slots := 0, locals := 20 }
set_option maxHeartbeats 4000000 in
set_option maxRecDepth 100000 in
theorem c_X11_fedBy (l : Launch) (X : KX) (σ : Mm) (x1 : Int32) (x2 : Int32) (Φ : Int32 → Prop) (h : wp_X11_fedBy σ x1 x2 Φ) : Met l yX11_fedBy (.code yX11_fedBy cX11_fedBy 3 (some .int) :: kT) rm_X11_fedBy (va_Pc [.ref (X.2.1 0), .int x1, .int x2] (kPre kZM X σ)) (va_Qi (fun r σ' => Φ r ∧ σ = σ') (fun σ' t => kPre kZM X σ' t) (kA kZM X)) 0 0 (kA kZM X) := by
  refine kofI (by decide) (Nat.le_of_ble_eq_true rfl) ?_
  intro p e s m args below meth c ls Q hx hcb hml hown hts hS hW hl hret
  have hown : s.vm.findClass RX11 = some m.cls := hown
  have hl : lv_has ls 3 [(0, .ref (X.2.1 0)), (1, .int x1), (2, .int x2)] := hl
  unfold wp_X11_fedBy at h
  refine lv_iload_n (pc := 0) hx hcb dX11_fedBy_0 rfl (lv_at hl 1 rfl) ?_
  refine kci (krunS (As := [.int x1]) (rest := []) (pc := 1) hx hcb hml hown hts hS hW (c_X11_yardOf l X σ x1 _ h) mf_X11_yardOf q1004 ⟨rfl, rfl⟩ ⟨Nat.le_of_ble_eq_true rfl, Nat.le_of_ble_eq_true rfl⟩ rfl hl.1 rfl (Nat.le_of_ble_eq_true rfl) dX11_fedBy_1 ⟨Nat.zero_le _, Nat.zero_le _⟩) hS hW (fun r2 σ1 H locs h hW => ?_)
  obtain ⟨h, rfl⟩ := h
  refine lv_bipush (v := 8) (pc := 4) hx hcb dX11_fedBy_4 rfl ?_
  refine lv_iload_n (pc := 6) hx hcb dX11_fedBy_6 rfl (lv_at hl 2 rfl) ?_
  refine lv_iconst (v := 1) (pc := 7) hx hcb dX11_fedBy_7 rfl ?_
  refine lv_iadd (pc := 8) hx hcb dX11_fedBy_8 ?_
  refine lv_imul (pc := 9) hx hcb dX11_fedBy_9 ?_
  refine lv_iadd (pc := 10) hx hcb dX11_fedBy_10 ?_
  refine lv_bipush (v := 48) (pc := 11) hx hcb dX11_fedBy_11 rfl ?_
  refine lv_aload_n (pc := 13) hx hcb dX11_fedBy_13 rfl (lv_at hl 0 rfl) ?_
  refine kget (v := .ref (X.2.1 1)) (pc := 14) hx hcb hts hown hS hW iwX11 kOM_0 rfl 0 (by decide) q858 rfl rfl dX11_fedBy_14 ?_
  refine lv_iconst (v := 2) (pc := 17) hx hcb dX11_fedBy_17 rfl ?_
  refine kiald 2 (pc := 18) hx hcb hS hW kIM_1 rfl (kin_of ⟨by decide, by decide⟩ (by decide)) dX11_fedBy_18 ?_
  refine lv_imul (pc := 19) hx hcb dX11_fedBy_19 ?_
  refine lv_iadd (pc := 20) hx hcb dX11_fedBy_20 ?_
  exact hret _ _ _ _ _ _ rfl ⟨h, rfl⟩ hW dX11_fedBy_21
abbrev rm_X11_costBy : Room := { frames := 2, cells := 0, slots := 0, locals := 50 }
set_option maxHeartbeats 4000000 in
set_option maxRecDepth 100000 in
theorem c_X11_costBy (l : Launch) (X : KX) (σ : Mm) (x1 : Int32) (x2 : Int32) (x3 : Int32) (Φ : Int32 → Prop) (h : wp_X11_costBy σ x1 x2 x3 Φ) : Met l yX11_costBy (.code yX11_costBy cX11_costBy 6 (some .int) :: kT) rm_X11_costBy (va_Pc [.ref (X.2.1 0), .int x1, .int x2, .int x3] (kPre kZM X σ)) (va_Qi (fun r σ' => Φ r ∧ σ = σ') (fun σ' t => kPre kZM X σ' t) (kA kZM X)) 0 0 (kA kZM X) := by
  refine kofI (by decide) (Nat.le_of_ble_eq_true rfl) ?_
  intro p e s m args below meth c ls Q hx hcb hml hown hts hS hW hl hret
  have hown : s.vm.findClass RX11 = some m.cls := hown
  have hl : lv_has ls 6 [(0, .ref (X.2.1 0)), (1, .int x1), (2, .int x2), (3, .int x3)] := hl
  unfold wp_X11_costBy at h
  refine lv_iload_n (pc := 0) hx hcb dX11_costBy_0 rfl (lv_at hl 3 rfl) ?_
  obtain ⟨K14, hk14, h⟩ := h
  have hK14 : ∀ (v1 : Int32) (H : Heap) (locs : List Loc) (ls : Array Slot), K14 v1 → kW kZM X (kA kZM X) s σ H locs → lv_has ls 6 [(0, .ref (X.2.1 0)), (2, .int x2), (3, .int x3)] → W p l e rm_X11_costBy s m args below meth c H locs 0 0 Q (F0 m 14 ls [.int v1]) := by
    intro v1 H locs ls h hW hl
    have h := hk14 v1 h
    refine lv_istore (lv' := [(4, .int v1), (0, .ref (X.2.1 0)), (2, .int x2), (3, .int x3)]) (pc := 14) hx hcb dX11_costBy_14 hl (by decide) rfl (fun ls hl => ?_)
    refine lv_aload_n (pc := 16) hx hcb dX11_costBy_16 rfl (lv_at hl 1 rfl) ?_
    refine kget (v := .ref (X.2.1 9)) (pc := 17) hx hcb hts hown hS hW iwX11 kOM_0 rfl 15 (by decide) q873 rfl rfl dX11_costBy_17 ?_
    refine lv_aload_n (pc := 20) hx hcb dX11_costBy_20 rfl (lv_at hl 1 rfl) ?_
    refine lv_iload (pc := 21) hx hcb dX11_costBy_21 (lv_at hl 0 rfl) ?_
    refine lv_aload_n (pc := 23) hx hcb dX11_costBy_23 rfl (lv_at hl 1 rfl) ?_
    refine kget (v := .ref (X.2.1 4)) (pc := 24) hx hcb hts hown hS hW iwX11 kOM_0 rfl 7 (by decide) q865 rfl rfl dX11_costBy_24 ?_
    refine lv_iconst (v := 0) (pc := 27) hx hcb dX11_costBy_27 rfl ?_
    refine kiald 0 (pc := 28) hx hcb hS hW kIM_4 rfl (kin_of ⟨by decide, by decide⟩ (by decide)) dX11_costBy_28 ?_
    refine lv_iload_n (pc := 29) hx hcb dX11_costBy_29 rfl (lv_at hl 2 rfl) ?_
    refine lv_iadd (pc := 30) hx hcb dX11_costBy_30 ?_
    refine lv_iconst (v := 1) (pc := 31) hx hcb dX11_costBy_31 rfl ?_
    refine lv_iadd (pc := 32) hx hcb dX11_costBy_32 ?_
    refine kci (krunV (As := [.int v1, .int (((σ.1 4 0) + x2) + 1)]) (rest := [.ref (X.2.1 9)]) (pc := 33) hx hcb hml hown hts hS hW (c_X11_after l X σ v1 (((σ.1 4 0) + x2) + 1) _ h) mf_X11_after q1023 kOM_0 rfl ⟨rfl, rfl⟩ ⟨Nat.le_of_ble_eq_true rfl, Nat.le_of_ble_eq_true rfl⟩ rfl hl.1 rfl (Nat.le_of_ble_eq_true rfl) dX11_costBy_33 ⟨Nat.zero_le _, Nat.zero_le _⟩) hS hW (fun r3 σ2 H locs h hW => ?_)
    obtain ⟨h, rfl⟩ := h
    have hin4 := h.1
    have h := h.2
    refine kiald (r3.toNatClampNeg) (pc := 36) hx hcb hS hW kIM_9 rfl (kin_of hin4 (by decide)) dX11_costBy_36 ?_
    refine lv_topi (fun x5_5 ex5_5 => ?_)
    have h := h x5_5 ex5_5
    refine lv_istore (lv' := [(5, .int x5_5), (4, .int v1), (0, .ref (X.2.1 0)), (2, .int x2), (3, .int x3)]) (pc := 37) hx hcb dX11_costBy_37 hl (by decide) rfl (fun ls hl => ?_)
    refine lv_iload (pc := 39) hx hcb dX11_costBy_39 (lv_at hl 0 rfl) ?_
    refine kldc (v := 999999) (pc := 41) hx hcb hown hts q857 dX11_costBy_41 ?_
    refine lv_icmp_lt (tgt := 51) (pc := 43) hx hcb dX11_costBy_43 (by decide) (fun c43 => ?_) (fun c43 => ?_)
    · have h := h.1 c43
      refine lv_iload (pc := 51) hx hcb dX11_costBy_51 (lv_at hl 0 rfl) ?_
      refine lv_iload_n (pc := 53) hx hcb dX11_costBy_53 rfl (lv_at hl 4 rfl) ?_
      obtain ⟨K70, hk70, h⟩ := h
      have hK70 : ∀ (v6 : Int32) (H : Heap) (locs : List Loc) (ls : Array Slot), K70 v6 → kW kZM X (kA kZM X) s σ H locs → lv_has ls 6 [] → W p l e rm_X11_costBy s m args below meth c H locs 0 0 Q (F0 m 70 ls [.int v6, .int x5_5]) := by
        intro v6 H locs ls h hW hl
        have h := hk70 v6 h
        refine lv_iadd (pc := 70) hx hcb dX11_costBy_70 ?_
        exact hret _ _ _ _ _ _ rfl ⟨h, rfl⟩ hW dX11_costBy_71
      refine lv_if_ge (tgt := 61) (pc := 54) hx hcb dX11_costBy_54 (by decide) (fun c54 => ?_) (fun c54 => ?_)
      · have h := h.1 c54
        refine lv_aload_n (pc := 61) hx hcb dX11_costBy_61 rfl (lv_at hl 2 rfl) ?_
        refine kget (v := .ref (X.2.1 1)) (pc := 62) hx hcb hts hown hS hW iwX11 kOM_0 rfl 0 (by decide) q858 rfl rfl dX11_costBy_62 ?_
        refine lv_bipush (v := 12) (pc := 65) hx hcb dX11_costBy_65 rfl ?_
        refine lv_iload_n (pc := 67) hx hcb dX11_costBy_67 rfl (lv_at hl 4 rfl) ?_
        refine lv_iadd (pc := 68) hx hcb dX11_costBy_68 ?_
        have hin7 := h.1
        have h := h.2
        refine kiald ((12 + x3).toNatClampNeg) (pc := 69) hx hcb hS hW kIM_1 rfl (kin_of hin7 (by decide)) dX11_costBy_69 ?_
        exact hK70 (σ.1 1 ((12 + x3).toNatClampNeg)) _ _ _ h hW (lv_sub hl [] rfl)
      · have h := h.2 c54
        refine lv_iconst (v := 0) (pc := 57) hx hcb dX11_costBy_57 rfl ?_
        refine lv_goto (tgt := 70) (pc := 58) hx hcb dX11_costBy_58 (by decide) ?_
        exact hK70 0 _ _ _ h hW (lv_sub hl [] rfl)
    · have h := h.2 c43
      refine kldc (v := 999999) (pc := 46) hx hcb hown hts q857 dX11_costBy_46 ?_
      refine lv_goto (tgt := 71) (pc := 48) hx hcb dX11_costBy_48 (by decide) ?_
      exact hret _ _ _ _ _ _ rfl ⟨h, rfl⟩ hW dX11_costBy_71
  refine lv_if_ge (tgt := 8) (pc := 1) hx hcb dX11_costBy_1 (by decide) (fun c1 => ?_) (fun c1 => ?_)
  · have h := h.1 c1
    refine lv_aload_n (pc := 8) hx hcb dX11_costBy_8 rfl (lv_at hl 0 rfl) ?_
    refine lv_iload_n (pc := 9) hx hcb dX11_costBy_9 rfl (lv_at hl 1 rfl) ?_
    refine lv_iload_n (pc := 10) hx hcb dX11_costBy_10 rfl (lv_at hl 3 rfl) ?_
    refine kci (krunV (As := [.int x1, .int x3]) (rest := []) (pc := 11) hx hcb hml hown hts hS hW (c_X11_fedBy l X σ x1 x3 _ h) mf_X11_fedBy q1011 kOM_0 rfl ⟨rfl, rfl⟩ ⟨Nat.le_of_ble_eq_true rfl, Nat.le_of_ble_eq_true rfl⟩ rfl hl.1 rfl (Nat.le_of_ble_eq_true rfl) dX11_costBy_11 ⟨Nat.zero_le _, Nat.zero_le _⟩) hS hW (fun r9 σ8 H locs h hW => ?_)
    obtain ⟨h, rfl⟩ := h
    exact hK14 r9 _ _ _ h hW (lv_sub hl [0, 2, 3] rfl)
  · have h := h.2 c1
    refine lv_iload_n (pc := 4) hx hcb dX11_costBy_4 rfl (lv_at hl 1 rfl) ?_
    refine lv_goto (tgt := 14) (pc := 5) hx hcb dX11_costBy_5 (by decide) ?_
    exact hK14 x1 _ _ _ h hW (lv_sub hl [0, 2, 3] rfl)
abbrev rm_X11_mayFeed : Room := { frames := 1, cells := 0, slots := 0, locals := 22 }
set_option maxHeartbeats 4000000 in
set_option maxRecDepth 100000 in
theorem c_X11_mayFeed (l : Launch) (X : KX) (σ : Mm) (x1 : Int32) (x2 : Int32) (x3 : Int32) (Φ : Int32 → Prop) (h : wp_X11_mayFeed σ x1 x2 x3 Φ) : Met l yX11_mayFeed (.code yX11_mayFeed cX11_mayFeed 4 (some .boolean) :: kT) rm_X11_mayFeed (va_Pc [.ref (X.2.1 0), .int x1, .int x2, .int x3] (kPre kZM X σ)) (va_Qi (fun r σ' => Φ r ∧ σ = σ') (fun σ' t => kPre kZM X σ' t) (kA kZM X)) 0 0 (kA kZM X) := by
  refine kofI (by decide) (Nat.le_of_ble_eq_true rfl) ?_
  intro p e s m args below meth c ls Q hx hcb hml hown hts hS hW hl hret
  have hown : s.vm.findClass RX11 = some m.cls := hown
  have hl : lv_has ls 4 [(0, .ref (X.2.1 0)), (1, .int x1), (2, .int x2), (3, .int x3)] := hl
  unfold wp_X11_mayFeed at h
  refine lv_aload_n (pc := 0) hx hcb dX11_mayFeed_0 rfl (lv_at hl 0 rfl) ?_
  refine lv_iload_n (pc := 1) hx hcb dX11_mayFeed_1 rfl (lv_at hl 2 rfl) ?_
  refine lv_iload_n (pc := 2) hx hcb dX11_mayFeed_2 rfl (lv_at hl 3 rfl) ?_
  refine kci (krunV (As := [.int x2, .int x3]) (rest := []) (pc := 3) hx hcb hml hown hts hS hW (c_X11_placeOf l X σ x2 x3 _ h) mf_X11_placeOf q992 kOM_0 rfl ⟨rfl, rfl⟩ ⟨Nat.le_of_ble_eq_true rfl, Nat.le_of_ble_eq_true rfl⟩ rfl hl.1 rfl (Nat.le_of_ble_eq_true rfl) dX11_mayFeed_3 ⟨Nat.zero_le _, Nat.zero_le _⟩) hS hW (fun r2 σ1 H locs h hW => ?_)
  obtain ⟨h, rfl⟩ := h
  refine lv_iload_n (pc := 6) hx hcb dX11_mayFeed_6 rfl (lv_at hl 1 rfl) ?_
  refine kci (krunS (As := [.int x1]) (rest := [.int r2]) (pc := 7) hx hcb hml hown hts hS hW (c_X11_yardOf l X σ x1 _ h) mf_X11_yardOf q1004 ⟨rfl, rfl⟩ ⟨Nat.le_of_ble_eq_true rfl, Nat.le_of_ble_eq_true rfl⟩ rfl hl.1 rfl (Nat.le_of_ble_eq_true rfl) dX11_mayFeed_7 ⟨Nat.zero_le _, Nat.zero_le _⟩) hS hW (fun r4 σ3 H locs h hW => ?_)
  obtain ⟨h, rfl⟩ := h
  refine lv_icmp_ne (tgt := 17) (pc := 10) hx hcb dX11_mayFeed_10 (by decide) (fun c10 => ?_) (fun c10 => ?_)
  · have h := h.1 c10
    refine lv_iconst (v := 0) (pc := 17) hx hcb dX11_mayFeed_17 rfl ?_
    exact hret _ _ _ _ _ _ rfl ⟨h, rfl⟩ hW dX11_mayFeed_18
  · have h := h.2 c10
    refine lv_iconst (v := 1) (pc := 13) hx hcb dX11_mayFeed_13 rfl ?_
    refine lv_goto (tgt := 18) (pc := 14) hx hcb dX11_mayFeed_14 (by decide) ?_
    exact hret _ _ _ _ _ _ rfl ⟨h, rfl⟩ hW dX11_mayFeed_18
abbrev rm_X11_leastOf : Room := { frames := 3, cells := 0, slots := 0, locals := 75 }
set_option maxHeartbeats 4000000 in
set_option maxRecDepth 100000 in
theorem c_X11_leastOf (l : Launch) (X : KX) (σ : Mm) (x1 : Int32) (x2 : Int32) (Φ : Int32 → Prop) (h : wp_X11_leastOf σ x1 x2 Φ) : Met l yX11_leastOf (.code yX11_leastOf cX11_leastOf 6 (some .int) :: kT) rm_X11_leastOf (va_Pc [.ref (X.2.1 0), .int x1, .int x2] (kPre kZM X σ)) (va_Qi (fun r σ' => Φ r ∧ σ = σ') (fun σ' t => kPre kZM X σ' t) (kA kZM X)) 0 0 (kA kZM X) := by
  refine kofI (by decide) (Nat.le_of_ble_eq_true rfl) ?_
  intro p e s m args below meth c ls Q hx hcb hml hown hts hS hW hl hret
  have hown : s.vm.findClass RX11 = some m.cls := hown
  have hl : lv_has ls 6 [(0, .ref (X.2.1 0)), (1, .int x1), (2, .int x2)] := hl
  unfold wp_X11_leastOf at h
  refine lv_aload_n (pc := 0) hx hcb dX11_leastOf_0 rfl (lv_at hl 0 rfl) ?_
  refine lv_iload_n (pc := 1) hx hcb dX11_leastOf_1 rfl (lv_at hl 1 rfl) ?_
  refine lv_iload_n (pc := 2) hx hcb dX11_leastOf_2 rfl (lv_at hl 2 rfl) ?_
  refine lv_iconst (v := (-1)) (pc := 3) hx hcb dX11_leastOf_3 rfl ?_
  refine kci (krunV (As := [.int x1, .int x2, .int (-1)]) (rest := []) (pc := 4) hx hcb hml hown hts hS hW (c_X11_costBy l X σ x1 x2 (-1) _ h) mf_X11_costBy q1074 kOM_0 rfl ⟨rfl, rfl⟩ ⟨Nat.le_of_ble_eq_true rfl, Nat.le_of_ble_eq_true rfl⟩ rfl hl.1 rfl (Nat.le_of_ble_eq_true rfl) dX11_leastOf_4 ⟨Nat.zero_le _, Nat.zero_le _⟩) hS hW (fun r2 σ1 H locs h hW => ?_)
  obtain ⟨h, rfl⟩ := h
  refine lv_istore_n (lv' := [(3, .int r2), (0, .ref (X.2.1 0)), (1, .int x1), (2, .int x2)]) (pc := 7) hx hcb dX11_leastOf_7 rfl hl (by decide) rfl (fun ls hl => ?_)
  refine lv_iconst (v := 0) (pc := 8) hx hcb dX11_leastOf_8 rfl ?_
  refine lv_istore (lv' := [(4, .int 0), (3, .int r2), (0, .ref (X.2.1 0)), (1, .int x1), (2, .int x2)]) (pc := 9) hx hcb dX11_leastOf_9 hl (by decide) rfl (fun ls hl => ?_)
  have hL11 : ∀ (n : Nat) (x3_3 : Int32) (x4_4 : Int32) (H : Heap) (locs : List Loc) (ls : Array Slot), wp_X11_leastOf_L11 x1 x2 σ Φ n x3_3 x4_4 → kW kZM X (kA kZM X) s σ H locs → lv_has ls 6 [(0, .ref (X.2.1 0)), (1, .int x1), (2, .int x2), (3, .int x3_3), (4, .int x4_4)] → W p l e rm_X11_leastOf s m args below meth c H locs 0 0 Q (F0 m 11 ls []) := by
    intro n
    induction n with
    | zero =>
      intro x3_3 x4_4 H locs ls h
      exact False.elim h
    | succ n ih =>
      intro x3_3 x4_4 H locs ls h hW hl
      unfold wp_X11_leastOf_L11 at h
      refine lv_iload (pc := 11) hx hcb dX11_leastOf_11 (lv_at hl 4 rfl) ?_
      refine lv_aload_n (pc := 13) hx hcb dX11_leastOf_13 rfl (lv_at hl 0 rfl) ?_
      refine kget (v := .ref (X.2.1 1)) (pc := 14) hx hcb hts hown hS hW iwX11 kOM_0 rfl 0 (by decide) q858 rfl rfl dX11_leastOf_14 ?_
      refine lv_iconst (v := 1) (pc := 17) hx hcb dX11_leastOf_17 rfl ?_
      refine kiald 1 (pc := 18) hx hcb hS hW kIM_1 rfl (kin_of ⟨by decide, by decide⟩ (by decide)) dX11_leastOf_18 ?_
      refine lv_icmp_ge (tgt := 74) (pc := 19) hx hcb dX11_leastOf_19 (by decide) (fun c19 => ?_) (fun c19 => ?_)
      · have h := h.1 c19
        refine lv_iload_n (pc := 74) hx hcb dX11_leastOf_74 rfl (lv_at hl 3 rfl) ?_
        exact hret _ _ _ _ _ _ rfl ⟨h, rfl⟩ hW dX11_leastOf_75
      · have h := h.2 c19
        refine lv_aload_n (pc := 22) hx hcb dX11_leastOf_22 rfl (lv_at hl 0 rfl) ?_
        refine lv_iload_n (pc := 23) hx hcb dX11_leastOf_23 rfl (lv_at hl 1 rfl) ?_
        refine lv_iload (pc := 24) hx hcb dX11_leastOf_24 (lv_at hl 4 rfl) ?_
        refine lv_aload_n (pc := 26) hx hcb dX11_leastOf_26 rfl (lv_at hl 0 rfl) ?_
        refine kget (v := .ref (X.2.1 4)) (pc := 27) hx hcb hts hown hS hW iwX11 kOM_0 rfl 7 (by decide) q865 rfl rfl dX11_leastOf_27 ?_
        refine lv_iconst (v := 0) (pc := 30) hx hcb dX11_leastOf_30 rfl ?_
        refine kiald 0 (pc := 31) hx hcb hS hW kIM_4 rfl (kin_of ⟨by decide, by decide⟩ (by decide)) dX11_leastOf_31 ?_
        refine lv_iload_n (pc := 32) hx hcb dX11_leastOf_32 rfl (lv_at hl 2 rfl) ?_
        refine lv_iadd (pc := 33) hx hcb dX11_leastOf_33 ?_
        refine kci (krunV (As := [.int x1, .int x4_4, .int ((σ.1 4 0) + x2)]) (rest := []) (pc := 34) hx hcb hml hown hts hS hW (c_X11_mayFeed l X σ x1 x4_4 ((σ.1 4 0) + x2) _ h) mf_X11_mayFeed q1000 kOM_0 rfl ⟨rfl, rfl⟩ ⟨Nat.le_of_ble_eq_true rfl, Nat.le_of_ble_eq_true rfl⟩ rfl hl.1 rfl (Nat.le_of_ble_eq_true rfl) dX11_leastOf_34 ⟨Nat.zero_le _, Nat.zero_le _⟩) hS hW (fun r6 σ5 H locs h hW => ?_)
        obtain ⟨h, rfl⟩ := h
        obtain ⟨K53, hk53, h⟩ := h
        have hK53 : ∀ (v7 : Int32) (H : Heap) (locs : List Loc) (ls : Array Slot), K53 v7 → kW kZM X (kA kZM X) s σ H locs → lv_has ls 6 [(0, .ref (X.2.1 0)), (1, .int x1), (2, .int x2), (3, .int x3_3), (4, .int x4_4)] → W p l e rm_X11_leastOf s m args below meth c H locs 0 0 Q (F0 m 53 ls [.int v7]) := by
          intro v7 H locs ls h hW hl
          have h := hk53 v7 h
          refine lv_istore (lv' := [(5, .int v7), (0, .ref (X.2.1 0)), (1, .int x1), (2, .int x2), (3, .int x3_3), (4, .int x4_4)]) (pc := 53) hx hcb dX11_leastOf_53 hl (by decide) rfl (fun ls hl => ?_)
          refine lv_iload (pc := 55) hx hcb dX11_leastOf_55 (lv_at hl 0 rfl) ?_
          refine lv_iload_n (pc := 57) hx hcb dX11_leastOf_57 rfl (lv_at hl 4 rfl) ?_
          obtain ⟨K67, hk67, h⟩ := h
          have hK67 : ∀ (v8 : Int32) (H : Heap) (locs : List Loc) (ls : Array Slot), K67 v8 → kW kZM X (kA kZM X) s σ H locs → lv_has ls 6 [(0, .ref (X.2.1 0)), (1, .int x1), (2, .int x2), (4, .int x4_4)] → W p l e rm_X11_leastOf s m args below meth c H locs 0 0 Q (F0 m 67 ls [.int v8]) := by
            intro v8 H locs ls h hW hl
            have h := hk67 v8 h
            refine lv_istore_n (lv' := [(3, .int v8), (0, .ref (X.2.1 0)), (1, .int x1), (2, .int x2), (4, .int x4_4)]) (pc := 67) hx hcb dX11_leastOf_67 rfl hl (by decide) rfl (fun ls hl => ?_)
            refine lv_iinc (v := x4_4 + 1) (lv' := [(4, .int (x4_4 + 1)), (3, .int v8), (0, .ref (X.2.1 0)), (1, .int x1), (2, .int x2)]) (pc := 68) hx hcb dX11_leastOf_68 hl (k := 4) rfl rfl (by decide) rfl (fun ls hl => ?_)
            refine lv_goto (tgt := 11) (pc := 71) hx hcb dX11_leastOf_71 (by decide) ?_
            exact ih v8 (x4_4 + 1) _ _ _ h hW (lv_sub hl [2, 3, 4, 1, 0] rfl)
          refine lv_icmp_ge (tgt := 66) (pc := 58) hx hcb dX11_leastOf_58 (by decide) (fun c58 => ?_) (fun c58 => ?_)
          · have h := h.1 c58
            refine lv_iload_n (pc := 66) hx hcb dX11_leastOf_66 rfl (lv_at hl 4 rfl) ?_
            exact hK67 x3_3 _ _ _ h hW (lv_sub hl [1, 2, 3, 5] rfl)
          · have h := h.2 c58
            refine lv_iload (pc := 61) hx hcb dX11_leastOf_61 (lv_at hl 0 rfl) ?_
            refine lv_goto (tgt := 67) (pc := 63) hx hcb dX11_leastOf_63 (by decide) ?_
            exact hK67 v7 _ _ _ h hW (lv_sub hl [1, 2, 3, 5] rfl)
        refine lv_if_eq (tgt := 51) (pc := 37) hx hcb dX11_leastOf_37 (by decide) (fun c37 => ?_) (fun c37 => ?_)
        · have h := h.1 c37
          refine kldc (v := 999999) (pc := 51) hx hcb hown hts q857 dX11_leastOf_51 ?_
          exact hK53 999999 _ _ _ h hW (lv_sub hl [0, 1, 2, 3, 4] rfl)
        · have h := h.2 c37
          refine lv_aload_n (pc := 40) hx hcb dX11_leastOf_40 rfl (lv_at hl 0 rfl) ?_
          refine lv_iload_n (pc := 41) hx hcb dX11_leastOf_41 rfl (lv_at hl 1 rfl) ?_
          refine lv_iload_n (pc := 42) hx hcb dX11_leastOf_42 rfl (lv_at hl 2 rfl) ?_
          refine lv_iload (pc := 43) hx hcb dX11_leastOf_43 (lv_at hl 4 rfl) ?_
          refine kci (krunV (As := [.int x1, .int x2, .int x4_4]) (rest := []) (pc := 45) hx hcb hml hown hts hS hW (c_X11_costBy l X σ x1 x2 x4_4 _ h) mf_X11_costBy q1074 kOM_0 rfl ⟨rfl, rfl⟩ ⟨Nat.le_of_ble_eq_true rfl, Nat.le_of_ble_eq_true rfl⟩ rfl hl.1 rfl (Nat.le_of_ble_eq_true rfl) dX11_leastOf_45 ⟨Nat.zero_le _, Nat.zero_le _⟩) hS hW (fun r10 σ9 H locs h hW => ?_)
          obtain ⟨h, rfl⟩ := h
          refine lv_goto (tgt := 53) (pc := 48) hx hcb dX11_leastOf_48 (by decide) ?_
          exact hK53 r10 _ _ _ h hW (lv_sub hl [0, 1, 2, 3, 4] rfl)
  obtain ⟨n, h⟩ := h
  exact hL11 n r2 0 _ _ _ h hW (lv_sub hl [2, 3, 4, 1, 0] rfl)
abbrev rm_X11_priceTo : Room := { frames := 4, cells := 0, slots := 0, locals := 100 }
set_option maxHeartbeats 4000000 in
set_option maxRecDepth 100000 in
theorem c_X11_priceTo (l : Launch) (X : KX) (σ : Mm) (x1 : Int32) (Φ : Int32 → Mm → Prop) (h : wp_X11_priceTo σ x1 Φ) : Met l yX11_priceTo (.code yX11_priceTo cX11_priceTo 5 (some .int) :: kT) rm_X11_priceTo (va_Pc [.ref (X.2.1 0), .int x1] (kPre kZM X σ)) (va_Qi (fun r σ' => Φ r σ') (fun σ' t => kPre kZM X σ' t) (kA kZM X)) 0 0 (kA kZM X) := by
  refine kofI (by decide) (Nat.le_of_ble_eq_true rfl) ?_
  intro p e s m args below meth c ls Q hx hcb hml hown hts hS hW hl hret
  have hown : s.vm.findClass RX11 = some m.cls := hown
  have hl : lv_has ls 5 [(0, .ref (X.2.1 0)), (1, .int x1)] := hl
  unfold wp_X11_priceTo at h
  refine lv_iload_n (pc := 0) hx hcb dX11_priceTo_0 rfl (lv_at hl 1 rfl) ?_
  refine lv_if_ge (tgt := 6) (pc := 1) hx hcb dX11_priceTo_1 (by decide) (fun c1 => ?_) (fun c1 => ?_)
  · have h := h.1 c1
    refine lv_aload_n (pc := 6) hx hcb dX11_priceTo_6 rfl (lv_at hl 0 rfl) ?_
    refine kget (v := .ref (X.2.1 8)) (pc := 7) hx hcb hts hown hS hW iwX11 kOM_0 rfl 13 (by decide) q871 rfl rfl dX11_priceTo_7 ?_
    refine lv_iload_n (pc := 10) hx hcb dX11_priceTo_10 rfl (lv_at hl 1 rfl) ?_
    have hin1 := h.1
    have h := h.2
    refine kiald (x1.toNatClampNeg) (pc := 11) hx hcb hS hW kIM_8 rfl (kin_of hin1 (by decide)) dX11_priceTo_11 ?_
    refine lv_topi (fun x2_2 ex2_2 => ?_)
    have h := h x2_2 ex2_2
    refine lv_istore_n (lv' := [(2, .int x2_2), (0, .ref (X.2.1 0)), (1, .int x1)]) (pc := 12) hx hcb dX11_priceTo_12 rfl hl (by decide) rfl (fun ls hl => ?_)
    refine lv_iconst (v := 0) (pc := 13) hx hcb dX11_priceTo_13 rfl ?_
    refine lv_istore_n (lv' := [(3, .int 0), (2, .int x2_2), (0, .ref (X.2.1 0)), (1, .int x1)]) (pc := 14) hx hcb dX11_priceTo_14 rfl hl (by decide) rfl (fun ls hl => ?_)
    obtain ⟨K35, hk35, h⟩ := h
    have hK35 : ∀ (σ3 : Mm) (H : Heap) (locs : List Loc) (ls : Array Slot), K35 σ3 → kW kZM X (kA kZM X) s σ3 H locs → lv_has ls 5 [(0, .ref (X.2.1 0)), (1, .int x1), (2, .int x2_2)] → W p l e rm_X11_priceTo s m args below meth c H locs 0 0 Q (F0 m 35 ls []) := by
      intro σ3 H locs ls h hW hl
      have h := hk35 σ3 h
      refine lv_iload_n (pc := 35) hx hcb dX11_priceTo_35 rfl (lv_at hl 2 rfl) ?_
      refine lv_istore_n (lv' := [(3, .int x2_2), (0, .ref (X.2.1 0)), (1, .int x1), (2, .int x2_2)]) (pc := 36) hx hcb dX11_priceTo_36 rfl hl (by decide) rfl (fun ls hl => ?_)
      obtain ⟨K143, hk143, h⟩ := h
      have hK143 : ∀ (σ4 : Mm) (H : Heap) (locs : List Loc) (ls : Array Slot), K143 σ4 → kW kZM X (kA kZM X) s σ4 H locs → lv_has ls 5 [(0, .ref (X.2.1 0)), (1, .int x1), (2, .int x2_2)] → W p l e rm_X11_priceTo s m args below meth c H locs 0 0 Q (F0 m 143 ls []) := by
        intro σ4 H locs ls h hW hl
        have h := hk143 σ4 h
        refine lv_aload_n (pc := 143) hx hcb dX11_priceTo_143 rfl (lv_at hl 0 rfl) ?_
        refine lv_aload_n (pc := 144) hx hcb dX11_priceTo_144 rfl (lv_at hl 0 rfl) ?_
        refine kget (v := .ref (X.2.1 4)) (pc := 145) hx hcb hts hown hS hW iwX11 kOM_0 rfl 7 (by decide) q865 rfl rfl dX11_priceTo_145 ?_
        refine lv_iconst (v := 1) (pc := 148) hx hcb dX11_priceTo_148 rfl ?_
        refine kiald 1 (pc := 149) hx hcb hS hW kIM_4 rfl (kin_of ⟨by decide, by decide⟩ (by decide)) dX11_priceTo_149 ?_
        refine lv_iconst (v := 0) (pc := 150) hx hcb dX11_priceTo_150 rfl ?_
        refine lv_iload_n (pc := 151) hx hcb dX11_priceTo_151 rfl (lv_at hl 1 rfl) ?_
        refine kci (krunV (As := [.int (σ4.1 4 1), .int 0, .int x1]) (rest := []) (pc := 152) hx hcb hml hown hts hS hW (c_X11_fits l X σ4 (σ4.1 4 1) 0 x1 _ h) mf_X11_fits q1066 kOM_0 rfl ⟨rfl, rfl⟩ ⟨Nat.le_of_ble_eq_true rfl, Nat.le_of_ble_eq_true rfl⟩ rfl hl.1 rfl (Nat.le_of_ble_eq_true rfl) dX11_priceTo_152 ⟨Nat.zero_le _, Nat.zero_le _⟩) hS hW (fun r6 σ5 H locs h hW => ?_)
        obtain ⟨h, rfl⟩ := h
        refine lv_if_ne (tgt := 163) (pc := 155) hx hcb dX11_priceTo_155 (by decide) (fun c155 => ?_) (fun c155 => ?_)
        · have h := h.1 c155
          refine lv_iload_n (pc := 163) hx hcb dX11_priceTo_163 rfl (lv_at hl 2 rfl) ?_
          refine lv_if_ne (tgt := 171) (pc := 164) hx hcb dX11_priceTo_164 (by decide) (fun c164 => ?_) (fun c164 => ?_)
          · have h := h.1 c164
            refine lv_aload_n (pc := 171) hx hcb dX11_priceTo_171 rfl (lv_at hl 0 rfl) ?_
            refine lv_aload_n (pc := 172) hx hcb dX11_priceTo_172 rfl (lv_at hl 0 rfl) ?_
            refine kget (v := .ref (X.2.1 4)) (pc := 173) hx hcb hts hown hS hW iwX11 kOM_0 rfl 7 (by decide) q865 rfl rfl dX11_priceTo_173 ?_
            refine lv_iconst (v := 1) (pc := 176) hx hcb dX11_priceTo_176 rfl ?_
            refine kiald 1 (pc := 177) hx hcb hS hW kIM_4 rfl (kin_of ⟨by decide, by decide⟩ (by decide)) dX11_priceTo_177 ?_
            refine lv_iconst (v := 0) (pc := 178) hx hcb dX11_priceTo_178 rfl ?_
            refine kci (krunV (As := [.int (σ4.1 4 1), .int 0]) (rest := []) (pc := 179) hx hcb hml hown hts hS hW (c_X11_leastOf l X σ4 (σ4.1 4 1) 0 _ h) mf_X11_leastOf q1070 kOM_0 rfl ⟨rfl, rfl⟩ ⟨Nat.le_of_ble_eq_true rfl, Nat.le_of_ble_eq_true rfl⟩ rfl hl.1 rfl (Nat.le_of_ble_eq_true rfl) dX11_priceTo_179 ⟨Nat.zero_le _, Nat.zero_le _⟩) hS hW (fun r8 σ7 H locs h hW => ?_)
            obtain ⟨h, rfl⟩ := h
            exact hret _ _ _ _ _ _ rfl h hW dX11_priceTo_182
          · have h := h.2 c164
            refine lv_iconst (v := 0) (pc := 167) hx hcb dX11_priceTo_167 rfl ?_
            refine lv_goto (tgt := 182) (pc := 168) hx hcb dX11_priceTo_168 (by decide) ?_
            exact hret _ _ _ _ _ _ rfl h hW dX11_priceTo_182
        · have h := h.2 c155
          refine kldc (v := 999999) (pc := 158) hx hcb hown hts q857 dX11_priceTo_158 ?_
          refine lv_goto (tgt := 182) (pc := 160) hx hcb dX11_priceTo_160 (by decide) ?_
          exact hret _ _ _ _ _ _ rfl h hW dX11_priceTo_182
      have hL37 : ∀ (n : Nat) (σ9 : Mm) (x3_10 : Int32) (H : Heap) (locs : List Loc) (ls : Array Slot), wp_X11_priceTo_L37 x1 x2_2 K143 n σ9 x3_10 → kW kZM X (kA kZM X) s σ9 H locs → lv_has ls 5 [(0, .ref (X.2.1 0)), (1, .int x1), (2, .int x2_2), (3, .int x3_10)] → W p l e rm_X11_priceTo s m args below meth c H locs 0 0 Q (F0 m 37 ls []) := by
        intro n
        induction n with
        | zero =>
          intro σ9 x3_10 H locs ls h
          exact False.elim h
        | succ n ih =>
          intro σ9 x3_10 H locs ls h hW hl
          unfold wp_X11_priceTo_L37 at h
          refine lv_iload_n (pc := 37) hx hcb dX11_priceTo_37 rfl (lv_at hl 3 rfl) ?_
          refine lv_if_le (tgt := 143) (pc := 38) hx hcb dX11_priceTo_38 (by decide) (fun c38 => ?_) (fun c38 => ?_)
          · have h := h.1 c38
            exact hK143 σ9 _ _ _ h hW (lv_sub hl [0, 1, 2] rfl)
          · have h := h.2 c38
            refine lv_iconst (v := 0) (pc := 41) hx hcb dX11_priceTo_41 rfl ?_
            refine lv_istore (lv' := [(4, .int 0), (0, .ref (X.2.1 0)), (1, .int x1), (2, .int x2_2), (3, .int x3_10)]) (pc := 42) hx hcb dX11_priceTo_42 hl (by decide) rfl (fun ls hl => ?_)
            obtain ⟨K106, hk106, h⟩ := h
            have hK106 : ∀ (σ11 : Mm) (H : Heap) (locs : List Loc) (ls : Array Slot), K106 σ11 → kW kZM X (kA kZM X) s σ11 H locs → lv_has ls 5 [(0, .ref (X.2.1 0)), (1, .int x1), (2, .int x2_2), (3, .int x3_10)] → W p l e rm_X11_priceTo s m args below meth c H locs 0 0 Q (F0 m 106 ls []) := by
              intro σ11 H locs ls h hW hl
              have h := hk106 σ11 h
              refine lv_iconst (v := 0) (pc := 106) hx hcb dX11_priceTo_106 rfl ?_
              refine lv_istore (lv' := [(4, .int 0), (0, .ref (X.2.1 0)), (1, .int x1), (2, .int x2_2), (3, .int x3_10)]) (pc := 107) hx hcb dX11_priceTo_107 hl (by decide) rfl (fun ls hl => ?_)
              obtain ⟨K137, hk137, h⟩ := h
              have hK137 : ∀ (σ12 : Mm) (H : Heap) (locs : List Loc) (ls : Array Slot), K137 σ12 → kW kZM X (kA kZM X) s σ12 H locs → lv_has ls 5 [(0, .ref (X.2.1 0)), (1, .int x1), (2, .int x2_2), (3, .int x3_10)] → W p l e rm_X11_priceTo s m args below meth c H locs 0 0 Q (F0 m 137 ls []) := by
                intro σ12 H locs ls h hW hl
                have h := hk137 σ12 h
                refine lv_iinc (v := x3_10 + (-1)) (lv' := [(3, .int (x3_10 + (-1))), (0, .ref (X.2.1 0)), (1, .int x1), (2, .int x2_2)]) (pc := 137) hx hcb dX11_priceTo_137 hl (k := 3) rfl rfl (by decide) rfl (fun ls hl => ?_)
                refine lv_goto (tgt := 37) (pc := 140) hx hcb dX11_priceTo_140 (by decide) ?_
                exact ih σ12 (x3_10 + (-1)) _ _ _ h hW (lv_sub hl [1, 2, 3, 0] rfl)
              have hL109 : ∀ (n : Nat) (σ13 : Mm) (x4_14 : Int32) (H : Heap) (locs : List Loc) (ls : Array Slot), wp_X11_priceTo_L109 K137 n σ13 x4_14 → kW kZM X (kA kZM X) s σ13 H locs → lv_has ls 5 [(0, .ref (X.2.1 0)), (1, .int x1), (2, .int x2_2), (3, .int x3_10), (4, .int x4_14)] → W p l e rm_X11_priceTo s m args below meth c H locs 0 0 Q (F0 m 109 ls []) := by
                intro n
                induction n with
                | zero =>
                  intro σ13 x4_14 H locs ls h
                  exact False.elim h
                | succ n ih =>
                  intro σ13 x4_14 H locs ls h hW hl
                  unfold wp_X11_priceTo_L109 at h
                  refine lv_iload (pc := 109) hx hcb dX11_priceTo_109 (lv_at hl 4 rfl) ?_
                  refine lv_sipush (v := 1008) (pc := 111) hx hcb dX11_priceTo_111 rfl ?_
                  refine lv_icmp_ge (tgt := 137) (pc := 114) hx hcb dX11_priceTo_114 (by decide) (fun c114 => ?_) (fun c114 => ?_)
                  · have h := h.1 c114
                    exact hK137 σ13 _ _ _ h hW (lv_sub hl [0, 1, 2, 3] rfl)
                  · have h := h.2 c114
                    refine lv_aload_n (pc := 117) hx hcb dX11_priceTo_117 rfl (lv_at hl 0 rfl) ?_
                    refine kget (v := .ref (X.2.1 9)) (pc := 118) hx hcb hts hown hS hW iwX11 kOM_0 rfl 15 (by decide) q873 rfl rfl dX11_priceTo_118 ?_
                    refine lv_iload (pc := 121) hx hcb dX11_priceTo_121 (lv_at hl 4 rfl) ?_
                    refine lv_aload_n (pc := 123) hx hcb dX11_priceTo_123 rfl (lv_at hl 0 rfl) ?_
                    refine kget (v := .ref (X.2.1 10)) (pc := 124) hx hcb hts hown hS hW iwX11 kOM_0 rfl 16 (by decide) q874 rfl rfl dX11_priceTo_124 ?_
                    refine lv_iload (pc := 127) hx hcb dX11_priceTo_127 (lv_at hl 4 rfl) ?_
                    have hin15 := h.1
                    have h := h.2
                    refine kiald (x4_14.toNatClampNeg) (pc := 129) hx hcb hS hW kIM_10 rfl (kin_of hin15 (by decide)) dX11_priceTo_129 ?_
                    have hin16 := h.1
                    have h := h.2
                    refine kiast (x4_14.toNatClampNeg) (pc := 130) hx hcb hS hW kIM_9 rfl (kin_of hin16 (by decide)) dX11_priceTo_130 (fun σ17 H locs eσ17 hW => ?_)
                    have h := h σ17 eσ17
                    refine lv_iinc (v := x4_14 + 1) (lv' := [(4, .int (x4_14 + 1)), (0, .ref (X.2.1 0)), (1, .int x1), (2, .int x2_2), (3, .int x3_10)]) (pc := 131) hx hcb dX11_priceTo_131 hl (k := 4) rfl rfl (by decide) rfl (fun ls hl => ?_)
                    refine lv_goto (tgt := 109) (pc := 134) hx hcb dX11_priceTo_134 (by decide) ?_
                    exact ih σ17 (x4_14 + 1) _ _ _ h hW (lv_sub hl [1, 2, 3, 4, 0] rfl)
              obtain ⟨n, h⟩ := h
              exact hL109 n σ11 0 _ _ _ h hW (lv_sub hl [1, 2, 3, 4, 0] rfl)
            have hL44 : ∀ (n : Nat) (σ18 : Mm) (x4_19 : Int32) (H : Heap) (locs : List Loc) (ls : Array Slot), wp_X11_priceTo_L44 x1 x2_2 x3_10 K106 n σ18 x4_19 → kW kZM X (kA kZM X) s σ18 H locs → lv_has ls 5 [(0, .ref (X.2.1 0)), (1, .int x1), (2, .int x2_2), (3, .int x3_10), (4, .int x4_19)] → W p l e rm_X11_priceTo s m args below meth c H locs 0 0 Q (F0 m 44 ls []) := by
              intro n
              induction n with
              | zero =>
                intro σ18 x4_19 H locs ls h
                exact False.elim h
              | succ n ih =>
                intro σ18 x4_19 H locs ls h hW hl
                unfold wp_X11_priceTo_L44 at h
                refine lv_iload (pc := 44) hx hcb dX11_priceTo_44 (lv_at hl 4 rfl) ?_
                refine lv_sipush (v := 1008) (pc := 46) hx hcb dX11_priceTo_46 rfl ?_
                refine lv_icmp_ge (tgt := 106) (pc := 49) hx hcb dX11_priceTo_49 (by decide) (fun c49 => ?_) (fun c49 => ?_)
                · have h := h.1 c49
                  exact hK106 σ18 _ _ _ h hW (lv_sub hl [0, 1, 2, 3] rfl)
                · have h := h.2 c49
                  refine lv_aload_n (pc := 52) hx hcb dX11_priceTo_52 rfl (lv_at hl 0 rfl) ?_
                  refine kget (v := .ref (X.2.1 10)) (pc := 53) hx hcb hts hown hS hW iwX11 kOM_0 rfl 16 (by decide) q874 rfl rfl dX11_priceTo_53 ?_
                  refine lv_iload (pc := 56) hx hcb dX11_priceTo_56 (lv_at hl 4 rfl) ?_
                  refine lv_aload_n (pc := 58) hx hcb dX11_priceTo_58 rfl (lv_at hl 0 rfl) ?_
                  refine lv_iload (pc := 59) hx hcb dX11_priceTo_59 (lv_at hl 4 rfl) ?_
                  refine kci (krunV (As := [.int x4_19]) (rest := [.int x4_19, .ref (X.2.1 10)]) (pc := 61) hx hcb hml hown hts hS hW (c_X11_isState l X σ18 x4_19 _ h) mf_X11_isState q1062 kOM_0 rfl ⟨rfl, rfl⟩ ⟨Nat.le_of_ble_eq_true rfl, Nat.le_of_ble_eq_true rfl⟩ rfl hl.1 rfl (Nat.le_of_ble_eq_true rfl) dX11_priceTo_61 ⟨Nat.zero_le _, Nat.zero_le _⟩) hS hW (fun r21 σ20 H locs h hW => ?_)
                  obtain ⟨h, rfl⟩ := h
                  obtain ⟨K99, hk99, h⟩ := h
                  have hK99 : ∀ (v22 : Int32) (H : Heap) (locs : List Loc) (ls : Array Slot), K99 v22 → kW kZM X (kA kZM X) s σ18 H locs → lv_has ls 5 [(0, .ref (X.2.1 0)), (1, .int x1), (2, .int x2_2), (3, .int x3_10), (4, .int x4_19)] → W p l e rm_X11_priceTo s m args below meth c H locs 0 0 Q (F0 m 99 ls [.int v22, .int x4_19, .ref (X.2.1 10)]) := by
                    intro v22 H locs ls h hW hl
                    have h := hk99 v22 h
                    have hin23 := h.1
                    have h := h.2
                    refine kiast (x4_19.toNatClampNeg) (pc := 99) hx hcb hS hW kIM_10 rfl (kin_of hin23 (by decide)) dX11_priceTo_99 (fun σ24 H locs eσ24 hW => ?_)
                    have h := h σ24 eσ24
                    refine lv_iinc (v := x4_19 + 1) (lv' := [(4, .int (x4_19 + 1)), (0, .ref (X.2.1 0)), (1, .int x1), (2, .int x2_2), (3, .int x3_10)]) (pc := 100) hx hcb dX11_priceTo_100 hl (k := 4) rfl rfl (by decide) rfl (fun ls hl => ?_)
                    refine lv_goto (tgt := 44) (pc := 103) hx hcb dX11_priceTo_103 (by decide) ?_
                    exact ih σ24 (x4_19 + 1) _ _ _ h hW (lv_sub hl [1, 2, 3, 4, 0] rfl)
                  obtain ⟨K97, hk97, h⟩ := h
                  have hK97 : ∀  (H : Heap) (locs : List Loc) (ls : Array Slot), K97 → kW kZM X (kA kZM X) s σ18 H locs → lv_has ls 5 [(0, .ref (X.2.1 0)), (1, .int x1), (2, .int x2_2), (3, .int x3_10), (4, .int x4_19)] → W p l e rm_X11_priceTo s m args below meth c H locs 0 0 Q (F0 m 97 ls [.int x4_19, .ref (X.2.1 10)]) := by
                    intro  H locs ls h hW hl
                    have h := hk97 h
                    refine kldc (v := 999999) (pc := 97) hx hcb hown hts q857 dX11_priceTo_97 ?_
                    exact hK99 999999 _ _ _ h hW (lv_sub hl [0, 1, 2, 3, 4] rfl)
                  refine lv_if_eq (tgt := 97) (pc := 64) hx hcb dX11_priceTo_64 (by decide) (fun c64 => ?_) (fun c64 => ?_)
                  · have h := h.1 c64
                    exact hK97  _ _ _ h hW (lv_sub hl [0, 1, 2, 3, 4] rfl)
                  · have h := h.2 c64
                    refine lv_aload_n (pc := 67) hx hcb dX11_priceTo_67 rfl (lv_at hl 0 rfl) ?_
                    refine lv_iload (pc := 68) hx hcb dX11_priceTo_68 (lv_at hl 4 rfl) ?_
                    refine lv_iload_n (pc := 70) hx hcb dX11_priceTo_70 rfl (lv_at hl 3 rfl) ?_
                    refine lv_iload_n (pc := 71) hx hcb dX11_priceTo_71 rfl (lv_at hl 1 rfl) ?_
                    refine kci (krunV (As := [.int x4_19, .int x3_10, .int x1]) (rest := [.int x4_19, .ref (X.2.1 10)]) (pc := 72) hx hcb hml hown hts hS hW (c_X11_fits l X σ18 x4_19 x3_10 x1 _ h) mf_X11_fits q1066 kOM_0 rfl ⟨rfl, rfl⟩ ⟨Nat.le_of_ble_eq_true rfl, Nat.le_of_ble_eq_true rfl⟩ rfl hl.1 rfl (Nat.le_of_ble_eq_true rfl) dX11_priceTo_72 ⟨Nat.zero_le _, Nat.zero_le _⟩) hS hW (fun r26 σ25 H locs h hW => ?_)
                    obtain ⟨h, rfl⟩ := h
                    refine lv_if_eq (tgt := 97) (pc := 75) hx hcb dX11_priceTo_75 (by decide) (fun c75 => ?_) (fun c75 => ?_)
                    · have h := h.1 c75
                      exact hK97  _ _ _ h hW (lv_sub hl [0, 1, 2, 3, 4] rfl)
                    · have h := h.2 c75
                      refine lv_iload_n (pc := 78) hx hcb dX11_priceTo_78 rfl (lv_at hl 3 rfl) ?_
                      refine lv_iload_n (pc := 79) hx hcb dX11_priceTo_79 rfl (lv_at hl 2 rfl) ?_
                      refine lv_icmp_ne (tgt := 87) (pc := 80) hx hcb dX11_priceTo_80 (by decide) (fun c80 => ?_) (fun c80 => ?_)
                      · have h := h.1 c80
                        refine lv_aload_n (pc := 87) hx hcb dX11_priceTo_87 rfl (lv_at hl 0 rfl) ?_
                        refine lv_iload (pc := 88) hx hcb dX11_priceTo_88 (lv_at hl 4 rfl) ?_
                        refine lv_iload_n (pc := 90) hx hcb dX11_priceTo_90 rfl (lv_at hl 3 rfl) ?_
                        refine kci (krunV (As := [.int x4_19, .int x3_10]) (rest := [.int x4_19, .ref (X.2.1 10)]) (pc := 91) hx hcb hml hown hts hS hW (c_X11_leastOf l X σ18 x4_19 x3_10 _ h) mf_X11_leastOf q1070 kOM_0 rfl ⟨rfl, rfl⟩ ⟨Nat.le_of_ble_eq_true rfl, Nat.le_of_ble_eq_true rfl⟩ rfl hl.1 rfl (Nat.le_of_ble_eq_true rfl) dX11_priceTo_91 ⟨Nat.zero_le _, Nat.zero_le _⟩) hS hW (fun r28 σ27 H locs h hW => ?_)
                        obtain ⟨h, rfl⟩ := h
                        refine lv_goto (tgt := 99) (pc := 94) hx hcb dX11_priceTo_94 (by decide) ?_
                        exact hK99 r28 _ _ _ h hW (lv_sub hl [0, 1, 2, 3, 4] rfl)
                      · have h := h.2 c80
                        refine lv_iconst (v := 0) (pc := 83) hx hcb dX11_priceTo_83 rfl ?_
                        refine lv_goto (tgt := 99) (pc := 84) hx hcb dX11_priceTo_84 (by decide) ?_
                        exact hK99 0 _ _ _ h hW (lv_sub hl [0, 1, 2, 3, 4] rfl)
            obtain ⟨n, h⟩ := h
            exact hL44 n σ9 0 _ _ _ h hW (lv_sub hl [1, 2, 3, 4, 0] rfl)
      obtain ⟨n, h⟩ := h
      exact hL37 n σ3 x2_2 _ _ _ h hW (lv_sub hl [1, 2, 3, 0] rfl)
    have hL15 : ∀ (n : Nat) (σ29 : Mm) (x3_30 : Int32) (H : Heap) (locs : List Loc) (ls : Array Slot), wp_X11_priceTo_L15 K35 n σ29 x3_30 → kW kZM X (kA kZM X) s σ29 H locs → lv_has ls 5 [(0, .ref (X.2.1 0)), (1, .int x1), (2, .int x2_2), (3, .int x3_30)] → W p l e rm_X11_priceTo s m args below meth c H locs 0 0 Q (F0 m 15 ls []) := by
      intro n
      induction n with
      | zero =>
        intro σ29 x3_30 H locs ls h
        exact False.elim h
      | succ n ih =>
        intro σ29 x3_30 H locs ls h hW hl
        unfold wp_X11_priceTo_L15 at h
        refine lv_iload_n (pc := 15) hx hcb dX11_priceTo_15 rfl (lv_at hl 3 rfl) ?_
        refine lv_sipush (v := 1008) (pc := 16) hx hcb dX11_priceTo_16 rfl ?_
        refine lv_icmp_ge (tgt := 35) (pc := 19) hx hcb dX11_priceTo_19 (by decide) (fun c19 => ?_) (fun c19 => ?_)
        · have h := h.1 c19
          exact hK35 σ29 _ _ _ h hW (lv_sub hl [0, 1, 2] rfl)
        · have h := h.2 c19
          refine lv_aload_n (pc := 22) hx hcb dX11_priceTo_22 rfl (lv_at hl 0 rfl) ?_
          refine kget (v := .ref (X.2.1 9)) (pc := 23) hx hcb hts hown hS hW iwX11 kOM_0 rfl 15 (by decide) q873 rfl rfl dX11_priceTo_23 ?_
          refine lv_iload_n (pc := 26) hx hcb dX11_priceTo_26 rfl (lv_at hl 3 rfl) ?_
          refine lv_iconst (v := 0) (pc := 27) hx hcb dX11_priceTo_27 rfl ?_
          have hin31 := h.1
          have h := h.2
          refine kiast (x3_30.toNatClampNeg) (pc := 28) hx hcb hS hW kIM_9 rfl (kin_of hin31 (by decide)) dX11_priceTo_28 (fun σ32 H locs eσ32 hW => ?_)
          have h := h σ32 eσ32
          refine lv_iinc (v := x3_30 + 1) (lv' := [(3, .int (x3_30 + 1)), (0, .ref (X.2.1 0)), (1, .int x1), (2, .int x2_2)]) (pc := 29) hx hcb dX11_priceTo_29 hl (k := 3) rfl rfl (by decide) rfl (fun ls hl => ?_)
          refine lv_goto (tgt := 15) (pc := 32) hx hcb dX11_priceTo_32 (by decide) ?_
          exact ih σ32 (x3_30 + 1) _ _ _ h hW (lv_sub hl [1, 2, 3, 0] rfl)
    obtain ⟨n, h⟩ := h
    exact hL15 n σ 0 _ _ _ h hW (lv_sub hl [2, 3, 1, 0] rfl)
  · have h := h.2 c1
    refine lv_iconst (v := 0) (pc := 4) hx hcb dX11_priceTo_4 rfl ?_
    exact hret _ _ _ _ _ _ rfl h hW dX11_priceTo_5
abbrev rm_X11_bars : Room := { frames := 5, cells := 0, slots := 0, locals := 124 }
set_option maxHeartbeats 4000000 in
set_option maxRecDepth 100000 in
theorem c_X11_bars (l : Launch) (X : KX) (σ : Mm)  (Φ : Int32 → Mm → Prop) (h : wp_X11_bars σ  Φ) : Met l yX11_bars (.code yX11_bars cX11_bars 3 (some .int) :: kT) rm_X11_bars (va_Pc [.ref (X.2.1 0)] (kPre kZM X σ)) (va_Qi (fun r σ' => Φ r σ') (fun σ' t => kPre kZM X σ' t) (kA kZM X)) 0 0 (kA kZM X) := by
  refine kofI (by decide) (Nat.le_of_ble_eq_true rfl) ?_
  intro p e s m args below meth c ls Q hx hcb hml hown hts hS hW hl hret
  have hown : s.vm.findClass RX11 = some m.cls := hown
  have hl : lv_has ls 3 [(0, .ref (X.2.1 0))] := hl
  unfold wp_X11_bars at h
  refine lv_bipush (v := (-4)) (pc := 0) hx hcb dX11_bars_0 rfl ?_
  refine lv_istore_n (lv' := [(1, .int (-4)), (0, .ref (X.2.1 0))]) (pc := 2) hx hcb dX11_bars_2 rfl hl (by decide) rfl (fun ls hl => ?_)
  refine lv_iconst (v := 0) (pc := 3) hx hcb dX11_bars_3 rfl ?_
  refine lv_istore_n (lv' := [(2, .int 0), (1, .int (-4)), (0, .ref (X.2.1 0))]) (pc := 4) hx hcb dX11_bars_4 rfl hl (by decide) rfl (fun ls hl => ?_)
  have hL5 : ∀ (n : Nat) (σ1 : Mm) (x1_2 : Int32) (x2_3 : Int32) (H : Heap) (locs : List Loc) (ls : Array Slot), wp_X11_bars_L5 Φ n σ1 x1_2 x2_3 → kW kZM X (kA kZM X) s σ1 H locs → lv_has ls 3 [(0, .ref (X.2.1 0)), (1, .int x1_2), (2, .int x2_3)] → W p l e rm_X11_bars s m args below meth c H locs 0 0 Q (F0 m 5 ls []) := by
    intro n
    induction n with
    | zero =>
      intro σ1 x1_2 x2_3 H locs ls h
      exact False.elim h
    | succ n ih =>
      intro σ1 x1_2 x2_3 H locs ls h hW hl
      unfold wp_X11_bars_L5 at h
      refine lv_iload_n (pc := 5) hx hcb dX11_bars_5 rfl (lv_at hl 2 rfl) ?_
      refine lv_aload_n (pc := 6) hx hcb dX11_bars_6 rfl (lv_at hl 0 rfl) ?_
      refine kget (v := .int (σ1.1 0 14)) (pc := 7) hx hcb hts hown hS hW iwX11 kOM_0 rfl 14 (by decide) q872 rfl rfl dX11_bars_7 ?_
      refine lv_icmp_ge (tgt := 46) (pc := 10) hx hcb dX11_bars_10 (by decide) (fun c10 => ?_) (fun c10 => ?_)
      · have h := h.1 c10
        refine lv_iload_n (pc := 46) hx hcb dX11_bars_46 rfl (lv_at hl 1 rfl) ?_
        exact hret _ _ _ _ _ _ rfl h hW dX11_bars_47
      · have h := h.2 c10
        refine lv_aload_n (pc := 13) hx hcb dX11_bars_13 rfl (lv_at hl 0 rfl) ?_
        refine lv_iload_n (pc := 14) hx hcb dX11_bars_14 rfl (lv_at hl 2 rfl) ?_
        refine kci (krunV (As := [.int x2_3]) (rest := []) (pc := 15) hx hcb hml hown hts hS hW (c_X11_priceTo l X σ1 x2_3 _ h) mf_X11_priceTo q1058 kOM_0 rfl ⟨rfl, rfl⟩ ⟨Nat.le_of_ble_eq_true rfl, Nat.le_of_ble_eq_true rfl⟩ rfl hl.1 rfl (Nat.le_of_ble_eq_true rfl) dX11_bars_15 ⟨Nat.zero_le _, Nat.zero_le _⟩) hS hW (fun r5 σ4 H locs h hW => ?_)
        refine kldc (v := 999999) (pc := 18) hx hcb hown hts q857 dX11_bars_18 ?_
        obtain ⟨K40, hk40, h⟩ := h
        have hK40 : ∀ (x1_6 : Int32) (H : Heap) (locs : List Loc) (ls : Array Slot), K40 x1_6 → kW kZM X (kA kZM X) s σ4 H locs → lv_has ls 3 [(0, .ref (X.2.1 0)), (1, .int x1_6), (2, .int x2_3)] → W p l e rm_X11_bars s m args below meth c H locs 0 0 Q (F0 m 40 ls []) := by
          intro x1_6 H locs ls h hW hl
          have h := hk40 x1_6 h
          refine lv_iinc (v := x2_3 + 1) (lv' := [(2, .int (x2_3 + 1)), (0, .ref (X.2.1 0)), (1, .int x1_6)]) (pc := 40) hx hcb dX11_bars_40 hl (k := 2) rfl rfl (by decide) rfl (fun ls hl => ?_)
          refine lv_goto (tgt := 5) (pc := 43) hx hcb dX11_bars_43 (by decide) ?_
          exact ih σ4 x1_6 (x2_3 + 1) _ _ _ h hW (lv_sub hl [1, 2, 0] rfl)
        refine lv_icmp_lt (tgt := 40) (pc := 20) hx hcb dX11_bars_20 (by decide) (fun c20 => ?_) (fun c20 => ?_)
        · have h := h.1 c20
          exact hK40 x1_2 _ _ _ h hW (lv_sub hl [0, 1, 2] rfl)
        · have h := h.2 c20
          refine lv_iload_n (pc := 23) hx hcb dX11_bars_23 rfl (lv_at hl 1 rfl) ?_
          refine lv_bipush (v := (-4)) (pc := 24) hx hcb dX11_bars_24 rfl ?_
          obtain ⟨K38, hk38, h⟩ := h
          have hK38 : ∀  (H : Heap) (locs : List Loc) (ls : Array Slot), K38 → kW kZM X (kA kZM X) s σ4 H locs → lv_has ls 3 [(0, .ref (X.2.1 0)), (2, .int x2_3)] → W p l e rm_X11_bars s m args below meth c H locs 0 0 Q (F0 m 38 ls []) := by
            intro  H locs ls h hW hl
            have h := hk38 h
            refine lv_iload_n (pc := 38) hx hcb dX11_bars_38 rfl (lv_at hl 1 rfl) ?_
            refine lv_istore_n (lv' := [(1, .int x2_3), (0, .ref (X.2.1 0)), (2, .int x2_3)]) (pc := 39) hx hcb dX11_bars_39 rfl hl (by decide) rfl (fun ls hl => ?_)
            exact hK40 x2_3 _ _ _ h hW (lv_sub hl [1, 0, 2] rfl)
          refine lv_icmp_eq (tgt := 38) (pc := 26) hx hcb dX11_bars_26 (by decide) (fun c26 => ?_) (fun c26 => ?_)
          · have h := h.1 c26
            exact hK38  _ _ _ h hW (lv_sub hl [0, 2] rfl)
          · have h := h.2 c26
            refine lv_aload_n (pc := 29) hx hcb dX11_bars_29 rfl (lv_at hl 0 rfl) ?_
            refine lv_iload_n (pc := 30) hx hcb dX11_bars_30 rfl (lv_at hl 2 rfl) ?_
            refine lv_iload_n (pc := 31) hx hcb dX11_bars_31 rfl (lv_at hl 1 rfl) ?_
            refine kci (krunV (As := [.int x2_3, .int x1_2]) (rest := []) (pc := 32) hx hcb hml hown hts hS hW (c_X11_isUpTo l X σ4 x2_3 x1_2 _ h) mf_X11_isUpTo q1054 kOM_0 rfl ⟨rfl, rfl⟩ ⟨Nat.le_of_ble_eq_true rfl, Nat.le_of_ble_eq_true rfl⟩ rfl hl.1 rfl (Nat.le_of_ble_eq_true rfl) dX11_bars_32 ⟨Nat.zero_le _, Nat.zero_le _⟩) hS hW (fun r8 σ7 H locs h hW => ?_)
            obtain ⟨h, rfl⟩ := h
            refine lv_if_eq (tgt := 40) (pc := 35) hx hcb dX11_bars_35 (by decide) (fun c35 => ?_) (fun c35 => ?_)
            · have h := h.1 c35
              exact hK40 x1_2 _ _ _ h hW (lv_sub hl [0, 1, 2] rfl)
            · have h := h.2 c35
              exact hK38  _ _ _ h hW (lv_sub hl [0, 2] rfl)
  obtain ⟨n, h⟩ := h
  exact hL5 n σ (-4) 0 _ _ _ h hW (lv_sub hl [2, 1, 0] rfl)
abbrev rm_X11_begin : Room := { frames := 0, cells := 0, slots := 0, locals := 0 }
set_option maxHeartbeats 4000000 in
set_option maxRecDepth 100000 in
theorem c_X11_begin (l : Launch) (X : KX) (σ : Mm)  (Φ : Mm → Prop) (h : wp_X11_begin σ  Φ) : Met l yX11_begin (.code yX11_begin cX11_begin 5 none :: kT) rm_X11_begin (va_Pc [.ref (X.2.1 0)] (kPre kZM X σ)) (va_Qv (fun σ' => Φ σ') (fun σ' t => kPre kZM X σ' t) (kA kZM X)) 0 0 (kA kZM X) := by
  refine kofV (by decide) (Nat.le_of_ble_eq_true rfl) ?_
  intro p e s m args below meth c ls Q hx hcb hml hown hts hS hW hl hret
  have hown : s.vm.findClass RX11 = some m.cls := hown
  have hl : lv_has ls 5 [(0, .ref (X.2.1 0))] := hl
  unfold wp_X11_begin at h
  refine lv_iconst (v := 0) (pc := 0) hx hcb dX11_begin_0 rfl ?_
  refine lv_istore_n (lv' := [(1, .int 0), (0, .ref (X.2.1 0))]) (pc := 1) hx hcb dX11_begin_1 rfl hl (by decide) rfl (fun ls hl => ?_)
  obtain ⟨K70, hk70, h⟩ := h
  have hK70 : ∀ (σ1 : Mm) (H : Heap) (locs : List Loc) (ls : Array Slot), K70 σ1 → kW kZM X (kA kZM X) s σ1 H locs → lv_has ls 5 [(0, .ref (X.2.1 0))] → W p l e rm_X11_begin s m args below meth c H locs 0 0 Q (F0 m 70 ls []) := by
    intro σ1 H locs ls h hW hl
    have h := hk70 σ1 h
    refine lv_iconst (v := 0) (pc := 70) hx hcb dX11_begin_70 rfl ?_
    refine lv_istore_n (lv' := [(1, .int 0), (0, .ref (X.2.1 0))]) (pc := 71) hx hcb dX11_begin_71 rfl hl (by decide) rfl (fun ls hl => ?_)
    obtain ⟨K180, hk180, h⟩ := h
    have hK180 : ∀ (σ2 : Mm) (H : Heap) (locs : List Loc) (ls : Array Slot), K180 σ2 → kW kZM X (kA kZM X) s σ2 H locs → lv_has ls 5 [(0, .ref (X.2.1 0))] → W p l e rm_X11_begin s m args below meth c H locs 0 0 Q (F0 m 180 ls []) := by
      intro σ2 H locs ls h hW hl
      have h := hk180 σ2 h
      refine lv_aload_n (pc := 180) hx hcb dX11_begin_180 rfl (lv_at hl 0 rfl) ?_
      refine kget (v := .ref (X.2.1 4)) (pc := 181) hx hcb hts hown hS hW iwX11 kOM_0 rfl 7 (by decide) q865 rfl rfl dX11_begin_181 ?_
      refine lv_iconst (v := 0) (pc := 184) hx hcb dX11_begin_184 rfl ?_
      refine lv_iconst (v := 0) (pc := 185) hx hcb dX11_begin_185 rfl ?_
      refine kiast 0 (pc := 186) hx hcb hS hW kIM_4 rfl (kin_of ⟨by decide, by decide⟩ (by decide)) dX11_begin_186 (fun σ3 H locs eσ3 hW => ?_)
      have h := h σ3 eσ3
      refine lv_aload_n (pc := 187) hx hcb dX11_begin_187 rfl (lv_at hl 0 rfl) ?_
      refine kget (v := .ref (X.2.1 4)) (pc := 188) hx hcb hts hown hS hW iwX11 kOM_0 rfl 7 (by decide) q865 rfl rfl dX11_begin_188 ?_
      refine lv_iconst (v := 1) (pc := 191) hx hcb dX11_begin_191 rfl ?_
      refine lv_aload_n (pc := 192) hx hcb dX11_begin_192 rfl (lv_at hl 0 rfl) ?_
      refine kget (v := .ref (X.2.1 1)) (pc := 193) hx hcb hts hown hS hW iwX11 kOM_0 rfl 0 (by decide) q858 rfl rfl dX11_begin_193 ?_
      refine lv_iconst (v := 3) (pc := 196) hx hcb dX11_begin_196 rfl ?_
      refine kiald 3 (pc := 197) hx hcb hS hW kIM_1 rfl (kin_of ⟨by decide, by decide⟩ (by decide)) dX11_begin_197 ?_
      refine kiast 1 (pc := 198) hx hcb hS hW kIM_4 rfl (kin_of ⟨by decide, by decide⟩ (by decide)) dX11_begin_198 (fun σ4 H locs eσ4 hW => ?_)
      have h := h σ4 eσ4
      refine lv_aload_n (pc := 199) hx hcb dX11_begin_199 rfl (lv_at hl 0 rfl) ?_
      refine kget (v := .ref (X.2.1 4)) (pc := 200) hx hcb hts hown hS hW iwX11 kOM_0 rfl 7 (by decide) q865 rfl rfl dX11_begin_200 ?_
      refine lv_iconst (v := 2) (pc := 203) hx hcb dX11_begin_203 rfl ?_
      refine lv_iconst (v := 0) (pc := 204) hx hcb dX11_begin_204 rfl ?_
      refine kiast 2 (pc := 205) hx hcb hS hW kIM_4 rfl (kin_of ⟨by decide, by decide⟩ (by decide)) dX11_begin_205 (fun σ5 H locs eσ5 hW => ?_)
      have h := h σ5 eσ5
      refine lv_aload_n (pc := 206) hx hcb dX11_begin_206 rfl (lv_at hl 0 rfl) ?_
      refine lv_iconst (v := 0) (pc := 207) hx hcb dX11_begin_207 rfl ?_
      refine kput (ty := .int) (pc := 208) hx hcb hts hown hS hW iwX11 tyX11 tyX11_ok nmX11 kOM_0 rfl 9 (by decide) q867 rfl rfl rfl rfl rfl (Nat.le_of_ble_eq_true rfl) rfl dX11_begin_208 (fun σ6 H locs eσ6 hW => ?_)
      have h := h σ6 eσ6
      refine lv_aload_n (pc := 211) hx hcb dX11_begin_211 rfl (lv_at hl 0 rfl) ?_
      refine lv_iconst (v := 0) (pc := 212) hx hcb dX11_begin_212 rfl ?_
      refine kput (ty := .int) (pc := 213) hx hcb hts hown hS hW iwX11 tyX11 tyX11_ok nmX11 kOM_0 rfl 11 (by decide) q869 rfl rfl rfl rfl rfl (Nat.le_of_ble_eq_true rfl) rfl dX11_begin_213 (fun σ7 H locs eσ7 hW => ?_)
      have h := h σ7 eσ7
      refine lv_aload_n (pc := 216) hx hcb dX11_begin_216 rfl (lv_at hl 0 rfl) ?_
      refine lv_iconst (v := 0) (pc := 217) hx hcb dX11_begin_217 rfl ?_
      refine kput (ty := .int) (pc := 218) hx hcb hts hown hS hW iwX11 tyX11 tyX11_ok nmX11 kOM_0 rfl 14 (by decide) q872 rfl rfl rfl rfl rfl (Nat.le_of_ble_eq_true rfl) rfl dX11_begin_218 (fun σ8 H locs eσ8 hW => ?_)
      have h := h σ8 eσ8
      refine lv_aload_n (pc := 221) hx hcb dX11_begin_221 rfl (lv_at hl 0 rfl) ?_
      refine lv_iconst (v := 0) (pc := 222) hx hcb dX11_begin_222 rfl ?_
      refine kput (ty := .int) (pc := 223) hx hcb hts hown hS hW iwX11 tyX11 tyX11_ok nmX11 kOM_0 rfl 21 (by decide) q879 rfl rfl rfl rfl rfl (Nat.le_of_ble_eq_true rfl) rfl dX11_begin_223 (fun σ9 H locs eσ9 hW => ?_)
      have h := h σ9 eσ9
      exact hret _ _ _ _ _ h hW dX11_begin_226
    have hL72 : ∀ (n : Nat) (σ10 : Mm) (x1_11 : Int32) (H : Heap) (locs : List Loc) (ls : Array Slot), wp_X11_begin_L72 K180 n σ10 x1_11 → kW kZM X (kA kZM X) s σ10 H locs → lv_has ls 5 [(0, .ref (X.2.1 0)), (1, .int x1_11)] → W p l e rm_X11_begin s m args below meth c H locs 0 0 Q (F0 m 72 ls []) := by
      intro n
      induction n with
      | zero =>
        intro σ10 x1_11 H locs ls h
        exact False.elim h
      | succ n ih =>
        intro σ10 x1_11 H locs ls h hW hl
        unfold wp_X11_begin_L72 at h
        refine lv_iload_n (pc := 72) hx hcb dX11_begin_72 rfl (lv_at hl 1 rfl) ?_
        refine lv_bipush (v := 8) (pc := 73) hx hcb dX11_begin_73 rfl ?_
        refine lv_icmp_ge (tgt := 180) (pc := 75) hx hcb dX11_begin_75 (by decide) (fun c75 => ?_) (fun c75 => ?_)
        · have h := h.1 c75
          exact hK180 σ10 _ _ _ h hW (lv_sub hl [0] rfl)
        · have h := h.2 c75
          refine lv_iconst (v := 0) (pc := 78) hx hcb dX11_begin_78 rfl ?_
          refine lv_istore_n (lv' := [(2, .int 0), (0, .ref (X.2.1 0)), (1, .int x1_11)]) (pc := 79) hx hcb dX11_begin_79 rfl hl (by decide) rfl (fun ls hl => ?_)
          obtain ⟨K174, hk174, h⟩ := h
          have hK174 : ∀ (σ12 : Mm) (H : Heap) (locs : List Loc) (ls : Array Slot), K174 σ12 → kW kZM X (kA kZM X) s σ12 H locs → lv_has ls 5 [(0, .ref (X.2.1 0)), (1, .int x1_11)] → W p l e rm_X11_begin s m args below meth c H locs 0 0 Q (F0 m 174 ls []) := by
            intro σ12 H locs ls h hW hl
            have h := hk174 σ12 h
            refine lv_iinc (v := x1_11 + 1) (lv' := [(1, .int (x1_11 + 1)), (0, .ref (X.2.1 0))]) (pc := 174) hx hcb dX11_begin_174 hl (k := 1) rfl rfl (by decide) rfl (fun ls hl => ?_)
            refine lv_goto (tgt := 72) (pc := 177) hx hcb dX11_begin_177 (by decide) ?_
            exact ih σ12 (x1_11 + 1) _ _ _ h hW (lv_sub hl [1, 0] rfl)
          have hL80 : ∀ (n : Nat) (σ13 : Mm) (x2_14 : Int32) (H : Heap) (locs : List Loc) (ls : Array Slot), wp_X11_begin_L80 x1_11 K174 n σ13 x2_14 → kW kZM X (kA kZM X) s σ13 H locs → lv_has ls 5 [(0, .ref (X.2.1 0)), (1, .int x1_11), (2, .int x2_14)] → W p l e rm_X11_begin s m args below meth c H locs 0 0 Q (F0 m 80 ls []) := by
            intro n
            induction n with
            | zero =>
              intro σ13 x2_14 H locs ls h
              exact False.elim h
            | succ n ih =>
              intro σ13 x2_14 H locs ls h hW hl
              unfold wp_X11_begin_L80 at h
              refine lv_iload_n (pc := 80) hx hcb dX11_begin_80 rfl (lv_at hl 2 rfl) ?_
              refine lv_bipush (v := 8) (pc := 81) hx hcb dX11_begin_81 rfl ?_
              refine lv_icmp_ge (tgt := 174) (pc := 83) hx hcb dX11_begin_83 (by decide) (fun c83 => ?_) (fun c83 => ?_)
              · have h := h.1 c83
                exact hK174 σ13 _ _ _ h hW (lv_sub hl [0, 1] rfl)
              · have h := h.2 c83
                refine lv_iconst (v := 0) (pc := 86) hx hcb dX11_begin_86 rfl ?_
                refine lv_istore_n (lv' := [(3, .int 0), (0, .ref (X.2.1 0)), (1, .int x1_11), (2, .int x2_14)]) (pc := 87) hx hcb dX11_begin_87 rfl hl (by decide) rfl (fun ls hl => ?_)
                obtain ⟨K168, hk168, h⟩ := h
                have hK168 : ∀ (σ15 : Mm) (H : Heap) (locs : List Loc) (ls : Array Slot), K168 σ15 → kW kZM X (kA kZM X) s σ15 H locs → lv_has ls 5 [(0, .ref (X.2.1 0)), (1, .int x1_11), (2, .int x2_14)] → W p l e rm_X11_begin s m args below meth c H locs 0 0 Q (F0 m 168 ls []) := by
                  intro σ15 H locs ls h hW hl
                  have h := hk168 σ15 h
                  refine lv_iinc (v := x2_14 + 1) (lv' := [(2, .int (x2_14 + 1)), (0, .ref (X.2.1 0)), (1, .int x1_11)]) (pc := 168) hx hcb dX11_begin_168 hl (k := 2) rfl rfl (by decide) rfl (fun ls hl => ?_)
                  refine lv_goto (tgt := 80) (pc := 171) hx hcb dX11_begin_171 (by decide) ?_
                  exact ih σ15 (x2_14 + 1) _ _ _ h hW (lv_sub hl [1, 2, 0] rfl)
                have hL88 : ∀ (n : Nat) (σ16 : Mm) (x3_17 : Int32) (H : Heap) (locs : List Loc) (ls : Array Slot), wp_X11_begin_L88 x1_11 x2_14 K168 n σ16 x3_17 → kW kZM X (kA kZM X) s σ16 H locs → lv_has ls 5 [(0, .ref (X.2.1 0)), (1, .int x1_11), (2, .int x2_14), (3, .int x3_17)] → W p l e rm_X11_begin s m args below meth c H locs 0 0 Q (F0 m 88 ls []) := by
                  intro n
                  induction n with
                  | zero =>
                    intro σ16 x3_17 H locs ls h
                    exact False.elim h
                  | succ n ih =>
                    intro σ16 x3_17 H locs ls h hW hl
                    unfold wp_X11_begin_L88 at h
                    refine lv_iload_n (pc := 88) hx hcb dX11_begin_88 rfl (lv_at hl 3 rfl) ?_
                    refine lv_bipush (v := 8) (pc := 89) hx hcb dX11_begin_89 rfl ?_
                    refine lv_icmp_ge (tgt := 168) (pc := 91) hx hcb dX11_begin_91 (by decide) (fun c91 => ?_) (fun c91 => ?_)
                    · have h := h.1 c91
                      exact hK168 σ16 _ _ _ h hW (lv_sub hl [0, 1, 2] rfl)
                    · have h := h.2 c91
                      refine lv_aload_n (pc := 94) hx hcb dX11_begin_94 rfl (lv_at hl 0 rfl) ?_
                      refine kget (v := .ref (X.2.1 2)) (pc := 95) hx hcb hts hown hS hW iwX11 kOM_0 rfl 1 (by decide) q859 rfl rfl dX11_begin_95 ?_
                      refine lv_bipush (v := 8) (pc := 98) hx hcb dX11_begin_98 rfl ?_
                      refine lv_iload_n (pc := 100) hx hcb dX11_begin_100 rfl (lv_at hl 2 rfl) ?_
                      refine lv_imul (pc := 101) hx hcb dX11_begin_101 ?_
                      refine lv_iload_n (pc := 102) hx hcb dX11_begin_102 rfl (lv_at hl 1 rfl) ?_
                      refine lv_iadd (pc := 103) hx hcb dX11_begin_103 ?_
                      have hin18 := h.1
                      have h := h.2
                      refine kiald (((8 * x2_14) + x1_11).toNatClampNeg) (pc := 104) hx hcb hS hW kIM_2 rfl (kin_of hin18 (by decide)) dX11_begin_104 ?_
                      refine lv_aload_n (pc := 105) hx hcb dX11_begin_105 rfl (lv_at hl 0 rfl) ?_
                      refine kget (v := .ref (X.2.1 2)) (pc := 106) hx hcb hts hown hS hW iwX11 kOM_0 rfl 1 (by decide) q859 rfl rfl dX11_begin_106 ?_
                      refine lv_bipush (v := 8) (pc := 109) hx hcb dX11_begin_109 rfl ?_
                      refine lv_iload_n (pc := 111) hx hcb dX11_begin_111 rfl (lv_at hl 1 rfl) ?_
                      refine lv_imul (pc := 112) hx hcb dX11_begin_112 ?_
                      refine lv_iload_n (pc := 113) hx hcb dX11_begin_113 rfl (lv_at hl 3 rfl) ?_
                      refine lv_iadd (pc := 114) hx hcb dX11_begin_114 ?_
                      have hin19 := h.1
                      have h := h.2
                      refine kiald (((8 * x1_11) + x3_17).toNatClampNeg) (pc := 115) hx hcb hS hW kIM_2 rfl (kin_of hin19 (by decide)) dX11_begin_115 ?_
                      refine lv_iadd (pc := 116) hx hcb dX11_begin_116 ?_
                      refine lv_topi (fun x4_20 ex4_20 => ?_)
                      have h := h x4_20 ex4_20
                      refine lv_istore (lv' := [(4, .int x4_20), (0, .ref (X.2.1 0)), (1, .int x1_11), (2, .int x2_14), (3, .int x3_17)]) (pc := 117) hx hcb dX11_begin_117 hl (by decide) rfl (fun ls hl => ?_)
                      refine lv_aload_n (pc := 119) hx hcb dX11_begin_119 rfl (lv_at hl 1 rfl) ?_
                      refine kget (v := .ref (X.2.1 2)) (pc := 120) hx hcb hts hown hS hW iwX11 kOM_0 rfl 1 (by decide) q859 rfl rfl dX11_begin_120 ?_
                      refine lv_bipush (v := 8) (pc := 123) hx hcb dX11_begin_123 rfl ?_
                      refine lv_iload_n (pc := 125) hx hcb dX11_begin_125 rfl (lv_at hl 3 rfl) ?_
                      refine lv_imul (pc := 126) hx hcb dX11_begin_126 ?_
                      refine lv_iload_n (pc := 127) hx hcb dX11_begin_127 rfl (lv_at hl 4 rfl) ?_
                      refine lv_iadd (pc := 128) hx hcb dX11_begin_128 ?_
                      refine lv_iload (pc := 129) hx hcb dX11_begin_129 (lv_at hl 0 rfl) ?_
                      refine lv_aload_n (pc := 131) hx hcb dX11_begin_131 rfl (lv_at hl 1 rfl) ?_
                      refine kget (v := .ref (X.2.1 2)) (pc := 132) hx hcb hts hown hS hW iwX11 kOM_0 rfl 1 (by decide) q859 rfl rfl dX11_begin_132 ?_
                      refine lv_bipush (v := 8) (pc := 135) hx hcb dX11_begin_135 rfl ?_
                      refine lv_iload_n (pc := 137) hx hcb dX11_begin_137 rfl (lv_at hl 3 rfl) ?_
                      refine lv_imul (pc := 138) hx hcb dX11_begin_138 ?_
                      refine lv_iload_n (pc := 139) hx hcb dX11_begin_139 rfl (lv_at hl 4 rfl) ?_
                      refine lv_iadd (pc := 140) hx hcb dX11_begin_140 ?_
                      have hin21 := h.1
                      have h := h.2
                      refine kiald (((8 * x2_14) + x3_17).toNatClampNeg) (pc := 141) hx hcb hS hW kIM_2 rfl (kin_of hin21 (by decide)) dX11_begin_141 ?_
                      obtain ⟨K161, hk161, h⟩ := h
                      have hK161 : ∀ (v22 : Int32) (H : Heap) (locs : List Loc) (ls : Array Slot), K161 v22 → kW kZM X (kA kZM X) s σ16 H locs → lv_has ls 5 [(0, .ref (X.2.1 0)), (1, .int x1_11), (2, .int x2_14), (3, .int x3_17)] → W p l e rm_X11_begin s m args below meth c H locs 0 0 Q (F0 m 161 ls [.int v22, .int ((8 * x2_14) + x3_17), .ref (X.2.1 2)]) := by
                        intro v22 H locs ls h hW hl
                        have h := hk161 v22 h
                        have hin23 := h.1
                        have h := h.2
                        refine kiast (((8 * x2_14) + x3_17).toNatClampNeg) (pc := 161) hx hcb hS hW kIM_2 rfl (kin_of hin23 (by decide)) dX11_begin_161 (fun σ24 H locs eσ24 hW => ?_)
                        have h := h σ24 eσ24
                        refine lv_iinc (v := x3_17 + 1) (lv' := [(3, .int (x3_17 + 1)), (0, .ref (X.2.1 0)), (1, .int x1_11), (2, .int x2_14)]) (pc := 162) hx hcb dX11_begin_162 hl (k := 3) rfl rfl (by decide) rfl (fun ls hl => ?_)
                        refine lv_goto (tgt := 88) (pc := 165) hx hcb dX11_begin_165 (by decide) ?_
                        exact ih σ24 (x3_17 + 1) _ _ _ h hW (lv_sub hl [1, 2, 3, 0] rfl)
                      refine lv_icmp_ge (tgt := 150) (pc := 142) hx hcb dX11_begin_142 (by decide) (fun c142 => ?_) (fun c142 => ?_)
                      · have h := h.1 c142
                        refine lv_aload_n (pc := 150) hx hcb dX11_begin_150 rfl (lv_at hl 1 rfl) ?_
                        refine kget (v := .ref (X.2.1 2)) (pc := 151) hx hcb hts hown hS hW iwX11 kOM_0 rfl 1 (by decide) q859 rfl rfl dX11_begin_151 ?_
                        refine lv_bipush (v := 8) (pc := 154) hx hcb dX11_begin_154 rfl ?_
                        refine lv_iload_n (pc := 156) hx hcb dX11_begin_156 rfl (lv_at hl 3 rfl) ?_
                        refine lv_imul (pc := 157) hx hcb dX11_begin_157 ?_
                        refine lv_iload_n (pc := 158) hx hcb dX11_begin_158 rfl (lv_at hl 4 rfl) ?_
                        refine lv_iadd (pc := 159) hx hcb dX11_begin_159 ?_
                        have hin25 := h.1
                        have h := h.2
                        refine kiald (((8 * x2_14) + x3_17).toNatClampNeg) (pc := 160) hx hcb hS hW kIM_2 rfl (kin_of hin25 (by decide)) dX11_begin_160 ?_
                        exact hK161 (σ16.1 2 (((8 * x2_14) + x3_17).toNatClampNeg)) _ _ _ h hW (lv_sub hl [1, 2, 3, 4] rfl)
                      · have h := h.2 c142
                        refine lv_iload (pc := 145) hx hcb dX11_begin_145 (lv_at hl 0 rfl) ?_
                        refine lv_goto (tgt := 161) (pc := 147) hx hcb dX11_begin_147 (by decide) ?_
                        exact hK161 x4_20 _ _ _ h hW (lv_sub hl [1, 2, 3, 4] rfl)
                obtain ⟨n, h⟩ := h
                exact hL88 n σ13 0 _ _ _ h hW (lv_sub hl [1, 2, 3, 0] rfl)
          obtain ⟨n, h⟩ := h
          exact hL80 n σ10 0 _ _ _ h hW (lv_sub hl [1, 2, 0] rfl)
    obtain ⟨n, h⟩ := h
    exact hL72 n σ1 0 _ _ _ h hW (lv_sub hl [1, 0] rfl)
  have hL2 : ∀ (n : Nat) (σ26 : Mm) (x1_27 : Int32) (H : Heap) (locs : List Loc) (ls : Array Slot), wp_X11_begin_L2 K70 n σ26 x1_27 → kW kZM X (kA kZM X) s σ26 H locs → lv_has ls 5 [(0, .ref (X.2.1 0)), (1, .int x1_27)] → W p l e rm_X11_begin s m args below meth c H locs 0 0 Q (F0 m 2 ls []) := by
    intro n
    induction n with
    | zero =>
      intro σ26 x1_27 H locs ls h
      exact False.elim h
    | succ n ih =>
      intro σ26 x1_27 H locs ls h hW hl
      unfold wp_X11_begin_L2 at h
      refine lv_iload_n (pc := 2) hx hcb dX11_begin_2 rfl (lv_at hl 1 rfl) ?_
      refine lv_bipush (v := 8) (pc := 3) hx hcb dX11_begin_3 rfl ?_
      refine lv_icmp_ge (tgt := 70) (pc := 5) hx hcb dX11_begin_5 (by decide) (fun c5 => ?_) (fun c5 => ?_)
      · have h := h.1 c5
        exact hK70 σ26 _ _ _ h hW (lv_sub hl [0] rfl)
      · have h := h.2 c5
        refine lv_iconst (v := 0) (pc := 8) hx hcb dX11_begin_8 rfl ?_
        refine lv_istore_n (lv' := [(2, .int 0), (0, .ref (X.2.1 0)), (1, .int x1_27)]) (pc := 9) hx hcb dX11_begin_9 rfl hl (by decide) rfl (fun ls hl => ?_)
        obtain ⟨K64, hk64, h⟩ := h
        have hK64 : ∀ (σ28 : Mm) (H : Heap) (locs : List Loc) (ls : Array Slot), K64 σ28 → kW kZM X (kA kZM X) s σ28 H locs → lv_has ls 5 [(0, .ref (X.2.1 0)), (1, .int x1_27)] → W p l e rm_X11_begin s m args below meth c H locs 0 0 Q (F0 m 64 ls []) := by
          intro σ28 H locs ls h hW hl
          have h := hk64 σ28 h
          refine lv_iinc (v := x1_27 + 1) (lv' := [(1, .int (x1_27 + 1)), (0, .ref (X.2.1 0))]) (pc := 64) hx hcb dX11_begin_64 hl (k := 1) rfl rfl (by decide) rfl (fun ls hl => ?_)
          refine lv_goto (tgt := 2) (pc := 67) hx hcb dX11_begin_67 (by decide) ?_
          exact ih σ28 (x1_27 + 1) _ _ _ h hW (lv_sub hl [1, 0] rfl)
        have hL10 : ∀ (n : Nat) (σ29 : Mm) (x2_30 : Int32) (H : Heap) (locs : List Loc) (ls : Array Slot), wp_X11_begin_L10 x1_27 K64 n σ29 x2_30 → kW kZM X (kA kZM X) s σ29 H locs → lv_has ls 5 [(0, .ref (X.2.1 0)), (1, .int x1_27), (2, .int x2_30)] → W p l e rm_X11_begin s m args below meth c H locs 0 0 Q (F0 m 10 ls []) := by
          intro n
          induction n with
          | zero =>
            intro σ29 x2_30 H locs ls h
            exact False.elim h
          | succ n ih =>
            intro σ29 x2_30 H locs ls h hW hl
            unfold wp_X11_begin_L10 at h
            refine lv_iload_n (pc := 10) hx hcb dX11_begin_10 rfl (lv_at hl 2 rfl) ?_
            refine lv_bipush (v := 8) (pc := 11) hx hcb dX11_begin_11 rfl ?_
            refine lv_icmp_ge (tgt := 64) (pc := 13) hx hcb dX11_begin_13 (by decide) (fun c13 => ?_) (fun c13 => ?_)
            · have h := h.1 c13
              exact hK64 σ29 _ _ _ h hW (lv_sub hl [0, 1] rfl)
            · have h := h.2 c13
              refine lv_aload_n (pc := 16) hx hcb dX11_begin_16 rfl (lv_at hl 0 rfl) ?_
              refine kget (v := .ref (X.2.1 2)) (pc := 17) hx hcb hts hown hS hW iwX11 kOM_0 rfl 1 (by decide) q859 rfl rfl dX11_begin_17 ?_
              refine lv_bipush (v := 8) (pc := 20) hx hcb dX11_begin_20 rfl ?_
              refine lv_iload_n (pc := 22) hx hcb dX11_begin_22 rfl (lv_at hl 1 rfl) ?_
              refine lv_imul (pc := 23) hx hcb dX11_begin_23 ?_
              refine lv_iload_n (pc := 24) hx hcb dX11_begin_24 rfl (lv_at hl 2 rfl) ?_
              refine lv_iadd (pc := 25) hx hcb dX11_begin_25 ?_
              refine lv_iload_n (pc := 26) hx hcb dX11_begin_26 rfl (lv_at hl 1 rfl) ?_
              refine lv_iload_n (pc := 27) hx hcb dX11_begin_27 rfl (lv_at hl 2 rfl) ?_
              obtain ⟨K57, hk57, h⟩ := h
              have hK57 : ∀ (v31 : Int32) (H : Heap) (locs : List Loc) (ls : Array Slot), K57 v31 → kW kZM X (kA kZM X) s σ29 H locs → lv_has ls 5 [(0, .ref (X.2.1 0)), (1, .int x1_27), (2, .int x2_30)] → W p l e rm_X11_begin s m args below meth c H locs 0 0 Q (F0 m 57 ls [.int v31, .int ((8 * x1_27) + x2_30), .ref (X.2.1 2)]) := by
                intro v31 H locs ls h hW hl
                have h := hk57 v31 h
                have hin32 := h.1
                have h := h.2
                refine kiast (((8 * x1_27) + x2_30).toNatClampNeg) (pc := 57) hx hcb hS hW kIM_2 rfl (kin_of hin32 (by decide)) dX11_begin_57 (fun σ33 H locs eσ33 hW => ?_)
                have h := h σ33 eσ33
                refine lv_iinc (v := x2_30 + 1) (lv' := [(2, .int (x2_30 + 1)), (0, .ref (X.2.1 0)), (1, .int x1_27)]) (pc := 58) hx hcb dX11_begin_58 hl (k := 2) rfl rfl (by decide) rfl (fun ls hl => ?_)
                refine lv_goto (tgt := 10) (pc := 61) hx hcb dX11_begin_61 (by decide) ?_
                exact ih σ33 (x2_30 + 1) _ _ _ h hW (lv_sub hl [1, 2, 0] rfl)
              refine lv_icmp_ne (tgt := 35) (pc := 28) hx hcb dX11_begin_28 (by decide) (fun c28 => ?_) (fun c28 => ?_)
              · have h := h.1 c28
                refine lv_aload_n (pc := 35) hx hcb dX11_begin_35 rfl (lv_at hl 0 rfl) ?_
                refine kget (v := .ref (X.2.1 1)) (pc := 36) hx hcb hts hown hS hW iwX11 kOM_0 rfl 0 (by decide) q858 rfl rfl dX11_begin_36 ?_
                refine lv_iconst (v := 4) (pc := 39) hx hcb dX11_begin_39 rfl ?_
                refine lv_iload_n (pc := 40) hx hcb dX11_begin_40 rfl (lv_at hl 1 rfl) ?_
                refine lv_iadd (pc := 41) hx hcb dX11_begin_41 ?_
                have hin34 := h.1
                have h := h.2
                refine kiald ((4 + x1_27).toNatClampNeg) (pc := 42) hx hcb hS hW kIM_1 rfl (kin_of hin34 (by decide)) dX11_begin_42 ?_
                refine lv_iload_n (pc := 43) hx hcb dX11_begin_43 rfl (lv_at hl 2 rfl) ?_
                refine lv_ishr (pc := 44) hx hcb dX11_begin_44 ?_
                refine lv_iconst (v := 1) (pc := 45) hx hcb dX11_begin_45 rfl ?_
                refine lv_iand (pc := 46) hx hcb dX11_begin_46 ?_
                refine lv_iconst (v := 1) (pc := 47) hx hcb dX11_begin_47 rfl ?_
                refine lv_icmp_ne (tgt := 55) (pc := 48) hx hcb dX11_begin_48 (by decide) (fun c48 => ?_) (fun c48 => ?_)
                · have h := h.1 c48
                  refine kldc (v := 999999) (pc := 55) hx hcb hown hts q857 dX11_begin_55 ?_
                  exact hK57 999999 _ _ _ h hW (lv_sub hl [0, 1, 2] rfl)
                · have h := h.2 c48
                  refine lv_iconst (v := 1) (pc := 51) hx hcb dX11_begin_51 rfl ?_
                  refine lv_goto (tgt := 57) (pc := 52) hx hcb dX11_begin_52 (by decide) ?_
                  exact hK57 1 _ _ _ h hW (lv_sub hl [0, 1, 2] rfl)
              · have h := h.2 c28
                refine lv_iconst (v := 0) (pc := 31) hx hcb dX11_begin_31 rfl ?_
                refine lv_goto (tgt := 57) (pc := 32) hx hcb dX11_begin_32 (by decide) ?_
                exact hK57 0 _ _ _ h hW (lv_sub hl [0, 1, 2] rfl)
        obtain ⟨n, h⟩ := h
        exact hL10 n σ26 0 _ _ _ h hW (lv_sub hl [1, 2, 0] rfl)
  obtain ⟨n, h⟩ := h
  exact hL2 n σ 0 _ _ _ h hW (lv_sub hl [1, 0] rfl)
