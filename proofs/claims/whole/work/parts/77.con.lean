abbrev rm_X11_how : Room := { frames := 4, cells := 0, slots := 0, locals := 101 }
set_option maxHeartbeats 4000000 in
set_option maxRecDepth 100000 in
theorem c_X11_how (l : Launch) (X : KX) (σ : Mm)  (Φ : Int64 → Mm → Prop) (h : wp_X11_how σ  Φ) : Met l yX11_how (.code yX11_how cX11_how 1 (some .long) :: kT) rm_X11_how (va_Pc [.ref (X.2.1 0)] (kPre kZM X σ)) (va_Ql (fun r σ' => Φ r σ') (fun σ' t => kPre kZM X σ' t) (kA kZM X)) 0 0 (kA kZM X) := by
  refine kofL (by decide) (Nat.le_of_ble_eq_true rfl) ?_
  intro p e s m args below meth c ls Q hx hcb hml hown hts hS hW hl hret
  have hown : s.vm.findClass RX11 = some m.cls := hown
  have hl : lv_has ls 1 [(0, .ref (X.2.1 0))] := hl
  unfold wp_X11_how at h
  refine lv_aload_n (pc := 0) hx hcb dX11_how_0 rfl (lv_at hl 0 rfl) ?_
  refine lv_iconst (v := (-1)) (pc := 1) hx hcb dX11_how_1 rfl ?_
  refine kcl (krunV (As := [.int (-1)]) (rest := []) (pc := 2) hx hcb hml hown hts hS hW (c_X11_howBut l X σ (-1) _ h) mf_X11_howBut q1110 kOM_0 rfl ⟨rfl, rfl⟩ ⟨Nat.le_of_ble_eq_true rfl, Nat.le_of_ble_eq_true rfl⟩ rfl hl.1 rfl (Nat.le_of_ble_eq_true rfl) dX11_how_2 ⟨Nat.zero_le _, Nat.zero_le _⟩) hS hW (fun r2 σ1 H locs h hW => ?_)
  exact hret _ _ _ _ _ _ h hW dX11_how_5
abbrev rm_X11_keep : Room := { frames := 0, cells := 0, slots := 0, locals := 0 }
set_option maxHeartbeats 4000000 in
set_option maxRecDepth 100000 in
theorem c_X11_keep (l : Launch) (X : KX) (σ : Mm)  (Φ : Int32 → Mm → Prop) (h : wp_X11_keep σ  Φ) : Met l yX11_keep (.code yX11_keep cX11_keep 2 (some .int) :: kT) rm_X11_keep (va_Pc [.ref (X.2.1 0)] (kPre kZM X σ)) (va_Qi (fun r σ' => Φ r σ') (fun σ' t => kPre kZM X σ' t) (kA kZM X)) 0 0 (kA kZM X) := by
  refine kofI (by decide) (Nat.le_of_ble_eq_true rfl) ?_
  intro p e s m args below meth c ls Q hx hcb hml hown hts hS hW hl hret
  have hown : s.vm.findClass RX11 = some m.cls := hown
  have hl : lv_has ls 2 [(0, .ref (X.2.1 0))] := hl
  unfold wp_X11_keep at h
  refine lv_aload_n (pc := 0) hx hcb dX11_keep_0 rfl (lv_at hl 0 rfl) ?_
  refine kget (v := .int (σ.1 0 11)) (pc := 1) hx hcb hts hown hS hW iwX11 kOM_0 rfl 11 (by decide) q869 rfl rfl dX11_keep_1 ?_
  refine lv_iconst (v := 2) (pc := 4) hx hcb dX11_keep_4 rfl ?_
  refine lv_icmp_ne (tgt := 11) (pc := 5) hx hcb dX11_keep_5 (by decide) (fun c5 => ?_) (fun c5 => ?_)
  · have h := h.1 c5
    refine lv_iconst (v := 0) (pc := 11) hx hcb dX11_keep_11 rfl ?_
    refine lv_istore_n (lv' := [(1, .int 0), (0, .ref (X.2.1 0))]) (pc := 12) hx hcb dX11_keep_12 rfl hl (by decide) rfl (fun ls hl => ?_)
    obtain ⟨K43, hk43, h⟩ := h
    have hK43 : ∀ (σ1 : Mm) (H : Heap) (locs : List Loc) (ls : Array Slot), K43 σ1 → kW kZM X (kA kZM X) s σ1 H locs → lv_has ls 2 [(0, .ref (X.2.1 0))] → W p l e rm_X11_keep s m args below meth c H locs 0 0 Q (F0 m 43 ls []) := by
      intro σ1 H locs ls h hW hl
      have h := hk43 σ1 h
      refine lv_aload_n (pc := 43) hx hcb dX11_keep_43 rfl (lv_at hl 0 rfl) ?_
      refine lv_dup (pc := 44) hx hcb dX11_keep_44 rfl ?_
      refine kget (v := .int (σ1.1 0 11)) (pc := 45) hx hcb hts hown hS hW iwX11 kOM_0 rfl 11 (by decide) q869 rfl rfl dX11_keep_45 ?_
      refine lv_iconst (v := 1) (pc := 48) hx hcb dX11_keep_48 rfl ?_
      refine lv_iadd (pc := 49) hx hcb dX11_keep_49 ?_
      refine kput (ty := .int) (pc := 50) hx hcb hts hown hS hW iwX11 tyX11 tyX11_ok nmX11 kOM_0 rfl 11 (by decide) q869 rfl rfl rfl rfl rfl (Nat.le_of_ble_eq_true rfl) rfl dX11_keep_50 (fun σ2 H locs eσ2 hW => ?_)
      have h := h σ2 eσ2
      refine lv_aload_n (pc := 53) hx hcb dX11_keep_53 rfl (lv_at hl 0 rfl) ?_
      refine kget (v := .int (σ2.1 0 11)) (pc := 54) hx hcb hts hown hS hW iwX11 kOM_0 rfl 11 (by decide) q869 rfl rfl dX11_keep_54 ?_
      exact hret _ _ _ _ _ _ rfl h hW dX11_keep_57
    have hL13 : ∀ (n : Nat) (σ3 : Mm) (x1_4 : Int32) (H : Heap) (locs : List Loc) (ls : Array Slot), wp_X11_keep_L13 K43 n σ3 x1_4 → kW kZM X (kA kZM X) s σ3 H locs → lv_has ls 2 [(0, .ref (X.2.1 0)), (1, .int x1_4)] → W p l e rm_X11_keep s m args below meth c H locs 0 0 Q (F0 m 13 ls []) := by
      intro n
      induction n with
      | zero =>
        intro σ3 x1_4 H locs ls h
        exact False.elim h
      | succ n ih =>
        intro σ3 x1_4 H locs ls h hW hl
        unfold wp_X11_keep_L13 at h
        refine lv_iload_n (pc := 13) hx hcb dX11_keep_13 rfl (lv_at hl 1 rfl) ?_
        refine lv_iconst (v := 3) (pc := 14) hx hcb dX11_keep_14 rfl ?_
        refine lv_icmp_ge (tgt := 43) (pc := 15) hx hcb dX11_keep_15 (by decide) (fun c15 => ?_) (fun c15 => ?_)
        · have h := h.1 c15
          exact hK43 σ3 _ _ _ h hW (lv_sub hl [0] rfl)
        · have h := h.2 c15
          refine lv_aload_n (pc := 18) hx hcb dX11_keep_18 rfl (lv_at hl 0 rfl) ?_
          refine kget (v := .ref (X.2.1 6)) (pc := 19) hx hcb hts hown hS hW iwX11 kOM_0 rfl 10 (by decide) q868 rfl rfl dX11_keep_19 ?_
          refine lv_iconst (v := 3) (pc := 22) hx hcb dX11_keep_22 rfl ?_
          refine lv_aload_n (pc := 23) hx hcb dX11_keep_23 rfl (lv_at hl 0 rfl) ?_
          refine kget (v := .int (σ3.1 0 11)) (pc := 24) hx hcb hts hown hS hW iwX11 kOM_0 rfl 11 (by decide) q869 rfl rfl dX11_keep_24 ?_
          refine lv_imul (pc := 27) hx hcb dX11_keep_27 ?_
          refine lv_iload_n (pc := 28) hx hcb dX11_keep_28 rfl (lv_at hl 1 rfl) ?_
          refine lv_iadd (pc := 29) hx hcb dX11_keep_29 ?_
          refine lv_aload_n (pc := 30) hx hcb dX11_keep_30 rfl (lv_at hl 0 rfl) ?_
          refine kget (v := .ref (X.2.1 4)) (pc := 31) hx hcb hts hown hS hW iwX11 kOM_0 rfl 7 (by decide) q865 rfl rfl dX11_keep_31 ?_
          refine lv_iload_n (pc := 34) hx hcb dX11_keep_34 rfl (lv_at hl 1 rfl) ?_
          have hin5 := h.1
          have h := h.2
          refine kiald (x1_4.toNatClampNeg) (pc := 35) hx hcb hS hW kIM_4 rfl (kin_of hin5 (by decide)) dX11_keep_35 ?_
          have hin6 := h.1
          have h := h.2
          refine kiast (((3 * (σ3.1 0 11)) + x1_4).toNatClampNeg) (pc := 36) hx hcb hS hW kIM_6 rfl (kin_of hin6 (by decide)) dX11_keep_36 (fun σ7 H locs eσ7 hW => ?_)
          have h := h σ7 eσ7
          refine lv_iinc (v := x1_4 + 1) (lv' := [(1, .int (x1_4 + 1)), (0, .ref (X.2.1 0))]) (pc := 37) hx hcb dX11_keep_37 hl (k := 1) rfl rfl (by decide) rfl (fun ls hl => ?_)
          refine lv_goto (tgt := 13) (pc := 40) hx hcb dX11_keep_40 (by decide) ?_
          exact ih σ7 (x1_4 + 1) _ _ _ h hW (lv_sub hl [1, 0] rfl)
    obtain ⟨n, h⟩ := h
    exact hL13 n σ 0 _ _ _ h hW (lv_sub hl [1, 0] rfl)
  · have h := h.2 c5
    refine lv_bipush (v := (-3)) (pc := 8) hx hcb dX11_keep_8 rfl ?_
    exact hret _ _ _ _ _ _ rfl h hW dX11_keep_10
abbrev rm_X11_lay : Room := { frames := 4, cells := 0, slots := 0, locals := 93 }
set_option maxHeartbeats 4000000 in
set_option maxRecDepth 100000 in
theorem c_X11_lay (l : Launch) (X : KX) (σ : Mm)  (Φ : Int32 → Mm → Prop) (h : wp_X11_lay σ  Φ) : Met l yX11_lay (.code yX11_lay cX11_lay 4 (some .int) :: kT) rm_X11_lay (va_Pc [.ref (X.2.1 0)] (kPre kZM X σ)) (va_Qi (fun r σ' => Φ r σ') (fun σ' t => kPre kZM X σ' t) (kA kZM X)) 0 0 (kA kZM X) := by
  refine kofI (by decide) (Nat.le_of_ble_eq_true rfl) ?_
  intro p e s m args below meth c ls Q hx hcb hml hown hts hS hW hl hret
  have hown : s.vm.findClass RX11 = some m.cls := hown
  have hl : lv_has ls 4 [(0, .ref (X.2.1 0))] := hl
  unfold wp_X11_lay at h
  refine lv_aload_n (pc := 0) hx hcb dX11_lay_0 rfl (lv_at hl 0 rfl) ?_
  refine kci (krunV (As := []) (rest := []) (pc := 1) hx hcb hml hown hts hS hW (c_X11_findFault l X σ  _ h) mf_X11_findFault q948 kOM_0 rfl ⟨rfl, rfl⟩ ⟨Nat.le_of_ble_eq_true rfl, Nat.le_of_ble_eq_true rfl⟩ rfl hl.1 rfl (Nat.le_of_ble_eq_true rfl) dX11_lay_1 ⟨Nat.zero_le _, Nat.zero_le _⟩) hS hW (fun r2 σ1 H locs h hW => ?_)
  refine lv_bipush (v := (-4)) (pc := 4) hx hcb dX11_lay_4 rfl ?_
  obtain ⟨K41, hk41, h⟩ := h
  have hK41 : ∀ (v3 : Int32) (H : Heap) (locs : List Loc) (ls : Array Slot), K41 v3 → kW kZM X (kA kZM X) s σ1 H locs → lv_has ls 4 [(0, .ref (X.2.1 0))] → W p l e rm_X11_lay s m args below meth c H locs 0 0 Q (F0 m 41 ls [.int v3]) := by
    intro v3 H locs ls h hW hl
    have h := hk41 v3 h
    refine lv_istore_n (lv' := [(1, .int v3), (0, .ref (X.2.1 0))]) (pc := 41) hx hcb dX11_lay_41 rfl hl (by decide) rfl (fun ls hl => ?_)
    refine lv_iconst (v := 0) (pc := 42) hx hcb dX11_lay_42 rfl ?_
    refine lv_istore_n (lv' := [(2, .int 0), (1, .int v3), (0, .ref (X.2.1 0))]) (pc := 43) hx hcb dX11_lay_43 rfl hl (by decide) rfl (fun ls hl => ?_)
    obtain ⟨K120, hk120, h⟩ := h
    have hK120 : ∀ (x1_4 : Int32) (H : Heap) (locs : List Loc) (ls : Array Slot), K120 x1_4 → kW kZM X (kA kZM X) s σ1 H locs → lv_has ls 4 [(0, .ref (X.2.1 0)), (1, .int x1_4)] → W p l e rm_X11_lay s m args below meth c H locs 0 0 Q (F0 m 120 ls []) := by
      intro x1_4 H locs ls h hW hl
      have h := hk120 x1_4 h
      refine lv_iload_n (pc := 120) hx hcb dX11_lay_120 rfl (lv_at hl 1 rfl) ?_
      refine lv_if_ne (tgt := 127) (pc := 121) hx hcb dX11_lay_121 (by decide) (fun c121 => ?_) (fun c121 => ?_)
      · have h := h.1 c121
        refine lv_iconst (v := 0) (pc := 127) hx hcb dX11_lay_127 rfl ?_
        refine lv_istore_n (lv' := [(2, .int 0), (0, .ref (X.2.1 0)), (1, .int x1_4)]) (pc := 128) hx hcb dX11_lay_128 rfl hl (by decide) rfl (fun ls hl => ?_)
        obtain ⟨K156, hk156, h⟩ := h
        have hK156 : ∀ (σ5 : Mm) (H : Heap) (locs : List Loc) (ls : Array Slot), K156 σ5 → kW kZM X (kA kZM X) s σ5 H locs → lv_has ls 4 [(0, .ref (X.2.1 0))] → W p l e rm_X11_lay s m args below meth c H locs 0 0 Q (F0 m 156 ls []) := by
          intro σ5 H locs ls h hW hl
          have h := hk156 σ5 h
          refine lv_aload_n (pc := 156) hx hcb dX11_lay_156 rfl (lv_at hl 0 rfl) ?_
          refine kcv (krunV (As := []) (rest := []) (pc := 157) hx hcb hml hown hts hS hW (c_X11_begin l X σ5  _ h) mf_X11_begin q853 kOM_0 rfl ⟨rfl, rfl⟩ ⟨Nat.le_of_ble_eq_true rfl, Nat.le_of_ble_eq_true rfl⟩ rfl hl.1 rfl (Nat.le_of_ble_eq_true rfl) dX11_lay_157 ⟨Nat.zero_le _, Nat.zero_le _⟩) hS hW (fun σ6 H locs h hW => ?_)
          refine lv_aload_n (pc := 160) hx hcb dX11_lay_160 rfl (lv_at hl 0 rfl) ?_
          refine kget (v := .ref (X.2.1 1)) (pc := 161) hx hcb hts hown hS hW iwX11 kOM_0 rfl 0 (by decide) q858 rfl rfl dX11_lay_161 ?_
          refine lv_iconst (v := 1) (pc := 164) hx hcb dX11_lay_164 rfl ?_
          refine kiald 1 (pc := 165) hx hcb hS hW kIM_1 rfl (kin_of ⟨by decide, by decide⟩ (by decide)) dX11_lay_165 ?_
          exact hret _ _ _ _ _ _ rfl h hW dX11_lay_166
        have hL129 : ∀ (n : Nat) (σ7 : Mm) (x2_8 : Int32) (H : Heap) (locs : List Loc) (ls : Array Slot), wp_X11_lay_L129 K156 n σ7 x2_8 → kW kZM X (kA kZM X) s σ7 H locs → lv_has ls 4 [(0, .ref (X.2.1 0)), (2, .int x2_8)] → W p l e rm_X11_lay s m args below meth c H locs 0 0 Q (F0 m 129 ls []) := by
          intro n
          induction n with
          | zero =>
            intro σ7 x2_8 H locs ls h
            exact False.elim h
          | succ n ih =>
            intro σ7 x2_8 H locs ls h hW hl
            unfold wp_X11_lay_L129 at h
            refine lv_iload_n (pc := 129) hx hcb dX11_lay_129 rfl (lv_at hl 1 rfl) ?_
            refine lv_bipush (v := 82) (pc := 130) hx hcb dX11_lay_130 rfl ?_
            refine lv_icmp_ge (tgt := 156) (pc := 132) hx hcb dX11_lay_132 (by decide) (fun c132 => ?_) (fun c132 => ?_)
            · have h := h.1 c132
              exact hK156 σ7 _ _ _ h hW (lv_sub hl [0] rfl)
            · have h := h.2 c132
              refine lv_aload_n (pc := 135) hx hcb dX11_lay_135 rfl (lv_at hl 0 rfl) ?_
              refine kget (v := .ref (X.2.1 1)) (pc := 136) hx hcb hts hown hS hW iwX11 kOM_0 rfl 0 (by decide) q858 rfl rfl dX11_lay_136 ?_
              refine lv_iload_n (pc := 139) hx hcb dX11_lay_139 rfl (lv_at hl 1 rfl) ?_
              refine lv_aload_n (pc := 140) hx hcb dX11_lay_140 rfl (lv_at hl 0 rfl) ?_
              refine kget (v := .ref (X.2.1 1)) (pc := 141) hx hcb hts hown hS hW iwX11 kOM_0 rfl 0 (by decide) q858 rfl rfl dX11_lay_141 ?_
              refine lv_bipush (v := 82) (pc := 144) hx hcb dX11_lay_144 rfl ?_
              refine lv_iload_n (pc := 146) hx hcb dX11_lay_146 rfl (lv_at hl 1 rfl) ?_
              refine lv_iadd (pc := 147) hx hcb dX11_lay_147 ?_
              have hin9 := h.1
              have h := h.2
              refine kiald ((82 + x2_8).toNatClampNeg) (pc := 148) hx hcb hS hW kIM_1 rfl (kin_of hin9 (by decide)) dX11_lay_148 ?_
              have hin10 := h.1
              have h := h.2
              refine kiast (x2_8.toNatClampNeg) (pc := 149) hx hcb hS hW kIM_1 rfl (kin_of hin10 (by decide)) dX11_lay_149 (fun σ11 H locs eσ11 hW => ?_)
              have h := h σ11 eσ11
              refine lv_iinc (v := x2_8 + 1) (lv' := [(2, .int (x2_8 + 1)), (0, .ref (X.2.1 0))]) (pc := 150) hx hcb dX11_lay_150 hl (k := 1) rfl rfl (by decide) rfl (fun ls hl => ?_)
              refine lv_goto (tgt := 129) (pc := 153) hx hcb dX11_lay_153 (by decide) ?_
              exact ih σ11 (x2_8 + 1) _ _ _ h hW (lv_sub hl [1, 0] rfl)
        obtain ⟨n, h⟩ := h
        exact hL129 n σ1 0 _ _ _ h hW (lv_sub hl [1, 0] rfl)
      · have h := h.2 c121
        refine lv_bipush (v := (-2)) (pc := 124) hx hcb dX11_lay_124 rfl ?_
        exact hret _ _ _ _ _ _ rfl h hW dX11_lay_126
    have hL44 : ∀ (n : Nat) (x1_12 : Int32) (x2_13 : Int32) (H : Heap) (locs : List Loc) (ls : Array Slot), wp_X11_lay_L44 σ1 K120 n x1_12 x2_13 → kW kZM X (kA kZM X) s σ1 H locs → lv_has ls 4 [(0, .ref (X.2.1 0)), (1, .int x1_12), (2, .int x2_13)] → W p l e rm_X11_lay s m args below meth c H locs 0 0 Q (F0 m 44 ls []) := by
      intro n
      induction n with
      | zero =>
        intro x1_12 x2_13 H locs ls h
        exact False.elim h
      | succ n ih =>
        intro x1_12 x2_13 H locs ls h hW hl
        unfold wp_X11_lay_L44 at h
        refine lv_iload_n (pc := 44) hx hcb dX11_lay_44 rfl (lv_at hl 2 rfl) ?_
        refine lv_aload_n (pc := 45) hx hcb dX11_lay_45 rfl (lv_at hl 0 rfl) ?_
        refine kget (v := .ref (X.2.1 1)) (pc := 46) hx hcb hts hown hS hW iwX11 kOM_0 rfl 0 (by decide) q858 rfl rfl dX11_lay_46 ?_
        refine lv_bipush (v := 83) (pc := 49) hx hcb dX11_lay_49 rfl ?_
        refine kiald 83 (pc := 51) hx hcb hS hW kIM_1 rfl (kin_of ⟨by decide, by decide⟩ (by decide)) dX11_lay_51 ?_
        refine lv_icmp_ge (tgt := 120) (pc := 52) hx hcb dX11_lay_52 (by decide) (fun c52 => ?_) (fun c52 => ?_)
        · have h := h.1 c52
          exact hK120 x1_12 _ _ _ h hW (lv_sub hl [0, 1] rfl)
        · have h := h.2 c52
          refine lv_iload_n (pc := 55) hx hcb dX11_lay_55 rfl (lv_at hl 1 rfl) ?_
          refine lv_if_eq (tgt := 120) (pc := 56) hx hcb dX11_lay_56 (by decide) (fun c56 => ?_) (fun c56 => ?_)
          · have h := h.1 c56
            exact hK120 x1_12 _ _ _ h hW (lv_sub hl [0, 1] rfl)
          · have h := h.2 c56
            refine lv_iconst (v := 0) (pc := 59) hx hcb dX11_lay_59 rfl ?_
            refine lv_istore_n (lv' := [(3, .int 0), (0, .ref (X.2.1 0)), (1, .int x1_12), (2, .int x2_13)]) (pc := 60) hx hcb dX11_lay_60 rfl hl (by decide) rfl (fun ls hl => ?_)
            obtain ⟨K114, hk114, h⟩ := h
            have hK114 : ∀ (x1_14 : Int32) (H : Heap) (locs : List Loc) (ls : Array Slot), K114 x1_14 → kW kZM X (kA kZM X) s σ1 H locs → lv_has ls 4 [(0, .ref (X.2.1 0)), (1, .int x1_14), (2, .int x2_13)] → W p l e rm_X11_lay s m args below meth c H locs 0 0 Q (F0 m 114 ls []) := by
              intro x1_14 H locs ls h hW hl
              have h := hk114 x1_14 h
              refine lv_iinc (v := x2_13 + 1) (lv' := [(2, .int (x2_13 + 1)), (0, .ref (X.2.1 0)), (1, .int x1_14)]) (pc := 114) hx hcb dX11_lay_114 hl (k := 2) rfl rfl (by decide) rfl (fun ls hl => ?_)
              refine lv_goto (tgt := 44) (pc := 117) hx hcb dX11_lay_117 (by decide) ?_
              exact ih x1_14 (x2_13 + 1) _ _ _ h hW (lv_sub hl [1, 2, 0] rfl)
            have hL61 : ∀ (n : Nat) (x1_15 : Int32) (x3_16 : Int32) (H : Heap) (locs : List Loc) (ls : Array Slot), wp_X11_lay_L61 σ1 x2_13 K114 n x1_15 x3_16 → kW kZM X (kA kZM X) s σ1 H locs → lv_has ls 4 [(0, .ref (X.2.1 0)), (1, .int x1_15), (2, .int x2_13), (3, .int x3_16)] → W p l e rm_X11_lay s m args below meth c H locs 0 0 Q (F0 m 61 ls []) := by
              intro n
              induction n with
              | zero =>
                intro x1_15 x3_16 H locs ls h
                exact False.elim h
              | succ n ih =>
                intro x1_15 x3_16 H locs ls h hW hl
                unfold wp_X11_lay_L61 at h
                refine lv_iload_n (pc := 61) hx hcb dX11_lay_61 rfl (lv_at hl 3 rfl) ?_
                refine lv_aload_n (pc := 62) hx hcb dX11_lay_62 rfl (lv_at hl 0 rfl) ?_
                refine kget (v := .ref (X.2.1 1)) (pc := 63) hx hcb hts hown hS hW iwX11 kOM_0 rfl 0 (by decide) q858 rfl rfl dX11_lay_63 ?_
                refine lv_bipush (v := 99) (pc := 66) hx hcb dX11_lay_66 rfl ?_
                refine lv_iload_n (pc := 68) hx hcb dX11_lay_68 rfl (lv_at hl 2 rfl) ?_
                refine lv_iadd (pc := 69) hx hcb dX11_lay_69 ?_
                have hin17 := h.1
                have h := h.2
                refine kiald ((99 + x2_13).toNatClampNeg) (pc := 70) hx hcb hS hW kIM_1 rfl (kin_of hin17 (by decide)) dX11_lay_70 ?_
                refine lv_icmp_ge (tgt := 114) (pc := 71) hx hcb dX11_lay_71 (by decide) (fun c71 => ?_) (fun c71 => ?_)
                · have h := h.1 c71
                  exact hK114 x1_15 _ _ _ h hW (lv_sub hl [0, 1, 2] rfl)
                · have h := h.2 c71
                  refine lv_iload_n (pc := 74) hx hcb dX11_lay_74 rfl (lv_at hl 1 rfl) ?_
                  obtain ⟨K107, hk107, h⟩ := h
                  have hK107 : ∀ (v18 : Int32) (H : Heap) (locs : List Loc) (ls : Array Slot), K107 v18 → kW kZM X (kA kZM X) s σ1 H locs → lv_has ls 4 [(0, .ref (X.2.1 0)), (2, .int x2_13), (3, .int x3_16)] → W p l e rm_X11_lay s m args below meth c H locs 0 0 Q (F0 m 107 ls [.int v18]) := by
                    intro v18 H locs ls h hW hl
                    have h := hk107 v18 h
                    refine lv_istore_n (lv' := [(1, .int v18), (0, .ref (X.2.1 0)), (2, .int x2_13), (3, .int x3_16)]) (pc := 107) hx hcb dX11_lay_107 rfl hl (by decide) rfl (fun ls hl => ?_)
                    refine lv_iinc (v := x3_16 + 1) (lv' := [(3, .int (x3_16 + 1)), (1, .int v18), (0, .ref (X.2.1 0)), (2, .int x2_13)]) (pc := 108) hx hcb dX11_lay_108 hl (k := 3) rfl rfl (by decide) rfl (fun ls hl => ?_)
                    refine lv_goto (tgt := 61) (pc := 111) hx hcb dX11_lay_111 (by decide) ?_
                    exact ih v18 (x3_16 + 1) _ _ _ h hW (lv_sub hl [2, 1, 3, 0] rfl)
                  obtain ⟨K106, hk106, h⟩ := h
                  have hK106 : ∀  (H : Heap) (locs : List Loc) (ls : Array Slot), K106 → kW kZM X (kA kZM X) s σ1 H locs → lv_has ls 4 [(0, .ref (X.2.1 0)), (2, .int x2_13), (3, .int x3_16)] → W p l e rm_X11_lay s m args below meth c H locs 0 0 Q (F0 m 106 ls []) := by
                    intro  H locs ls h hW hl
                    have h := hk106 h
                    refine lv_iconst (v := 0) (pc := 106) hx hcb dX11_lay_106 rfl ?_
                    exact hK107 0 _ _ _ h hW (lv_sub hl [0, 1, 2] rfl)
                  refine lv_if_eq (tgt := 106) (pc := 75) hx hcb dX11_lay_75 (by decide) (fun c75 => ?_) (fun c75 => ?_)
                  · have h := h.1 c75
                    exact hK106  _ _ _ h hW (lv_sub hl [0, 2, 3] rfl)
                  · have h := h.2 c75
                    refine lv_aload_n (pc := 78) hx hcb dX11_lay_78 rfl (lv_at hl 0 rfl) ?_
                    refine kget (v := .ref (X.2.1 1)) (pc := 79) hx hcb hts hown hS hW iwX11 kOM_0 rfl 0 (by decide) q858 rfl rfl dX11_lay_79 ?_
                    refine lv_bipush (v := 104) (pc := 82) hx hcb dX11_lay_82 rfl ?_
                    refine lv_bipush (v := 12) (pc := 84) hx hcb dX11_lay_84 rfl ?_
                    refine lv_iload_n (pc := 86) hx hcb dX11_lay_86 rfl (lv_at hl 2 rfl) ?_
                    refine lv_imul (pc := 87) hx hcb dX11_lay_87 ?_
                    refine lv_iadd (pc := 88) hx hcb dX11_lay_88 ?_
                    refine lv_iload_n (pc := 89) hx hcb dX11_lay_89 rfl (lv_at hl 3 rfl) ?_
                    refine lv_iadd (pc := 90) hx hcb dX11_lay_90 ?_
                    have hin19 := h.1
                    have h := h.2
                    refine kiald (((104 + (12 * x2_13)) + x3_16).toNatClampNeg) (pc := 91) hx hcb hS hW kIM_1 rfl (kin_of hin19 (by decide)) dX11_lay_91 ?_
                    refine lv_aload_n (pc := 92) hx hcb dX11_lay_92 rfl (lv_at hl 0 rfl) ?_
                    refine kget (v := .ref (X.2.1 1)) (pc := 93) hx hcb hts hown hS hW iwX11 kOM_0 rfl 0 (by decide) q858 rfl rfl dX11_lay_93 ?_
                    refine lv_bipush (v := 82) (pc := 96) hx hcb dX11_lay_96 rfl ?_
                    refine kiald 82 (pc := 98) hx hcb hS hW kIM_1 rfl (kin_of ⟨by decide, by decide⟩ (by decide)) dX11_lay_98 ?_
                    refine lv_icmp_ge (tgt := 106) (pc := 99) hx hcb dX11_lay_99 (by decide) (fun c99 => ?_) (fun c99 => ?_)
                    · have h := h.1 c99
                      exact hK106  _ _ _ h hW (lv_sub hl [0, 2, 3] rfl)
                    · have h := h.2 c99
                      refine lv_iconst (v := 1) (pc := 102) hx hcb dX11_lay_102 rfl ?_
                      refine lv_goto (tgt := 107) (pc := 103) hx hcb dX11_lay_103 (by decide) ?_
                      exact hK107 1 _ _ _ h hW (lv_sub hl [0, 2, 3] rfl)
            obtain ⟨n, h⟩ := h
            exact hL61 n x1_12 0 _ _ _ h hW (lv_sub hl [1, 2, 3, 0] rfl)
    obtain ⟨n, h⟩ := h
    exact hL44 n v3 0 _ _ _ h hW (lv_sub hl [2, 1, 0] rfl)
  obtain ⟨K40, hk40, h⟩ := h
  have hK40 : ∀  (H : Heap) (locs : List Loc) (ls : Array Slot), K40 → kW kZM X (kA kZM X) s σ1 H locs → lv_has ls 4 [(0, .ref (X.2.1 0))] → W p l e rm_X11_lay s m args below meth c H locs 0 0 Q (F0 m 40 ls []) := by
    intro  H locs ls h hW hl
    have h := hk40 h
    refine lv_iconst (v := 0) (pc := 40) hx hcb dX11_lay_40 rfl ?_
    exact hK41 0 _ _ _ h hW (lv_sub hl [0] rfl)
  refine lv_icmp_ne (tgt := 40) (pc := 6) hx hcb dX11_lay_6 (by decide) (fun c6 => ?_) (fun c6 => ?_)
  · have h := h.1 c6
    exact hK40  _ _ _ h hW (lv_sub hl [0] rfl)
  · have h := h.2 c6
    refine lv_aload_n (pc := 9) hx hcb dX11_lay_9 rfl (lv_at hl 0 rfl) ?_
    refine kget (v := .ref (X.2.1 1)) (pc := 10) hx hcb hts hown hS hW iwX11 kOM_0 rfl 0 (by decide) q858 rfl rfl dX11_lay_10 ?_
    refine lv_bipush (v := 83) (pc := 13) hx hcb dX11_lay_13 rfl ?_
    refine kiald 83 (pc := 15) hx hcb hS hW kIM_1 rfl (kin_of ⟨by decide, by decide⟩ (by decide)) dX11_lay_15 ?_
    refine lv_if_le (tgt := 40) (pc := 16) hx hcb dX11_lay_16 (by decide) (fun c16 => ?_) (fun c16 => ?_)
    · have h := h.1 c16
      exact hK40  _ _ _ h hW (lv_sub hl [0] rfl)
    · have h := h.2 c16
      refine lv_aload_n (pc := 19) hx hcb dX11_lay_19 rfl (lv_at hl 0 rfl) ?_
      refine kget (v := .ref (X.2.1 1)) (pc := 20) hx hcb hts hown hS hW iwX11 kOM_0 rfl 0 (by decide) q858 rfl rfl dX11_lay_20 ?_
      refine lv_bipush (v := 85) (pc := 23) hx hcb dX11_lay_23 rfl ?_
      refine kiald 85 (pc := 25) hx hcb hS hW kIM_1 rfl (kin_of ⟨by decide, by decide⟩ (by decide)) dX11_lay_25 ?_
      refine lv_aload_n (pc := 26) hx hcb dX11_lay_26 rfl (lv_at hl 0 rfl) ?_
      refine kget (v := .ref (X.2.1 1)) (pc := 27) hx hcb hts hown hS hW iwX11 kOM_0 rfl 0 (by decide) q858 rfl rfl dX11_lay_27 ?_
      refine lv_bipush (v := 82) (pc := 30) hx hcb dX11_lay_30 rfl ?_
      refine kiald 82 (pc := 32) hx hcb hS hW kIM_1 rfl (kin_of ⟨by decide, by decide⟩ (by decide)) dX11_lay_32 ?_
      refine lv_icmp_ge (tgt := 40) (pc := 33) hx hcb dX11_lay_33 (by decide) (fun c33 => ?_) (fun c33 => ?_)
      · have h := h.1 c33
        exact hK40  _ _ _ h hW (lv_sub hl [0] rfl)
      · have h := h.2 c33
        refine lv_iconst (v := 1) (pc := 36) hx hcb dX11_lay_36 rfl ?_
        refine lv_goto (tgt := 41) (pc := 37) hx hcb dX11_lay_37 (by decide) ?_
        exact hK41 1 _ _ _ h hW (lv_sub hl [0] rfl)
abbrev rm_X11_noGoals : Room := { frames := 0, cells := 0, slots := 0, locals := 0 }
set_option maxHeartbeats 4000000 in
set_option maxRecDepth 100000 in
theorem c_X11_noGoals (l : Launch) (X : KX) (σ : Mm)  (Φ : Int32 → Mm → Prop) (h : wp_X11_noGoals σ  Φ) : Met l yX11_noGoals (.code yX11_noGoals cX11_noGoals 2 (some .int) :: kT) rm_X11_noGoals (va_Pc [.ref (X.2.1 0)] (kPre kZM X σ)) (va_Qi (fun r σ' => Φ r σ') (fun σ' t => kPre kZM X σ' t) (kA kZM X)) 0 0 (kA kZM X) := by
  refine kofI (by decide) (Nat.le_of_ble_eq_true rfl) ?_
  intro p e s m args below meth c ls Q hx hcb hml hown hts hS hW hl hret
  have hown : s.vm.findClass RX11 = some m.cls := hown
  have hl : lv_has ls 2 [(0, .ref (X.2.1 0))] := hl
  unfold wp_X11_noGoals at h
  refine lv_aload_n (pc := 0) hx hcb dX11_noGoals_0 rfl (lv_at hl 0 rfl) ?_
  refine kget (v := .int (σ.1 0 14)) (pc := 1) hx hcb hts hown hS hW iwX11 kOM_0 rfl 14 (by decide) q872 rfl rfl dX11_noGoals_1 ?_
  refine lv_topi (fun x1_1 ex1_1 => ?_)
  have h := h x1_1 ex1_1
  refine lv_istore_n (lv' := [(1, .int x1_1), (0, .ref (X.2.1 0))]) (pc := 4) hx hcb dX11_noGoals_4 rfl hl (by decide) rfl (fun ls hl => ?_)
  refine lv_aload_n (pc := 5) hx hcb dX11_noGoals_5 rfl (lv_at hl 1 rfl) ?_
  refine lv_iconst (v := 0) (pc := 6) hx hcb dX11_noGoals_6 rfl ?_
  refine kput (ty := .int) (pc := 7) hx hcb hts hown hS hW iwX11 tyX11 tyX11_ok nmX11 kOM_0 rfl 14 (by decide) q872 rfl rfl rfl rfl rfl (Nat.le_of_ble_eq_true rfl) rfl dX11_noGoals_7 (fun σ2 H locs eσ2 hW => ?_)
  have h := h σ2 eσ2
  refine lv_iload_n (pc := 10) hx hcb dX11_noGoals_10 rfl (lv_at hl 0 rfl) ?_
  exact hret _ _ _ _ _ _ rfl h hW dX11_noGoals_11
abbrev rm_X11_pass : Room := { frames := 3, cells := 0, slots := 0, locals := 75 }
set_option maxHeartbeats 4000000 in
set_option maxRecDepth 100000 in
theorem c_X11_pass (l : Launch) (X : KX) (σ : Mm) (x1 : Int32) (Φ : Int32 → Mm → Prop) (h : wp_X11_pass σ x1 Φ) : Met l yX11_pass (.code yX11_pass cX11_pass 2 (some .int) :: kT) rm_X11_pass (va_Pc [.ref (X.2.1 0), .int x1] (kPre kZM X σ)) (va_Qi (fun r σ' => Φ r σ') (fun σ' t => kPre kZM X σ' t) (kA kZM X)) 0 0 (kA kZM X) := by
  refine kofI (by decide) (Nat.le_of_ble_eq_true rfl) ?_
  intro p e s m args below meth c ls Q hx hcb hml hown hts hS hW hl hret
  have hown : s.vm.findClass RX11 = some m.cls := hown
  have hl : lv_has ls 2 [(0, .ref (X.2.1 0)), (1, .int x1)] := hl
  unfold wp_X11_pass at h
  refine lv_iload_n (pc := 0) hx hcb dX11_pass_0 rfl (lv_at hl 1 rfl) ?_
  refine lv_iconst (v := 1) (pc := 1) hx hcb dX11_pass_1 rfl ?_
  refine lv_bipush (v := 99) (pc := 2) hx hcb dX11_pass_2 rfl ?_
  refine kci (krunS (As := [.int x1, .int 1, .int 99]) (rest := []) (pc := 4) hx hcb hml hown hts hS hW (c_X11_in l X σ x1 1 99 _ h) mf_X11_in q936 ⟨rfl, rfl⟩ ⟨Nat.le_of_ble_eq_true rfl, Nat.le_of_ble_eq_true rfl⟩ rfl hl.1 rfl (Nat.le_of_ble_eq_true rfl) dX11_pass_4 ⟨Nat.zero_le _, Nat.zero_le _⟩) hS hW (fun r2 σ1 H locs h hW => ?_)
  obtain ⟨h, rfl⟩ := h
  refine lv_if_ne (tgt := 12) (pc := 7) hx hcb dX11_pass_7 (by decide) (fun c7 => ?_) (fun c7 => ?_)
  · have h := h.1 c7
    refine lv_aload_n (pc := 12) hx hcb dX11_pass_12 rfl (lv_at hl 0 rfl) ?_
    refine kget (v := .ref (X.2.1 4)) (pc := 13) hx hcb hts hown hS hW iwX11 kOM_0 rfl 7 (by decide) q865 rfl rfl dX11_pass_13 ?_
    refine lv_iconst (v := 0) (pc := 16) hx hcb dX11_pass_16 rfl ?_
    refine kiald 0 (pc := 17) hx hcb hS hW kIM_4 rfl (kin_of ⟨by decide, by decide⟩ (by decide)) dX11_pass_17 ?_
    refine lv_iload_n (pc := 18) hx hcb dX11_pass_18 rfl (lv_at hl 1 rfl) ?_
    refine lv_iadd (pc := 19) hx hcb dX11_pass_19 ?_
    refine lv_sipush (v := 9999) (pc := 20) hx hcb dX11_pass_20 rfl ?_
    refine lv_icmp_le (tgt := 29) (pc := 23) hx hcb dX11_pass_23 (by decide) (fun c23 => ?_) (fun c23 => ?_)
    · have h := h.1 c23
      refine lv_aload_n (pc := 29) hx hcb dX11_pass_29 rfl (lv_at hl 0 rfl) ?_
      refine kcv (krunV (As := []) (rest := []) (pc := 30) hx hcb hml hown hts hS hW (c_X11_know l X σ  _ h) mf_X11_know q1007 kOM_0 rfl ⟨rfl, rfl⟩ ⟨Nat.le_of_ble_eq_true rfl, Nat.le_of_ble_eq_true rfl⟩ rfl hl.1 rfl (Nat.le_of_ble_eq_true rfl) dX11_pass_30 ⟨Nat.zero_le _, Nat.zero_le _⟩) hS hW (fun σ3 H locs h hW => ?_)
      refine lv_aload_n (pc := 33) hx hcb dX11_pass_33 rfl (lv_at hl 0 rfl) ?_
      refine kget (v := .ref (X.2.1 4)) (pc := 34) hx hcb hts hown hS hW iwX11 kOM_0 rfl 7 (by decide) q865 rfl rfl dX11_pass_34 ?_
      refine lv_iconst (v := 1) (pc := 37) hx hcb dX11_pass_37 rfl ?_
      refine lv_aload_n (pc := 38) hx hcb dX11_pass_38 rfl (lv_at hl 0 rfl) ?_
      refine lv_aload_n (pc := 39) hx hcb dX11_pass_39 rfl (lv_at hl 0 rfl) ?_
      refine kget (v := .ref (X.2.1 4)) (pc := 40) hx hcb hts hown hS hW iwX11 kOM_0 rfl 7 (by decide) q865 rfl rfl dX11_pass_40 ?_
      refine lv_iconst (v := 1) (pc := 43) hx hcb dX11_pass_43 rfl ?_
      refine kiald 1 (pc := 44) hx hcb hS hW kIM_4 rfl (kin_of ⟨by decide, by decide⟩ (by decide)) dX11_pass_44 ?_
      refine lv_aload_n (pc := 45) hx hcb dX11_pass_45 rfl (lv_at hl 0 rfl) ?_
      refine kget (v := .ref (X.2.1 4)) (pc := 46) hx hcb hts hown hS hW iwX11 kOM_0 rfl 7 (by decide) q865 rfl rfl dX11_pass_46 ?_
      refine lv_iconst (v := 0) (pc := 49) hx hcb dX11_pass_49 rfl ?_
      refine kiald 0 (pc := 50) hx hcb hS hW kIM_4 rfl (kin_of ⟨by decide, by decide⟩ (by decide)) dX11_pass_50 ?_
      refine lv_iload_n (pc := 51) hx hcb dX11_pass_51 rfl (lv_at hl 1 rfl) ?_
      refine kci (krunV (As := [.int (σ3.1 4 1), .int (σ3.1 4 0), .int x1]) (rest := [.int 1, .ref (X.2.1 4)]) (pc := 52) hx hcb hml hown hts hS hW (c_X11_gone l X σ3 (σ3.1 4 1) (σ3.1 4 0) x1 _ h) mf_X11_gone q1019 kOM_0 rfl ⟨rfl, rfl⟩ ⟨Nat.le_of_ble_eq_true rfl, Nat.le_of_ble_eq_true rfl⟩ rfl hl.1 rfl (Nat.le_of_ble_eq_true rfl) dX11_pass_52 ⟨Nat.zero_le _, Nat.zero_le _⟩) hS hW (fun r5 σ4 H locs h hW => ?_)
      obtain ⟨h, rfl⟩ := h
      refine kiast 1 (pc := 55) hx hcb hS hW kIM_4 rfl (kin_of ⟨by decide, by decide⟩ (by decide)) dX11_pass_55 (fun σ6 H locs eσ6 hW => ?_)
      have h := h σ6 eσ6
      refine lv_aload_n (pc := 56) hx hcb dX11_pass_56 rfl (lv_at hl 0 rfl) ?_
      refine kget (v := .ref (X.2.1 4)) (pc := 57) hx hcb hts hown hS hW iwX11 kOM_0 rfl 7 (by decide) q865 rfl rfl dX11_pass_57 ?_
      refine lv_iconst (v := 0) (pc := 60) hx hcb dX11_pass_60 rfl ?_
      refine lv_dup2_11 (pc := 61) hx hcb dX11_pass_61 rfl rfl ?_
      refine kiald 0 (pc := 62) hx hcb hS hW kIM_4 rfl (kin_of ⟨by decide, by decide⟩ (by decide)) dX11_pass_62 ?_
      refine lv_iload_n (pc := 63) hx hcb dX11_pass_63 rfl (lv_at hl 1 rfl) ?_
      refine lv_iadd (pc := 64) hx hcb dX11_pass_64 ?_
      refine kiast 0 (pc := 65) hx hcb hS hW kIM_4 rfl (kin_of ⟨by decide, by decide⟩ (by decide)) dX11_pass_65 (fun σ7 H locs eσ7 hW => ?_)
      have h := h σ7 eσ7
      refine lv_aload_n (pc := 66) hx hcb dX11_pass_66 rfl (lv_at hl 0 rfl) ?_
      refine kget (v := .ref (X.2.1 4)) (pc := 67) hx hcb hts hown hS hW iwX11 kOM_0 rfl 7 (by decide) q865 rfl rfl dX11_pass_67 ?_
      refine lv_iconst (v := 1) (pc := 70) hx hcb dX11_pass_70 rfl ?_
      refine kiald 1 (pc := 71) hx hcb hS hW kIM_4 rfl (kin_of ⟨by decide, by decide⟩ (by decide)) dX11_pass_71 ?_
      refine kci (krunS (As := [.int (σ7.1 4 1)]) (rest := []) (pc := 72) hx hcb hml hown hts hS hW (c_X11_yardOf l X σ7 (σ7.1 4 1) _ h) mf_X11_yardOf q1004 ⟨rfl, rfl⟩ ⟨Nat.le_of_ble_eq_true rfl, Nat.le_of_ble_eq_true rfl⟩ rfl hl.1 rfl (Nat.le_of_ble_eq_true rfl) dX11_pass_72 ⟨Nat.zero_le _, Nat.zero_le _⟩) hS hW (fun r9 σ8 H locs h hW => ?_)
      obtain ⟨h, rfl⟩ := h
      exact hret _ _ _ _ _ _ rfl h hW dX11_pass_75
    · have h := h.2 c23
      refine lv_bipush (v := (-2)) (pc := 26) hx hcb dX11_pass_26 rfl ?_
      exact hret _ _ _ _ _ _ rfl h hW dX11_pass_28
  · have h := h.2 c7
    refine lv_iconst (v := (-1)) (pc := 10) hx hcb dX11_pass_10 rfl ?_
    exact hret _ _ _ _ _ _ rfl h hW dX11_pass_11
abbrev rm_X11_person : Room := { frames := 2, cells := 0, slots := 0, locals := 43 }
set_option maxHeartbeats 4000000 in
set_option maxRecDepth 100000 in
theorem c_X11_person (l : Launch) (X : KX) (σ : Mm) (x1 : Int32) (x2 : Int32) (Φ : Int32 → Prop) (h : wp_X11_person σ x1 x2 Φ) : Met l yX11_person (.code yX11_person cX11_person 3 (some .int) :: kT) rm_X11_person (va_Pc [.ref (X.2.1 0), .int x1, .int x2] (kPre kZM X σ)) (va_Qi (fun r σ' => Φ r ∧ σ = σ') (fun σ' t => kPre kZM X σ' t) (kA kZM X)) 0 0 (kA kZM X) := by
  refine kofI (by decide) (Nat.le_of_ble_eq_true rfl) ?_
  intro p e s m args below meth c ls Q hx hcb hml hown hts hS hW hl hret
  have hown : s.vm.findClass RX11 = some m.cls := hown
  have hl : lv_has ls 3 [(0, .ref (X.2.1 0)), (1, .int x1), (2, .int x2)] := hl
  unfold wp_X11_person at h
  refine lv_aload_n (pc := 0) hx hcb dX11_person_0 rfl (lv_at hl 0 rfl) ?_
  refine lv_iload_n (pc := 1) hx hcb dX11_person_1 rfl (lv_at hl 1 rfl) ?_
  refine kci (krunV (As := [.int x1]) (rest := []) (pc := 2) hx hcb hml hown hts hS hW (c_X11_isPerson l X σ x1 _ h) mf_X11_isPerson q988 kOM_0 rfl ⟨rfl, rfl⟩ ⟨Nat.le_of_ble_eq_true rfl, Nat.le_of_ble_eq_true rfl⟩ rfl hl.1 rfl (Nat.le_of_ble_eq_true rfl) dX11_person_2 ⟨Nat.zero_le _, Nat.zero_le _⟩) hS hW (fun r2 σ1 H locs h hW => ?_)
  obtain ⟨h, rfl⟩ := h
  refine lv_if_eq (tgt := 19) (pc := 5) hx hcb dX11_person_5 (by decide) (fun c5 => ?_) (fun c5 => ?_)
  · have h := h.1 c5
    refine lv_iconst (v := (-1)) (pc := 19) hx hcb dX11_person_19 rfl ?_
    exact hret _ _ _ _ _ _ rfl ⟨h, rfl⟩ hW dX11_person_20
  · have h := h.2 c5
    refine lv_iload_n (pc := 8) hx hcb dX11_person_8 rfl (lv_at hl 2 rfl) ?_
    refine lv_iconst (v := (-1)) (pc := 9) hx hcb dX11_person_9 rfl ?_
    refine lv_sipush (v := 9999) (pc := 10) hx hcb dX11_person_10 rfl ?_
    refine kci (krunS (As := [.int x2, .int (-1), .int 9999]) (rest := []) (pc := 13) hx hcb hml hown hts hS hW (c_X11_in l X σ x2 (-1) 9999 _ h) mf_X11_in q936 ⟨rfl, rfl⟩ ⟨Nat.le_of_ble_eq_true rfl, Nat.le_of_ble_eq_true rfl⟩ rfl hl.1 rfl (Nat.le_of_ble_eq_true rfl) dX11_person_13 ⟨Nat.zero_le _, Nat.zero_le _⟩) hS hW (fun r4 σ3 H locs h hW => ?_)
    obtain ⟨h, rfl⟩ := h
    refine lv_if_ne (tgt := 21) (pc := 16) hx hcb dX11_person_16 (by decide) (fun c16 => ?_) (fun c16 => ?_)
    · have h := h.1 c16
      refine lv_iload_n (pc := 21) hx hcb dX11_person_21 rfl (lv_at hl 2 rfl) ?_
      refine lv_iconst (v := (-1)) (pc := 22) hx hcb dX11_person_22 rfl ?_
      refine lv_icmp_ne (tgt := 38) (pc := 23) hx hcb dX11_person_23 (by decide) (fun c23 => ?_) (fun c23 => ?_)
      · have h := h.1 c23
        refine lv_aload_n (pc := 38) hx hcb dX11_person_38 rfl (lv_at hl 0 rfl) ?_
        refine lv_iload_n (pc := 39) hx hcb dX11_person_39 rfl (lv_at hl 1 rfl) ?_
        refine lv_iload_n (pc := 40) hx hcb dX11_person_40 rfl (lv_at hl 2 rfl) ?_
        refine kci (krunV (As := [.int x1, .int x2]) (rest := []) (pc := 41) hx hcb hml hown hts hS hW (c_X11_placeOf l X σ x1 x2 _ h) mf_X11_placeOf q992 kOM_0 rfl ⟨rfl, rfl⟩ ⟨Nat.le_of_ble_eq_true rfl, Nat.le_of_ble_eq_true rfl⟩ rfl hl.1 rfl (Nat.le_of_ble_eq_true rfl) dX11_person_41 ⟨Nat.zero_le _, Nat.zero_le _⟩) hS hW (fun r6 σ5 H locs h hW => ?_)
        obtain ⟨h, rfl⟩ := h
        exact hret _ _ _ _ _ _ rfl ⟨h, rfl⟩ hW dX11_person_44
      · have h := h.2 c23
        refine lv_aload_n (pc := 26) hx hcb dX11_person_26 rfl (lv_at hl 0 rfl) ?_
        refine kget (v := .ref (X.2.1 1)) (pc := 27) hx hcb hts hown hS hW iwX11 kOM_0 rfl 0 (by decide) q858 rfl rfl dX11_person_27 ?_
        refine lv_bipush (v := 12) (pc := 30) hx hcb dX11_person_30 rfl ?_
        refine lv_iload_n (pc := 32) hx hcb dX11_person_32 rfl (lv_at hl 1 rfl) ?_
        refine lv_iadd (pc := 33) hx hcb dX11_person_33 ?_
        have hin7 := h.1
        have h := h.2
        refine kiald ((12 + x1).toNatClampNeg) (pc := 34) hx hcb hS hW kIM_1 rfl (kin_of hin7 (by decide)) dX11_person_34 ?_
        refine lv_goto (tgt := 44) (pc := 35) hx hcb dX11_person_35 (by decide) ?_
        exact hret _ _ _ _ _ _ rfl ⟨h, rfl⟩ hW dX11_person_44
    · have h := h.2 c16
      refine lv_iconst (v := (-1)) (pc := 19) hx hcb dX11_person_19 rfl ?_
      exact hret _ _ _ _ _ _ rfl ⟨h, rfl⟩ hW dX11_person_20
abbrev rm_X11_price : Room := { frames := 5, cells := 0, slots := 0, locals := 124 }
set_option maxHeartbeats 4000000 in
set_option maxRecDepth 100000 in
theorem c_X11_price (l : Launch) (X : KX) (σ : Mm)  (Φ : Int32 → Mm → Prop) (h : wp_X11_price σ  Φ) : Met l yX11_price (.code yX11_price cX11_price 2 (some .int) :: kT) rm_X11_price (va_Pc [.ref (X.2.1 0)] (kPre kZM X σ)) (va_Qi (fun r σ' => Φ r σ') (fun σ' t => kPre kZM X σ' t) (kA kZM X)) 0 0 (kA kZM X) := by
  refine kofI (by decide) (Nat.le_of_ble_eq_true rfl) ?_
  intro p e s m args below meth c ls Q hx hcb hml hown hts hS hW hl hret
  have hown : s.vm.findClass RX11 = some m.cls := hown
  have hl : lv_has ls 2 [(0, .ref (X.2.1 0))] := hl
  unfold wp_X11_price at h
  refine lv_aload_n (pc := 0) hx hcb dX11_price_0 rfl (lv_at hl 0 rfl) ?_
  refine lv_aload_n (pc := 1) hx hcb dX11_price_1 rfl (lv_at hl 0 rfl) ?_
  refine kci (krunV (As := []) (rest := [.ref (X.2.1 0)]) (pc := 2) hx hcb hml hown hts hS hW (c_X11_lastGoal l X σ  _ h) mf_X11_lastGoal q1050 kOM_0 rfl ⟨rfl, rfl⟩ ⟨Nat.le_of_ble_eq_true rfl, Nat.le_of_ble_eq_true rfl⟩ rfl hl.1 rfl (Nat.le_of_ble_eq_true rfl) dX11_price_2 ⟨Nat.zero_le _, Nat.zero_le _⟩) hS hW (fun r2 σ1 H locs h hW => ?_)
  obtain ⟨h, rfl⟩ := h
  refine kci (krunV (As := [.int r2]) (rest := []) (pc := 5) hx hcb hml hown hts hS hW (c_X11_priceTo l X σ r2 _ h) mf_X11_priceTo q1058 kOM_0 rfl ⟨rfl, rfl⟩ ⟨Nat.le_of_ble_eq_true rfl, Nat.le_of_ble_eq_true rfl⟩ rfl hl.1 rfl (Nat.le_of_ble_eq_true rfl) dX11_price_5 ⟨Nat.zero_le _, Nat.zero_le _⟩) hS hW (fun r4 σ3 H locs h hW => ?_)
  refine lv_istore_n (lv' := [(1, .int r4), (0, .ref (X.2.1 0))]) (pc := 8) hx hcb dX11_price_8 rfl hl (by decide) rfl (fun ls hl => ?_)
  refine lv_iload_n (pc := 9) hx hcb dX11_price_9 rfl (lv_at hl 0 rfl) ?_
  refine kldc (v := 999999) (pc := 10) hx hcb hown hts q857 dX11_price_10 ?_
  refine lv_icmp_lt (tgt := 20) (pc := 12) hx hcb dX11_price_12 (by decide) (fun c12 => ?_) (fun c12 => ?_)
  · have h := h.1 c12
    refine lv_iload_n (pc := 20) hx hcb dX11_price_20 rfl (lv_at hl 0 rfl) ?_
    exact hret _ _ _ _ _ _ rfl h hW dX11_price_21
  · have h := h.2 c12
    refine lv_bipush (v := (-4)) (pc := 15) hx hcb dX11_price_15 rfl ?_
    refine lv_goto (tgt := 21) (pc := 17) hx hcb dX11_price_17 (by decide) ?_
    exact hret _ _ _ _ _ _ rfl h hW dX11_price_21
abbrev rm_X11_seen : Room := { frames := 2, cells := 0, slots := 0, locals := 43 }
set_option maxHeartbeats 4000000 in
set_option maxRecDepth 100000 in
theorem c_X11_seen (l : Launch) (X : KX) (σ : Mm) (x1 : Int32) (x2 : Int32) (Φ : Int32 → Mm → Prop) (h : wp_X11_seen σ x1 x2 Φ) : Met l yX11_seen (.code yX11_seen cX11_seen 3 (some .int) :: kT) rm_X11_seen (va_Pc [.ref (X.2.1 0), .int x1, .int x2] (kPre kZM X σ)) (va_Qi (fun r σ' => Φ r σ') (fun σ' t => kPre kZM X σ' t) (kA kZM X)) 0 0 (kA kZM X) := by
  refine kofI (by decide) (Nat.le_of_ble_eq_true rfl) ?_
  intro p e s m args below meth c ls Q hx hcb hml hown hts hS hW hl hret
  have hown : s.vm.findClass RX11 = some m.cls := hown
  have hl : lv_has ls 3 [(0, .ref (X.2.1 0)), (1, .int x1), (2, .int x2)] := hl
  unfold wp_X11_seen at h
  refine lv_aload_n (pc := 0) hx hcb dX11_seen_0 rfl (lv_at hl 0 rfl) ?_
  refine lv_iload_n (pc := 1) hx hcb dX11_seen_1 rfl (lv_at hl 1 rfl) ?_
  refine kci (krunV (As := [.int x1]) (rest := []) (pc := 2) hx hcb hml hown hts hS hW (c_X11_isYard l X σ x1 _ h) mf_X11_isYard q980 kOM_0 rfl ⟨rfl, rfl⟩ ⟨Nat.le_of_ble_eq_true rfl, Nat.le_of_ble_eq_true rfl⟩ rfl hl.1 rfl (Nat.le_of_ble_eq_true rfl) dX11_seen_2 ⟨Nat.zero_le _, Nat.zero_le _⟩) hS hW (fun r2 σ1 H locs h hW => ?_)
  obtain ⟨h, rfl⟩ := h
  refine lv_if_eq (tgt := 18) (pc := 5) hx hcb dX11_seen_5 (by decide) (fun c5 => ?_) (fun c5 => ?_)
  · have h := h.1 c5
    refine lv_iconst (v := (-1)) (pc := 18) hx hcb dX11_seen_18 rfl ?_
    exact hret _ _ _ _ _ _ rfl h hW dX11_seen_19
  · have h := h.2 c5
    refine lv_iload_n (pc := 8) hx hcb dX11_seen_8 rfl (lv_at hl 2 rfl) ?_
    refine lv_iconst (v := 0) (pc := 9) hx hcb dX11_seen_9 rfl ?_
    refine lv_bipush (v := 20) (pc := 10) hx hcb dX11_seen_10 rfl ?_
    refine kci (krunS (As := [.int x2, .int 0, .int 20]) (rest := []) (pc := 12) hx hcb hml hown hts hS hW (c_X11_in l X σ x2 0 20 _ h) mf_X11_in q936 ⟨rfl, rfl⟩ ⟨Nat.le_of_ble_eq_true rfl, Nat.le_of_ble_eq_true rfl⟩ rfl hl.1 rfl (Nat.le_of_ble_eq_true rfl) dX11_seen_12 ⟨Nat.zero_le _, Nat.zero_le _⟩) hS hW (fun r4 σ3 H locs h hW => ?_)
    obtain ⟨h, rfl⟩ := h
    refine lv_if_ne (tgt := 20) (pc := 15) hx hcb dX11_seen_15 (by decide) (fun c15 => ?_) (fun c15 => ?_)
    · have h := h.1 c15
      refine lv_aload_n (pc := 20) hx hcb dX11_seen_20 rfl (lv_at hl 0 rfl) ?_
      refine kget (v := .int (σ.1 0 21)) (pc := 21) hx hcb hts hown hS hW iwX11 kOM_0 rfl 21 (by decide) q879 rfl rfl dX11_seen_21 ?_
      refine lv_bipush (v := 6) (pc := 24) hx hcb dX11_seen_24 rfl ?_
      refine lv_icmp_ne (tgt := 32) (pc := 26) hx hcb dX11_seen_26 (by decide) (fun c26 => ?_) (fun c26 => ?_)
      · have h := h.1 c26
        refine lv_aload_n (pc := 32) hx hcb dX11_seen_32 rfl (lv_at hl 0 rfl) ?_
        refine kget (v := .ref (X.2.1 13)) (pc := 33) hx hcb hts hown hS hW iwX11 kOM_0 rfl 19 (by decide) q877 rfl rfl dX11_seen_33 ?_
        refine lv_aload_n (pc := 36) hx hcb dX11_seen_36 rfl (lv_at hl 0 rfl) ?_
        refine kget (v := .int (σ.1 0 21)) (pc := 37) hx hcb hts hown hS hW iwX11 kOM_0 rfl 21 (by decide) q879 rfl rfl dX11_seen_37 ?_
        refine lv_iload_n (pc := 40) hx hcb dX11_seen_40 rfl (lv_at hl 1 rfl) ?_
        have hin5 := h.1
        have h := h.2
        refine kiast ((σ.1 0 21).toNatClampNeg) (pc := 41) hx hcb hS hW kIM_13 rfl (kin_of hin5 (by decide)) dX11_seen_41 (fun σ6 H locs eσ6 hW => ?_)
        have h := h σ6 eσ6
        refine lv_aload_n (pc := 42) hx hcb dX11_seen_42 rfl (lv_at hl 0 rfl) ?_
        refine kget (v := .ref (X.2.1 14)) (pc := 43) hx hcb hts hown hS hW iwX11 kOM_0 rfl 20 (by decide) q878 rfl rfl dX11_seen_43 ?_
        refine lv_aload_n (pc := 46) hx hcb dX11_seen_46 rfl (lv_at hl 0 rfl) ?_
        refine kget (v := .int (σ6.1 0 21)) (pc := 47) hx hcb hts hown hS hW iwX11 kOM_0 rfl 21 (by decide) q879 rfl rfl dX11_seen_47 ?_
        refine lv_iload_n (pc := 50) hx hcb dX11_seen_50 rfl (lv_at hl 2 rfl) ?_
        have hin7 := h.1
        have h := h.2
        refine kiast ((σ6.1 0 21).toNatClampNeg) (pc := 51) hx hcb hS hW kIM_14 rfl (kin_of hin7 (by decide)) dX11_seen_51 (fun σ8 H locs eσ8 hW => ?_)
        have h := h σ8 eσ8
        refine lv_aload_n (pc := 52) hx hcb dX11_seen_52 rfl (lv_at hl 0 rfl) ?_
        refine lv_dup (pc := 53) hx hcb dX11_seen_53 rfl ?_
        refine kget (v := .int (σ8.1 0 21)) (pc := 54) hx hcb hts hown hS hW iwX11 kOM_0 rfl 21 (by decide) q879 rfl rfl dX11_seen_54 ?_
        refine lv_iconst (v := 1) (pc := 57) hx hcb dX11_seen_57 rfl ?_
        refine lv_iadd (pc := 58) hx hcb dX11_seen_58 ?_
        refine kput (ty := .int) (pc := 59) hx hcb hts hown hS hW iwX11 tyX11 tyX11_ok nmX11 kOM_0 rfl 21 (by decide) q879 rfl rfl rfl rfl rfl (Nat.le_of_ble_eq_true rfl) rfl dX11_seen_59 (fun σ9 H locs eσ9 hW => ?_)
        have h := h σ9 eσ9
        refine lv_aload_n (pc := 62) hx hcb dX11_seen_62 rfl (lv_at hl 0 rfl) ?_
        refine kget (v := .int (σ9.1 0 21)) (pc := 63) hx hcb hts hown hS hW iwX11 kOM_0 rfl 21 (by decide) q879 rfl rfl dX11_seen_63 ?_
        exact hret _ _ _ _ _ _ rfl h hW dX11_seen_66
      · have h := h.2 c26
        refine lv_bipush (v := (-3)) (pc := 29) hx hcb dX11_seen_29 rfl ?_
        exact hret _ _ _ _ _ _ rfl h hW dX11_seen_31
    · have h := h.2 c15
      refine lv_iconst (v := (-1)) (pc := 18) hx hcb dX11_seen_18 rfl ?_
      exact hret _ _ _ _ _ _ rfl h hW dX11_seen_19
abbrev rm_X11_sure : Room := { frames := 4, cells := 0, slots := 0, locals := 101 }
set_option maxHeartbeats 4000000 in
set_option maxRecDepth 100000 in
theorem c_X11_sure (l : Launch) (X : KX) (σ : Mm) (x1 : Int32) (Φ : Int32 → Mm → Prop) (h : wp_X11_sure σ x1 Φ) : Met l yX11_sure (.code yX11_sure cX11_sure 2 (some .int) :: kT) rm_X11_sure (va_Pc [.ref (X.2.1 0), .int x1] (kPre kZM X σ)) (va_Qi (fun r σ' => Φ r σ') (fun σ' t => kPre kZM X σ' t) (kA kZM X)) 0 0 (kA kZM X) := by
  refine kofI (by decide) (Nat.le_of_ble_eq_true rfl) ?_
  intro p e s m args below meth c ls Q hx hcb hml hown hts hS hW hl hret
  have hown : s.vm.findClass RX11 = some m.cls := hown
  have hl : lv_has ls 2 [(0, .ref (X.2.1 0)), (1, .int x1)] := hl
  unfold wp_X11_sure at h
  refine lv_aload_n (pc := 0) hx hcb dX11_sure_0 rfl (lv_at hl 0 rfl) ?_
  refine lv_iload_n (pc := 1) hx hcb dX11_sure_1 rfl (lv_at hl 1 rfl) ?_
  refine kci (krunV (As := [.int x1]) (rest := []) (pc := 2) hx hcb hml hown hts hS hW (c_X11_isPerson l X σ x1 _ h) mf_X11_isPerson q988 kOM_0 rfl ⟨rfl, rfl⟩ ⟨Nat.le_of_ble_eq_true rfl, Nat.le_of_ble_eq_true rfl⟩ rfl hl.1 rfl (Nat.le_of_ble_eq_true rfl) dX11_sure_2 ⟨Nat.zero_le _, Nat.zero_le _⟩) hS hW (fun r2 σ1 H locs h hW => ?_)
  obtain ⟨h, rfl⟩ := h
  refine lv_if_ne (tgt := 10) (pc := 5) hx hcb dX11_sure_5 (by decide) (fun c5 => ?_) (fun c5 => ?_)
  · have h := h.1 c5
    refine lv_aload_n (pc := 10) hx hcb dX11_sure_10 rfl (lv_at hl 0 rfl) ?_
    refine lv_iconst (v := (-1)) (pc := 11) hx hcb dX11_sure_11 rfl ?_
    refine kcl (krunV (As := [.int (-1)]) (rest := []) (pc := 12) hx hcb hml hown hts hS hW (c_X11_howBut l X σ (-1) _ h) mf_X11_howBut q1110 kOM_0 rfl ⟨rfl, rfl⟩ ⟨Nat.le_of_ble_eq_true rfl, Nat.le_of_ble_eq_true rfl⟩ rfl hl.1 rfl (Nat.le_of_ble_eq_true rfl) dX11_sure_12 ⟨Nat.zero_le _, Nat.zero_le _⟩) hS hW (fun r4 σ3 H locs h hW => ?_)
    refine lv_lconst (v := 0) (pc := 15) hx hcb dX11_sure_15 rfl ?_
    refine W.lcmp (pc := 16) hx hcb dX11_sure_16 ?_
    refine lv_if_le (tgt := 34) (pc := 17) hx hcb dX11_sure_17 (by decide) (fun c17 => ?_) (fun c17 => ?_)
    · have h := h.1 c17
      refine lv_iconst (v := 0) (pc := 34) hx hcb dX11_sure_34 rfl ?_
      exact hret _ _ _ _ _ _ rfl h hW dX11_sure_35
    · have h := h.2 c17
      refine lv_aload_n (pc := 20) hx hcb dX11_sure_20 rfl (lv_at hl 0 rfl) ?_
      refine lv_iload_n (pc := 21) hx hcb dX11_sure_21 rfl (lv_at hl 1 rfl) ?_
      refine kcl (krunV (As := [.int x1]) (rest := []) (pc := 22) hx hcb hml hown hts hS hW (c_X11_howBut l X σ3 x1 _ h) mf_X11_howBut q1110 kOM_0 rfl ⟨rfl, rfl⟩ ⟨Nat.le_of_ble_eq_true rfl, Nat.le_of_ble_eq_true rfl⟩ rfl hl.1 rfl (Nat.le_of_ble_eq_true rfl) dX11_sure_22 ⟨Nat.zero_le _, Nat.zero_le _⟩) hS hW (fun r6 σ5 H locs h hW => ?_)
      refine lv_lconst (v := 0) (pc := 25) hx hcb dX11_sure_25 rfl ?_
      refine W.lcmp (pc := 26) hx hcb dX11_sure_26 ?_
      refine lv_if_ne (tgt := 34) (pc := 27) hx hcb dX11_sure_27 (by decide) (fun c27 => ?_) (fun c27 => ?_)
      · have h := h.1 c27
        refine lv_iconst (v := 0) (pc := 34) hx hcb dX11_sure_34 rfl ?_
        exact hret _ _ _ _ _ _ rfl h hW dX11_sure_35
      · have h := h.2 c27
        refine lv_iconst (v := 1) (pc := 30) hx hcb dX11_sure_30 rfl ?_
        refine lv_goto (tgt := 35) (pc := 31) hx hcb dX11_sure_31 (by decide) ?_
        exact hret _ _ _ _ _ _ rfl h hW dX11_sure_35
  · have h := h.2 c5
    refine lv_iconst (v := (-1)) (pc := 8) hx hcb dX11_sure_8 rfl ?_
    exact hret _ _ _ _ _ _ rfl h hW dX11_sure_9
abbrev rm_X11_undo : Room := { frames := 0, cells := 0, slots := 0, locals := 0 }
set_option maxHeartbeats 4000000 in
set_option maxRecDepth 100000 in
theorem c_X11_undo (l : Launch) (X : KX) (σ : Mm)  (Φ : Int32 → Mm → Prop) (h : wp_X11_undo σ  Φ) : Met l yX11_undo (.code yX11_undo cX11_undo 2 (some .int) :: kT) rm_X11_undo (va_Pc [.ref (X.2.1 0)] (kPre kZM X σ)) (va_Qi (fun r σ' => Φ r σ') (fun σ' t => kPre kZM X σ' t) (kA kZM X)) 0 0 (kA kZM X) := by
  refine kofI (by decide) (Nat.le_of_ble_eq_true rfl) ?_
  intro p e s m args below meth c ls Q hx hcb hml hown hts hS hW hl hret
  have hown : s.vm.findClass RX11 = some m.cls := hown
  have hl : lv_has ls 2 [(0, .ref (X.2.1 0))] := hl
  unfold wp_X11_undo at h
  refine lv_aload_n (pc := 0) hx hcb dX11_undo_0 rfl (lv_at hl 0 rfl) ?_
  refine kget (v := .int (σ.1 0 9)) (pc := 1) hx hcb hts hown hS hW iwX11 kOM_0 rfl 9 (by decide) q867 rfl rfl dX11_undo_1 ?_
  refine lv_if_ne (tgt := 10) (pc := 4) hx hcb dX11_undo_4 (by decide) (fun c4 => ?_) (fun c4 => ?_)
  · have h := h.1 c4
    refine lv_aload_n (pc := 10) hx hcb dX11_undo_10 rfl (lv_at hl 0 rfl) ?_
    refine lv_dup (pc := 11) hx hcb dX11_undo_11 rfl ?_
    refine kget (v := .int (σ.1 0 9)) (pc := 12) hx hcb hts hown hS hW iwX11 kOM_0 rfl 9 (by decide) q867 rfl rfl dX11_undo_12 ?_
    refine lv_iconst (v := 1) (pc := 15) hx hcb dX11_undo_15 rfl ?_
    refine lv_isub (pc := 16) hx hcb dX11_undo_16 ?_
    refine kput (ty := .int) (pc := 17) hx hcb hts hown hS hW iwX11 tyX11 tyX11_ok nmX11 kOM_0 rfl 9 (by decide) q867 rfl rfl rfl rfl rfl (Nat.le_of_ble_eq_true rfl) rfl dX11_undo_17 (fun σ1 H locs eσ1 hW => ?_)
    have h := h σ1 eσ1
    refine lv_iconst (v := 0) (pc := 20) hx hcb dX11_undo_20 rfl ?_
    refine lv_istore_n (lv' := [(1, .int 0), (0, .ref (X.2.1 0))]) (pc := 21) hx hcb dX11_undo_21 rfl hl (by decide) rfl (fun ls hl => ?_)
    obtain ⟨K52, hk52, h⟩ := h
    have hK52 : ∀ (σ2 : Mm) (H : Heap) (locs : List Loc) (ls : Array Slot), K52 σ2 → kW kZM X (kA kZM X) s σ2 H locs → lv_has ls 2 [(0, .ref (X.2.1 0))] → W p l e rm_X11_undo s m args below meth c H locs 0 0 Q (F0 m 52 ls []) := by
      intro σ2 H locs ls h hW hl
      have h := hk52 σ2 h
      refine lv_aload_n (pc := 52) hx hcb dX11_undo_52 rfl (lv_at hl 0 rfl) ?_
      refine kget (v := .int (σ2.1 0 9)) (pc := 53) hx hcb hts hown hS hW iwX11 kOM_0 rfl 9 (by decide) q867 rfl rfl dX11_undo_53 ?_
      exact hret _ _ _ _ _ _ rfl h hW dX11_undo_56
    have hL22 : ∀ (n : Nat) (σ3 : Mm) (x1_4 : Int32) (H : Heap) (locs : List Loc) (ls : Array Slot), wp_X11_undo_L22 K52 n σ3 x1_4 → kW kZM X (kA kZM X) s σ3 H locs → lv_has ls 2 [(0, .ref (X.2.1 0)), (1, .int x1_4)] → W p l e rm_X11_undo s m args below meth c H locs 0 0 Q (F0 m 22 ls []) := by
      intro n
      induction n with
      | zero =>
        intro σ3 x1_4 H locs ls h
        exact False.elim h
      | succ n ih =>
        intro σ3 x1_4 H locs ls h hW hl
        unfold wp_X11_undo_L22 at h
        refine lv_iload_n (pc := 22) hx hcb dX11_undo_22 rfl (lv_at hl 1 rfl) ?_
        refine lv_iconst (v := 3) (pc := 23) hx hcb dX11_undo_23 rfl ?_
        refine lv_icmp_ge (tgt := 52) (pc := 24) hx hcb dX11_undo_24 (by decide) (fun c24 => ?_) (fun c24 => ?_)
        · have h := h.1 c24
          exact hK52 σ3 _ _ _ h hW (lv_sub hl [0] rfl)
        · have h := h.2 c24
          refine lv_aload_n (pc := 27) hx hcb dX11_undo_27 rfl (lv_at hl 0 rfl) ?_
          refine kget (v := .ref (X.2.1 4)) (pc := 28) hx hcb hts hown hS hW iwX11 kOM_0 rfl 7 (by decide) q865 rfl rfl dX11_undo_28 ?_
          refine lv_iload_n (pc := 31) hx hcb dX11_undo_31 rfl (lv_at hl 1 rfl) ?_
          refine lv_aload_n (pc := 32) hx hcb dX11_undo_32 rfl (lv_at hl 0 rfl) ?_
          refine kget (v := .ref (X.2.1 5)) (pc := 33) hx hcb hts hown hS hW iwX11 kOM_0 rfl 8 (by decide) q866 rfl rfl dX11_undo_33 ?_
          refine lv_iconst (v := 3) (pc := 36) hx hcb dX11_undo_36 rfl ?_
          refine lv_aload_n (pc := 37) hx hcb dX11_undo_37 rfl (lv_at hl 0 rfl) ?_
          refine kget (v := .int (σ3.1 0 9)) (pc := 38) hx hcb hts hown hS hW iwX11 kOM_0 rfl 9 (by decide) q867 rfl rfl dX11_undo_38 ?_
          refine lv_imul (pc := 41) hx hcb dX11_undo_41 ?_
          refine lv_iload_n (pc := 42) hx hcb dX11_undo_42 rfl (lv_at hl 1 rfl) ?_
          refine lv_iadd (pc := 43) hx hcb dX11_undo_43 ?_
          have hin5 := h.1
          have h := h.2
          refine kiald (((3 * (σ3.1 0 9)) + x1_4).toNatClampNeg) (pc := 44) hx hcb hS hW kIM_5 rfl (kin_of hin5 (by decide)) dX11_undo_44 ?_
          have hin6 := h.1
          have h := h.2
          refine kiast (x1_4.toNatClampNeg) (pc := 45) hx hcb hS hW kIM_4 rfl (kin_of hin6 (by decide)) dX11_undo_45 (fun σ7 H locs eσ7 hW => ?_)
          have h := h σ7 eσ7
          refine lv_iinc (v := x1_4 + 1) (lv' := [(1, .int (x1_4 + 1)), (0, .ref (X.2.1 0))]) (pc := 46) hx hcb dX11_undo_46 hl (k := 1) rfl rfl (by decide) rfl (fun ls hl => ?_)
          refine lv_goto (tgt := 22) (pc := 49) hx hcb dX11_undo_49 (by decide) ?_
          exact ih σ7 (x1_4 + 1) _ _ _ h hW (lv_sub hl [1, 0] rfl)
    obtain ⟨n, h⟩ := h
    exact hL22 n σ1 0 _ _ _ h hW (lv_sub hl [1, 0] rfl)
  · have h := h.2 c4
    refine lv_bipush (v := (-2)) (pc := 7) hx hcb dX11_undo_7 rfl ?_
    exact hret _ _ _ _ _ _ rfl h hW dX11_undo_9
abbrev rm_X11_wipe : Room := { frames := 0, cells := 0, slots := 0, locals := 0 }
set_option maxHeartbeats 4000000 in
set_option maxRecDepth 100000 in
theorem c_X11_wipe (l : Launch) (X : KX) (σ : Mm)  (Φ : Int32 → Mm → Prop) (h : wp_X11_wipe σ  Φ) : Met l yX11_wipe (.code yX11_wipe cX11_wipe 2 (some .int) :: kT) rm_X11_wipe (va_Pc [.ref (X.2.1 0)] (kPre kZM X σ)) (va_Qi (fun r σ' => Φ r σ') (fun σ' t => kPre kZM X σ' t) (kA kZM X)) 0 0 (kA kZM X) := by
  refine kofI (by decide) (Nat.le_of_ble_eq_true rfl) ?_
  intro p e s m args below meth c ls Q hx hcb hml hown hts hS hW hl hret
  have hown : s.vm.findClass RX11 = some m.cls := hown
  have hl : lv_has ls 2 [(0, .ref (X.2.1 0))] := hl
  unfold wp_X11_wipe at h
  refine lv_aload_n (pc := 0) hx hcb dX11_wipe_0 rfl (lv_at hl 0 rfl) ?_
  refine kget (v := .int (σ.1 0 3)) (pc := 1) hx hcb hts hown hS hW iwX11 kOM_0 rfl 3 (by decide) q861 rfl rfl dX11_wipe_1 ?_
  refine lv_topi (fun x1_1 ex1_1 => ?_)
  have h := h x1_1 ex1_1
  refine lv_istore_n (lv' := [(1, .int x1_1), (0, .ref (X.2.1 0))]) (pc := 4) hx hcb dX11_wipe_4 rfl hl (by decide) rfl (fun ls hl => ?_)
  refine lv_aload_n (pc := 5) hx hcb dX11_wipe_5 rfl (lv_at hl 1 rfl) ?_
  refine lv_iconst (v := 0) (pc := 6) hx hcb dX11_wipe_6 rfl ?_
  refine kput (ty := .int) (pc := 7) hx hcb hts hown hS hW iwX11 tyX11 tyX11_ok nmX11 kOM_0 rfl 3 (by decide) q861 rfl rfl rfl rfl rfl (Nat.le_of_ble_eq_true rfl) rfl dX11_wipe_7 (fun σ2 H locs eσ2 hW => ?_)
  have h := h σ2 eσ2
  refine lv_iload_n (pc := 10) hx hcb dX11_wipe_10 rfl (lv_at hl 0 rfl) ?_
  exact hret _ _ _ _ _ _ rfl h hW dX11_wipe_11
abbrev rm_X11_write : Room := { frames := 1, cells := 0, slots := 0, locals := 22 }
set_option maxHeartbeats 4000000 in
set_option maxRecDepth 100000 in
theorem c_X11_write (l : Launch) (X : KX) (σ : Mm) (x1 : Int32) (x2 : Int64) (Φ : Int32 → Mm → Prop) (h : wp_X11_write σ x1 x2 Φ) : Met l yX11_write (.code yX11_write cX11_write 5 (some .int) :: kT) rm_X11_write (va_Pc [.ref (X.2.1 0), .int x1, .long x2] (kPre kZM X σ)) (va_Qi (fun r σ' => Φ r σ') (fun σ' t => kPre kZM X σ' t) (kA kZM X)) 0 0 (kA kZM X) := by
  refine kofI (by decide) (Nat.le_of_ble_eq_true rfl) ?_
  intro p e s m args below meth c ls Q hx hcb hml hown hts hS hW hl hret
  have hown : s.vm.findClass RX11 = some m.cls := hown
  have hl : lv_has ls 5 [(0, .ref (X.2.1 0)), (1, .int x1), (2, .long x2)] := hl
  unfold wp_X11_write at h
  refine lv_iload_n (pc := 0) hx hcb dX11_write_0 rfl (lv_at hl 1 rfl) ?_
  refine lv_iconst (v := 1) (pc := 1) hx hcb dX11_write_1 rfl ?_
  refine lv_bipush (v := 8) (pc := 2) hx hcb dX11_write_2 rfl ?_
  refine kci (krunS (As := [.int x1, .int 1, .int 8]) (rest := []) (pc := 4) hx hcb hml hown hts hS hW (c_X11_in l X σ x1 1 8 _ h) mf_X11_in q936 ⟨rfl, rfl⟩ ⟨Nat.le_of_ble_eq_true rfl, Nat.le_of_ble_eq_true rfl⟩ rfl hl.1 rfl (Nat.le_of_ble_eq_true rfl) dX11_write_4 ⟨Nat.zero_le _, Nat.zero_le _⟩) hS hW (fun r2 σ1 H locs h hW => ?_)
  obtain ⟨h, rfl⟩ := h
  refine lv_if_ne (tgt := 12) (pc := 7) hx hcb dX11_write_7 (by decide) (fun c7 => ?_) (fun c7 => ?_)
  · have h := h.1 c7
    refine lv_aload_n (pc := 12) hx hcb dX11_write_12 rfl (lv_at hl 0 rfl) ?_
    refine kget (v := .int (σ.1 0 3)) (pc := 13) hx hcb hts hown hS hW iwX11 kOM_0 rfl 3 (by decide) q861 rfl rfl dX11_write_13 ?_
    refine lv_iload_n (pc := 16) hx hcb dX11_write_16 rfl (lv_at hl 1 rfl) ?_
    refine lv_iadd (pc := 17) hx hcb dX11_write_17 ?_
    refine lv_sipush (v := 300) (pc := 18) hx hcb dX11_write_18 rfl ?_
    refine lv_icmp_le (tgt := 27) (pc := 21) hx hcb dX11_write_21 (by decide) (fun c21 => ?_) (fun c21 => ?_)
    · have h := h.1 c21
      refine lv_iload_n (pc := 27) hx hcb dX11_write_27 rfl (lv_at hl 1 rfl) ?_
      refine lv_iconst (v := 1) (pc := 28) hx hcb dX11_write_28 rfl ?_
      refine lv_isub (pc := 29) hx hcb dX11_write_29 ?_
      refine lv_topi (fun x4_3 ex4_3 => ?_)
      have h := h x4_3 ex4_3
      refine lv_istore (lv' := [(4, .int x4_3), (0, .ref (X.2.1 0)), (1, .int x1), (2, .long x2)]) (pc := 30) hx hcb dX11_write_30 hl (by decide) rfl (fun ls hl => ?_)
      obtain ⟨K75, hk75, h⟩ := h
      have hK75 : ∀ (σ4 : Mm) (H : Heap) (locs : List Loc) (ls : Array Slot), K75 σ4 → kW kZM X (kA kZM X) s σ4 H locs → lv_has ls 5 [(0, .ref (X.2.1 0))] → W p l e rm_X11_write s m args below meth c H locs 0 0 Q (F0 m 75 ls []) := by
        intro σ4 H locs ls h hW hl
        have h := hk75 σ4 h
        refine lv_aload_n (pc := 75) hx hcb dX11_write_75 rfl (lv_at hl 0 rfl) ?_
        refine kget (v := .int (σ4.1 0 3)) (pc := 76) hx hcb hts hown hS hW iwX11 kOM_0 rfl 3 (by decide) q861 rfl rfl dX11_write_76 ?_
        exact hret _ _ _ _ _ _ rfl h hW dX11_write_79
      have hL32 : ∀ (n : Nat) (σ5 : Mm) (x4_6 : Int32) (H : Heap) (locs : List Loc) (ls : Array Slot), wp_X11_write_L32 x2 K75 n σ5 x4_6 → kW kZM X (kA kZM X) s σ5 H locs → lv_has ls 5 [(0, .ref (X.2.1 0)), (2, .long x2), (4, .int x4_6)] → W p l e rm_X11_write s m args below meth c H locs 0 0 Q (F0 m 32 ls []) := by
        intro n
        induction n with
        | zero =>
          intro σ5 x4_6 H locs ls h
          exact False.elim h
        | succ n ih =>
          intro σ5 x4_6 H locs ls h hW hl
          unfold wp_X11_write_L32 at h
          refine lv_iload (pc := 32) hx hcb dX11_write_32 (lv_at hl 2 rfl) ?_
          refine lv_if_lt (tgt := 75) (pc := 34) hx hcb dX11_write_34 (by decide) (fun c34 => ?_) (fun c34 => ?_)
          · have h := h.1 c34
            exact hK75 σ5 _ _ _ h hW (lv_sub hl [0] rfl)
          · have h := h.2 c34
            refine lv_aload_n (pc := 37) hx hcb dX11_write_37 rfl (lv_at hl 0 rfl) ?_
            refine kget (v := .ref (X.2.1 3)) (pc := 38) hx hcb hts hown hS hW iwX11 kOM_0 rfl 2 (by decide) q860 rfl rfl dX11_write_38 ?_
            refine lv_aload_n (pc := 41) hx hcb dX11_write_41 rfl (lv_at hl 0 rfl) ?_
            refine kget (v := .int (σ5.1 0 3)) (pc := 42) hx hcb hts hown hS hW iwX11 kOM_0 rfl 3 (by decide) q861 rfl rfl dX11_write_42 ?_
            refine lv_lload_n (pc := 45) hx hcb dX11_write_45 rfl (lv_at hl 1 rfl) ?_
            refine lv_bipush (v := 8) (pc := 46) hx hcb dX11_write_46 rfl ?_
            refine lv_iload (pc := 48) hx hcb dX11_write_48 (lv_at hl 2 rfl) ?_
            refine lv_imul (pc := 50) hx hcb dX11_write_50 ?_
            refine lv_lshr (pc := 51) hx hcb dX11_write_51 rfl ?_
            refine kldc2 (v := 255) (pc := 52) hx hcb hown hts q939 dX11_write_52 ?_
            refine lv_land (pc := 55) hx hcb dX11_write_55 ?_
            refine lv_l2i (pc := 56) hx hcb dX11_write_56 rfl ?_
            refine lv_i2b (pc := 57) hx hcb dX11_write_57 rfl ?_
            have hin7 := h.1
            have h := h.2
            refine kbast ((σ5.1 0 3).toNatClampNeg) (pc := 58) hx hcb hS hW kBM_3 rfl (kin_of hin7 (by decide)) dX11_write_58 (fun σ8 H locs eσ8 hW => ?_)
            have h := h σ8 eσ8
            refine lv_aload_n (pc := 59) hx hcb dX11_write_59 rfl (lv_at hl 0 rfl) ?_
            refine lv_dup (pc := 60) hx hcb dX11_write_60 rfl ?_
            refine kget (v := .int (σ8.1 0 3)) (pc := 61) hx hcb hts hown hS hW iwX11 kOM_0 rfl 3 (by decide) q861 rfl rfl dX11_write_61 ?_
            refine lv_iconst (v := 1) (pc := 64) hx hcb dX11_write_64 rfl ?_
            refine lv_iadd (pc := 65) hx hcb dX11_write_65 ?_
            refine kput (ty := .int) (pc := 66) hx hcb hts hown hS hW iwX11 tyX11 tyX11_ok nmX11 kOM_0 rfl 3 (by decide) q861 rfl rfl rfl rfl rfl (Nat.le_of_ble_eq_true rfl) rfl dX11_write_66 (fun σ9 H locs eσ9 hW => ?_)
            have h := h σ9 eσ9
            refine lv_iinc (v := x4_6 + (-1)) (lv' := [(4, .int (x4_6 + (-1))), (0, .ref (X.2.1 0)), (2, .long x2)]) (pc := 69) hx hcb dX11_write_69 hl (k := 2) rfl rfl (by decide) rfl (fun ls hl => ?_)
            refine lv_goto (tgt := 32) (pc := 72) hx hcb dX11_write_72 (by decide) ?_
            exact ih σ9 (x4_6 + (-1)) _ _ _ h hW (lv_sub hl [1, 2, 0] rfl)
      obtain ⟨n, h⟩ := h
      exact hL32 n σ x4_3 _ _ _ h hW (lv_sub hl [1, 3, 0] rfl)
    · have h := h.2 c21
      refine lv_bipush (v := (-3)) (pc := 24) hx hcb dX11_write_24 rfl ?_
      exact hret _ _ _ _ _ _ rfl h hW dX11_write_26
  · have h := h.2 c7
    refine lv_iconst (v := (-1)) (pc := 10) hx hcb dX11_write_10 rfl ?_
    exact hret _ _ _ _ _ _ rfl h hW dX11_write_11
abbrev rm_X11_year : Room := { frames := 2, cells := 0, slots := 0, locals := 50 }
set_option maxHeartbeats 4000000 in
set_option maxRecDepth 100000 in
theorem c_X11_year (l : Launch) (X : KX) (σ : Mm) (x1 : Int32) (x2 : Int32) (x3 : Int32) (Φ : Int32 → Prop) (h : wp_X11_year σ x1 x2 x3 Φ) : Met l yX11_year (.code yX11_year cX11_year 11 (some .int) :: kT) rm_X11_year (va_Pc [.ref (X.2.1 0), .int x1, .int x2, .int x3] (kPre kZM X σ)) (va_Qi (fun r σ' => Φ r ∧ σ = σ') (fun σ' t => kPre kZM X σ' t) (kA kZM X)) 0 0 (kA kZM X) := by
  refine kofI (by decide) (Nat.le_of_ble_eq_true rfl) ?_
  intro p e s m args below meth c ls Q hx hcb hml hown hts hS hW hl hret
  have hown : s.vm.findClass RX11 = some m.cls := hown
  have hl : lv_has ls 11 [(0, .ref (X.2.1 0)), (1, .int x1), (2, .int x2), (3, .int x3)] := hl
  unfold wp_X11_year at h
  refine lv_iload_n (pc := 0) hx hcb dX11_year_0 rfl (lv_at hl 1 rfl) ?_
  refine lv_iconst (v := 0) (pc := 1) hx hcb dX11_year_1 rfl ?_
  refine lv_sipush (v := 9999) (pc := 2) hx hcb dX11_year_2 rfl ?_
  refine kci (krunS (As := [.int x1, .int 0, .int 9999]) (rest := []) (pc := 5) hx hcb hml hown hts hS hW (c_X11_in l X σ x1 0 9999 _ h) mf_X11_in q936 ⟨rfl, rfl⟩ ⟨Nat.le_of_ble_eq_true rfl, Nat.le_of_ble_eq_true rfl⟩ rfl hl.1 rfl (Nat.le_of_ble_eq_true rfl) dX11_year_5 ⟨Nat.zero_le _, Nat.zero_le _⟩) hS hW (fun r2 σ1 H locs h hW => ?_)
  obtain ⟨h, rfl⟩ := h
  refine lv_if_eq (tgt := 31) (pc := 8) hx hcb dX11_year_8 (by decide) (fun c8 => ?_) (fun c8 => ?_)
  · have h := h.1 c8
    refine lv_iconst (v := (-1)) (pc := 31) hx hcb dX11_year_31 rfl ?_
    exact hret _ _ _ _ _ _ rfl ⟨h, rfl⟩ hW dX11_year_32
  · have h := h.2 c8
    refine lv_iload_n (pc := 11) hx hcb dX11_year_11 rfl (lv_at hl 2 rfl) ?_
    refine lv_iconst (v := 1) (pc := 12) hx hcb dX11_year_12 rfl ?_
    refine lv_sipush (v := 400) (pc := 13) hx hcb dX11_year_13 rfl ?_
    refine kci (krunS (As := [.int x2, .int 1, .int 400]) (rest := []) (pc := 16) hx hcb hml hown hts hS hW (c_X11_in l X σ x2 1 400 _ h) mf_X11_in q936 ⟨rfl, rfl⟩ ⟨Nat.le_of_ble_eq_true rfl, Nat.le_of_ble_eq_true rfl⟩ rfl hl.1 rfl (Nat.le_of_ble_eq_true rfl) dX11_year_16 ⟨Nat.zero_le _, Nat.zero_le _⟩) hS hW (fun r4 σ3 H locs h hW => ?_)
    obtain ⟨h, rfl⟩ := h
    refine lv_if_eq (tgt := 31) (pc := 19) hx hcb dX11_year_19 (by decide) (fun c19 => ?_) (fun c19 => ?_)
    · have h := h.1 c19
      refine lv_iconst (v := (-1)) (pc := 31) hx hcb dX11_year_31 rfl ?_
      exact hret _ _ _ _ _ _ rfl ⟨h, rfl⟩ hW dX11_year_32
    · have h := h.2 c19
      refine lv_iload_n (pc := 22) hx hcb dX11_year_22 rfl (lv_at hl 3 rfl) ?_
      refine lv_iconst (v := 0) (pc := 23) hx hcb dX11_year_23 rfl ?_
      refine lv_iconst (v := 1) (pc := 24) hx hcb dX11_year_24 rfl ?_
      refine kci (krunS (As := [.int x3, .int 0, .int 1]) (rest := []) (pc := 25) hx hcb hml hown hts hS hW (c_X11_in l X σ x3 0 1 _ h) mf_X11_in q936 ⟨rfl, rfl⟩ ⟨Nat.le_of_ble_eq_true rfl, Nat.le_of_ble_eq_true rfl⟩ rfl hl.1 rfl (Nat.le_of_ble_eq_true rfl) dX11_year_25 ⟨Nat.zero_le _, Nat.zero_le _⟩) hS hW (fun r6 σ5 H locs h hW => ?_)
      obtain ⟨h, rfl⟩ := h
      refine lv_if_ne (tgt := 33) (pc := 28) hx hcb dX11_year_28 (by decide) (fun c28 => ?_) (fun c28 => ?_)
      · have h := h.1 c28
        refine lv_aload_n (pc := 33) hx hcb dX11_year_33 rfl (lv_at hl 0 rfl) ?_
        refine kget (v := .ref (X.2.1 1)) (pc := 34) hx hcb hts hown hS hW iwX11 kOM_0 rfl 0 (by decide) q858 rfl rfl dX11_year_34 ?_
        refine lv_iconst (v := 3) (pc := 37) hx hcb dX11_year_37 rfl ?_
        refine kiald 3 (pc := 38) hx hcb hS hW kIM_1 rfl (kin_of ⟨by decide, by decide⟩ (by decide)) dX11_year_38 ?_
        refine lv_topi (fun x4_7 ex4_7 => ?_)
        have h := h x4_7 ex4_7
        refine lv_istore (lv' := [(4, .int x4_7), (0, .ref (X.2.1 0)), (1, .int x1), (2, .int x2), (3, .int x3)]) (pc := 39) hx hcb dX11_year_39 hl (by decide) rfl (fun ls hl => ?_)
        refine lv_iconst (v := 0) (pc := 41) hx hcb dX11_year_41 rfl ?_
        refine lv_istore (lv' := [(5, .int 0), (4, .int x4_7), (0, .ref (X.2.1 0)), (1, .int x1), (2, .int x2), (3, .int x3)]) (pc := 42) hx hcb dX11_year_42 hl (by decide) rfl (fun ls hl => ?_)
        refine lv_iconst (v := 0) (pc := 44) hx hcb dX11_year_44 rfl ?_
        refine lv_istore (lv' := [(6, .int 0), (5, .int 0), (4, .int x4_7), (0, .ref (X.2.1 0)), (1, .int x1), (2, .int x2), (3, .int x3)]) (pc := 45) hx hcb dX11_year_45 hl (by decide) rfl (fun ls hl => ?_)
        obtain ⟨K149, hk149, h⟩ := h
        have hK149 : ∀ (x4_8 : Int32) (x5_9 : Int32) (H : Heap) (locs : List Loc) (ls : Array Slot), K149 x4_8 x5_9 → kW kZM X (kA kZM X) s σ H locs → lv_has ls 11 [(3, .int x3), (4, .int x4_8), (5, .int x5_9)] → W p l e rm_X11_year s m args below meth c H locs 0 0 Q (F0 m 149 ls []) := by
          intro x4_8 x5_9 H locs ls h hW hl
          have h := hk149 x4_8 x5_9 h
          refine lv_iload_n (pc := 149) hx hcb dX11_year_149 rfl (lv_at hl 0 rfl) ?_
          refine lv_if_ne (tgt := 158) (pc := 150) hx hcb dX11_year_150 (by decide) (fun c150 => ?_) (fun c150 => ?_)
          · have h := h.1 c150
            refine lv_iload (pc := 158) hx hcb dX11_year_158 (lv_at hl 1 rfl) ?_
            refine kci (krunS (As := [.int x4_8]) (rest := []) (pc := 160) hx hcb hml hown hts hS hW (c_X11_yardOf l X σ x4_8 _ h) mf_X11_yardOf q1004 ⟨rfl, rfl⟩ ⟨Nat.le_of_ble_eq_true rfl, Nat.le_of_ble_eq_true rfl⟩ rfl hl.1 rfl (Nat.le_of_ble_eq_true rfl) dX11_year_160 ⟨Nat.zero_le _, Nat.zero_le _⟩) hS hW (fun r11 σ10 H locs h hW => ?_)
            obtain ⟨h, rfl⟩ := h
            exact hret _ _ _ _ _ _ rfl ⟨h, rfl⟩ hW dX11_year_163
          · have h := h.2 c150
            refine lv_iload (pc := 153) hx hcb dX11_year_153 (lv_at hl 2 rfl) ?_
            refine lv_goto (tgt := 163) (pc := 155) hx hcb dX11_year_155 (by decide) ?_
            exact hret _ _ _ _ _ _ rfl ⟨h, rfl⟩ hW dX11_year_163
        have hL47 : ∀ (n : Nat) (x4_12 : Int32) (x5_13 : Int32) (x6_14 : Int32) (H : Heap) (locs : List Loc) (ls : Array Slot), wp_X11_year_L47 x1 x2 σ K149 n x4_12 x5_13 x6_14 → kW kZM X (kA kZM X) s σ H locs → lv_has ls 11 [(0, .ref (X.2.1 0)), (1, .int x1), (2, .int x2), (3, .int x3), (4, .int x4_12), (5, .int x5_13), (6, .int x6_14)] → W p l e rm_X11_year s m args below meth c H locs 0 0 Q (F0 m 47 ls []) := by
          intro n
          induction n with
          | zero =>
            intro x4_12 x5_13 x6_14 H locs ls h
            exact False.elim h
          | succ n ih =>
            intro x4_12 x5_13 x6_14 H locs ls h hW hl
            unfold wp_X11_year_L47 at h
            refine lv_iload (pc := 47) hx hcb dX11_year_47 (lv_at hl 6 rfl) ?_
            refine lv_iload_n (pc := 49) hx hcb dX11_year_49 rfl (lv_at hl 2 rfl) ?_
            refine lv_icmp_ge (tgt := 149) (pc := 50) hx hcb dX11_year_50 (by decide) (fun c50 => ?_) (fun c50 => ?_)
            · have h := h.1 c50
              exact hK149 x4_12 x5_13 _ _ _ h hW (lv_sub hl [3, 4, 5] rfl)
            · have h := h.2 c50
              refine kldc2 (v := 7919) (pc := 53) hx hcb hown hts q1140 dX11_year_53 ?_
              refine lv_iload_n (pc := 56) hx hcb dX11_year_56 rfl (lv_at hl 1 rfl) ?_
              refine lv_i2l (pc := 57) hx hcb dX11_year_57 rfl ?_
              refine lv_lmul (pc := 58) hx hcb dX11_year_58 ?_
              refine kldc2 (v := 6151) (pc := 59) hx hcb hown hts q1141 dX11_year_59 ?_
              refine lv_iload (pc := 62) hx hcb dX11_year_62 (lv_at hl 6 rfl) ?_
              refine lv_i2l (pc := 64) hx hcb dX11_year_64 rfl ?_
              refine lv_lmul (pc := 65) hx hcb dX11_year_65 ?_
              refine lv_ladd (pc := 66) hx hcb dX11_year_66 ?_
              refine lv_lconst (v := 1) (pc := 67) hx hcb dX11_year_67 rfl ?_
              refine lv_ladd (pc := 68) hx hcb dX11_year_68 ?_
              refine lv_topl (fun x7_15 ex7_15 => ?_)
              have h := h x7_15 ex7_15
              refine lv_lstore (lv' := [(7, .long x7_15), (0, .ref (X.2.1 0)), (1, .int x1), (2, .int x2), (3, .int x3), (4, .int x4_12), (5, .int x5_13), (6, .int x6_14)]) (pc := 69) hx hcb dX11_year_69 hl (by decide) rfl (fun ls hl => ?_)
              refine lv_lload (pc := 71) hx hcb dX11_year_71 (lv_at hl 0 rfl) ?_
              refine lv_lload (pc := 73) hx hcb dX11_year_73 (lv_at hl 0 rfl) ?_
              refine lv_lmul (pc := 75) hx hcb dX11_year_75 ?_
              refine kldc2 (v := 65521) (pc := 76) hx hcb hown hts q1142 dX11_year_76 ?_
              refine lv_lrem (pc := 79) hx hcb dX11_year_79 (by decide) ?_
              refine lv_l2i (pc := 80) hx hcb dX11_year_80 rfl ?_
              refine lv_topi (fun x9_16 ex9_16 => ?_)
              have h := h x9_16 ex9_16
              refine lv_istore (lv' := [(9, .int x9_16), (7, .long x7_15), (0, .ref (X.2.1 0)), (1, .int x1), (2, .int x2), (3, .int x3), (4, .int x4_12), (5, .int x5_13), (6, .int x6_14)]) (pc := 81) hx hcb dX11_year_81 hl (by decide) rfl (fun ls hl => ?_)
              refine lv_iload (pc := 83) hx hcb dX11_year_83 (lv_at hl 0 rfl) ?_
              refine lv_aload_n (pc := 85) hx hcb dX11_year_85 rfl (lv_at hl 2 rfl) ?_
              refine kget (v := .ref (X.2.1 1)) (pc := 86) hx hcb hts hown hS hW iwX11 kOM_0 rfl 0 (by decide) q858 rfl rfl dX11_year_86 ?_
              refine lv_iconst (v := 1) (pc := 89) hx hcb dX11_year_89 rfl ?_
              refine kiald 1 (pc := 90) hx hcb hS hW kIM_1 rfl (kin_of ⟨by decide, by decide⟩ (by decide)) dX11_year_90 ?_
              have hne91 := h.1
              have h := h.2
              refine lv_irem (pc := 91) hx hcb dX11_year_91 hne91 ?_
              refine lv_topi (fun x10_17 ex10_17 => ?_)
              have h := h x10_17 ex10_17
              refine lv_istore (lv' := [(10, .int x10_17), (9, .int x9_16), (7, .long x7_15), (0, .ref (X.2.1 0)), (1, .int x1), (2, .int x2), (3, .int x3), (4, .int x4_12), (5, .int x5_13), (6, .int x6_14)]) (pc := 92) hx hcb dX11_year_92 hl (by decide) rfl (fun ls hl => ?_)
              refine lv_aload_n (pc := 94) hx hcb dX11_year_94 rfl (lv_at hl 3 rfl) ?_
              refine lv_iload (pc := 95) hx hcb dX11_year_95 (lv_at hl 7 rfl) ?_
              refine lv_iload (pc := 97) hx hcb dX11_year_97 (lv_at hl 0 rfl) ?_
              refine lv_iload (pc := 99) hx hcb dX11_year_99 (lv_at hl 9 rfl) ?_
              refine kci (krunV (As := [.int x4_12, .int x10_17, .int x6_14]) (rest := []) (pc := 101) hx hcb hml hown hts hS hW (c_X11_mayFeed l X σ x4_12 x10_17 x6_14 _ h) mf_X11_mayFeed q1000 kOM_0 rfl ⟨rfl, rfl⟩ ⟨Nat.le_of_ble_eq_true rfl, Nat.le_of_ble_eq_true rfl⟩ rfl hl.1 rfl (Nat.le_of_ble_eq_true rfl) dX11_year_101 ⟨Nat.zero_le _, Nat.zero_le _⟩) hS hW (fun r19 σ18 H locs h hW => ?_)
              obtain ⟨h, rfl⟩ := h
              obtain ⟨K131, hk131, h⟩ := h
              have hK131 : ∀ (x4_20 : Int32) (x5_21 : Int32) (H : Heap) (locs : List Loc) (ls : Array Slot), K131 x4_20 x5_21 → kW kZM X (kA kZM X) s σ H locs → lv_has ls 11 [(0, .ref (X.2.1 0)), (1, .int x1), (2, .int x2), (3, .int x3), (4, .int x4_20), (5, .int x5_21), (6, .int x6_14)] → W p l e rm_X11_year s m args below meth c H locs 0 0 Q (F0 m 131 ls []) := by
                intro x4_20 x5_21 H locs ls h hW hl
                have h := hk131 x4_20 x5_21 h
                refine lv_aload_n (pc := 131) hx hcb dX11_year_131 rfl (lv_at hl 0 rfl) ?_
                refine lv_iload (pc := 132) hx hcb dX11_year_132 (lv_at hl 4 rfl) ?_
                refine lv_iload (pc := 134) hx hcb dX11_year_134 (lv_at hl 6 rfl) ?_
                refine lv_iconst (v := 1) (pc := 136) hx hcb dX11_year_136 rfl ?_
                refine lv_iadd (pc := 137) hx hcb dX11_year_137 ?_
                refine kci (krunV (As := [.int x4_20, .int (x6_14 + 1)]) (rest := []) (pc := 138) hx hcb hml hown hts hS hW (c_X11_after l X σ x4_20 (x6_14 + 1) _ h) mf_X11_after q1023 kOM_0 rfl ⟨rfl, rfl⟩ ⟨Nat.le_of_ble_eq_true rfl, Nat.le_of_ble_eq_true rfl⟩ rfl hl.1 rfl (Nat.le_of_ble_eq_true rfl) dX11_year_138 ⟨Nat.zero_le _, Nat.zero_le _⟩) hS hW (fun r23 σ22 H locs h hW => ?_)
                obtain ⟨h, rfl⟩ := h
                refine lv_istore (lv' := [(4, .int r23), (0, .ref (X.2.1 0)), (1, .int x1), (2, .int x2), (3, .int x3), (5, .int x5_21), (6, .int x6_14)]) (pc := 141) hx hcb dX11_year_141 hl (by decide) rfl (fun ls hl => ?_)
                refine lv_iinc (v := x6_14 + 1) (lv' := [(6, .int (x6_14 + 1)), (4, .int r23), (0, .ref (X.2.1 0)), (1, .int x1), (2, .int x2), (3, .int x3), (5, .int x5_21)]) (pc := 143) hx hcb dX11_year_143 hl (k := 6) rfl rfl (by decide) rfl (fun ls hl => ?_)
                refine lv_goto (tgt := 47) (pc := 146) hx hcb dX11_year_146 (by decide) ?_
                exact ih r23 x5_21 (x6_14 + 1) _ _ _ h hW (lv_sub hl [2, 3, 4, 5, 1, 6, 0] rfl)
              refine lv_if_eq (tgt := 131) (pc := 104) hx hcb dX11_year_104 (by decide) (fun c104 => ?_) (fun c104 => ?_)
              · have h := h.1 c104
                exact hK131 x4_12 x5_13 _ _ _ h hW (lv_sub hl [3, 4, 5, 6, 7, 8, 9] rfl)
              · have h := h.2 c104
                refine lv_iload (pc := 107) hx hcb dX11_year_107 (lv_at hl 1 rfl) ?_
                refine lv_bipush (v := 8) (pc := 109) hx hcb dX11_year_109 rfl ?_
                refine lv_idiv (pc := 111) hx hcb dX11_year_111 (by decide) ?_
                refine lv_iconst (v := 2) (pc := 112) hx hcb dX11_year_112 rfl ?_
                refine lv_irem (pc := 113) hx hcb dX11_year_113 (by decide) ?_
                refine lv_iconst (v := 1) (pc := 114) hx hcb dX11_year_114 rfl ?_
                refine lv_icmp_ne (tgt := 131) (pc := 115) hx hcb dX11_year_115 (by decide) (fun c115 => ?_) (fun c115 => ?_)
                · have h := h.1 c115
                  exact hK131 x4_12 x5_13 _ _ _ h hW (lv_sub hl [3, 4, 5, 6, 7, 8, 9] rfl)
                · have h := h.2 c115
                  refine lv_aload_n (pc := 118) hx hcb dX11_year_118 rfl (lv_at hl 3 rfl) ?_
                  refine lv_iload (pc := 119) hx hcb dX11_year_119 (lv_at hl 7 rfl) ?_
                  refine lv_iload (pc := 121) hx hcb dX11_year_121 (lv_at hl 0 rfl) ?_
                  refine kci (krunV (As := [.int x4_12, .int x10_17]) (rest := []) (pc := 123) hx hcb hml hown hts hS hW (c_X11_fedBy l X σ x4_12 x10_17 _ h) mf_X11_fedBy q1011 kOM_0 rfl ⟨rfl, rfl⟩ ⟨Nat.le_of_ble_eq_true rfl, Nat.le_of_ble_eq_true rfl⟩ rfl hl.1 rfl (Nat.le_of_ble_eq_true rfl) dX11_year_123 ⟨Nat.zero_le _, Nat.zero_le _⟩) hS hW (fun r25 σ24 H locs h hW => ?_)
                  obtain ⟨h, rfl⟩ := h
                  refine lv_istore (lv' := [(4, .int r25), (10, .int x10_17), (9, .int x9_16), (7, .long x7_15), (0, .ref (X.2.1 0)), (1, .int x1), (2, .int x2), (3, .int x3), (5, .int x5_13), (6, .int x6_14)]) (pc := 126) hx hcb dX11_year_126 hl (by decide) rfl (fun ls hl => ?_)
                  refine lv_iinc (v := x5_13 + 1) (lv' := [(5, .int (x5_13 + 1)), (4, .int r25), (10, .int x10_17), (9, .int x9_16), (7, .long x7_15), (0, .ref (X.2.1 0)), (1, .int x1), (2, .int x2), (3, .int x3), (6, .int x6_14)]) (pc := 128) hx hcb dX11_year_128 hl (k := 8) rfl rfl (by decide) rfl (fun ls hl => ?_)
                  exact hK131 r25 (x5_13 + 1) _ _ _ h hW (lv_sub hl [5, 6, 7, 8, 1, 0, 9] rfl)
        obtain ⟨n, h⟩ := h
        exact hL47 n x4_7 0 0 _ _ _ h hW (lv_sub hl [3, 4, 5, 6, 2, 1, 0] rfl)
      · have h := h.2 c28
        refine lv_iconst (v := (-1)) (pc := 31) hx hcb dX11_year_31 rfl ?_
        exact hret _ _ _ _ _ _ rfl ⟨h, rfl⟩ hW dX11_year_32
