
abbrev rmi_X11_init : Room := { frames := 1, cells := 16, slots := 6633, locals := 24 }
def wt_X11 (σ : Mm) (Φ : Mm → Prop) : Prop := ∀ σ1 : Mm, σ1 = kwi σ 1 0 4 → wp_X11_link σ1 0 0 1 (fun σ2 => wp_X11_link σ2 0 1 2 (fun σ3 => wp_X11_link σ3 0 2 3 (fun σ4 => ∀ σ5 : Mm, σ5 = kwi σ4 1 1 2 → ∀ σ6 : Mm, σ6 = kwi σ5 1 12 1 → ∀ σ7 : Mm, σ7 = kwi σ6 1 13 2 → ∀ σ8 : Mm, σ8 = kwi σ7 1 17 4 → ∀ σ9 : Mm, σ9 = kwi σ8 1 18 1 → ∀ σ10 : Mm, σ10 = kwi σ9 1 22 0 → ∀ σ11 : Mm, σ11 = kwi σ10 1 23 1 → ∀ σ12 : Mm, σ12 = kwi σ11 1 24 2 → ∀ σ13 : Mm, σ13 = kwi σ12 1 25 3 → ∀ σ14 : Mm, σ14 = kwi σ13 1 34 3 → wp_X11_begin σ14  (fun σ15 => Φ σ15))))
set_option maxHeartbeats 4000000 in
set_option maxRecDepth 100000 in
theorem t_X11 {p : Program} {l : Launch} {e : Env} {s : State} {m : MethodId} {args : Array Value} {below : List Frame} {meth : Method} {c : Code} {H : Heap} {locs : List Loc} {cells slots : Nat} {Q : State → Prop} {ls : Array Slot} {X : KX} {A : Nat → Prop} {σ : Mm} {R : Room} (hx : p.tables.exec = Jvm.exec) (hcb : c.code = cX11_init) (hml : c.maxLocals = 2) (hown : s.vm.findClass RX11 = some m.cls) (hts : ∀ w ∈ kT, w.before args s = true) (hR : R = rmi_X11_init) (hS : kS kZM X A s) (hW : kW kZM X A s σ H locs) (hl : lv_has ls 2 [(0, .ref (X.2.1 0))]) (hcs : cells ≤ R.cells ∧ slots ≤ R.slots) {Φ : Mm → Prop} (h : wt_X11 σ Φ)
    (hret : ∀ (σ2 : Mm) (H : Heap) (locs : List Loc) (ls : Array Slot), Φ σ2 → kW kZM X A s σ2 H locs → W p l e R s m args below meth c H locs cells slots Q (F0 m 241 ls [])) : W p l e R s m args below meth c H locs cells slots Q (F0 m 139 ls []) := by
  subst hR
  refine lv_aload_n (pc := 139) hx hcb dX11_init_139 rfl (lv_at hl 0 rfl) ?_
  refine kget (v := .ref (X.2.1 1)) (pc := 140) hx hcb hts hown hS hW iwX11 kOM_0 rfl 0 (by decide) q858 rfl rfl dX11_init_140 ?_
  refine lv_iconst (v := 0) (pc := 143) hx hcb dX11_init_143 rfl ?_
  refine lv_iconst (v := 4) (pc := 144) hx hcb dX11_init_144 rfl ?_
  refine kiast 0 (pc := 145) hx hcb hS hW kIM_1 (by decide) (kin_of ⟨by decide, by decide⟩ (by decide)) dX11_init_145 (fun σ1 H locs eσ hW => ?_)
  have h := h σ1 eσ
  refine lv_aload_n (pc := 146) hx hcb dX11_init_146 rfl (lv_at hl 0 rfl) ?_
  refine lv_iconst (v := 0) (pc := 147) hx hcb dX11_init_147 rfl ?_
  refine lv_iconst (v := 0) (pc := 148) hx hcb dX11_init_148 rfl ?_
  refine lv_iconst (v := 1) (pc := 149) hx hcb dX11_init_149 rfl ?_
  refine kcv (krunV (As := [.int 0, .int 0, .int 1]) (rest := []) (pc := 150) hx hcb hml hown hts hS hW (c_X11_link l X σ1 0 0 1 _ h) mf_X11_link q849 kOM_0 rfl ⟨rfl, rfl⟩ ⟨(Nat.le_of_ble_eq_true rfl), (Nat.le_of_ble_eq_true rfl)⟩ rfl hl.1 rfl (Nat.le_of_ble_eq_true rfl) dX11_init_150 hcs) hS hW (fun σ2 H locs h hW => ?_)
  refine lv_aload_n (pc := 153) hx hcb dX11_init_153 rfl (lv_at hl 0 rfl) ?_
  refine lv_iconst (v := 0) (pc := 154) hx hcb dX11_init_154 rfl ?_
  refine lv_iconst (v := 1) (pc := 155) hx hcb dX11_init_155 rfl ?_
  refine lv_iconst (v := 2) (pc := 156) hx hcb dX11_init_156 rfl ?_
  refine kcv (krunV (As := [.int 0, .int 1, .int 2]) (rest := []) (pc := 157) hx hcb hml hown hts hS hW (c_X11_link l X σ2 0 1 2 _ h) mf_X11_link q849 kOM_0 rfl ⟨rfl, rfl⟩ ⟨(Nat.le_of_ble_eq_true rfl), (Nat.le_of_ble_eq_true rfl)⟩ rfl hl.1 rfl (Nat.le_of_ble_eq_true rfl) dX11_init_157 hcs) hS hW (fun σ3 H locs h hW => ?_)
  refine lv_aload_n (pc := 160) hx hcb dX11_init_160 rfl (lv_at hl 0 rfl) ?_
  refine lv_iconst (v := 0) (pc := 161) hx hcb dX11_init_161 rfl ?_
  refine lv_iconst (v := 2) (pc := 162) hx hcb dX11_init_162 rfl ?_
  refine lv_iconst (v := 3) (pc := 163) hx hcb dX11_init_163 rfl ?_
  refine kcv (krunV (As := [.int 0, .int 2, .int 3]) (rest := []) (pc := 164) hx hcb hml hown hts hS hW (c_X11_link l X σ3 0 2 3 _ h) mf_X11_link q849 kOM_0 rfl ⟨rfl, rfl⟩ ⟨(Nat.le_of_ble_eq_true rfl), (Nat.le_of_ble_eq_true rfl)⟩ rfl hl.1 rfl (Nat.le_of_ble_eq_true rfl) dX11_init_164 hcs) hS hW (fun σ4 H locs h hW => ?_)
  refine lv_aload_n (pc := 167) hx hcb dX11_init_167 rfl (lv_at hl 0 rfl) ?_
  refine kget (v := .ref (X.2.1 1)) (pc := 168) hx hcb hts hown hS hW iwX11 kOM_0 rfl 0 (by decide) q858 rfl rfl dX11_init_168 ?_
  refine lv_iconst (v := 1) (pc := 171) hx hcb dX11_init_171 rfl ?_
  refine lv_iconst (v := 2) (pc := 172) hx hcb dX11_init_172 rfl ?_
  refine kiast 1 (pc := 173) hx hcb hS hW kIM_1 (by decide) (kin_of ⟨by decide, by decide⟩ (by decide)) dX11_init_173 (fun σ5 H locs eσ hW => ?_)
  have h := h σ5 eσ
  refine lv_aload_n (pc := 174) hx hcb dX11_init_174 rfl (lv_at hl 0 rfl) ?_
  refine kget (v := .ref (X.2.1 1)) (pc := 175) hx hcb hts hown hS hW iwX11 kOM_0 rfl 0 (by decide) q858 rfl rfl dX11_init_175 ?_
  refine lv_bipush (v := 12) (pc := 178) hx hcb dX11_init_178 rfl ?_
  refine lv_iconst (v := 1) (pc := 180) hx hcb dX11_init_180 rfl ?_
  refine kiast 12 (pc := 181) hx hcb hS hW kIM_1 (by decide) (kin_of ⟨by decide, by decide⟩ (by decide)) dX11_init_181 (fun σ6 H locs eσ hW => ?_)
  have h := h σ6 eσ
  refine lv_aload_n (pc := 182) hx hcb dX11_init_182 rfl (lv_at hl 0 rfl) ?_
  refine kget (v := .ref (X.2.1 1)) (pc := 183) hx hcb hts hown hS hW iwX11 kOM_0 rfl 0 (by decide) q858 rfl rfl dX11_init_183 ?_
  refine lv_bipush (v := 13) (pc := 186) hx hcb dX11_init_186 rfl ?_
  refine lv_iconst (v := 2) (pc := 188) hx hcb dX11_init_188 rfl ?_
  refine kiast 13 (pc := 189) hx hcb hS hW kIM_1 (by decide) (kin_of ⟨by decide, by decide⟩ (by decide)) dX11_init_189 (fun σ7 H locs eσ hW => ?_)
  have h := h σ7 eσ
  refine lv_aload_n (pc := 190) hx hcb dX11_init_190 rfl (lv_at hl 0 rfl) ?_
  refine kget (v := .ref (X.2.1 1)) (pc := 191) hx hcb hts hown hS hW iwX11 kOM_0 rfl 0 (by decide) q858 rfl rfl dX11_init_191 ?_
  refine lv_bipush (v := 17) (pc := 194) hx hcb dX11_init_194 rfl ?_
  refine lv_iconst (v := 4) (pc := 196) hx hcb dX11_init_196 rfl ?_
  refine kiast 17 (pc := 197) hx hcb hS hW kIM_1 (by decide) (kin_of ⟨by decide, by decide⟩ (by decide)) dX11_init_197 (fun σ8 H locs eσ hW => ?_)
  have h := h σ8 eσ
  refine lv_aload_n (pc := 198) hx hcb dX11_init_198 rfl (lv_at hl 0 rfl) ?_
  refine kget (v := .ref (X.2.1 1)) (pc := 199) hx hcb hts hown hS hW iwX11 kOM_0 rfl 0 (by decide) q858 rfl rfl dX11_init_199 ?_
  refine lv_bipush (v := 18) (pc := 202) hx hcb dX11_init_202 rfl ?_
  refine lv_iconst (v := 1) (pc := 204) hx hcb dX11_init_204 rfl ?_
  refine kiast 18 (pc := 205) hx hcb hS hW kIM_1 (by decide) (kin_of ⟨by decide, by decide⟩ (by decide)) dX11_init_205 (fun σ9 H locs eσ hW => ?_)
  have h := h σ9 eσ
  refine lv_iconst (v := 0) (pc := 206) hx hcb dX11_init_206 rfl ?_
  refine lv_istore_n (lv' := [(1, .int 0), (0, .ref (X.2.1 0))]) (pc := 207) hx hcb dX11_init_207 rfl hl (by decide) rfl (fun ls hl => ?_)
  refine lv_iload_n (pc := 208) hx hcb dX11_init_208 rfl (lv_at hl 0 rfl) ?_
  refine lv_iconst (v := 4) (pc := 209) hx hcb dX11_init_209 rfl ?_
  refine lv_icmp_ge (tgt := 229) (pc := 210) hx hcb dX11_init_210 (by decide) (fun c1 => absurd c1 (by decide)) (fun _ => ?_)
  refine lv_aload_n (pc := 213) hx hcb dX11_init_213 rfl (lv_at hl 1 rfl) ?_
  refine kget (v := .ref (X.2.1 1)) (pc := 214) hx hcb hts hown hS hW iwX11 kOM_0 rfl 0 (by decide) q858 rfl rfl dX11_init_214 ?_
  refine lv_bipush (v := 22) (pc := 217) hx hcb dX11_init_217 rfl ?_
  refine lv_iload_n (pc := 219) hx hcb dX11_init_219 rfl (lv_at hl 0 rfl) ?_
  refine lv_iadd (pc := 220) hx hcb dX11_init_220 ?_
  refine lv_iload_n (pc := 221) hx hcb dX11_init_221 rfl (lv_at hl 0 rfl) ?_
  refine kiast 22 (pc := 222) hx hcb hS hW kIM_1 (by decide) (kin_of ⟨by decide, by decide⟩ (by decide)) dX11_init_222 (fun σ10 H locs eσ hW => ?_)
  have h := h σ10 eσ
  refine lv_iinc (v := 1) (lv' := [(1, .int 1), (0, .ref (X.2.1 0))]) (pc := 223) hx hcb dX11_init_223 hl (k := 0) rfl (by decide) (by decide) rfl (fun ls hl => ?_)
  refine lv_goto (tgt := 208) (pc := 226) hx hcb dX11_init_226 (by decide) ?_
  refine lv_iload_n (pc := 208) hx hcb dX11_init_208 rfl (lv_at hl 0 rfl) ?_
  refine lv_iconst (v := 4) (pc := 209) hx hcb dX11_init_209 rfl ?_
  refine lv_icmp_ge (tgt := 229) (pc := 210) hx hcb dX11_init_210 (by decide) (fun c1 => absurd c1 (by decide)) (fun _ => ?_)
  refine lv_aload_n (pc := 213) hx hcb dX11_init_213 rfl (lv_at hl 1 rfl) ?_
  refine kget (v := .ref (X.2.1 1)) (pc := 214) hx hcb hts hown hS hW iwX11 kOM_0 rfl 0 (by decide) q858 rfl rfl dX11_init_214 ?_
  refine lv_bipush (v := 22) (pc := 217) hx hcb dX11_init_217 rfl ?_
  refine lv_iload_n (pc := 219) hx hcb dX11_init_219 rfl (lv_at hl 0 rfl) ?_
  refine lv_iadd (pc := 220) hx hcb dX11_init_220 ?_
  refine lv_iload_n (pc := 221) hx hcb dX11_init_221 rfl (lv_at hl 0 rfl) ?_
  refine kiast 23 (pc := 222) hx hcb hS hW kIM_1 (by decide) (kin_of ⟨by decide, by decide⟩ (by decide)) dX11_init_222 (fun σ11 H locs eσ hW => ?_)
  have h := h σ11 eσ
  refine lv_iinc (v := 2) (lv' := [(1, .int 2), (0, .ref (X.2.1 0))]) (pc := 223) hx hcb dX11_init_223 hl (k := 0) rfl (by decide) (by decide) rfl (fun ls hl => ?_)
  refine lv_goto (tgt := 208) (pc := 226) hx hcb dX11_init_226 (by decide) ?_
  refine lv_iload_n (pc := 208) hx hcb dX11_init_208 rfl (lv_at hl 0 rfl) ?_
  refine lv_iconst (v := 4) (pc := 209) hx hcb dX11_init_209 rfl ?_
  refine lv_icmp_ge (tgt := 229) (pc := 210) hx hcb dX11_init_210 (by decide) (fun c1 => absurd c1 (by decide)) (fun _ => ?_)
  refine lv_aload_n (pc := 213) hx hcb dX11_init_213 rfl (lv_at hl 1 rfl) ?_
  refine kget (v := .ref (X.2.1 1)) (pc := 214) hx hcb hts hown hS hW iwX11 kOM_0 rfl 0 (by decide) q858 rfl rfl dX11_init_214 ?_
  refine lv_bipush (v := 22) (pc := 217) hx hcb dX11_init_217 rfl ?_
  refine lv_iload_n (pc := 219) hx hcb dX11_init_219 rfl (lv_at hl 0 rfl) ?_
  refine lv_iadd (pc := 220) hx hcb dX11_init_220 ?_
  refine lv_iload_n (pc := 221) hx hcb dX11_init_221 rfl (lv_at hl 0 rfl) ?_
  refine kiast 24 (pc := 222) hx hcb hS hW kIM_1 (by decide) (kin_of ⟨by decide, by decide⟩ (by decide)) dX11_init_222 (fun σ12 H locs eσ hW => ?_)
  have h := h σ12 eσ
  refine lv_iinc (v := 3) (lv' := [(1, .int 3), (0, .ref (X.2.1 0))]) (pc := 223) hx hcb dX11_init_223 hl (k := 0) rfl (by decide) (by decide) rfl (fun ls hl => ?_)
  refine lv_goto (tgt := 208) (pc := 226) hx hcb dX11_init_226 (by decide) ?_
  refine lv_iload_n (pc := 208) hx hcb dX11_init_208 rfl (lv_at hl 0 rfl) ?_
  refine lv_iconst (v := 4) (pc := 209) hx hcb dX11_init_209 rfl ?_
  refine lv_icmp_ge (tgt := 229) (pc := 210) hx hcb dX11_init_210 (by decide) (fun c1 => absurd c1 (by decide)) (fun _ => ?_)
  refine lv_aload_n (pc := 213) hx hcb dX11_init_213 rfl (lv_at hl 1 rfl) ?_
  refine kget (v := .ref (X.2.1 1)) (pc := 214) hx hcb hts hown hS hW iwX11 kOM_0 rfl 0 (by decide) q858 rfl rfl dX11_init_214 ?_
  refine lv_bipush (v := 22) (pc := 217) hx hcb dX11_init_217 rfl ?_
  refine lv_iload_n (pc := 219) hx hcb dX11_init_219 rfl (lv_at hl 0 rfl) ?_
  refine lv_iadd (pc := 220) hx hcb dX11_init_220 ?_
  refine lv_iload_n (pc := 221) hx hcb dX11_init_221 rfl (lv_at hl 0 rfl) ?_
  refine kiast 25 (pc := 222) hx hcb hS hW kIM_1 (by decide) (kin_of ⟨by decide, by decide⟩ (by decide)) dX11_init_222 (fun σ13 H locs eσ hW => ?_)
  have h := h σ13 eσ
  refine lv_iinc (v := 4) (lv' := [(1, .int 4), (0, .ref (X.2.1 0))]) (pc := 223) hx hcb dX11_init_223 hl (k := 0) rfl (by decide) (by decide) rfl (fun ls hl => ?_)
  refine lv_goto (tgt := 208) (pc := 226) hx hcb dX11_init_226 (by decide) ?_
  refine lv_iload_n (pc := 208) hx hcb dX11_init_208 rfl (lv_at hl 0 rfl) ?_
  refine lv_iconst (v := 4) (pc := 209) hx hcb dX11_init_209 rfl ?_
  refine lv_icmp_ge (tgt := 229) (pc := 210) hx hcb dX11_init_210 (by decide) (fun _ => ?_) (fun c1 => absurd (by decide) c1)
  refine lv_aload_n (pc := 229) hx hcb dX11_init_229 rfl (lv_at hl 1 rfl) ?_
  refine kget (v := .ref (X.2.1 1)) (pc := 230) hx hcb hts hown hS hW iwX11 kOM_0 rfl 0 (by decide) q858 rfl rfl dX11_init_230 ?_
  refine lv_bipush (v := 34) (pc := 233) hx hcb dX11_init_233 rfl ?_
  refine lv_iconst (v := 3) (pc := 235) hx hcb dX11_init_235 rfl ?_
  refine kiast 34 (pc := 236) hx hcb hS hW kIM_1 (by decide) (kin_of ⟨by decide, by decide⟩ (by decide)) dX11_init_236 (fun σ14 H locs eσ hW => ?_)
  have h := h σ14 eσ
  refine lv_aload_n (pc := 237) hx hcb dX11_init_237 rfl (lv_at hl 1 rfl) ?_
  refine kcv (krunV (As := []) (rest := []) (pc := 238) hx hcb hml hown hts hS hW (c_X11_begin l X σ14  _ h) mf_X11_begin q853 kOM_0 rfl ⟨rfl, rfl⟩ ⟨(Nat.le_of_ble_eq_true rfl), (Nat.le_of_ble_eq_true rfl)⟩ rfl hl.1 rfl (Nat.le_of_ble_eq_true rfl) dX11_init_238 hcs) hS hW (fun σ15 H locs h hW => ?_)
  exact hret _ _ _ _ h hW
