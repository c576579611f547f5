theorem wb_u : ∀ k, k < 8 → (((8 * nI k : Int32).toInt64.toUInt64 &&& Int64.toUInt64 63) % 64).toBitVec.toNat = 8 * k := by decide +kernel
theorem wb_s : ∀ k, k < 8 → (((8 * nI k : Int32).toInt64 &&& 63).toBitVec.smod 64).toNat = 8 * k := by decide +kernel
theorem wb_eq (v : Int64) {k : Nat} (hk : k < 8) : (((v.toUInt64 >>> ((8 * nI k : Int32).toInt64.toUInt64 &&& Int64.toUInt64 63)).toInt64).toInt32).toInt8 = (((v >>> ((8 * nI k : Int32).toInt64 &&& 63)) &&& 255).toInt32).toInt8 := by
  apply Int8.toBitVec_inj.mp
  have h1 : ((((v.toUInt64 >>> ((8 * nI k : Int32).toInt64.toUInt64 &&& Int64.toUInt64 63)).toInt64).toInt32).toInt8).toBitVec = ((v.toBitVec >>> (((8 * nI k : Int32).toInt64.toUInt64 &&& Int64.toUInt64 63) % 64).toBitVec).signExtend 32).signExtend 8 := rfl
  have h2 : ((((v >>> ((8 * nI k : Int32).toInt64 &&& 63)) &&& 255).toInt32).toInt8).toBitVec = (((v.toBitVec.sshiftRight' (((8 * nI k : Int32).toInt64 &&& 63).toBitVec.smod 64)) &&& 255#64).signExtend 32).signExtend 8 := rfl
  rw [h1, h2, BitVec.ushiftRight_eq', wb_u k hk]
  unfold BitVec.sshiftRight'
  rw [wb_s k hk]
  apply BitVec.eq_of_getLsbD_eq
  intro i hi
  have hc : (255#64).getLsbD i = true := by
    have : ∀ i, i < 8 → (255#64).getLsbD i = true := by decide
    exact this i hi
  have e1 : i < 32 := by omega
  have e2 : i < 64 := by omega
  have e3 : 8 * k + i < 64 := by omega
  simp only [BitVec.getLsbD_signExtend, hi, e1, e2, decide_true, Bool.true_and, if_true, BitVec.getLsbD_and, hc, Bool.and_true, BitVec.getLsbD_ushiftRight, BitVec.getLsbD_sshiftRight, e3]
  simp
  omega
def wbv (v : Int64) (k : Nat) : Int32 := vp_nar .byte ((((v >>> ((8 * nI k : Int32).toInt64 &&& 63)) &&& 255).toInt32).toInt8.toInt32)
theorem RelG_T {g d : Nat → Int32} {σ σ2 τ τ2 : Mm} (h : RelG g d σ τ) (e : ∀ k, k ≠ 1 → k ≠ 2 → σ2.1 k = σ.1 k) (er : σ2.2 = σ.2) (f : ∀ k, k ≠ 0 → k ≠ 3 → τ2.1 k = τ.1 k) (f0 : ∀ j, j ≠ 3 → τ2.1 0 j = τ.1 0 j) (hx : TxR (σ2.1 1 1) (σ2.1 2) (τ2.1 0 3) (τ2.1 3)) : RelG g d σ2 τ2 := by
  obtain ⟨⟨a1, a2, a3, a4, a5, a6, a7, a8⟩, hT, hN, hD, hK, hG, hS, hf1, hf2⟩ := h
  have hb : 4 ≤ σ.2.2 0 ∧ σ.2.2 0 ≤ 10 := by rcases a3.1 with q | q <;> omega
  refine ⟨⟨a1, a2, by rw [er]; exact a3, by rw [er]; exact a4, by rw [er]; exact a5, ?_, ?_, a8.of (f 1 (by omega) (by omega)) (f 2 (by omega) (by omega))⟩, hx, ?_, ?_, ?_, ?_, ?_, ?_, ?_⟩
  · rw [er]; exact a6.of (fun k _ _ => e k (by omega) (by omega))
  · rw [er]; exact a7.of (fun k _ _ => e k (by omega) (by omega))
  · rw [e 16 (by omega) (by omega), f 4 (by omega) (by omega)]; exact hN
  · rw [e 17 (by omega) (by omega), e 18 (by omega) (by omega), e 19 (by omega) (by omega), e 20 (by omega) (by omega), f0 9 (by omega), f 5 (by omega) (by omega)]; exact hD
  · rw [e 21 (by omega) (by omega), e 22 (by omega) (by omega), e 23 (by omega) (by omega), e 24 (by omega) (by omega), f0 11 (by omega), f 6 (by omega) (by omega)]; exact hK
  · rw [e 25 (by omega) (by omega), e 26 (by omega) (by omega), e 27 (by omega) (by omega), f0 14 (by omega), f 7 (by omega) (by omega), f 8 (by omega) (by omega)]; exact hG
  · rw [e 28 (by omega) (by omega), e 29 (by omega) (by omega), e 30 (by omega) (by omega), f0 21 (by omega), f 13 (by omega) (by omega), f 14 (by omega) (by omega)]; exact hS
  · rw [e 32 (by omega) (by omega), e 33 (by omega) (by omega), er]; exact hf1
  · rw [e 35 (by omega) (by omega), e 36 (by omega) (by omega), er]; exact hf2
theorem nI00 : nI 0 + -1 = -1 := by decide
theorem cC_write {σ : Mm} {v : Int64} {L n : Nat} (hL : σ.1 1 1 = nI L) (hn : n ≤ 8) (hl : L + n ≤ 300) {K : Mm → Prop} (hK : ∀ ρ : Mm, (∀ k, k ≠ 1 → k ≠ 2 → ρ.1 k = σ.1 k) → ρ.2 = σ.2 → ρ.1 1 1 = nI (L + n) → (∀ j, j < L + n → ρ.1 2 j = if j < L then σ.1 2 j else wbv v (n - 1 - (j - L))) → K ρ) : wp_X10_write_L36 v K (n + 1) σ (nI n + -1) := by
  have key : ∀ r (ρ : Mm), r ≤ n → (∀ k, k ≠ 1 → k ≠ 2 → ρ.1 k = σ.1 k) → ρ.2 = σ.2 → ρ.1 1 1 = nI (L + (n - r)) → (∀ j, j < L + (n - r) → ρ.1 2 j = if j < L then σ.1 2 j else wbv v (n - 1 - (j - L))) → wp_X10_write_L36 v K (r + 1) ρ (nI r + -1) := by
    intro r
    induction r with
    | zero =>
      intro ρ hr a1 a2 a3 a4
      unfold wp_X10_write_L36
      rw [nI00]
      exact br_t (by decide) (hK ρ a1 a2 a3 a4)
    | succ r ih =>
      intro ρ hr a1 a2 a3 a4
      have em : nI (r + 1) + -1 = nI r := pk_m1 r
      unfold wp_X10_write_L36 wp_X8_append
      rw [em, a3, nI_clamp (by omega), wb_eq v (by omega)]
      refine br_f (nI_pos (by omega)) (br_f (nI_ge (a := L + (n - (r + 1))) (b := 300) (by omega) (by omega)) ⟨⟨nI_pos' (by omega), (nI_ltI (b := 300) (by omega) (by omega)).mpr (by omega)⟩, fun σ2 e2 σ3 e3 => ?_⟩)
      have e21 : σ2.1 1 1 = nI (L + (n - (r + 1))) := by rw [e2, kwi_ne _ _ _ (by decide)]; exact a3
      have en : nI (L + (n - (r + 1))) + 1 = nI (L + (n - r)) := by
        have : L + (n - r) = L + (n - (r + 1)) + 1 := by omega
        rw [this]; exact nI_1 _
      rw [e21, en] at e3
      subst e3 e2
      refine ih _ (by omega) (fun k q1 q2 => by rw [kwi_ne _ _ _ q1, kwi_ne _ _ _ q2]; exact a1 k q1 q2) a2 (by rw [kwi_same]; exact upd_at _ _ _) (fun j hj => ?_)
      rw [kwi_ne _ _ _ (by decide), kwi_same]
      by_cases e : j = L + (n - (r + 1))
      · rw [e, upd_at, if_neg (by omega)]
        have : n - 1 - (L + (n - (r + 1)) - L) = r := by omega
        rw [this]
        rfl
      · rw [pk_un e]; exact a4 j (by omega)
  exact key n σ (Nat.le_refl _) (fun _ _ _ => rfl) rfl (by rw [Nat.sub_self]; exact hL) (fun j hj => by rw [if_pos (by omega)])
theorem cM_write {τ : Mm} {v : Int64} {L n : Nat} (hL : τ.1 0 3 = nI L) (hn : n ≤ 8) (hl : L + n ≤ 300) {K : Mm → Prop} (hK : ∀ ρ : Mm, (∀ k, k ≠ 0 → k ≠ 3 → ρ.1 k = τ.1 k) → (∀ j, j ≠ 3 → ρ.1 0 j = τ.1 0 j) → ρ.1 0 3 = nI (L + n) → (∀ j, j < L + n → ρ.1 3 j = if j < L then τ.1 3 j else wbv v (n - 1 - (j - L))) → K ρ) : wp_X11_write_L32 v K (n + 1) τ (nI n + -1) := by
  have key : ∀ r (ρ : Mm), r ≤ n → (∀ k, k ≠ 0 → k ≠ 3 → ρ.1 k = τ.1 k) → (∀ j, j ≠ 3 → ρ.1 0 j = τ.1 0 j) → ρ.1 0 3 = nI (L + (n - r)) → (∀ j, j < L + (n - r) → ρ.1 3 j = if j < L then τ.1 3 j else wbv v (n - 1 - (j - L))) → wp_X11_write_L32 v K (r + 1) ρ (nI r + -1) := by
    intro r
    induction r with
    | zero =>
      intro ρ hr a1 a2 a3 a4
      unfold wp_X11_write_L32
      rw [nI00]
      exact br_t (by decide) (hK ρ a1 a2 a3 a4)
    | succ r ih =>
      intro ρ hr a1 a2 a3 a4
      have em : nI (r + 1) + -1 = nI r := pk_m1 r
      unfold wp_X11_write_L32
      rw [em, a3, nI_clamp (by omega)]
      refine br_f (nI_pos (by omega)) ⟨⟨nI_pos' (by omega), (nI_ltI (b := 300) (by omega) (by omega)).mpr (by omega)⟩, fun σ2 e2 σ3 e3 => ?_⟩
      have e21 : σ2.1 0 3 = nI (L + (n - (r + 1))) := by rw [e2, kwi_ne _ _ _ (by decide)]; exact a3
      have en : nI (L + (n - (r + 1))) + 1 = nI (L + (n - r)) := by
        have : L + (n - r) = L + (n - (r + 1)) + 1 := by omega
        rw [this]; exact nI_1 _
      rw [e21, en] at e3
      subst e3 e2
      refine ih _ (by omega) (fun k q1 q2 => by rw [kwi_ne _ _ _ q1, kwi_ne _ _ _ q2]; exact a1 k q1 q2) (fun j q => by rw [kwi_same, pk_un q, kwi_ne _ _ _ (by decide)]; exact a2 j q) (by rw [kwi_same]; exact upd_at _ _ _) (fun j hj => ?_)
      rw [kwi_ne _ _ _ (by decide), kwi_same]
      by_cases e : j = L + (n - (r + 1))
      · rw [e, upd_at, if_neg (by omega)]
        have : n - 1 - (L + (n - (r + 1)) - L) = r := by omega
        rw [this]
        rfl
      · rw [pk_un e]; exact a4 j (by omega)
  exact key n τ (Nat.le_refl _) (fun _ _ _ => rfl) (fun _ _ => rfl) (by rw [Nat.sub_self]; exact hL) (fun j hj => by rw [if_pos (by omega)])
theorem op_write {σ τ : Mm} (h : Rel σ τ) (x : Int32) (v : Int64) : wp_X10_write σ x v (fun r σ2 => wp_X11_write τ x v (fun r2 τ2 => r = r2 ∧ Rel σ2 τ2)) := by
  have h0 := h
  obtain ⟨g, d, hR⟩ := h
  obtain ⟨L, l1, l2, l3, l4⟩ := hR.2.1
  by_cases hx : ∃ j, 1 ≤ j ∧ j ≤ 8 ∧ x = nI j
  · obtain ⟨n, hn1, hn, rfl⟩ := hx
    have hc1 : ¬ nI n < 1 := fun q => by
      have := (nI_ltI (a := n) (b := 1) (by omega) (by omega)).mp q
      omega
    have hlen : nI L + nI n ≤ 300 ↔ L + n ≤ 300 := by
      rw [nI_add]
      exact nI_leI (b := 300) (by omega) (by omega)
    have e5 : nI n - 1 = nI n + -1 := by
      have e6 : nI n - 1 = nI (n - 1) := ksub1 hn1
      obtain ⟨q, rfl⟩ : ∃ q, n = q + 1 := ⟨n - 1, by omega⟩
      have e7 : nI (q + 1) + -1 = nI q := pk_m1 q
      rw [e6, e7]
      rfl
    unfold wp_X10_write wp_X8_length
    dsimp only
    rw [l2, hlen, e5]
    refine br_f hc1 (br_t (nI_le (b := 8) hn (by omega)) ⟨fun c x4 ex4 => ?_, fun c => ?_⟩)
    · rw [ex4]
      refine ⟨_, fun _ z => z, n + 1, cC_write l2 hn c (fun ρ a1 a2 a3 a4 => ?_)⟩
      refine cM_in1 (lo := 1) (hi := 8) hn1 hn (by omega) (brn_t (by decide) ?_)
      rw [l3, hlen, e5]
      refine br_t c (fun x5 ex5 => ?_)
      rw [ex5]
      refine ⟨_, fun _ z => z, n + 1, cM_write l3 hn c (fun μ b1 b2 b3 b4 => ⟨?_, g, d, RelG_T hR a1 a2 b1 b2 ⟨L + n, c, a3, b3, fun j hj => ?_⟩⟩)⟩
      · rw [a3, b3]
      · rw [a4 j hj, b4 j hj]
        by_cases q : j < L
        · rw [if_pos q, if_pos q]; exact l4 j q
        · rw [if_neg q, if_neg q]
    · refine cM_in1 (lo := 1) (hi := 8) hn1 hn (by omega) (brn_t (by decide) ?_)
      rw [l3, hlen]
      exact br_f c ⟨rfl, h0⟩
  · have hb : wp_X11_write τ x v (fun r2 τ2 => -1 = r2 ∧ Rel σ τ2) := cM_in1' (hi := 8) (by omega) (fun q => absurd q hx) (fun _ => brn_f rfl ⟨rfl, h0⟩)
    refine ⟨fun _ => hb, fun c => ⟨fun c2 => ?_, fun _ => hb⟩⟩
    exfalso
    apply hx
    have b1 : (1 : Int32).toInt ≤ x.toInt := (fa_le_ _ _).mp (Int32.not_lt.mp c)
    have b2 : x.toInt ≤ (8 : Int32).toInt := (fa_le_ _ _).mp c2
    have b3 : (1 : Int32).toInt = 1 := by decide
    have b4 : (8 : Int32).toInt = 8 := by decide
    refine ⟨x.toInt.toNat, by omega, by omega, ?_⟩
    refine Int32.toInt_inj.mp ?_
    rw [nI_toInt (by omega)]
    omega
