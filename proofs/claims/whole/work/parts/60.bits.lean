-- ===== bits of a word
def bt (w : Int32) (j : Nat) : Bool := w.toBitVec.getLsbD j
theorem bt_and1 (v : Int32) : (v &&& 1) = 0 ↔ bt v 0 = false := by
  unfold bt
  have h1 : (v &&& 1).toBitVec = v.toBitVec &&& 1#32 := rfl
  have h2 : (v.toBitVec &&& 1#32) = 0#32 ↔ v.toBitVec.getLsbD 0 = false := by
    constructor
    · intro h
      have := congrArg (fun b => BitVec.getLsbD b 0) h
      simp at this
      exact this
    · intro h
      apply BitVec.eq_of_getLsbD_eq
      intro i hi
      rw [BitVec.getLsbD_and]
      cases i with
      | zero => rw [h]; simp
      | succ i =>
        have : (1#32).getLsbD (i + 1) = false := by
          rw [BitVec.getLsbD_one]
          simp
        rw [this]; simp
  rw [← h2, ← h1]
  constructor
  · intro h; rw [h]; rfl
  · intro h; exact Int32.toBitVec_inj.mp h
theorem ush31 : ∀ n, n < 32 → ((nI n).toUInt32 &&& Int32.toUInt32 31) = UInt32.ofNat n := by decide +kernel
theorem ushm : ∀ n, n < 32 → ((UInt32.ofNat n % 32).toBitVec).toNat = n := by decide +kernel
theorem bt_shr (w : Int32) {n : Nat} (hn : n < 32) : bt ((w.toUInt32 >>> ((nI n).toUInt32 &&& Int32.toUInt32 31)).toInt32) 0 = bt w n := by
  rw [ush31 n hn]
  unfold bt
  have h1 : ((w.toUInt32 >>> UInt32.ofNat n).toInt32).toBitVec = w.toBitVec >>> ((UInt32.ofNat n % 32).toBitVec) := rfl
  rw [h1, BitVec.ushiftRight_eq', BitVec.getLsbD_ushiftRight, ushm n hn, Nat.add_zero]
theorem bt_one {n : Nat} (hn : n < 32) (j : Nat) : bt (1 <<< (nI n &&& 31)) j = (decide (j < 32) && decide (j = n)) := by
  unfold bt
  have h1 : ((1 : Int32) <<< (nI n &&& 31)).toBitVec = (1#32) <<< ((nI n &&& 31).toBitVec.smod 32) := rfl
  rw [h1, BitVec.shiftLeft_eq', BitVec.getLsbD_shiftLeft, sl32 n hn, BitVec.getLsbD_one]
  by_cases h : j < 32
  · by_cases e : j = n
    · subst e; simp [h]
    · by_cases q : j < n
      · simp [h, e, q]
      · have : j - n ≠ 0 := by omega
        simp [h, e, q]
        omega
  · simp [h]
theorem bt_or (a b : Int32) (j : Nat) : bt (a ||| b) j = (bt a j || bt b j) := by
  unfold bt
  have h1 : (a ||| b).toBitVec = a.toBitVec ||| b.toBitVec := rfl
  rw [h1, BitVec.getLsbD_or]
theorem bt_andn (a b : Int32) {j : Nat} (hj : j < 32) : bt (a &&& (b ^^^ (-1))) j = (bt a j && !bt b j) := by
  unfold bt
  have h1 : (a &&& (b ^^^ (-1))).toBitVec = a.toBitVec &&& (b.toBitVec ^^^ BitVec.allOnes 32) := rfl
  rw [h1, BitVec.getLsbD_and, BitVec.getLsbD_xor, BitVec.getLsbD_allOnes]
  simp [hj]
-- ===== the sets of states
def RB (σ : Mm) (k s : Nat) : Bool := bt (σ.1 40 (30 * k + s / 32)) (s % 32)
def Fr40 (σ σ2 : Mm) : Prop := (∀ k, k ≠ 40 → σ2.1 k = σ.1 k) ∧ σ2.2 = σ.2
theorem Fr40.refl (σ : Mm) : Fr40 σ σ := ⟨fun _ _ => rfl, rfl⟩
theorem Fr40.trans {σ σ2 σ3 : Mm} (h1 : Fr40 σ σ2) (h2 : Fr40 σ2 σ3) : Fr40 σ σ3 := ⟨fun k a => (h2.1 k a).trans (h1.1 k a), h2.2.trans h1.2⟩
theorem wd_ix {k s : Nat} (hk : k ≤ 12) (hs : s < 960) : (nI k * 30) + (nI s / 32) = nI (30 * k + s / 32) ∧ 30 * k + s / 32 < 390 := by
  have e1 : nI s / 32 = nI (s / 32) := pk_div (a := s) (d := 32) (by omega) (by omega) (by omega)
  have e2 : nI k * 30 = nI (k * 30) := pk_mul k 30
  rw [e1, e2, nI_add, Nat.mul_comm k 30]
  exact ⟨rfl, by omega⟩
theorem wd_rm {s : Nat} (hs : s < 960) : nI s - nI s / 32 * 32 = nI (s % 32) := by
  have e1 : nI s / 32 = nI (s / 32) := pk_div (a := s) (d := 32) (by omega) (by omega) (by omega)
  have e2 : nI (s / 32) * 32 = nI (s / 32 * 32) := pk_mul _ 32
  rw [e1, e2]
  exact krem s 32
theorem cC_isOne {k s : Nat} (hk : k ≤ 12) (hs : s < 960) {Φ : Int32 → Prop} (h : Φ 1) : wp_X6_isOne (nI k) (nI s) Φ :=
  br_f (nI_pos (by omega)) (br_f (nI_nlt (a := 12) (b := k) hk (by omega)) (br_f (nI_pos (by omega)) (br_f (nI_ge (a := s) (b := 960) hs (by omega)) h)))
theorem cC_hasR {σ : Mm} {k s : Nat} (hk : k ≤ 12) (hs : s < 960) {Φ : Int32 → Prop} (h : Φ (if RB σ k s then 1 else 0)) : wp_X6_has σ (nI k) (nI s) Φ := by
  refine cC_isOne hk hs (br_f (by decide) ?_)
  obtain ⟨e1, e2⟩ := wd_ix hk hs
  rw [e1, wd_rm hs, nI_clamp (by omega), bt_and1, bt_shr _ (Nat.mod_lt _ (by omega))]
  refine ⟨⟨nI_pos' (by omega), (nI_ltI (b := 390) (by omega) (by omega)).mpr e2⟩, ?_⟩
  have : RB σ k s = bt (σ.1 40 (30 * k + s / 32)) (s % 32) := rfl
  rw [← this]
  cases hR : RB σ k s with
  | true => rw [hR] at h; exact br_f (by decide) h
  | false => rw [hR] at h; exact br_t rfl h
theorem RB_ne {k s k2 s2 : Nat} (hs : s < 960) (hs2 : s2 < 960) (h : ¬ (k2 = k ∧ s2 = s)) (e : 30 * k2 + s2 / 32 = 30 * k + s / 32) : s2 % 32 ≠ s % 32 := by
  intro q
  have h1 : s2 / 32 < 30 := by omega
  have h2 : s / 32 < 30 := by omega
  have h3 : k2 = k := by omega
  exact h ⟨h3, by omega⟩
theorem cC_addR {σ : Mm} {k s : Nat} (hk : k ≤ 12) (hs : s < 960) {Φ : Mm → Prop} (h : ∀ σ2, Fr40 σ σ2 → (∀ k2 s2, s2 < 960 → RB σ2 k2 s2 = (RB σ k2 s2 || decide (k2 = k ∧ s2 = s))) → Φ σ2) : wp_X6_add σ (nI k) (nI s) Φ := by
  refine cC_isOne hk hs (br_f (by decide) ?_)
  obtain ⟨e1, e2⟩ := wd_ix hk hs
  rw [e1, wd_rm hs, nI_clamp (by omega)]
  have b : (0 ≤ nI (30 * k + s / 32) ∧ nI (30 * k + s / 32) < 390) := ⟨nI_pos' (by omega), (nI_ltI (b := 390) (by omega) (by omega)).mpr e2⟩
  refine ⟨b, b, fun σ5 e5 => ?_⟩
  subst e5
  refine h _ ⟨fun j hj => kwi_ne _ _ _ hj, rfl⟩ (fun k2 s2 hs2 => ?_)
  unfold RB
  rw [kwi_same]
  by_cases e : 30 * k2 + s2 / 32 = 30 * k + s / 32
  · rw [e, upd_at, bt_or, bt_one (Nat.mod_lt _ (by omega))]
    have hm : s2 % 32 < 32 := Nat.mod_lt _ (by omega)
    by_cases q : k2 = k ∧ s2 = s
    · obtain ⟨q1, q2⟩ := q
      subst q1 q2
      simp [hm]
    · have := RB_ne hs hs2 q e
      simp [this, q]
  · rw [pk_un e]
    have : ¬ (k2 = k ∧ s2 = s) := fun q => e (by rw [q.1, q.2])
    simp [this]
theorem cC_removeR {σ : Mm} {k s : Nat} (hk : k ≤ 12) (hs : s < 960) {Φ : Mm → Prop} (h : ∀ σ2, Fr40 σ σ2 → (∀ k2 s2, s2 < 960 → RB σ2 k2 s2 = (RB σ k2 s2 && !decide (k2 = k ∧ s2 = s))) → Φ σ2) : wp_X6_remove σ (nI k) (nI s) Φ := by
  refine cC_isOne hk hs (br_f (by decide) ?_)
  obtain ⟨e1, e2⟩ := wd_ix hk hs
  rw [e1, wd_rm hs, nI_clamp (by omega)]
  have b : (0 ≤ nI (30 * k + s / 32) ∧ nI (30 * k + s / 32) < 390) := ⟨nI_pos' (by omega), (nI_ltI (b := 390) (by omega) (by omega)).mpr e2⟩
  refine ⟨b, b, fun σ5 e5 => ?_⟩
  subst e5
  refine h _ ⟨fun j hj => kwi_ne _ _ _ hj, rfl⟩ (fun k2 s2 hs2 => ?_)
  unfold RB
  rw [kwi_same]
  have hm : s2 % 32 < 32 := Nat.mod_lt _ (by omega)
  by_cases e : 30 * k2 + s2 / 32 = 30 * k + s / 32
  · rw [e, upd_at, bt_andn _ _ hm, bt_one (Nat.mod_lt _ (by omega))]
    by_cases q : k2 = k ∧ s2 = s
    · obtain ⟨q1, q2⟩ := q
      subst q1 q2
      simp [hm]
    · have := RB_ne hs hs2 q e
      simp [this, q]
  · rw [pk_un e]
    have : ¬ (k2 = k ∧ s2 = s) := fun q => e (by rw [q.1, q.2])
    simp [this]
theorem bt_zero (j : Nat) : bt 0 j = false := by
  unfold bt
  show (0#32).getLsbD j = false
  simp
theorem cC_clearR {σ : Mm} {Φ : Mm → Prop} (h : ∀ σ2, Fr40 σ σ2 → (∀ k s, k ≤ 12 → s < 960 → RB σ2 k s = false) → Φ σ2) : wp_X6_clear σ Φ := by
  intro σ1 e1
  subst e1
  refine h _ ⟨fun j hj => by unfold kfillI; exact if_neg hj, rfl⟩ (fun k s hk hs => ?_)
  unfold RB kfillI
  have e : (if (40 : Nat) = 40 then (fun j => if j < 390 then (0 : Int32) else σ.1 40 j) else σ.1 40) (30 * k + s / 32) = 0 := by
    rw [if_pos rfl]
    exact if_pos (by omega)
  show bt ((if (40 : Nat) = 40 then (fun j => if j < 390 then (0 : Int32) else σ.1 40 j) else σ.1 40) (30 * k + s / 32)) (s % 32) = false
  rw [e]
  exact bt_zero _
