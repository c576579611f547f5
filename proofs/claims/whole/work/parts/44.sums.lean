def sm (f : Nat → Nat) : Nat → Nat
  | 0 => 0
  | n + 1 => sm f n + f n
theorem sm_cong {f h : Nat → Nat} : ∀ {n : Nat}, (∀ k, k < n → f k = h k) → sm f n = sm h n
  | 0, _ => rfl
  | n + 1, e => by
    unfold sm
    rw [sm_cong (fun k hk => e k (by omega)), e n (by omega)]
theorem sm_le {f h : Nat → Nat} : ∀ {n : Nat}, (∀ k, k < n → f k ≤ h k) → sm f n ≤ sm h n
  | 0, _ => Nat.le_refl _
  | n + 1, e => by
    unfold sm
    have h1 := sm_le (f := f) (h := h) (n := n) (fun k hk => e k (by omega))
    have h2 := e n (by omega)
    omega
theorem sm_add (f h : Nat → Nat) : ∀ n, sm (fun k => f k + h k) n = sm f n + sm h n
  | 0 => rfl
  | n + 1 => by
    unfold sm
    rw [sm_add f h n]
    omega
theorem sm_mul (c : Nat) (f : Nat → Nat) : ∀ n, sm (fun k => c * f k) n = c * sm f n
  | 0 => rfl
  | n + 1 => by
    unfold sm
    rw [sm_mul c f n, Nat.mul_add]
theorem sm_zero {f : Nat → Nat} : ∀ {n : Nat}, (∀ k, k < n → f k = 0) → sm f n = 0
  | 0, _ => rfl
  | n + 1, e => by
    unfold sm
    rw [sm_zero (fun k hk => e k (by omega)), e n (by omega)]
theorem sm_one {n m v : Nat} (h : m < n) : sm (fun k => if k = m then v else 0) n = v := by
  induction n with
  | zero => omega
  | succ n ih =>
    unfold sm
    by_cases e : n = m
    · subst e
      rw [if_pos rfl, sm_zero (fun k hk => if_neg (by omega))]
      omega
    · rw [if_neg e, ih (by omega)]
      omega
theorem sm_pos_ {f : Nat → Nat} : ∀ {n : Nat}, sm f n = 0 → ∀ k, k < n → f k = 0
  | 0, _, k, hk => by omega
  | n + 1, h, k, hk => by
    unfold sm at h
    rcases Nat.lt_or_ge k n with q | q
    · exact sm_pos_ (by omega) k q
    · have : k = n := by omega
      subst this
      omega
theorem sm_part {f : Nat → Nat} : ∀ {n k : Nat}, k < n → f k ≤ sm f n
  | 0, k, h => by omega
  | n + 1, k, h => by
    unfold sm
    rcases Nat.lt_or_ge k n with q | q
    · have := sm_part (f := f) q
      omega
    · have : k = n := by omega
      subst this
      omega
/-- a list's sum, over all numbers below n -/
theorem sum_list {n : Nat} {h : Nat → Nat} : ∀ {L : List Nat}, L.Nodup → (∀ m, m ∈ L → m < n) → (L.map h).sum = sm (fun s => if s ∈ L then h s else 0) n
  | [], _, _ => by
    rw [sm_zero (fun k _ => by simp)]
    rfl
  | a :: L, hn, hl => by
    have hn' := List.nodup_cons.mp hn
    have ih := sum_list (h := h) hn'.2 (fun m hm => hl m (List.mem_cons_of_mem _ hm))
    rw [List.map_cons, List.sum_cons, ih]
    have e : ∀ k, k < n → (if k ∈ a :: L then h k else 0) = (if k = a then h a else 0) + (if k ∈ L then h k else 0) := by
      intro k _
      by_cases q : k = a
      · subst q
        simp [hn'.1]
      · simp [q]
    rw [sm_cong e, sm_add, sm_one (hl a List.mem_cons_self)]
/-- how much is put at x, and in all -/
def cP : List (Nat × Nat) → Nat → Nat
  | [], _ => 0
  | p :: Ps, x => (if p.1 = x then p.2 else 0) + cP Ps x
def sumP : List (Nat × Nat) → Nat
  | [] => 0
  | p :: Ps => p.2 + sumP Ps
theorem cP_cons (p : Nat × Nat) (Ps : List (Nat × Nat)) (x : Nat) : cP (p :: Ps) x = (if p.1 = x then p.2 else 0) + cP Ps x := rfl
theorem sumP_cons (p : Nat × Nat) (Ps : List (Nat × Nat)) : sumP (p :: Ps) = p.2 + sumP Ps := rfl
theorem cP_app (Qs : List (Nat × Nat)) (x : Nat) : ∀ Ps, cP (Ps ++ Qs) x = cP Ps x + cP Qs x
  | [] => by simp [cP]
  | p :: Ps => by
    rw [List.cons_append, cP_cons, cP_cons, cP_app Qs x Ps]
    omega
theorem sumP_app (Qs : List (Nat × Nat)) : ∀ Ps, sumP (Ps ++ Qs) = sumP Ps + sumP Qs
  | [] => by simp [sumP]
  | p :: Ps => by
    rw [List.cons_append, sumP_cons, sumP_cons, sumP_app Qs Ps]
    omega
theorem cP_le (x : Nat) : ∀ Ps, cP Ps x ≤ sumP Ps
  | [] => Nat.le_refl _
  | p :: Ps => by
    rw [cP_cons, sumP_cons]
    have := cP_le x Ps
    split <;> omega
theorem sumP_mem {p : Nat × Nat} : ∀ {Ps : List (Nat × Nat)}, p ∈ Ps → p.2 ≤ sumP Ps
  | q :: Ps, h => by
    rw [sumP_cons]
    rcases List.mem_cons.mp h with e | e
    · rw [e]; omega
    · have := sumP_mem e
      omega
theorem sm_cP (n : Nat) : ∀ Ps, sm (cP Ps) n ≤ sumP Ps
  | [] => by rw [sm_zero (f := cP []) (fun k _ => rfl)]; exact Nat.zero_le _
  | p :: Ps => by
    have e : ∀ k, k < n → cP (p :: Ps) k = (if k = p.1 then p.2 else 0) + cP Ps k := by
      intro k _
      rw [cP_cons]
      by_cases q : p.1 = k
      · rw [if_pos q, if_pos q.symm]
      · rw [if_neg q, if_neg (Ne.symm q)]
    rw [sm_cong e, sm_add, sumP_cons]
    have h1 := sm_cP n Ps
    have h2 : sm (fun k => if k = p.1 then p.2 else 0) n ≤ p.2 := by
      by_cases q : p.1 < n
      · rw [sm_one q]; exact Nat.le_refl _
      · rw [sm_zero (fun k hk => if_neg (by omega))]; exact Nat.zero_le _
    omega
theorem cP_flat (f : Nat → List (Nat × Nat)) (x : Nat) : ∀ L : List Nat, cP (L.flatMap f) x = (L.map (fun m => cP (f m) x)).sum
  | [] => rfl
  | a :: L => by
    rw [List.flatMap_cons, cP_app, cP_flat f x L, List.map_cons, List.sum_cons]
theorem sumP_flat (f : Nat → List (Nat × Nat)) : ∀ L : List Nat, sumP (L.flatMap f) = (L.map (fun m => sumP (f m))).sum
  | [] => rfl
  | a :: L => by
    rw [List.flatMap_cons, sumP_app, sumP_flat f L, List.map_cons, List.sum_cons]
theorem sumP_pre {Q Ps : List (Nat × Nat)} (h : Q <+: Ps) : sumP Q ≤ sumP Ps := by
  obtain ⟨R, rfl⟩ := h
  rw [sumP_app]
  omega
def addO : Nat → Nat → Nat := fun u w => u + w
theorem kOp_add {kd : Nat} (h : kd ≠ 0) : kOp kd = addO := by
  funext u w
  unfold kOp addO
  rw [if_neg h]
theorem pfF_cons (op : Nat → Nat → Nat) (F : Nat → Option Nat) (p : Nat × Nat) (Ps : List (Nat × Nat)) : pfF op F (p :: Ps) = pfF op (ptF op F p.1 p.2) Ps := rfl
theorem pfF_add (x : Nat) : ∀ (Ps : List (Nat × Nat)) (F : Nat → Option Nat), (pfF addO F Ps x).getD 0 = (F x).getD 0 + cP Ps x
  | [], F => by simp [pfF, cP]
  | p :: Ps, F => by
    rw [pfF_cons, pfF_add x Ps, cP_cons]
    have : (ptF addO F p.1 p.2 x).getD 0 = (F x).getD 0 + (if p.1 = x then p.2 else 0) := by
      unfold ptF
      by_cases q : x = p.1
      · subst q
        rw [if_pos rfl, if_pos rfl]
        cases F p.1 with
        | none => simp
        | some u => simp [addO]
      · rw [if_neg q, if_neg (Ne.symm q)]
        omega
    rw [this]
    omega
theorem okP_add {Ps : List (Nat × Nat)} (h : sumP Ps < 2 ^ 62) : okP addO (fun _ => none) Ps := by
  refine ⟨fun p hp => Nat.lt_of_le_of_lt (sumP_mem hp) h, fun Q hQ x w hx => ?_⟩
  have h1 := pfF_add x Q (fun _ => none)
  rw [hx] at h1
  have h2 := cP_le x Q
  have h3 := sumP_pre hQ
  simp at h1
  omega
theorem puts_sum {g d : Nat → Int32} (hg : WFg g) (t lo kd : Nat) (m u : Nat) (hkd : kd = 1 ∨ kd = 2) (hlo : kd = 2 → lo = 99) : sumP (puts g d t lo kd false m u) ≤ (if kd = 1 then 6 else 120) * u := by
  have hP := hg.P
  have hlen : (fds g t lo m (aP g)).length ≤ 5 := by
    unfold fds
    have := List.length_filter_le (fun i => decide (i ≠ lo ∧ aPlc g i t = m % 8)) (List.range (aP g))
    rw [List.length_range] at this
    omega
  have hmap : ∀ (c : Nat) (f : Nat → Nat) (wf : Nat → Nat) (l : List Nat), (∀ i, wf i = c) → sumP (l.map (fun i => (f i, wf i))) = l.length * c := by
    intro c f wf l hw
    induction l with
    | nil => simp [sumP]
    | cons a l ih =>
      rw [List.map_cons, sumP_cons, ih, List.length_cons, Nat.add_mul, hw a]
      omega
  unfold puts chs
  rw [sumP_cons]
  rcases hkd with rfl | rfl
  · rw [hmap u _ _ _ (fun i => by unfold kWf; simp)]
    unfold kW0
    simp
    have := Nat.mul_le_mul_right u hlen
    omega
  · have hl := hlo rfl
    subst hl
    have hn : (fds g t 99 m (aP g)).length = nfd g t m := rfl
    simp only [if_true]
    by_cases hz : nfd g t m = 0
    · have h0 : fds g t 99 m (aP g) = [] := List.eq_nil_of_length_eq_zero hz
      rw [h0]
      unfold kW0
      simp [hz, sumP]
      omega
    · rw [hmap (u * (60 / nfd g t m)) _ _ _ (fun i => by unfold kWf; simp [hz]), hn]
      unfold kW0
      simp [hz]
      have h1 : nfd g t m * (60 / nfd g t m) ≤ 60 := Nat.mul_div_le 60 (nfd g t m)
      have h2 : nfd g t m * (u * (60 / nfd g t m)) = u * (nfd g t m * (60 / nfd g t m)) := by
        rw [Nat.mul_left_comm]
      rw [h2]
      have := Nat.mul_le_mul_left u h1
      omega
/-- all that a minute puts, from the numbers w -/
def allR (g d : Nat → Int32) (t lo kd : Nat) (w : Nat → Nat) : List (Nat × Nat) := (List.range 1008).flatMap (fun s => puts g d t lo kd false s (w s))
theorem list_range_sum (f : Nat → Nat) : ∀ n, ((List.range n).map f).sum = sm f n
  | 0 => rfl
  | n + 1 => by
    rw [List.range_succ, List.map_append, List.sum_append, list_range_sum f n]
    simp [sm]
theorem allR_sum {g d : Nat → Int32} (hg : WFg g) (t lo kd : Nat) (w : Nat → Nat) (hkd : kd = 1 ∨ kd = 2) (hlo : kd = 2 → lo = 99) : sumP (allR g d t lo kd w) ≤ (if kd = 1 then 6 else 120) * sm w 1008 := by
  unfold allR
  rw [sumP_flat, list_range_sum, ← sm_mul]
  exact sm_le (fun k _ => puts_sum hg t lo kd k (w k) hkd hlo)
theorem cP_zero {x : Nat} : ∀ {Ps : List (Nat × Nat)}, (∀ p, p ∈ Ps → p.2 = 0) → cP Ps x = 0
  | [], _ => rfl
  | p :: Ps, h => by
    rw [cP_cons, cP_zero (fun q hq => h q (List.mem_cons_of_mem _ hq)), h p List.mem_cons_self]
    split <;> rfl
theorem puts_zero {g d : Nat → Int32} {t lo kd m : Nat} (hkd : kd = 1 ∨ kd = 2) : ∀ p, p ∈ puts g d t lo kd false m 0 → p.2 = 0 := by
  intro p hp
  unfold puts chs at hp
  rcases List.mem_cons.mp hp with e | e
  · subst e
    rcases hkd with rfl | rfl
    · unfold kW0; simp
    · unfold kW0; simp
  · obtain ⟨i, -, rfl⟩ := List.mem_map.mp e
    rcases hkd with rfl | rfl
    · unfold kWf; simp
    · unfold kWf
      simp
/-- the component's puts are the model's, if its front holds the numbers w -/
theorem allP_allR {g d : Nat → Int32} {t lo kd : Nat} (hkd : kd = 1 ∨ kd = 2) {L : List Nat} {F : Nat → Option Nat} {w : Nat → Nat} (hn : L.Nodup) (hst : ∀ m, m ∈ L → m < 1008) (hm : ∀ m, m ∈ L ↔ F m ≠ none) (hw : ∀ m, (F m).getD 0 = w m) (x : Nat) : cP (allP g d t lo kd false L F) x = cP (allR g d t lo kd w) x ∧ sumP (allP g d t lo kd false L F) = sumP (allR g d t lo kd w) := by
  have h0 : ∀ s, s ∉ L → w s = 0 := by
    intro s hs
    rw [← hw s]
    cases hF : F s with
    | none => rfl
    | some v => exact absurd ((hm s).mpr (by rw [hF]; simp)) hs
  have hz : ∀ s, s ∉ L → ∀ p, p ∈ puts g d t lo kd false s (w s) → p.2 = 0 := fun s hs => by rw [h0 s hs]; exact puts_zero hkd
  have sz : ∀ Ps : List (Nat × Nat), (∀ p, p ∈ Ps → p.2 = 0) → sumP Ps = 0 := by
    intro Ps
    induction Ps with
    | nil => intro _; rfl
    | cons a l ih =>
      intro h
      rw [sumP_cons, ih (fun p hp => h p (List.mem_cons_of_mem _ hp)), h a List.mem_cons_self]
  unfold allP allR
  rw [cP_flat, cP_flat, sumP_flat, sumP_flat, list_range_sum, list_range_sum, sum_list hn hst, sum_list hn hst]
  constructor
  · refine sm_cong (fun k _ => ?_)
    by_cases hk : k ∈ L
    · rw [if_pos hk, hw k]
    · rw [if_neg hk, cP_zero (hz k hk)]
  · refine sm_cong (fun k _ => ?_)
    by_cases hk : k ∈ L
    · rw [if_pos hk, hw k]
    · rw [if_neg hk, sz _ (hz k hk)]
