-- ===== the first farm
def txt1 : List Nat := [121, 52, 59, 108, 48, 44, 49, 59, 108, 49, 44, 50, 59, 108, 50, 44, 51, 59, 112, 49, 59, 119, 48, 49, 50, 51, 59, 112, 50, 59, 119, 51, 59]
def T1 : Nat → Nat := fun p => txt1.getD p 256
def gP : Nat → Int32 := (prs T1 33 34 g0 false 0).2.1
theorem gP_1 : (prs T1 33 34 g0 false 0).1 = none := by decide +kernel
theorem gP_2 : (prs T1 33 34 g0 false 0).2.2 = true := by decide +kernel
theorem gP_e : prs T1 33 34 g0 false 0 = (none, gP, true) := by
  have h1 := gP_1
  have h2 := gP_2
  unfold gP
  generalize prs T1 33 34 g0 false 0 = x at h1 h2
  obtain ⟨a, b, c⟩ := x
  simp at h1 h2
  rw [h1, h2]
theorem gP_N : aN gP = 4 ∧ aP gP = 2 ∧ aC gP = 0 ∧ aMany gP 0 = 4 ∧ aMany gP 1 = 1 := by decide +kernel
theorem gP_w : ∀ k, k < 4 → aWay gP 0 k < 4 ∧ aWay gP 1 0 < 4 := by decide +kernel
theorem gP_ok : OKL gP := by
  obtain ⟨h1, h2, h3, h4, h5⟩ := gP_N
  refine ⟨by omega, by omega, fun i k hi hk => ?_⟩
  rw [h1]
  rw [h2] at hi
  rcases (show i = 0 ∨ i = 1 by omega) with rfl | rfl
  · rw [h4] at hk
    exact (gP_w k hk).1
  · rw [h5] at hk
    have : k = 0 := by omega
    rw [this]
    exact (gP_w 0 (by omega)).2
/-- a lane of the model's first farm -/
theorem cM_link0 {τ : Mm} {a c : Nat} (ha : a < 8) (hc : c < 8) {Φ : Mm → Prop} (h : ∀ τ2 : Mm, τ2 = kwi (kwi τ 1 (4 + a) (τ.1 1 (4 + a) ||| (1 <<< (nI c &&& 31)))) 1 (4 + c) ((kwi τ 1 (4 + a) (τ.1 1 (4 + a) ||| (1 <<< (nI c &&& 31)))).1 1 (4 + c) ||| (1 <<< (nI a &&& 31))) → Φ τ2) : wp_X11_link τ 0 (nI a) (nI c) Φ := by
  unfold wp_X11_link
  have i1 : (0 : Int32) + 4 + nI a = nI (4 + a) := by
    have : (0 : Int32) + 4 = nI 4 := by decide
    rw [this, nI_add]
  have i2 : (0 : Int32) + 4 + nI c = nI (4 + c) := by
    have : (0 : Int32) + 4 = nI 4 := by decide
    rw [this, nI_add]
  rw [i1, i2, nI_clamp (by omega), nI_clamp (by omega)]
  have b1 : (0 ≤ nI (4 + a) ∧ nI (4 + a) < 164) := ⟨nI_pos' (by omega), (nI_ltI (b := 164) (by omega) (by omega)).mpr (by omega)⟩
  have b2 : (0 ≤ nI (4 + c) ∧ nI (4 + c) < 164) := ⟨nI_pos' (by omega), (nI_ltI (b := 164) (by omega) (by omega)).mpr (by omega)⟩
  refine ⟨b1, b1, fun σ3 e3 => ⟨b2, b2, fun σ6 e6 => h σ6 ?_⟩⟩
  rw [e6, e3]
/-- what the model's constructor leaves -/
def ModR (τ : Mm) : Prop := FmM τ gP (dR gP) ∧ τ.1 0 3 = 0 ∧ (τ.1 4 0 = 0 ∧ τ.1 4 1 = nI (aC gP) ∧ τ.1 4 2 = 0) ∧ (τ.1 0 9 = 0 ∧ τ.1 0 11 = 0 ∧ τ.1 0 14 = 0 ∧ τ.1 0 21 = 0)
def lkM (τ : Mm) (a c : Nat) : Mm := kwi (kwi τ 1 (4 + a) (τ.1 1 (4 + a) ||| (1 <<< (nI c &&& 31)))) 1 (4 + c) ((kwi τ 1 (4 + a) (τ.1 1 (4 + a) ||| (1 <<< (nI c &&& 31)))).1 1 (4 + c) ||| (1 <<< (nI a &&& 31)))
def τ1st : Mm := kwi (kwi (kwi (kwi (kwi (kwi (kwi (kwi (kwi (kwi (lkM (lkM (lkM (kwi kσ0 1 0 4) 0 1) 1 2) 2 3) 1 1 2) 1 12 1) 1 13 2) 1 17 4) 1 18 1) 1 22 0) 1 23 1) 1 24 2) 1 25 3) 1 34 3
theorem τ1st_row : ∀ k, k < 82 → τ1st.1 1 k = nI (gN gP k) := by decide +kernel
theorem gP_D : Drf gP true := by
  have hx : ∀ r c, TX r c 33 T1 → Drf gP true := by
    intro r c h
    have key : ∀ n p g hl, Drf g hl → prs T1 33 n g hl p = (none, gP, true) → Drf gP true := by
      intro n
      induction n with
      | zero =>
        intro p g hl hD e
        have e' : ((none : Option Nat), g, hl) = (none, gP, true) := e
        cases e'
        exact hD
      | succ n ih =>
        intro p g hl hD e
        by_cases hp : 33 ≤ p
        · rw [prs_end hp] at e
          cases e
          exact hD
        · cases hi : itm T1 g hl p with
          | none => rw [prs_no hp hi] at e; cases e
          | some x =>
            obtain ⟨p2, g2, hl2⟩ := x
            rw [prs_go hp hi] at e
            obtain ⟨o1, o2, o3⟩ := itm_ok h hD hi
            exact ih p2 g2 hl2 o1 e
    exact key 34 0 g0 false Drf_0 gP_e
  refine hx (fun p => nI (T1 p)) (nI 33) ⟨by omega, rfl, fun p hp => ?_, fun p hp => ?_⟩
  · have : ∀ p, p < 33 → T1 p < 256 ∧ (nI (T1 p) &&& 255) = nI (T1 p) := by decide +kernel
    exact this p hp
  · unfold T1
    rw [List.getD_eq_getElem?_getD, List.getElem?_eq_none (by exact hp)]
    rfl
theorem wt_M : wt_X11 kσ0 ModR := by
  intro σ1 e1
  refine cM_link0 (a := 0) (c := 1) (by omega) (by omega) (fun σ2 e2 => ?_)
  refine cM_link0 (a := 1) (c := 2) (by omega) (by omega) (fun σ3 e3 => ?_)
  refine cM_link0 (a := 2) (c := 3) (by omega) (by omega) (fun σ4 e4 => ?_)
  intro σ5 e5 σ6 e6 σ7 e7 σ8 e8 σ9 e9 σ10 e10 σ11 e11 σ12 e12 σ13 e13 σ14 e14
  have hτ : σ14 = τ1st := by
    rw [e14, e13, e12, e11, e10, e9, e8, e7, e6, e5, e4, e3, e2, e1]
    rfl
  rw [hτ]
  have r0 : τ1st.1 0 = fun _ => 0 := rfl
  have r4 : τ1st.1 4 = fun _ => 0 := rfl
  refine cM_begin gP_D.2.2.2.2.2.1 τ1st_row (fun τ2 b1 b2 b3 b4 b5 b6 b7 b8 b9 b10 => ⟨⟨fun k hk => ?_, b10⟩, ?_, ⟨b7, b8, b9⟩, b3, b4, b5, b6⟩)
  · rw [b1 1 (by decide) (by decide) (by decide)]; exact τ1st_row k hk
  · rw [b2 3 (by decide) (by decide) (by decide) (by decide), r0]
