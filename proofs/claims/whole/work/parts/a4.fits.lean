/-! what fits: fits, sure -/
def wsB (X : Nat → Nat → Int32) (rg n : Nat) (v f : Int32) (s : Nat) : Bool := decide (absS (m100 (X 0 s + X 2 s * f) - m100 (v + X 2 (n - 1) * f)) + absS (m100 (X 1 s + X 3 s * f) - m100 (X 1 (n - 1) + X 3 (n - 1) * f)) ≤ nI rg)
/-- the fleet as told, on both sides -/
def XP (σ : ZS) (bk : Nat) (P : Nat → Nat) (X : Nat → Nat → Int32) : Prop := ∀ r s, r < 4 → s < P 0 → sF σ (91 + r) (6 * bk + s) = X r s ∧ sF σ (22 + r) s = X r s
theorem c_was {σ : ZS} {bk s : Nat} {P : Nat → Nat} {X : Nat → Nat → Int32} (C : CP σ P) (W : PW P) (hX : XP σ bk P X) (hs : s < P 0) (v f : Int32) : xX4_wasInRange 68 v (nI s) f (mkH σ) = some (if wsB X (P 2) (P 0) v f s then 1 else 0, mkH σ) := by
  have w0 := W.1
  have s6 : s < 6 := by omega
  have l6 : P 0 - 1 < 6 := by omega
  have em : nI (P 0) - (1 : Int32) = nI (P 0 - 1) := by rw [nl_1, pk_sub (by omega)]
  have x0 := (hX 0 s (by omega) hs).2
  have x1 := (hX 1 s (by omega) hs).2
  have x2 := (hX 2 s (by omega) hs).2
  have x3 := (hX 3 s (by omega) hs).2
  have y1 := (hX 1 (P 0 - 1) (by omega) (by omega)).2
  have y2 := (hX 2 (P 0 - 1) (by omega) (by omega)).2
  have y3 := (hX 3 (P 0 - 1) (by omega) (by omega)).2
  simp only [xX4_wasInRange, xX5_placeAfter, rR_68_0, Option.bind_some, rI_21_7, C.1, em, if_pos (nI_pos' (show P 0 - 1 < 2 ^ 31 by omega)), rR_21_9, rR_21_10, rR_21_11, rR_21_12, ra_22 σ s6, ra_23 σ s6, ra_24 σ s6, ra_25 σ s6, ra_23 σ l6, ra_24 σ l6, ra_25 σ l6, x0, x1, x2, x3, y1, y2, y3, c_abs, rI_21_1, C.2.2.1]
  have e1 : ∀ x : Int32, x - x / 100 * 100 = m100 x := fun _ => rfl
  simp only [e1]
  rw [abs_sub (m100 (v + X 2 (P 0 - 1) * f)), abs_sub (m100 (X 1 (P 0 - 1) + X 3 (P 0 - 1) * f))]
  unfold wsB
  by_cases h : nI (P 2) < absS (m100 (X 0 s + X 2 s * f) - m100 (v + X 2 (P 0 - 1) * f)) + absS (m100 (X 1 s + X 3 s * f) - m100 (X 1 (P 0 - 1) + X 3 (P 0 - 1) * f))
  · rw [if_pos h, decide_eq_false (Int32.not_le.mpr h)]
    rfl
  · rw [if_neg h, decide_eq_true (Int32.not_lt.mp h)]
    rfl
theorem r_was {σ : ZS} {bk s : Nat} {P : Nat → Nat} {X : Nat → Nat → Int32} (R : RP σ bk P) (W : PW P) (hX : XP σ bk P X) (hs : s < P 0) (v f : Int32) : xX9_wasNear 78 v f (nI s) (mkH σ) = some (if wsB X (P 2) (P 0) v f s then 1 else 0, mkH σ) := by
  have w0 := W.1
  have hb := R.2.1
  have B := RP_B R W
  have s12 : 6 * bk + s < 12 := by omega
  have l12 : 6 * bk + (P 0 - 1) < 12 := by omega
  have em : nI (6 * bk + P 0) - (1 : Int32) = nI (6 * bk + (P 0 - 1)) := by
    have := nI_pred (6 * bk + (P 0 - 1))
    rwa [show 6 * bk + (P 0 - 1) + 1 = 6 * bk + P 0 by omega] at this
  have x0 := (hX 0 s (by omega) hs).1
  have x1 := (hX 1 s (by omega) hs).1
  have x2 := (hX 2 s (by omega) hs).1
  have x3 := (hX 3 s (by omega) hs).1
  have y1 := (hX 1 (P 0 - 1) (by omega) (by omega)).1
  have y2 := (hX 2 (P 0 - 1) (by omega) (by omega)).1
  have y3 := (hX 3 (P 0 - 1) (by omega) (by omega)).1
  simp only [xX9_wasNear, rI_78_34, R.1, Option.bind_some, is_78, gu_t, r_lots B, nl_6, pk_mul, nI_add, em, rR_78_21, rR_78_22, rR_78_23, rR_78_24, ra_91 σ s12, ra_92 σ s12, ra_93 σ s12, ra_94 σ s12, ra_92 σ l12, ra_93 σ l12, ra_94 σ l12, x0, x1, x2, x3, y1, y2, y3, r_abs, rR_78_13, ra_83 σ hb, R.2.2.2.2.1, Int32.mul_comm f]
  have e1 : ∀ x : Int32, x - x / 100 * 100 = m100 x := fun _ => rfl
  simp only [e1]
  unfold wsB
  by_cases h : nI (P 2) < absS (m100 (X 0 s + X 2 s * f) - m100 (v + X 2 (P 0 - 1) * f)) + absS (m100 (X 1 s + X 3 s * f) - m100 (X 1 (P 0 - 1) + X 3 (P 0 - 1) * f))
  · rw [if_pos h, decide_eq_false (Int32.not_le.mpr h)]
    rfl
  · rw [if_neg h, decide_eq_true (Int32.not_lt.mp h)]
    rfl
/-- what was seen, as rows of its own: frame, ship, was, told, untold -/
def IE (σ : ZS) (P : Nat → Nat) (c : Nat) (D : Nat → Nat → Int32) : Prop := c ≤ 30 ∧ sI σ 68 8 = nI c ∧ sI σ 78 57 = nI c ∧ ∀ i, i < c → (∀ r, r < 5 → sF σ (69 + r) i = D r i ∧ sF σ (111 + r) i = D r i) ∧ (∃ s, s + 1 < P 0 ∧ D 1 i = nI s) ∧ (D 2 i = 0 ∨ D 2 i = 1) ∧ (D 4 i = -1 ∨ ∃ t, t ≤ 100000 ∧ D 4 i = nI t)
theorem IE_of {σ : ZS} {P : Nat → Nat} (I : IS σ P) : ∃ c D, IE σ P c D := by
  obtain ⟨c, hc, c1, c2, c3⟩ := I
  refine ⟨c, fun r i => sF σ (111 + r) i, hc, c1, c2, fun i hi => ?_⟩
  obtain ⟨⟨f, -, f1, f2⟩, ⟨s, hs, s1, s2⟩, ⟨w, hw, w1, w2⟩, ⟨t, -, t1, t2⟩, u⟩ := c3 i hi
  refine ⟨fun r hr => ⟨?_, rfl⟩, ⟨s, hs, s2⟩, ?_, ?_⟩
  · rcases (show r = 0 ∨ r = 1 ∨ r = 2 ∨ r = 3 ∨ r = 4 by omega) with rfl | rfl | rfl | rfl | rfl
    · exact f1.trans f2.symm
    · exact s1.trans s2.symm
    · exact w1.trans w2.symm
    · exact t1.trans t2.symm
    · rcases u with ⟨u1, u2⟩ | ⟨t, -, u1, u2⟩
      · exact u1.trans u2.symm
      · exact u1.trans u2.symm
  · rcases (show w = 0 ∨ w = 1 by omega) with rfl | rfl
    · exact Or.inl w2
    · exact Or.inr w2
  · rcases u with ⟨u1, u2⟩ | ⟨t, ht, u1, u2⟩
    · exact Or.inl u2
    · exact Or.inr ⟨t, ht, u2⟩
theorem IE_f {S : Nat → Prop} {T : Nat → Nat → Prop} {σ τ : ZS} {P : Nat → Nat} {c : Nat} {D : Nat → Nat → Int32} (h : FR S T σ τ) (hS : ∀ a, (69 ≤ a ∧ a ≤ 73) ∨ (111 ≤ a ∧ a ≤ 115) → ¬ S a) (hT : ¬ T 68 8 ∧ ¬ T 78 57) (I : IE σ P c D) : IE τ P c D := by
  obtain ⟨i1, i2, i3, i4⟩ := I
  refine ⟨i1, by rw [h.2.1 68 8 hT.1]; exact i2, by rw [h.2.1 78 57 hT.2]; exact i3, fun i hi => ?_⟩
  obtain ⟨j1, j2⟩ := i4 i hi
  refine ⟨fun r hr => ?_, j2⟩
  rw [h.1 (69 + r) (hS _ (by omega)), h.1 (111 + r) (hS _ (by omega))]
  exact j1 r hr
def fiP (D X : Nat → Nat → Int32) (rg n : Nat) (v k : Int32) (i : Nat) : Prop := (D 3 i ≤ k ∧ (D 4 i = -1 ∨ k < D 4 i)) → wsB X rg n v (D 0 i) (tn (D 1 i)) = decide (D 2 i = 1)
noncomputable def fiB (D X : Nat → Nat → Int32) (rg n c : Nat) (k v : Int32) : Bool := @decide (∀ i, i < c → fiP D X rg n v k i) (Classical.propDecidable _)
theorem fi_t {D X : Nat → Nat → Int32} {rg n c : Nat} {k v : Int32} (h : ∀ i, i < c → fiP D X rg n v k i) : fiB D X rg n c k v = true := @decide_eq_true _ (Classical.propDecidable _) h
theorem fi_f {D X : Nat → Nat → Int32} {rg n c : Nat} {k v : Int32} (h : ¬ ∀ i, i < c → fiP D X rg n v k i) : fiB D X rg n c k v = false := @decide_eq_false _ (Classical.propDecidable _) h
theorem lpB {L : Nat → Nat → Option (Int32 × ZH)} {D X : Nat → Nat → Int32} {rg n c : Nat} {k v : Int32} {h : ZH} (hb : c ≤ 30) (hs : ∀ e i, i < c → (fiP D X rg n v k i → L (e + 1) i = L e (i + 1)) ∧ (¬ fiP D X rg n v k i → L (e + 1) i = some (0, h))) (he : ∀ e, L (e + 1) c = some (1, h)) : L zFU 0 = some (if fiB D X rg n c k v then 1 else 0, h) := by
  obtain ⟨k1, k2⟩ := lpA L c (fiP D X rg n v k) (some (0, h)) (some (1, h)) (by omega) hs he
  by_cases hc : ∀ i, i < c → fiP D X rg n v k i
  · rw [fi_t hc, k1 hc]
    rfl
  · rw [fi_f hc, k2 (Classical.byContradiction fun z => hc (fun i hi => Classical.byContradiction fun y => z ⟨i, hi, y⟩))]
    rfl
section FT
variable {σ : ZS} {bk c : Nat} {P : Nat → Nat} {D X : Nat → Nat → Int32}
theorem c_agr (C : CP σ P) (W : PW P) (hX : XP σ bk P X) (I : IE σ P c D) (k v : Int32) : xX4_agrees 68 v k (mkH σ) = some (if fiB D X (P 2) (P 0) c k v then 1 else 0, mkH σ) := by
  have w0 := W.1
  obtain ⟨i1, i2, i3, i4⟩ := I
  have kc := lpB (L := fun e i => xX4_agrees_L2 e 68 v k (nI i) (mkH σ)) (D := D) (X := X) (rg := P 2) (n := P 0) (c := c) (k := k) (v := v) (h := mkH σ) i1 ?_ ?_
  · rw [nI_0] at kc
    unfold xX4_agrees
    exact kc
  · intro e i hi
    obtain ⟨j1, ⟨s, hs, js⟩, j2, j4⟩ := i4 i hi
    have h30 : i < 30 := by omega
    have d0 := (j1 0 (by omega)).1
    have d1 := (j1 1 (by omega)).1
    have d2 := (j1 2 (by omega)).1
    have d3 := (j1 3 (by omega)).1
    have d4 := (j1 4 (by omega)).1
    have hw := c_was C W hX (show s < P 0 by omega) v (D 0 i)
    have ht : tn (D 1 i) = s := by rw [js, tn_n (by omega)]
    have key : xX4_agrees_L2 (e + 1) 68 v k (nI i) (mkH σ) = if D 3 i ≤ k ∧ (D 4 i = -1 ∨ k < D 4 i) then (if (if wsB X (P 2) (P 0) v (D 0 i) s then (1 : Int32) else 0) = D 2 i then xX4_agrees_L2 e 68 v k (nI (i + 1)) (mkH σ) else some (0, mkH σ)) else xX4_agrees_L2 e 68 v k (nI (i + 1)) (mkH σ) := by
      show xX4_agrees_B2 (xX4_agrees_L2 e) 68 v k (nI i) (mkH σ) = _
      generalize xX4_agrees_L2 e = nl
      simp only [xX4_agrees_B2, rI_68_8, i2, Option.bind_some]
      rw [if_neg (fun z => by have := (nI_leI (by omega) (by omega)).mp z; omega)]
      simp only [rR_68_5, Option.bind_some, ra_73 σ h30, d4, xX4_agrees_B34, xX4_agrees_B35, rR_68_4, ra_72 σ h30, d3, xX4_agrees_B56, xX4_agrees_B57, t00, t10, if_true, if_false, rR_68_2, ra_70 σ h30, d1, js, rR_68_1, ra_69 σ h30, d0, is_68, gu_t, hw, rR_68_3, ra_71 σ h30, d2, nI_s]
      by_cases h3 : k < D 3 i
      · simp only [if_pos h3, ite_self]
        rw [if_neg (show ¬ (D 3 i ≤ k ∧ (D 4 i = -1 ∨ k < D 4 i)) from fun z => absurd z.1 (Int32.not_le.mpr h3))]
      · have h3' := Int32.not_lt.mp h3
        simp only [if_neg h3]
        by_cases h4 : D 4 i = -1
        · rw [if_pos h4, if_pos (show D 3 i ≤ k ∧ (D 4 i = -1 ∨ k < D 4 i) from ⟨h3', Or.inl h4⟩)]
        · rw [if_neg h4]
          by_cases h5 : k < D 4 i
          · rw [if_pos h5, if_pos (show D 3 i ≤ k ∧ (D 4 i = -1 ∨ k < D 4 i) from ⟨h3', Or.inr h5⟩)]
          · rw [if_neg h5, if_neg (show ¬ (D 3 i ≤ k ∧ (D 4 i = -1 ∨ k < D 4 i)) from fun z => z.2.elim h4 h5)]
    have hiff : ((if wsB X (P 2) (P 0) v (D 0 i) s then (1 : Int32) else 0) = D 2 i) ↔ wsB X (P 2) (P 0) v (D 0 i) s = decide (D 2 i = 1) := by
      rcases j2 with h | h
      · rw [h]; cases wsB X (P 2) (P 0) v (D 0 i) s <;> decide
      · rw [h]; cases wsB X (P 2) (P 0) v (D 0 i) s <;> decide
    refine ⟨fun h => ?_, fun h => ?_⟩
    · refine key.trans ?_
      by_cases hc : D 3 i ≤ k ∧ (D 4 i = -1 ∨ k < D 4 i)
      · have := h hc
        rw [ht] at this
        rw [if_pos hc, if_pos (hiff.mpr this)]
      · rw [if_neg hc]
    · refine key.trans ?_
      by_cases hc : D 3 i ≤ k ∧ (D 4 i = -1 ∨ k < D 4 i)
      · rw [if_pos hc, if_neg]
        intro z
        apply h
        intro _
        rw [ht]
        exact hiff.mp z
      · exact absurd (fun z => absurd z hc) h
  · intro e
    show xX4_agrees_B2 (xX4_agrees_L2 e) 68 v k (nI c) (mkH σ) = _
    simp only [xX4_agrees_B2, rI_68_8, i2, Option.bind_some]
    rw [if_pos (Int32.le_refl _)]
theorem r_fit (R : RP σ bk P) (W : PW P) (hX : XP σ bk P X) (I : IE σ P c D) (k v : Int32) : xX9_doesFit 78 v k (mkH σ) = some (if fiB D X (P 2) (P 0) c k v then 1 else 0, mkH σ) := by
  have w0 := W.1
  obtain ⟨i1, i2, i3, i4⟩ := I
  have kc := lpB (L := fun e i => xX9_doesFit_L2 e 78 v k (nI i) (mkH σ)) (D := D) (X := X) (rg := P 2) (n := P 0) (c := c) (k := k) (v := v) (h := mkH σ) i1 ?_ ?_
  · rw [nI_0] at kc
    unfold xX9_doesFit
    exact kc
  · intro e i hi
    obtain ⟨j1, ⟨s, hs, js⟩, j2, j4⟩ := i4 i hi
    have h30 : i < 30 := by omega
    have d0 := (j1 0 (by omega)).2
    have d1 := (j1 1 (by omega)).2
    have d2 := (j1 2 (by omega)).2
    have d3 := (j1 3 (by omega)).2
    have d4 := (j1 4 (by omega)).2
    have hw := r_was R W hX (show s < P 0 by omega) v (D 0 i)
    have ht : tn (D 1 i) = s := by rw [js, tn_n (by omega)]
    have key : xX9_doesFit_L2 (e + 1) 78 v k (nI i) (mkH σ) = if D 3 i ≤ k ∧ (D 4 i = -1 ∨ k < D 4 i) then (if D 2 i = 1 then (if (if wsB X (P 2) (P 0) v (D 0 i) s then (1 : Int32) else 0) = 1 then xX9_doesFit_L2 e 78 v k (nI (i + 1)) (mkH σ) else some (0, mkH σ)) else (if (if wsB X (P 2) (P 0) v (D 0 i) s then (1 : Int32) else 0) = 0 then xX9_doesFit_L2 e 78 v k (nI (i + 1)) (mkH σ) else some (0, mkH σ))) else xX9_doesFit_L2 e 78 v k (nI (i + 1)) (mkH σ) := by
      show xX9_doesFit_B2 (xX9_doesFit_L2 e) 78 v k (nI i) (mkH σ) = _
      generalize xX9_doesFit_L2 e = nl
      simp only [xX9_doesFit_B2, rI_78_57, i3, Option.bind_some]
      rw [if_neg (fun z => by have := (nI_leI (by omega) (by omega)).mp z; omega)]
      simp only [rR_78_55, Option.bind_some, ra_114 σ h30, d3, rR_78_56, ra_115 σ h30, d4, xX9_doesFit_B42, rR_78_52, ra_111 σ h30, d0, rR_78_53, ra_112 σ h30, d1, js, is_78, gu_t, hw, rR_78_54, ra_113 σ h30, d2, nI_s]
      by_cases h3 : k < D 3 i
      · rw [if_pos h3, if_neg (show ¬ (D 3 i ≤ k ∧ (D 4 i = -1 ∨ k < D 4 i)) from fun z => absurd z.1 (Int32.not_le.mpr h3))]
      · have h3' := Int32.not_lt.mp h3
        rw [if_neg h3]
        rcases j4 with h4 | ⟨t, ht2, h4⟩
        · rw [if_pos (show D 4 i < 0 from by rw [h4]; decide), if_pos (show D 3 i ≤ k ∧ (D 4 i = -1 ∨ k < D 4 i) from ⟨h3', Or.inl h4⟩)]
        · rw [if_neg (show ¬ D 4 i < 0 from by rw [h4]; exact nI_pos (by omega))]
          have hne : ¬ D 4 i = -1 := by rw [h4]; exact nI_m1 (by omega)
          by_cases h5 : k < D 4 i
          · rw [if_pos h5, if_pos (show D 3 i ≤ k ∧ (D 4 i = -1 ∨ k < D 4 i) from ⟨h3', Or.inr h5⟩)]
          · rw [if_neg h5, if_neg (show ¬ (D 3 i ≤ k ∧ (D 4 i = -1 ∨ k < D 4 i)) from fun z => z.2.elim hne h5)]
    refine ⟨fun h => ?_, fun h => ?_⟩
    · refine key.trans ?_
      by_cases hc : D 3 i ≤ k ∧ (D 4 i = -1 ∨ k < D 4 i)
      · have h1 := h hc
        rw [ht] at h1
        rw [if_pos hc]
        by_cases h2 : D 2 i = 1
        · rw [decide_eq_true h2] at h1
          rw [if_pos h2, h1]
          rfl
        · rw [decide_eq_false h2] at h1
          rw [if_neg h2, h1]
          rfl
      · rw [if_neg hc]
    · refine key.trans ?_
      by_cases hc : D 3 i ≤ k ∧ (D 4 i = -1 ∨ k < D 4 i)
      · rw [if_pos hc]
        have h1 : ¬ wsB X (P 2) (P 0) v (D 0 i) s = decide (D 2 i = 1) := fun z => h (fun _ => by rw [ht]; exact z)
        by_cases h2 : D 2 i = 1
        · rw [decide_eq_true h2] at h1
          rw [if_pos h2, show wsB X (P 2) (P 0) v (D 0 i) s = false by simpa using h1]
          rfl
        · rw [decide_eq_false h2] at h1
          rw [if_neg h2, show wsB X (P 2) (P 0) v (D 0 i) s = true by simpa using h1]
          rfl
      · exact absurd (fun z => absurd z hc) h
  · intro e
    show xX9_doesFit_B2 (xX9_doesFit_L2 e) 78 v k (nI c) (mkH σ) = _
    simp only [xX9_doesFit_B2, rI_78_57, i3, Option.bind_some]
    rw [if_pos (Int32.le_refl _)]
end FT
/-- how far across it may have been -/
noncomputable def mayB (D X : Nat → Nat → Int32) (rg n c : Nat) (k : Int32) (v : Nat) : Bool := decide (0 < n) && fiB D X rg n c k (nI v)
def cnM (m : Nat → Bool) (j : Nat) : Nat := zf (fun v c => if m v then c + 1 else c) 0 j 0
theorem cnM_s {m : Nat → Bool} {j : Nat} : cnM m (j + 1) = if m j then cnM m j + 1 else cnM m j := by
  unfold cnM
  rw [zf_l, Nat.zero_add]
theorem cnM_le {m : Nat → Bool} : ∀ j, cnM m j ≤ j := by
  intro j
  induction j with
  | zero => exact Nat.le_refl _
  | succ j ih =>
    rw [cnM_s]
    split <;> omega
theorem cnM_0 {m : Nat → Bool} : ∀ j, cnM m j = 0 ↔ ∀ v, v < j → m v = false := by
  intro j
  induction j with
  | zero => exact ⟨fun _ v hv => absurd hv (Nat.not_lt_zero _), fun _ => rfl⟩
  | succ j ih =>
    rw [cnM_s]
    by_cases h : m j = true
    · rw [if_pos h]
      constructor
      · intro z; omega
      · intro z
        rw [z j (by omega)] at h
        cases h
    · rw [if_neg h, ih]
      constructor
      · intro z v hv
        by_cases hvj : v = j
        · rw [hvj]; simpa using h
        · exact z v (by omega)
      · exact fun z v hv => z v (by omega)
theorem c_sift {σ : ZS} {bk c : Nat} {P : Nat → Nat} {D X : Nat → Nat → Int32} (C : CP σ P) (W : PW P) (hX : XP σ bk P X) (I : IE σ P c D) (k : Int32) : ∃ τ, xX4_sift 68 k (mkH σ) = some (nI (cnM (mayB D X (P 2) (P 0) c k) 100), mkH τ) ∧ (∀ v, v < 100 → sF τ 74 v = if mayB D X (P 2) (P 0) c k v then 1 else 0) ∧ sI τ 68 7 = nI (cnM (mayB D X (P 2) (P 0) c k) 100) ∧ FR (fun a => a = 74) (fun a k => a = 68 ∧ k = 7) σ τ := by
  have w0 := W.1
  have hst : ∀ τ, FR (fun a => a = 74) (fun a k => a = 68 ∧ k = 7) σ τ → CP τ P ∧ XP τ bk P X ∧ IE τ P c D := fun τ hF => by
    refine ⟨CP_f hF (fun k z => by omega) C, fun r s hr hs => ?_, IE_f hF (fun a h z => by omega) ⟨by omega, by omega⟩ I⟩
    rw [hF.1 (91 + r) (by omega), hF.1 (22 + r) (by omega)]
    exact hX r s hr hs
  generalize hm : mayB D X (P 2) (P 0) c k = m
  have hmv : ∀ v, m v = (decide (0 < P 0) && fiB D X (P 2) (P 0) c k (nI v)) := fun v => by rw [← hm]; rfl
  obtain ⟨e, he⟩ := zfu 100 (by omega)
  have key := lpI (fun e v (τ : ZS) => xX4_sift_L7 e 68 k (nI v) (mkH τ)) 100 (fun j τ => FR (fun a => a = 74) (fun a k => a = 68 ∧ k = 7) σ τ ∧ (∀ v, v < j → sF τ 74 v = if m v then 1 else 0) ∧ sI τ 68 7 = nI (cnM m j)) (fun r => ∃ τ, r = (nI (cnM m 100), mkH τ) ∧ (∀ v, v < 100 → sF τ 74 v = if m v then 1 else 0) ∧ sI τ 68 7 = nI (cnM m 100) ∧ FR (fun a => a = 74) (fun a k => a = 68 ∧ k = 7) σ τ) ?_ ?_ 100 0 (setI σ 68 7 0) e (by omega) ⟨FR_I ⟨rfl, rfl⟩, fun v hv => absurd hv (Nat.not_lt_zero _), by rw [sI_eq]; rfl⟩
  · obtain ⟨r, hr, τ, rfl, h2, h3, h4⟩ := key
    refine ⟨τ, ?_, h2, h3, h4⟩
    rw [← he, nI_0] at hr
    have e1 : xX4_sift 68 k (mkH σ) = ((z_sF (mkH σ) 68 4 7 (.int (0 : Int32))).bind fun h2 => xX4_sift_L7 zFU 68 k (0 : Int32) h2) := rfl
    rw [e1]
    generalize xX4_sift_L7 zFU = nl at *
    rw [wI_68_7, Option.bind_some]
    exact hr
  · rintro e v τ hv ⟨hF, h1, h2⟩
    right
    obtain ⟨C2, X2, I2⟩ := hst τ hF
    have hst42 : ∀ (q : Int32) (b : Bool), q = (if b then 1 else 0) → ∃ υ, xX4_sift_B42 (xX4_sift_L7 e) 68 k (nI v) q (nI v) 74 (mkH τ) = xX4_sift_L7 e 68 k (nI (v + 1)) (mkH υ) ∧ FR (fun a => a = 74) (fun a k => a = 68 ∧ k = 7) τ υ ∧ sF υ 74 = up1 (sF τ 74) v (if b then 1 else 0) ∧ sI υ 68 7 = nI (if b then cnM m v + 1 else cnM m v) := by
      intro q b hq
      generalize xX4_sift_L7 e = nl
      have hn : vp_nar .boolean q = q := by rw [hq]; cases b <;> rfl
      have hw := wa_74 τ (k := v) q hv
      rw [hn] at hw
      have g7 : sI (setF τ 74 v q) 68 7 = nI (cnM m v) := h2
      have g74 : sF (setF τ 74 v q) 74 v = q := sF_eq
      cases b with
      | true =>
        refine ⟨setI (setF τ 74 v q) 68 7 (nI (cnM m v + 1)), ?_, FR_t (FR_F rfl) (FR_I ⟨rfl, rfl⟩), by rw [← hq]; exact sF_up, sI_eq⟩
        have hq1 : q = 1 := hq
        unfold xX4_sift_B42
        rw [hw, Option.bind_some, rR_68_6, Option.bind_some, ra_74 _ hv, Option.bind_some, g74, if_neg (show ¬ q = 0 by rw [hq1]; decide), rI_68_7, Option.bind_some, g7, nI_s, wI_68_7, Option.bind_some, nI_s]
      | false =>
        refine ⟨setF τ 74 v q, ?_, FR_F rfl, by rw [← hq]; exact sF_up, g7⟩
        have hq1 : q = 0 := hq
        unfold xX4_sift_B42
        rw [hw, Option.bind_some, rR_68_6, Option.bind_some, ra_74 _ hv, Option.bind_some, g74, if_pos hq1, nI_s]
    have hB : ∃ υ, xX4_sift_L7 (e + 1) 68 k (nI v) (mkH τ) = xX4_sift_L7 e 68 k (nI (v + 1)) (mkH υ) ∧ FR (fun a => a = 74) (fun a k => a = 68 ∧ k = 7) τ υ ∧ sF υ 74 = up1 (sF τ 74) v (if m v then 1 else 0) ∧ sI υ 68 7 = nI (if m v then cnM m v + 1 else cnM m v) := by
      have h0 : xX4_sift_L7 (e + 1) 68 k (nI v) (mkH τ) = xX4_sift_B7 (xX4_sift_L7 e) 68 k (nI v) (mkH τ) := rfl
      rw [h0]
      generalize xX4_sift_L7 e = nl at *
      unfold xX4_sift_B7
      rw [if_neg (fun z => by rw [nl_100] at z; have := (nI_leI (by omega) (by omega)).mp z; omega), rR_68_6, Option.bind_some, rR_68_0, Option.bind_some, rI_21_7, Option.bind_some, C2.1]
      by_cases hp : 0 < P 0
      · rw [if_neg (nI_nle hp (by omega)), is_68, gu_t, c_agr C2 W X2 I2, Option.bind_some]
        have hm2 : m v = fiB D X (P 2) (P 0) c k (nI v) := by rw [hmv, decide_eq_true hp]; rfl
        rw [← hm2]
        by_cases hb : m v = true
        · rw [hb]
          exact hst42 1 true rfl
        · rw [show m v = false by simpa using hb]
          exact hst42 0 false rfl
      · have hp0 : P 0 = 0 := by omega
        have hm2 : m v = false := by rw [hmv, decide_eq_false hp]; rfl
        rw [if_pos (show nI (P 0) ≤ 0 by rw [hp0]; decide), hm2]
        exact hst42 0 false rfl
    obtain ⟨υ, u1, u2, u3, u4⟩ := hB
    refine ⟨υ, u1, FR_t hF u2, fun j hj => ?_, ?_⟩
    · rw [u3]
      by_cases hjv : j = v
      · rw [hjv, up1_e]
      · rw [up1_n hjv]; exact h1 j (by omega)
    · rw [u4, cnM_s]
  · rintro e τ ⟨hF, h1, h2⟩
    refine ⟨_, ?_, τ, rfl, h1, h2, hF⟩
    show xX4_sift_B7 (xX4_sift_L7 e) 68 k (nI 100) (mkH τ) = _
    unfold xX4_sift_B7
    rw [if_pos (show (100 : Int32) ≤ nI 100 by decide), rI_68_7, Option.bind_some, h2]
theorem r_fits {σ : ZS} {bk c : Nat} {P : Nat → Nat} {D X : Nat → Nat → Int32} (R : RP σ bk P) (W : PW P) (hX : XP σ bk P X) (I : IE σ P c D) (k : Int32) : xX9_fits 78 k (mkH σ) = some (nI (cnM (mayB D X (P 2) (P 0) c k) 100), mkH σ) := by
  have w0 := W.1
  have B := RP_B R W
  by_cases hp : 0 < P 0
  · have hmv : ∀ v, mayB D X (P 2) (P 0) c k v = fiB D X (P 2) (P 0) c k (nI v) := fun v => by unfold mayB; rw [decide_eq_true hp]; rfl
    have kc := lpZ (fun e v (x : Nat) => xX9_fits_L4 e 78 k (nI x) (nI v) (mkH σ)) (fun v c2 => if mayB D X (P 2) (P 0) c k v then c2 + 1 else c2) 100 (fun _ _ => True) (fun x => some (nI x, mkH σ)) (by omega) ?_ ?_ 0 (by omega) 0 trivial
    · rw [nI_0] at kc
      unfold xX9_fits
      exact kc.1
    · intro e v x hv _
      refine ⟨?_, trivial⟩
      show xX9_fits_B4 (xX9_fits_L4 e) 78 k (nI x) (nI v) (mkH σ) = _
      generalize xX9_fits_L4 e = nl
      unfold xX9_fits_B4
      rw [if_neg (fun z => by rw [nl_100] at z; have := (nI_leI (by omega) (by omega)).mp z; omega)]
      simp only [is_78, gu_t, r_lots B, Option.bind_some, if_neg (nI_nle hp (show P 0 < 2 ^ 31 by omega)), r_fit R W hX I, ← hmv, Int32.add_zero, nI_s]
      by_cases hb : mayB D X (P 2) (P 0) c k v = true
      · simp only [hb, if_true, t10, if_false]
      · simp only [hb, Bool.false_eq_true, if_false, t00, if_true]
    · intro e x _
      show xX9_fits_B4 (xX9_fits_L4 e) 78 k (nI x) (nI 100) (mkH σ) = _
      unfold xX9_fits_B4
      rw [if_pos (show (100 : Int32) ≤ nI 100 by decide)]
  · have h0 : cnM (mayB D X (P 2) (P 0) c k) 100 = 0 := (cnM_0 100).mpr (fun v _ => by unfold mayB; rw [decide_eq_false hp]; rfl)
    obtain ⟨e, he⟩ := zfu 0 (by omega)
    unfold xX9_fits
    rw [h0, he]
    show xX9_fits_B4 (xX9_fits_L4 (e + 0)) 78 k 0 0 (mkH σ) = _
    generalize xX9_fits_L4 (e + 0) = nl
    unfold xX9_fits_B4
    rw [if_neg (by decide)]
    simp only [is_78, gu_t, r_lots B, Option.bind_some]
    rw [if_pos (show nI (P 0) ≤ 0 by rw [show P 0 = 0 by omega]; decide)]
    rfl
theorem XP_q {σ τ : ZS} {bk : Nat} {P : Nat → Nat} {X : Nat → Nat → Int32} (h : FR scS scT σ τ) (hX : XP σ bk P X) (hb : bk < 2) (hn : P 0 ≤ 6) : XP τ bk P X := fun r s hr hs => by
  rw [h.1 (91 + r) (fun z => by unfold scS at z; omega), h.1 (22 + r) (fun z => by unfold scS at z; omega)]
  exact hX r s hr hs
theorem sc_sf {σ τ : ZS} (h : FR (fun a => a = 74) (fun a k => a = 68 ∧ k = 7) σ τ) : FR scS scT σ τ := FR_m h (fun a z => by unfold scS; omega) (fun a k z => by unfold scT; omega)
theorem q_fits (k : Int32) : QOK (xX8_fits 8 k) (xX9_fits 78 k) := by
  refine Q_sc fun σ bk P on fo len X I => ?_
  obtain ⟨⟨W, F, E, C, hX⟩, -, is, -⟩ := id I
  obtain ⟨c, D, ie⟩ := IE_of is
  obtain ⟨τ, t1, -, -, t4⟩ := c_sift C.1 W hX ie k
  refine ⟨nI (cnM (mayB D X (P 2) (P 0) c k) 100), τ, ?_, sc_sf t4, fun I2 h4 => ?_⟩
  · unfold xX8_fits
    generalize xX4_sift = sf at *
    rw [rR_8_12, Option.bind_some, is_68, gu_t, t1, Option.bind_some]
  · obtain ⟨⟨-, -, E2, -⟩, -⟩ := I2
    refine ⟨τ, r_fits E2.1 W (XP_q (sc_sf t4) hX E.1.2.1 W.1) (IE_f t4 (fun a h z => by omega) ⟨by omega, by omega⟩ ie) k, sc_4 FR_r⟩
