/-! the reference's pile: what stands on it, what falls off -/
def CQ (σ : ZS) (fo : Nat → Int32) (len un : Nat) : Prop := sI σ 11 8 = nI un ∧ sI σ 11 15 = nI len ∧ ∀ i, i < len → sF σ 17 i = fo i
def RQ (ρ : ZS) (rb : Nat) (fo : Nat → Int32) (len d wi un : Nat) : Prop := sI ρ 78 35 = nI rb ∧ sF ρ 87 rb = nI un ∧ sI ρ 78 39 = nI un ∧ sI ρ 78 36 = nI (560 * rb + len) ∧ sI ρ 78 38 = nI d ∧ sI ρ 78 37 = nI wi ∧ ∀ i, i < len → cdR (fo i) (sF ρ 99 (560 * rb + i)) (sF ρ 100 (560 * rb + i))
/-- ranks and signs on the pile -/
def SK (ρ : ZS) (d : Nat) (K G : Nat → Nat) : Prop := ∀ i, i < d → sF ρ 101 i = nI (K i) ∧ sF ρ 102 i = nI (G i) ∧ 1 ≤ K i ∧ K i ≤ 8
def cntN (K : Nat → Nat) (a : Nat) : Nat → Nat
  | 0 => 0
  | p + 1 => cntN K a p + (if K (a + p) = 3 then 1 else 0)
def fG (rb a k : Nat) : Prop := ((a = 99 ∨ a = 100) ∧ 560 * rb ≤ k ∧ k < 560 * rb + 560) ∨ (a = 87 ∧ k = rb) ∨ a = 101 ∨ a = 102
def fT (a k : Nat) : Prop := rF a k ∨ (a = 78 ∧ 36 ≤ k ∧ k ≤ 39)
def pG (rb a k : Nat) : Prop := (a = 99 ∨ a = 100) ∧ 560 * rb ≤ k ∧ k < 560 * rb + 560
def pT (a k : Nat) : Prop := a = 78 ∧ 36 ≤ k ∧ k ≤ 38
theorem LK_g {G T : Nat → Nat → Prop} {J : Nat → Prop} {σ ρ υ : ZS} {u : Nat → Nat} {n : Nat} {t : ZT} (h : FG G T J ρ υ) (hN : sN υ = sN ρ) (hG : ∀ k, ¬ G 80 k) (hT : ∀ k, 3 ≤ k → k ≤ 9 → ¬ T 78 k) (L : LK σ ρ u n t) : LK σ υ u n t := by
  obtain ⟨l1, l2, l3, l4, l5, l6, l7⟩ := L
  refine ⟨l1, ⟨by rw [h.2.1 78 3 (hT 3 (by omega) (by omega))]; exact l2.1, l2.2.1, fun i hi => by rw [h.1 80 i (hG i)]; exact l2.2.2 i hi⟩, l3, ?_, l5, by rw [h.2.1 78 4 (hT 4 (by omega) (by omega))]; exact l6, l7.1, l7.2.1, by rw [h.2.1 78 5 (hT 5 (by omega) (by omega))]; exact l7.2.2⟩
  unfold RT
  rw [hN, h.2.1 78 6 (hT 6 (by omega) (by omega)), h.2.1 78 7 (hT 7 (by omega) (by omega)), h.2.1 78 8 (hT 8 (by omega) (by omega)), h.2.1 78 9 (hT 9 (by omega) (by omega))]
  exact l4
theorem nI_d {d : Nat} : nI (d + 1) - (1 : Int32) = nI d := by rw [nl_1, pk_sub (by omega), show d + 1 - 1 = d by omega]
/-- all p entries of rank r to 6 fall off -/
theorem r_pop {rb r d0 : Nat} {K G : Nat → Nat} {fo : Nat → Int32} {un wi : Nat} (hrb : rb < 2) (hr : r ≤ 6) (hd0 : 1 ≤ d0) (hT : 6 < K (d0 - 1) ∨ K (d0 - 1) < r) : ∀ (p len e : Nat) (ρ : ZS), d0 + p ≤ 90 → len + p ≤ 280 → RQ ρ rb fo len (d0 + p) (wi + cntN K d0 p) un → SK ρ (d0 + p) K G → (∀ i, i < p → cdR (fo (len + i)) (nI (G (d0 + p - 1 - i))) 0) → (∀ i, i < p → r ≤ K (d0 + i) ∧ K (d0 + i) ≤ 6) → ∃ υ, xX9_behindUnit_L23 (e + p + 1) 78 (nI r) (mkH ρ) = xX9_behindUnit_B104 78 (nI r) (mkH υ) ∧ RQ υ rb fo (len + p) d0 wi un ∧ FG (pG rb) pT fj ρ υ ∧ sN υ = sN ρ := by
  intro p
  induction p with
  | zero =>
    intro len e ρ h90 h280 Q S hc hk
    obtain ⟨q1, q2, q3, q4, q5, q6, q7⟩ := Q
    refine ⟨ρ, ?_, ⟨q1, q2, q3, q4, q5, q6, q7⟩, FG_r, rfl⟩
    obtain ⟨s1, -, s3, s4⟩ := S (d0 - 1) (by omega)
    have q5' : sI ρ 78 38 = nI (d0 - 1 + 1) := by rw [q5, show d0 + 0 = d0 - 1 + 1 by omega]
    show xX9_behindUnit_B23 (xX9_behindUnit_L23 (e + 0)) 78 (nI r) (mkH ρ) = _
    generalize xX9_behindUnit_L23 (e + 0) = nl
    unfold xX9_behindUnit_B23
    rw [rR_78_31, Option.bind_some, rI_78_38, Option.bind_some, q5', nI_d, ra_101 ρ (show d0 - 1 < 90 by omega), Option.bind_some, s1]
    by_cases h6 : 6 < K (d0 - 1)
    · rw [if_pos (show (6 : Int32) < nI (K (d0 - 1)) from by rw [nl_6]; exact nI_lt h6 (by omega))]
    · rw [if_neg (show ¬ (6 : Int32) < nI (K (d0 - 1)) from fun z => by rw [nl_6] at z; exact h6 ((nI_ltI (by omega) (by omega)).mp z)), Option.bind_some, Option.bind_some, nI_d, ra_101 ρ (show d0 - 1 < 90 by omega), Option.bind_some, s1, if_pos (nI_lt (by omega) (by omega))]
  | succ p ih =>
    intro len e ρ h90 h280 Q S hc hk
    obtain ⟨q1, q2, q3, q4, q5, q6, q7⟩ := Q
    obtain ⟨s1, s2, s3, s4⟩ := S (d0 + p) (by omega)
    obtain ⟨k1, k2⟩ := hk p (by omega)
    have hc0 := hc 0 (by omega)
    rw [Nat.add_zero, show d0 + (p + 1) - 1 - 0 = d0 + p by omega] at hc0
    have q5' : sI ρ 78 38 = nI (d0 + p + 1) := q5
    -- one entry down
    have hstep : ∃ ρ1, xX9_behindUnit_L23 (e + (p + 1) + 1) 78 (nI r) (mkH ρ) = xX9_behindUnit_B87 (xX9_behindUnit_L23 (e + p + 1)) 78 (nI r) (mkH ρ1) ∧ sI ρ1 78 38 = nI (d0 + p) ∧ sI ρ1 78 37 = nI (wi + cntN K d0 p) ∧ FG fe pT fj ρ ρ1 ∧ sN ρ1 = sN ρ ∧ sI ρ1 78 36 = nI (560 * rb + len) := by
      have hx : xX9_behindUnit_L23 (e + (p + 1) + 1) 78 (nI r) (mkH ρ) = xX9_behindUnit_B23 (xX9_behindUnit_L23 (e + p + 1)) 78 (nI r) (mkH ρ) := by
        rw [show e + (p + 1) + 1 = (e + p + 1) + 1 by omega]
        rfl
      rw [hx]
      generalize xX9_behindUnit_L23 (e + p + 1) = nl
      have g38 : sI (setI ρ 78 38 (nI (d0 + p))) 78 38 = nI (d0 + p) := sI_eq
      have g37 : sI (setI ρ 78 38 (nI (d0 + p))) 78 37 = nI (wi + cntN K d0 (p + 1)) := by rw [sI_ne (by omega)]; exact q6
      have g101 : sF (setI ρ 78 38 (nI (d0 + p))) 101 (d0 + p) = nI (K (d0 + p)) := s1
      have g36 : sI (setI ρ 78 38 (nI (d0 + p))) 78 36 = nI (560 * rb + len) := by rw [sI_ne (by omega)]; exact q4
      have gF : FG fe pT fj ρ (setI ρ 78 38 (nI (d0 + p))) := FG_I ⟨rfl, by omega, by omega⟩
      have gN : sN (setI ρ 78 38 (nI (d0 + p))) = sN ρ := rfl
      have hbody : xX9_behindUnit_B23 nl 78 (nI r) (mkH ρ) = if nI (K (d0 + p)) = (3 : Int32) then ((z_gI (mkH (setI ρ 78 38 (nI (d0 + p)))) 78 9 37).bind fun x79 => ((z_sF (mkH (setI ρ 78 38 (nI (d0 + p)))) 78 9 37 (.int (x79 - (1 : Int32)))).bind fun h84 => xX9_behindUnit_B87 nl 78 (nI r) h84)) else xX9_behindUnit_B87 nl 78 (nI r) (mkH (setI ρ 78 38 (nI (d0 + p)))) := by
        unfold xX9_behindUnit_B23
        rw [rR_78_31, Option.bind_some, rI_78_38, Option.bind_some, q5', nI_d, ra_101 ρ (show d0 + p < 90 by omega), Option.bind_some, s1, if_neg (show ¬ (6 : Int32) < nI (K (d0 + p)) from fun z => by rw [nl_6] at z; have := (nI_ltI (by omega) (by omega)).mp z; omega), Option.bind_some, Option.bind_some, nI_d, ra_101 ρ (show d0 + p < 90 by omega), Option.bind_some, s1, if_neg (fun z => by have := (nI_ltI (by omega) (by omega)).mp z; omega), Option.bind_some, nI_d, wI_78_38, Option.bind_some, rR_78_31, Option.bind_some, rI_78_38, Option.bind_some, g38, ra_101 _ (show d0 + p < 90 by omega), Option.bind_some, g101]
      rw [hbody]
      generalize setI ρ 78 38 (nI (d0 + p)) = ρ0 at *
      by_cases h3 : K (d0 + p) = 3
      · have e3 : wi + cntN K d0 (p + 1) = wi + cntN K d0 p + 1 := by
          show wi + (cntN K d0 p + (if K (d0 + p) = 3 then 1 else 0)) = _
          rw [if_pos h3]
          omega
        refine ⟨setI ρ0 78 37 (nI (wi + cntN K d0 p)), ?_, by rw [sI_ne (by omega)]; exact g38, sI_eq, FG_t gF (FG_I ⟨rfl, by omega, by omega⟩), gN, by rw [sI_ne (by omega)]; exact g36⟩
        rw [if_pos (show nI (K (d0 + p)) = (3 : Int32) from by rw [h3]; rfl), rI_78_37, Option.bind_some, g37, e3, nI_d, wI_78_37, Option.bind_some]
      · have e3 : wi + cntN K d0 (p + 1) = wi + cntN K d0 p := by
          show wi + (cntN K d0 p + (if K (d0 + p) = 3 then 1 else 0)) = _
          rw [if_neg h3]
          omega
        refine ⟨ρ0, ?_, g38, by rw [g37, e3], gF, gN, g36⟩
        rw [if_neg (show ¬ nI (K (d0 + p)) = (3 : Int32) from nq (b := 3) (by omega) (by omega) h3)]
    obtain ⟨ρ1, t1, t2, t3, t4, t5, t6⟩ := hstep
    have g102 : sF ρ1 102 (d0 + p) = nI (G (d0 + p)) := by rw [t4.1 102 _ (fun z => z)]; exact s2
    have hem := r_emit (ρ := ρ1) (c := nI (G (d0 + p))) (m := 0) t6 (by omega)
    have F2 : FG (pG rb) pT fj ρ (setI (setF (setF ρ1 99 (560 * rb + len) (nI (G (d0 + p)))) 100 (560 * rb + len) 0) 78 36 (nI (560 * rb + len + 1))) := FG_t (FG_m t4 (fun _ _ z => z.elim) (fun _ _ z => z) (fun _ z => z)) (FG_t (FG_F ⟨Or.inl rfl, by omega, by omega⟩) (FG_t (FG_F ⟨Or.inr rfl, by omega, by omega⟩) (FG_I ⟨rfl, by omega, by omega⟩)))
    have Q2 : RQ (setI (setF (setF ρ1 99 (560 * rb + len) (nI (G (d0 + p)))) 100 (560 * rb + len) 0) 78 36 (nI (560 * rb + len + 1))) rb fo (len + 1) (d0 + p) (wi + cntN K d0 p) un := by
      refine ⟨by rw [F2.2.1 78 35 (by unfold pT; omega)]; exact q1, by rw [F2.1 87 rb (by unfold pG; omega)]; exact q2, by rw [F2.2.1 78 39 (by unfold pT; omega)]; exact q3, sI_eq, by rw [sI_ne (by omega)]; exact t2, by rw [sI_ne (by omega)]; exact t3, fun i hi => ?_⟩
      show cdR (fo i) (sF (setF (setF ρ1 99 (560 * rb + len) (nI (G (d0 + p)))) 100 (560 * rb + len) 0) 99 (560 * rb + i)) (sF (setF (setF ρ1 99 (560 * rb + len) (nI (G (d0 + p)))) 100 (560 * rb + len) 0) 100 (560 * rb + i))
      by_cases hil : i = len
      · subst hil
        rw [sF_ne (by omega), sF_eq, sF_eq]
        exact hc0
      · rw [sF_ne (by omega), sF_ne (by omega), sF_ne (by omega), sF_ne (by omega), t4.1 99 _ (fun z => z), t4.1 100 _ (fun z => z)]
        exact q7 i (by omega)
    have S2 : SK (setI (setF (setF ρ1 99 (560 * rb + len) (nI (G (d0 + p)))) 100 (560 * rb + len) 0) 78 36 (nI (560 * rb + len + 1))) (d0 + p) K G := fun i hi => by
      rw [F2.1 101 i (by unfold pG; omega), F2.1 102 i (by unfold pG; omega)]
      exact S i (by omega)
    have hN2 : sN (setI (setF (setF ρ1 99 (560 * rb + len) (nI (G (d0 + p)))) 100 (560 * rb + len) 0) 78 36 (nI (560 * rb + len + 1))) = sN ρ := t5
    have h87 : xX9_behindUnit_B87 (xX9_behindUnit_L23 (e + p + 1)) 78 (nI r) (mkH ρ1) = xX9_behindUnit_L23 (e + p + 1) 78 (nI r) (mkH (setI (setF (setF ρ1 99 (560 * rb + len) (nI (G (d0 + p)))) 100 (560 * rb + len) 0) 78 36 (nI (560 * rb + len + 1)))) := by
      generalize xX9_behindUnit_L23 (e + p + 1) = nl
      unfold xX9_behindUnit_B87
      rw [rR_78_32, Option.bind_some, rI_78_38, Option.bind_some, t2, ra_102 ρ1 (show d0 + p < 90 by omega), Option.bind_some, g102, is_78, gu_t, hem, Option.bind_some]
    generalize setI (setF (setF ρ1 99 (560 * rb + len) (nI (G (d0 + p)))) 100 (560 * rb + len) 0) 78 36 (nI (560 * rb + len + 1)) = ρ2 at *
    obtain ⟨υ, v1, v2, v3, v4⟩ := ih (len + 1) e ρ2 (by omega) (by omega) Q2 S2 (fun i hi => by
      have := hc (i + 1) (by omega)
      rw [show len + (i + 1) = len + 1 + i by omega, show d0 + (p + 1) - 1 - (i + 1) = d0 + p - 1 - i by omega] at this
      exact this) (fun i hi => hk i (by omega))
    exact ⟨υ, t1.trans (h87.trans v1), by rw [show len + (p + 1) = len + 1 + p by omega]; exact v2, FG_t F2 v3, v4.trans hN2⟩
/-- a comparison lies open on the pile -/
def cmpK (K : Nat → Nat) : Nat → Bool
  | 0 => false
  | d + 1 => if K d = 5 ∨ K d = 6 then cmpK K d else decide (K d = 4)
theorem r_cmp {ρ : ZS} {d : Nat} {K G : Nat → Nat} (h38 : sI ρ 78 38 = nI (d + 1)) (hd : d < 90) (S : SK ρ (d + 1) K G) (h0 : K 0 = 8) : xX9_isCompared 78 (mkH ρ) = some (if cmpK K (d + 1) then 1 else 0, mkH ρ) := by
  have key : ∀ k e, k ≤ d → xX9_isCompared_L7 (e + k + 1) 78 (nI k) (mkH ρ) = some (if cmpK K (k + 1) then 1 else 0, mkH ρ) := by
    intro k
    induction k with
    | zero =>
      intro e hk
      obtain ⟨s1, -⟩ := S 0 (by omega)
      show xX9_isCompared_B7 (xX9_isCompared_L7 (e + 0)) 78 (nI 0) (mkH ρ) = _
      unfold xX9_isCompared_B7 xX9_isCompared_B34
      rw [rR_78_31, Option.bind_some, ra_101 ρ (show 0 < 90 by omega), Option.bind_some, s1, h0, if_neg (show ¬ nI 8 = (5 : Int32) by decide), Option.bind_some, Option.bind_some, ra_101 ρ (show 0 < 90 by omega), s1, h0, Option.bind_some, if_neg (show ¬ nI 8 = (6 : Int32) by decide), Option.bind_some, if_neg (show ¬ nI 8 = (4 : Int32) by decide)]
      have : cmpK K (0 + 1) = false := by
        show (if K 0 = 5 ∨ K 0 = 6 then cmpK K 0 else decide (K 0 = 4)) = false
        rw [h0]
        rfl
      rw [this]
      rfl
    | succ k ih =>
      intro e hk
      obtain ⟨s1, -, s3, s4⟩ := S (k + 1) (by omega)
      have hc : cmpK K (k + 1 + 1) = if K (k + 1) = 5 ∨ K (k + 1) = 6 then cmpK K (k + 1) else decide (K (k + 1) = 4) := rfl
      have em : nI (k + 1) + (-1 : Int32) = nI k := pk_m1 k
      rw [hc, show e + (k + 1) + 1 = (e + k + 1) + 1 by omega]
      have hih := ih e (by omega)
      show xX9_isCompared_B7 (xX9_isCompared_L7 (e + k + 1)) 78 (nI (k + 1)) (mkH ρ) = _
      generalize xX9_isCompared_L7 (e + k + 1) = nl at *
      unfold xX9_isCompared_B7 xX9_isCompared_B34
      rw [rR_78_31, Option.bind_some, ra_101 ρ (show k + 1 < 90 by omega), Option.bind_some, s1]
      by_cases h5 : K (k + 1) = 5
      · rw [if_pos (show nI (K (k + 1)) = (5 : Int32) from by rw [h5]; rfl), if_pos (Or.inl h5), em, hih]
      · rw [if_neg (show ¬ nI (K (k + 1)) = (5 : Int32) from nq (b := 5) (by omega) (by omega) h5), Option.bind_some, Option.bind_some, ra_101 ρ (show k + 1 < 90 by omega), s1, Option.bind_some]
        by_cases h6 : K (k + 1) = 6
        · rw [if_pos (show nI (K (k + 1)) = (6 : Int32) from by rw [h6]; rfl), if_pos (Or.inr h6), em, hih]
        · rw [if_neg (show ¬ nI (K (k + 1)) = (6 : Int32) from nq (b := 6) (by omega) (by omega) h6), if_neg (show ¬ (K (k + 1) = 5 ∨ K (k + 1) = 6) by omega), Option.bind_some]
          by_cases h4 : K (k + 1) = 4
          · rw [if_pos (show nI (K (k + 1)) = (4 : Int32) from by rw [h4]; rfl), decide_eq_true h4]; rfl
          · rw [if_neg (show ¬ nI (K (k + 1)) = (4 : Int32) from nq (b := 4) (by omega) (by omega) h4), decide_eq_false h4]; rfl
  obtain ⟨e, he⟩ := zfu d (by omega)
  have hk := key d e (by omega)
  rw [← he] at hk
  unfold xX9_isCompared
  generalize xX9_isCompared_L7 zFU = nl at *
  rw [rI_78_38, Option.bind_some, h38, nI_d, hk]
