/-! the reference's unit -/
def b2 (b : Bool) : Int32 := if b then 1 else 0
def ntB (k : Nat) (t : ZT) : Bool := decide (k ≤ 3 ∨ 7 ≤ k) && wB t 14
def rfu (k : Nat) (t : ZT) (un wi : Nat) : Bool := (!ntB k t && ((decide (whT t = 0) && !decide (t.2.2.1 = 2) && !sB t 40) || decide (un = 30))) || ((ntB k t || sB t 40) && decide (wi = 7))
theorem whT_b (t : ZT) : whT t ≤ 117 := by
  unfold whT
  repeat' split
  all_goals omega
theorem r_98 {ρ : ZS} {nt br fu k2 : Bool} {c wi : Nat} (h8 : (sI ρ 78 8 = 4) = (k2 = true)) (h37 : sI ρ 78 37 = nI wi) (hwi : wi ≤ 7) (hc : c < 2 ^ 31) : xX9_unit_B98 78 (b2 nt) (b2 br) (nI c) (b2 fu) (mkH ρ) = if ((!nt && ((decide (c = 0) && !k2 && !br) || fu)) || ((nt || br) && decide (wi = 7))) = true then xX9_unit_B143 78 (b2 nt) (b2 br) (nI c) (mkH ρ) else xX9_unit_B147 78 (b2 nt) (b2 br) (nI c) (mkH ρ) := by
  have hc0 : (nI c = 0) = (c = 0) := nI_eq' (b := 0) hc (by omega)
  have hw7 : (nI wi = 7) = (wi = 7) := nI_eq' (b := 7) (by omega) (by omega)
  have t10 : ((1 : Int32) = 0) = False := by simp
  have t00 : ((0 : Int32) = 0) = True := by simp
  unfold xX9_unit_B98 xX9_unit_B121 xX9_unit_B126 xX9_unit_B134
  generalize xX9_unit_B143 = f
  generalize xX9_unit_B147 = g
  simp only [rI_78_8, rI_78_37, h37, Option.bind_some, h8, hc0, hw7]
  cases nt <;> cases br <;> cases fu <;> cases k2 <;> by_cases hz : c = 0 <;> by_cases hw : wi = 7 <;> simp [b2, hz, hw]
theorem r_uni {σ ρ : ZS} {u : Nat → Nat} {n rb d wi un len : Nat} {t : ZT} {K G : Nat → Nat} {fo : Nat → Int32} (L : LK σ ρ u n t) (hrb : rb < 2) (Q : RQ ρ rb fo len (d + 1) wi un) (S : SK ρ (d + 1) K G) (hd : d < 90) (hun : un ≤ 30) (hwi : wi ≤ 7) : xX9_unit 78 (mkH ρ) = if rfu (K d) t un wi = true then xX9_unit_B143 78 (b2 (ntB (K d) t)) (b2 (sB t 40)) (nI (whT t)) (mkH ρ) else xX9_unit_B147 78 (b2 (ntB (K d) t)) (b2 (sB t 40)) (nI (whT t)) (mkH ρ) := by
  obtain ⟨q1, q2, q3, q4, q5, q6, q7⟩ := Q
  obtain ⟨s1, -, s3, s4⟩ := S d (by omega)
  have L0 := L
  obtain ⟨l1, l2, l3, l4, l5, l6, l7⟩ := L
  obtain ⟨hk, -⟩ := TK_b l5
  have hb := rtk_b (k := t.2.2.1) (v := t.2.2.2)
  have hi4 := (rtk_i (v := t.2.2.2) hk).2.2.1
  have hw := whT_b t
  have h36 : ∀ b : Bool, xX9_unit_B36 78 (b2 b) (mkH ρ) = xX9_unit_B56 78 (b2 (b && wB t 14)) (mkH ρ) := by
    intro b
    unfold xX9_unit_B36 xX9_unit_B55
    cases b
    · rw [if_pos (show b2 false = 0 from rfl)]
      rfl
    · rw [if_neg (show ¬ b2 true = 0 by decide), is_78, gu_t, r_isW L0 (w := 14) (by omega) (by decide +kernel), Option.bind_some]
      dsimp only
      by_cases h14 : wB t 14 = true
      · rw [if_pos h14, if_neg (show ¬ (1 : Int32) = 0 by decide), h14]
        rfl
      · rw [if_neg h14, if_pos rfl, show wB t 14 = false by simpa using h14]
        rfl
  have h1 : xX9_unit 78 (mkH ρ) = xX9_unit_B56 78 (b2 (ntB (K d) t)) (mkH ρ) := by
    unfold xX9_unit xX9_unit_B31 ntB
    rw [rR_78_31, Option.bind_some, rI_78_38, Option.bind_some, q5, nI_d, ra_101 ρ hd, Option.bind_some, s1]
    by_cases h3 : K d ≤ 3
    · rw [if_pos (show nI (K d) ≤ (3 : Int32) from by rw [nl_3]; exact nI_le h3 (by omega)), decide_eq_true (Or.inl h3)]
      exact h36 true
    · rw [if_neg (show ¬ nI (K d) ≤ (3 : Int32) from fun z => by rw [nl_3] at z; exact h3 ((nI_leI (by omega) (by omega)).mp z)), Option.bind_some, Option.bind_some, nI_d, ra_101 ρ hd, Option.bind_some, s1]
      by_cases h7 : K d < 7
      · rw [if_pos (show nI (K d) < (7 : Int32) from by rw [nl_7]; exact nI_lt h7 (by omega)), decide_eq_false (show ¬ (K d ≤ 3 ∨ 7 ≤ K d) by omega)]
        exact h36 false
      · rw [if_neg (show ¬ nI (K d) < (7 : Int32) from fun z => by rw [nl_7] at z; exact h7 ((nI_ltI (by omega) (by omega)).mp z)), decide_eq_true (show K d ≤ 3 ∨ 7 ≤ K d by omega)]
        exact h36 true
  have h8 : (sI ρ 78 8 = 4) = (decide (t.2.2.1 = 2) = true) := by
    rw [l4.2.2.1]
    have e1 : (nI (rtk t.2.2.1 t.2.2.2) = (4 : Int32)) = (rtk t.2.2.1 t.2.2.2 = 4) := nI_eq' (b := 4) (by omega) (by omega)
    rw [e1, propext hi4]
    simp
  rw [h1]
  unfold xX9_unit_B56 xX9_unit_B93 rfu
  rw [is_78, gu_t, show (40 : Int32) = nI 40 from rfl, r_isSg L0 (w := 40) (by omega), Option.bind_some]
  dsimp only
  rw [is_78, gu_t, r_whT L0, Option.bind_some]
  dsimp only
  rw [rR_78_17, Option.bind_some, rI_78_35, Option.bind_some, q1, ra_87 ρ hrb, Option.bind_some, q2, if_neg (show ¬ nI un = (60 : Int32) from nq (b := 60) (by omega) (by omega) (by omega)), rI_78_39, Option.bind_some, q3]
  by_cases h30 : un = 30
  · rw [if_pos (show nI un = (30 : Int32) from by rw [h30]; rfl), decide_eq_true h30]
    exact r_98 (nt := ntB (K d) t) (br := sB t 40) (fu := true) h8 q6 hwi (by omega)
  · rw [if_neg (show ¬ nI un = (30 : Int32) from nq (b := 30) (by omega) (by omega) h30), decide_eq_false h30]
    exact r_98 (nt := ntB (K d) t) (br := sB t 40) (fu := false) h8 q6 hwi (by omega)
