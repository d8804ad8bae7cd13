/-! the reference's unit, taken -/
theorem r_143 {ρ υ : ZS} {a b c : Int32} (hm : xX9_misplaced 78 (mkH ρ) = some (mkH υ)) (hb : ¬ sI υ 78 4 = 0) : xX9_unit_B143 78 a b c (mkH ρ) = some (1, mkH υ) := by
  unfold xX9_unit_B143 xX9_unit_B147
  rw [is_78, gu_t, hm, Option.bind_some, is_78, gu_t, r_bad hb, Option.bind_some]
  dsimp only
  rw [if_pos rfl]
theorem r_147 {ρ : ZS} {nt br : Bool} {c un rb : Nat} (hg : sI ρ 78 4 = 0) (hrb : rb < 2) (q1 : sI ρ 78 35 = nI rb) (q2 : sF ρ 87 rb = nI un) (q3 : sI ρ 78 39 = nI un) (hc : c < 2 ^ 31) : xX9_unit_B147 78 (b2 nt) (b2 br) (nI c) (mkH ρ) = xX9_unit_B208 78 (b2 nt) (b2 br) (nI c) (if c = 0 then sI ρ 78 9 else 0) (mkH (setI (setF ρ 87 rb (nI (un + if nt then 0 else 1))) 78 39 (nI (un + if nt then 0 else 1)))) := by
  have hc0 : nI c = 0 ↔ c = 0 := nI_eq (b := 0) hc (by omega)
  have g39 : sI (setF ρ 87 rb (nI (un + if nt then 0 else 1))) 78 39 = nI un := q3
  have g9 : sI (setI (setF ρ 87 rb (nI (un + if nt then 0 else 1))) 78 39 (nI (un + if nt then 0 else 1))) 78 9 = sI ρ 78 9 := sI_ne (σ := setF ρ 87 rb (nI (un + if nt then 0 else 1))) (by omega)
  have h191 : xX9_unit_B191 78 (b2 nt) (b2 br) (nI c) (if nt then (0 : Int32) else 1) (nI un) 78 (mkH (setF ρ 87 rb (nI (un + if nt then 0 else 1)))) = xX9_unit_B208 78 (b2 nt) (b2 br) (nI c) (if c = 0 then sI ρ 78 9 else 0) (mkH (setI (setF ρ 87 rb (nI (un + if nt then 0 else 1))) 78 39 (nI (un + if nt then 0 else 1)))) := by
    have e1 : nI un + (if nt then (0 : Int32) else 1) = nI (un + if nt then 0 else 1) := by
      cases nt
      · exact nI_s un
      · show nI un + nI 0 = nI (un + 0)
        rw [nI_add]
    unfold xX9_unit_B191
    rw [e1, wI_78_39, Option.bind_some]
    by_cases hz : c = 0
    · rw [if_pos (hc0.mpr hz), if_pos hz, rI_78_9, Option.bind_some, g9]
    · rw [if_neg (fun z => hz (hc0.mp z)), if_neg hz]
  have h175 : ∀ s0 : Int32, s0 = (if nt then (0 : Int32) else 1) → xX9_unit_B175 78 (b2 nt) (b2 br) (nI c) s0 (nI un) (nI rb) 87 (mkH ρ) = xX9_unit_B208 78 (b2 nt) (b2 br) (nI c) (if c = 0 then sI ρ 78 9 else 0) (mkH (setI (setF ρ 87 rb (nI (un + if nt then 0 else 1))) 78 39 (nI (un + if nt then 0 else 1)))) := by
    rintro s0 rfl
    have e1 : nI un + (if nt then (0 : Int32) else 1) = nI (un + if nt then 0 else 1) := by
      cases nt
      · exact nI_s un
      · show nI un + nI 0 = nI (un + 0)
        rw [nI_add]
    unfold xX9_unit_B175
    rw [e1, wa_87 ρ _ hrb, Option.bind_some, rI_78_39, Option.bind_some, g39]
    cases nt
    · rw [if_pos (show b2 false = 0 from rfl)]
      exact h191
    · rw [if_neg (show ¬ b2 true = 0 by decide)]
      exact h191
  unfold xX9_unit_B147
  rw [is_78, gu_t, r_good hg, Option.bind_some]
  dsimp only
  rw [if_neg (show ¬ (1 : Int32) = 0 by decide), rR_78_17, Option.bind_some, rI_78_35, Option.bind_some, q1, ra_87 ρ hrb, Option.bind_some, q2]
  cases nt
  · rw [if_pos (show b2 false = 0 from rfl)]
    exact h175 1 rfl
  · rw [if_neg (show ¬ b2 true = 0 by decide)]
    exact h175 0 rfl
theorem r_208b {ρ υ : ZS} {nt br : Bool} {c x : Int32} {d wi : Nat} (hb : (nt || br) = true) (hg : xX9_goOn 78 (mkH ρ) = some (mkH υ)) (h38 : sI υ 78 38 = nI d) (hd : d < 90) (h37 : sI υ 78 37 = nI wi) : xX9_unit_B208 78 (b2 nt) (b2 br) c x (mkH ρ) = some (1, mkH (setI (setI (setF (setF υ 101 d (nI (if nt then 3 else 7))) 102 d (nI 126)) 78 38 (nI (d + 1))) 78 37 (nI (wi + 1)))) := by
  have h233 : ∀ w : Nat, xX9_unit_B233 78 (nI w) 78 (mkH υ) = some (1, mkH (setI (setI (setF (setF υ 101 d (nI w)) 102 d (nI 126)) 78 38 (nI (d + 1))) 78 37 (nI (wi + 1)))) := by
    intro w
    have g37 : sI (setI (setF (setF υ 101 d (nI w)) 102 d (nI 126)) 78 38 (nI (d + 1))) 78 37 = nI wi := by rw [sI_ne (by omega)]; exact h37
    unfold xX9_unit_B233
    rw [is_78, gu_t, show (126 : Int32) = nI 126 from rfl, r_push h38 hd, Option.bind_some, rI_78_37, Option.bind_some, g37, nI_s, wI_78_37, Option.bind_some]
  have h222 : xX9_unit_B222 78 (b2 nt) (mkH υ) = some (1, mkH (setI (setI (setF (setF υ 101 d (nI (if nt then 3 else 7))) 102 d (nI 126)) 78 38 (nI (d + 1))) 78 37 (nI (wi + 1)))) := by
    unfold xX9_unit_B222
    cases nt
    · rw [if_pos (show b2 false = 0 from rfl)]
      exact h233 7
    · rw [if_neg (show ¬ b2 true = 0 by decide)]
      exact h233 3
  unfold xX9_unit_B208
  rw [is_78, gu_t, hg, Option.bind_some, h222]
  cases nt
  · cases br
    · cases hb
    · rw [if_pos (show b2 false = 0 from rfl), if_neg (show ¬ b2 true = 0 by decide)]
  · rw [if_neg (show ¬ b2 true = 0 by decide)]
theorem r_208u {ρ υ : ZS} {c i : Nat} {x : Int32} (hg : xX9_goOn 78 (mkH ρ) = some (mkH υ)) (h36 : sI υ 78 36 = nI i) (hi : i < 1120) (hc : c < 2 ^ 31) : xX9_unit_B208 78 (b2 false) (b2 false) (nI c) x (mkH ρ) = some (0, mkH (setI (setF (setF υ 99 i (if c = 0 then 110 else nI c)) 100 i x) 78 36 (nI (i + 1)))) := by
  have hc0 : nI c = 0 ↔ c = 0 := nI_eq (b := 0) hc (by omega)
  unfold xX9_unit_B208
  rw [is_78, gu_t, hg, Option.bind_some, if_pos (show b2 false = 0 from rfl), if_pos (show b2 false = 0 from rfl)]
  by_cases hz : c = 0
  · rw [if_pos (hc0.mpr hz), if_pos hz, is_78, gu_t, r_emit h36 hi, Option.bind_some]
  · rw [if_neg (fun z => hz (hc0.mp z)), if_neg hz, is_78, gu_t, r_emit h36 hi, Option.bind_some]
