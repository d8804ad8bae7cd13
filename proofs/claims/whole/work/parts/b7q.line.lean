/-! a line of the text, in step -/
def rwJ (j : Nat) : Nat := if j ≤ 4 then 82 + j else 83 + j
def LN (rb : Nat) (u : Nat → Nat) (n : Nat) (σ ρ : ZS) (t : ZT) (P : Nat → Nat) (X : Nat → Nat → Nat) (pl ln : Nat → Nat) (fo : Nat → Int32) (len tc tr : Nat) : Prop := LK σ ρ u n t ∧ sI ρ 78 35 = nI rb ∧ PW P ∧ (∀ j, j < 7 → sI σ 11 j = nI (P (j + 1)) ∧ sF ρ (rwJ j) rb = nI (P (j + 1))) ∧ (sI σ 11 7 = nI (P 0) ∧ sF ρ 81 rb = nI (P 0)) ∧ (CQ σ fo len (P 8) ∧ sF ρ 87 rb = nI (P 8)) ∧ (∀ r s, r < 5 → s < P 0 → sF σ (12 + r) s = nI (X r s) ∧ sF ρ (91 + r) (6 * rb + s) = nI (X r s)) ∧ NL (gu0 u n) n pl ln (P 0) ∧ (∀ s, s < P 0 → sF σ 19 s = nI (pl s) ∧ sF σ 20 s = nI (ln s) ∧ sJ ρ (6 * rb + s) = jN (pkW (gu0 u n) (pl s) (ln s))) ∧ (sI σ 10 9 = nI tc ∧ sF ρ 90 rb = nI tr ∧ tc < 256 ∧ tr < 256 ∧ ∀ j, j < 8 → tr.testBit (rbJ j) = tc.testBit j) ∧ WFo fo len ∧ tc.testBit 7 = decide (0 < len) ∧ (len = 0 → P 8 = 0 ∧ sI ρ 78 36 = nI (560 * rb)) ∧ (0 < len → sF ρ 96 rb = nI (560 * rb) ∧ sF ρ 97 rb = nI (560 * rb + len) ∧ ∀ i, i < len → cdR (fo i) (sF ρ 99 (560 * rb + i)) (sF ρ 100 (560 * rb + i)))
def lnG (a _k : Nat) : Prop := 12 ≤ a ∧ a ≤ 20
def lnT (a k : Nat) : Prop := (a = 10 ∧ k ≠ 4) ∨ a = 11
def lnR (rb a k : Nat) : Prop := (81 ≤ a ∧ a ≤ 90 ∧ k = rb) ∨ (91 ≤ a ∧ a ≤ 95 ∧ 6 * rb ≤ k ∧ k < 6 * rb + 6) ∨ ((a = 96 ∨ a = 97) ∧ k = rb) ∨ ((a = 99 ∨ a = 100) ∧ 560 * rb ≤ k ∧ k < 560 * rb + 560) ∨ a = 101 ∨ a = 102
def lnJ (rb j : Nat) : Prop := 6 * rb ≤ j ∧ j < 6 * rb + 6
def LRES (rb : Nat) (u : Nat → Nat) (n : Nat) (σ ρ : ZS) (t : ZT) : Prop := (∃ (τ υ : ZS) (t' : ZT) (P : Nat → Nat) (X : Nat → Nat → Nat) (pl ln : Nat → Nat) (fo : Nat → Int32) (len tc tr : Nat), (xX3_readLine 10 (mkH σ) = some (1, mkH τ) ∧ xX9_readLine 78 (mkH ρ) = some (mkH υ)) ∧ LN rb u n τ υ t' P X pl ln fo len tc tr ∧ t.1 < t'.1 ∧ FG lnG lnT fj σ τ ∧ FG (lnR rb) fT (lnJ rb) ρ υ) ∨ (∃ (τ υ : ZS), (xX3_readLine 10 (mkH σ) = some (0, mkH τ) ∧ xX9_readLine 78 (mkH ρ) = some (mkH υ)) ∧ BAD τ υ ∧ FG lnG lnT fj σ τ ∧ FG (lnR rb) fT (lnJ rb) ρ υ)
theorem rb_i {i j : Nat} (hi : i < 8) (hj : j < 8) : rbJ i < 8 ∧ (rbJ j = rbJ i ↔ j = i) := by
  have h : i = 0 ∨ i = 1 ∨ i = 2 ∨ i = 3 ∨ i = 4 ∨ i = 5 ∨ i = 6 ∨ i = 7 := by omega
  have g : j = 0 ∨ j = 1 ∨ j = 2 ∨ j = 3 ∨ j = 4 ∨ j = 5 ∨ j = 6 ∨ j = 7 := by omega
  rcases h with rfl | rfl | rfl | rfl | rfl | rfl | rfl | rfl <;> rcases g with rfl | rfl | rfl | rfl | rfl | rfl | rfl | rfl <;> decide
theorem bits_or {tc tr j : Nat} (hj : j < 8) (h1 : tc < 256) (h2 : tr < 256) (h : ∀ i, i < 8 → tr.testBit (rbJ i) = tc.testBit i) : tc ||| 2 ^ j < 256 ∧ tr ||| 2 ^ rbJ j < 256 ∧ (∀ i, i < 8 → (tr ||| 2 ^ rbJ j).testBit (rbJ i) = (tc ||| 2 ^ j).testBit i) ∧ (tc ||| 2 ^ j).testBit 7 = (tc.testBit 7 || decide (j = 7)) := by
  refine ⟨or_lt (n := 8) h1 (pow_lt hj), or_lt (n := 8) h2 (pow_lt (rb_i hj hj).1), fun i hi => ?_, ?_⟩
  · rw [Nat.testBit_or, Nat.testBit_or, h i hi, Nat.testBit_two_pow, Nat.testBit_two_pow]
    congr 1
    exact decide_eq_decide.mpr (rb_i hi hj).2
  · rw [Nat.testBit_or, Nat.testBit_two_pow]
/-- the reference's line, refused or gone into -/
theorem rl_no {ρ υ : ZS} (h : sI ρ 78 8 = 3 → xX9_isFull 78 (mkH ρ) = some (1, mkH ρ)) (hm : xX9_misplaced 78 (mkH ρ) = some (mkH υ)) (hb : ¬ sI υ 78 4 = 0) : xX9_readLine 78 (mkH ρ) = some (mkH υ) := by
  have h20 : ∀ c, xX9_readLine_B20 78 c (mkH ρ) = some (mkH υ) := fun c => by
    unfold xX9_readLine_B20
    rw [is_78, gu_t, hm, Option.bind_some]
    unfold xX9_readLine_B24
    rw [is_78, gu_t, r_bad hb, Option.bind_some]
    dsimp only
    rw [if_pos rfl]
  unfold xX9_readLine
  rw [rName, Option.bind_some, rI_78_8, Option.bind_some]
  by_cases h3 : sI ρ 78 8 = (3 : Int32)
  · rw [if_pos h3, is_78, gu_t, h h3, Option.bind_some]
    dsimp only
    rw [if_neg (by decide)]
    exact h20 _
  · rw [if_neg h3]
    exact h20 _
theorem rl_yes {ρ : ZS} (h8 : sI ρ 78 8 = 3) (hf : xX9_isFull 78 (mkH ρ) = some (0, mkH ρ)) : xX9_readLine 78 (mkH ρ) = xX9_readLine_B24 78 (sN ρ) (mkH ρ) := by
  unfold xX9_readLine
  rw [rName, Option.bind_some, rI_78_8, Option.bind_some, if_pos h8, is_78, gu_t, hf, Option.bind_some]
  dsimp only
  rw [if_pos rfl]
theorem wd_tok {σ ρ : ZS} {u : Nat → Nat} {n j : Nat} {t : ZT} (L : LK σ ρ u n t) (h1 : t.2.2.1 = 1) (h2 : t.2.2.2 = j) (hj : j < 19) : sI ρ 78 8 = 3 ∧ sN ρ = jN (kW j) := by
  obtain ⟨l1, l2, l3, l4, l5, l6, l7⟩ := L
  have hk := (TK_b l5).2.1 h1
  constructor
  · rw [l4.2.2.1, h1, h2]
    unfold rtk
    rw [if_neg (by decide), if_pos rfl, if_pos hj]
    rfl
  · rw [l4.2.2.2.1 h1, hk.2.2.2 (by omega), h2]
/-- the class's line -/
theorem cl_no {σ ρ τ : ZS} {u : Nat → Nat} {n : Nat} {t : ZT} (L : LK σ ρ u n t) (h : ¬ (t.2.2.1 = 1 ∧ t.2.2.2 ≤ 8)) (hr : xX3_refuse 10 (mkH σ) = some (0, mkH τ)) : xX3_readLine 10 (mkH σ) = some (0, mkH τ) := by
  obtain ⟨l1, l2, l3, l4, l5, l6, l7⟩ := L
  obtain ⟨hk, hk1, -⟩ := TK_b l5
  unfold xX3_readLine
  rw [rI_10_7, Option.bind_some, l3.2.2.1]
  by_cases h1 : t.2.2.1 = 1
  · have h19 := (hk1 h1).1
    rw [if_pos (show nI t.2.2.1 = (1 : Int32) from by rw [h1]; rfl), rI_10_8, Option.bind_some, l3.2.2.2 (Or.inl h1), if_neg (show ¬ nI t.2.2.2 ≤ (8 : Int32) from fun z => by rw [show (8 : Int32) = nI 8 from rfl] at z; have := (nI_leI (by omega) (by omega)).mp z; omega), is_10, gu_t, hr, Option.bind_some]
    exact zr0
  · rw [if_neg (show ¬ nI t.2.2.1 = (1 : Int32) from nq (b := 1) (by omega) (by omega) h1), is_10, gu_t, hr, Option.bind_some]
    exact zr0
noncomputable def cSh (h : ZH) : Option (Int32 × ZH) := ((xX3_readShip 10 h).bind fun r55 => (if r55.1 = 0 then some ((0 : Int32), r55.2) else (z_gu (z_is r55.2 10 3) ((xX3_takeSign 10 (59 : Int32) r55.2).bind fun r64 => (if r64.1 = 0 then some ((0 : Int32), r64.2) else some ((1 : Int32), r64.2))))))
theorem cl_sh {σ ρ τ : ZS} {u : Nat → Nat} {n ns : Nat} {t : ZT} (L : LK σ ρ u n t) (h1 : t.2.2.1 = 1) (h2 : t.2.2.2 = 8) (h7 : sI σ 11 7 = nI ns) (hns : ns < 6) (ha : xX3_advance 10 (mkH σ) = some (mkH τ)) : xX3_readLine 10 (mkH σ) = cSh (mkH τ) := by
  obtain ⟨l1, l2, l3, l4, l5, l6, l7⟩ := L
  unfold xX3_readLine
  rw [rI_10_7, Option.bind_some, l3.2.2.1, if_pos (show nI t.2.2.1 = (1 : Int32) from by rw [h1]; rfl), rI_10_8, Option.bind_some, l3.2.2.2 (Or.inl h1), h2, if_pos (show nI 8 ≤ (8 : Int32) from by decide), Option.bind_some, if_pos (show nI 8 = (8 : Int32) from rfl), rR_10_0, Option.bind_some, rI_11_7, Option.bind_some, h7, if_pos (show nI ns < (6 : Int32) from by rw [show (6 : Int32) = nI 6 from rfl]; exact nI_lt hns (by omega)), is_10, gu_t, ha, Option.bind_some, is_10, gu_t]
  rfl
theorem cl_s6 {σ ρ τ : ZS} {u : Nat → Nat} {n ns : Nat} {t : ZT} (L : LK σ ρ u n t) (h1 : t.2.2.1 = 1) (h2 : t.2.2.2 = 8) (h7 : sI σ 11 7 = nI ns) (hns : ns = 6) (hr : xX3_refuse 10 (mkH σ) = some (0, mkH τ)) : xX3_readLine 10 (mkH σ) = some (0, mkH τ) := by
  obtain ⟨l1, l2, l3, l4, l5, l6, l7⟩ := L
  unfold xX3_readLine
  rw [rI_10_7, Option.bind_some, l3.2.2.1, if_pos (show nI t.2.2.1 = (1 : Int32) from by rw [h1]; rfl), rI_10_8, Option.bind_some, l3.2.2.2 (Or.inl h1), h2, if_pos (show nI 8 ≤ (8 : Int32) from by decide), Option.bind_some, if_pos (show nI 8 = (8 : Int32) from rfl), rR_10_0, Option.bind_some, rI_11_7, Option.bind_some, h7, hns, if_neg (show ¬ nI 6 < (6 : Int32) from by decide), is_10, gu_t, hr, Option.bind_some]
  exact zr0
theorem cl_w {σ ρ : ZS} {u : Nat → Nat} {n j tc : Nat} {t : ZT} (L : LK σ ρ u n t) (h1 : t.2.2.1 = 1) (h2 : t.2.2.2 = j) (hj : j < 8) (h9 : sI σ 10 9 = nI tc) (htc : tc < 256) : xX3_readLine 10 (mkH σ) = if tc.testBit j = true then (xX3_refuse 10 (mkH σ)).bind fun r89 => z_zr r89.1 r89.2 else (xX3_advance 10 (mkH (setI σ 10 9 (nI (tc ||| 2 ^ j))))).bind fun h106 => (if nI j = (7 : Int32) then (z_gu (z_is h106 10 3) (cRu h106)) else cNm (nI j) h106) := by
  obtain ⟨l1, l2, l3, l4, l5, l6, l7⟩ := L
  have hbb := bitB_n (a := tc) (k := j) (by omega) (by omega)
  have hsb := sb_n (a := tc) (k := j) (by omega)
  unfold bitB at hbb
  unfold sb at hsb
  have hl8 : nI j ≤ (8 : Int32) := by rw [show (8 : Int32) = nI 8 from rfl]; exact (nI_leI (by omega) (by omega)).mpr (by omega)
  unfold xX3_readLine
  rw [rI_10_7, Option.bind_some, l3.2.2.1, if_pos (show nI t.2.2.1 = (1 : Int32) from by rw [h1]; rfl), rI_10_8, Option.bind_some, l3.2.2.2 (Or.inl h1), h2, if_pos hl8, Option.bind_some, if_neg (show ¬ nI j = (8 : Int32) from nq (b := 8) (by omega) (by omega) (by omega)), rI_10_9, Option.bind_some, h9]
  by_cases hb : tc.testBit j = true
  · rw [if_pos hb]
    rw [hb] at hbb
    rw [if_pos (of_decide_eq_true hbb), is_10, gu_t]
  · rw [if_neg hb]
    have hb' : tc.testBit j = false := by simpa using hb
    rw [hb'] at hbb
    rw [if_neg (of_decide_eq_false hbb), Option.bind_some, hsb, wI_10_9, Option.bind_some, is_10, gu_t]
    rfl
