/-! the formula: codes, stack, ranks -/
theorem r_emit {ρ : ZS} {i : Nat} {c m : Int32} (h36 : sI ρ 78 36 = nI i) (hi : i < 1120) : xX9_emit 78 c m (mkH ρ) = some (mkH (setI (setF (setF ρ 99 i c) 100 i m) 78 36 (nI (i + 1)))) := by
  have g1 : sI (setF ρ 99 i c) 78 36 = nI i := h36
  have g2 : sI (setF (setF ρ 99 i c) 100 i m) 78 36 = nI i := h36
  unfold xX9_emit
  rw [rR_78_29, Option.bind_some, rI_78_36, Option.bind_some, h36, wa_99 ρ _ hi, Option.bind_some, rR_78_30, Option.bind_some, rI_78_36, Option.bind_some, g1, wa_100 _ _ hi, Option.bind_some, rI_78_36, Option.bind_some, g2, nI_s, wI_78_36, Option.bind_some]
theorem r_push {ρ : ZS} {d : Nat} {w s : Int32} (h38 : sI ρ 78 38 = nI d) (hd : d < 90) : xX9_pushE 78 w s (mkH ρ) = some (mkH (setI (setF (setF ρ 101 d w) 102 d s) 78 38 (nI (d + 1)))) := by
  have g1 : sI (setF ρ 101 d w) 78 38 = nI d := h38
  have g2 : sI (setF (setF ρ 101 d w) 102 d s) 78 38 = nI d := h38
  unfold xX9_pushE
  rw [rR_78_31, Option.bind_some, rI_78_38, Option.bind_some, h38, wa_101 ρ _ hd, Option.bind_some, rR_78_32, Option.bind_some, rI_78_38, Option.bind_some, g1, wa_102 _ _ hd, Option.bind_some, rI_78_38, Option.bind_some, g2, nI_s, wI_78_38, Option.bind_some]
theorem c_addF {σ : ZS} {len : Nat} {c : Int32} (h : sI σ 11 15 = nI len) (hl : len < 280) : xX2_addToFormula 11 c (mkH σ) = some (mkH (setI (setF σ 17 len c) 11 15 (nI (len + 1)))) := by
  have g1 : sI (setF σ 17 len c) 11 15 = nI len := h
  unfold xX2_addToFormula
  rw [rI_11_15, h, Option.bind_some, if_pos (show nI len < (280 : Int32) from by rw [nl_280]; exact nI_lt hl (by omega)), rR_11_14, Option.bind_some, Option.bind_some, wa_17 σ _ hl, Option.bind_some, rI_11_15, Option.bind_some, g1, nI_s, wI_11_15, Option.bind_some]
def opr (l : Nat) : Nat := if l = 0 then 1 else if l = 1 then 2 else l + 2
def sgR (x : Nat) : Nat := if x = 60 ∨ x = 62 ∨ x = 61 then 4 else if x = 43 ∨ x = 45 then 5 else if x = 42 ∨ x = 47 ∨ x = 37 then 6 else 0
def sgC (x : Nat) : Int32 := if x = 60 then -4 else if x = 62 then -5 else if x = 61 then -6 else if x = 43 then -7 else if x = 45 then -8 else if x = 42 then -9 else if x = 47 then -10 else if x = 37 then -11 else 0
def rkT (t : ZT) : Nat := if wB t 13 then 2 else if wB t 12 then 1 else if t.2.2.1 = 3 then sgR t.2.2.2 else 0
def opC (t : ZT) : Int32 := if wB t 13 then -2 else if wB t 12 then -1 else sgC t.2.2.2
def opS (t : ZT) : Nat := if wB t 13 then 38 else if wB t 12 then 124 else t.2.2.2
theorem isG_c {x : Nat} (h : isG x = true) : x = 59 ∨ x = 40 ∨ x = 41 ∨ x = 60 ∨ x = 62 ∨ x = 61 ∨ x = 43 ∨ x = 45 ∨ x = 42 ∨ x = 47 ∨ x = 37 := of_decide_eq_true h
theorem wB_y {t : ZT} {w : Nat} (h : wB t w = true) : t.2.2.1 = 1 ∧ t.2.2.2 = w := of_decide_eq_true h
theorem wB_z {t : ZT} {w : Nat} (h1 : t.2.2.1 = 1) (h2 : t.2.2.2 = w) : wB t w = true := decide_eq_true ⟨h1, h2⟩
theorem wB_k {t : ZT} {w : Nat} (h : ¬ t.2.2.1 = 1) : ¬ wB t w = true := fun z => h (wB_y z).1
theorem sB_y {t : ZT} {w : Nat} (h : sB t w = true) : t.2.2.1 = 3 ∧ t.2.2.2 = w := of_decide_eq_true h
theorem sB_z {t : ZT} {w : Nat} (h1 : t.2.2.1 = 3) (h2 : t.2.2.2 = w) : sB t w = true := decide_eq_true ⟨h1, h2⟩
theorem sgR_b {x : Nat} : sgR x = 0 ∨ sgR x = 4 ∨ sgR x = 5 ∨ sgR x = 6 := by
  unfold sgR
  repeat' split
  all_goals simp
theorem rkT_b (t : ZT) : rkT t = 0 ∨ rkT t = 1 ∨ rkT t = 2 ∨ rkT t = 4 ∨ rkT t = 5 ∨ rkT t = 6 := by
  have := sgR_b (x := t.2.2.2)
  unfold rkT
  repeat' split
  all_goals omega
/-- a sign between two parts: the code, and what the reference writes for it -/
theorem op_R {v : Nat → Nat} {n : Nat} {t : ZT} (K : TK v n t) (h : rkT t ≠ 0) : cdR (opC t) (nI (opS t)) 0 ∧ ¬ opC t = 0 ∧ kd (opC t) = 2 ∧ t.2.2.1 ≠ 0 := by
  unfold rkT at h
  unfold opC opS
  by_cases h13 : wB t 13 = true
  · rw [if_pos h13, if_pos h13]
    exact ⟨by unfold cdR; simp [nI], by decide, by decide, by have := (wB_y h13).1; omega⟩
  · rw [if_neg h13] at h ⊢
    rw [if_neg h13]
    by_cases h12 : wB t 12 = true
    · rw [if_pos h12, if_pos h12]
      exact ⟨by unfold cdR; simp [nI], by decide, by decide, by have := (wB_y h12).1; omega⟩
    · rw [if_neg h12] at h ⊢
      rw [if_neg h12]
      by_cases h3 : t.2.2.1 = 3
      · rw [if_pos h3] at h
        have hg := isG_c ((TK_b K).2.2.2.1 h3).2
        generalize t.2.2.2 = x at *
        refine ⟨?_, ?_, ?_, by omega⟩
        · rcases hg with rfl | rfl | rfl | rfl | rfl | rfl | rfl | rfl | rfl | rfl | rfl
          · exact absurd rfl h
          · exact absurd rfl h
          · exact absurd rfl h
          all_goals (unfold cdR; simp [sgC, nI]; try decide)
        · rcases hg with rfl | rfl | rfl | rfl | rfl | rfl | rfl | rfl | rfl | rfl | rfl
          · exact absurd rfl h
          · exact absurd rfl h
          · exact absurd rfl h
          all_goals decide
        · rcases hg with rfl | rfl | rfl | rfl | rfl | rfl | rfl | rfl | rfl | rfl | rfl
          · exact absurd rfl h
          · exact absurd rfl h
          · exact absurd rfl h
          all_goals decide
      · rw [if_neg h3] at h
        exact absurd rfl h
theorem c_code {σ ρ : ZS} {u : Nat → Nat} {n l : Nat} {t : ZT} (L : LK σ ρ u n t) (hl : l ≤ 4) : xX3_codeBetween 10 (nI l) (mkH σ) = some (if rkT t = opr l then opC t else 0, mkH σ) := by
  have L0 := L
  obtain ⟨l1, l2, l3, l4, l5, l6, l7⟩ := L
  obtain ⟨hk, -, -, hk3, -⟩ := TK_b l5
  have hb := sgR_b (x := t.2.2.2)
  unfold xX3_codeBetween
  by_cases h0 : l = 0
  · subst h0
    rw [if_pos (show nI 0 = (0 : Int32) from rfl), is_10, gu_t, nl_12, c_isW L0 (by omega), Option.bind_some]
    dsimp only
    by_cases h12 : wB t 12 = true
    · have h13 : ¬ wB t 13 = true := fun z => by have := (wB_y z).2; have := (wB_y h12).2; omega
      rw [if_pos h12, if_neg (show ¬ (1 : Int32) = 0 by decide), if_pos (by unfold rkT opr; rw [if_neg h13, if_pos h12, if_pos rfl])]
      unfold opC
      rw [if_neg h13, if_pos h12]
    · rw [if_neg h12, if_pos rfl, if_neg (fun z => by
        unfold rkT opr at z
        rw [if_neg h12, if_pos rfl] at z
        by_cases h13 : wB t 13 = true
        · rw [if_pos h13] at z; omega
        · rw [if_neg h13] at z
          by_cases h3 : t.2.2.1 = 3
          · rw [if_pos h3] at z; omega
          · rw [if_neg h3] at z; omega)]
  · rw [if_neg (show ¬ nI l = (0 : Int32) from nq (b := 0) (by omega) (by omega) h0)]
    by_cases h1 : l = 1
    · subst h1
      rw [if_pos (show nI 1 = (1 : Int32) from rfl), is_10, gu_t, nl_13, c_isW L0 (by omega), Option.bind_some]
      dsimp only
      by_cases h13 : wB t 13 = true
      · rw [if_pos h13, if_neg (show ¬ (1 : Int32) = 0 by decide), if_pos (by unfold rkT opr; rw [if_pos h13, if_neg (by omega), if_pos rfl])]
        unfold opC
        rw [if_pos h13]
      · rw [if_neg h13, if_pos rfl, if_neg (fun z => by
          replace z : rkT t = 2 := z
          unfold rkT at z
          rw [if_neg h13] at z
          by_cases h12 : wB t 12 = true
          · rw [if_pos h12] at z; omega
          · rw [if_neg h12] at z
            by_cases h3 : t.2.2.1 = 3
            · rw [if_pos h3] at z; omega
            · rw [if_neg h3] at z; omega)]
    · rw [if_neg (show ¬ nI l = (1 : Int32) from nq (b := 1) (by omega) (by omega) h1), rI_10_7, Option.bind_some, l3.2.2.1]
      by_cases h3 : t.2.2.1 = 3
      · have hr : rkT t = sgR t.2.2.2 := by
          unfold rkT
          rw [if_neg (wB_k (by omega)), if_neg (wB_k (by omega)), if_pos h3]
        have hc : opC t = sgC t.2.2.2 := by
          unfold opC
          rw [if_neg (wB_k (by omega)), if_neg (wB_k (by omega))]
        rw [if_pos (show nI t.2.2.1 = (3 : Int32) from by rw [h3]; rfl), rI_10_8, Option.bind_some, l3.2.2.2 (Or.inr (Or.inr h3)), hr, hc]
        have hg := isG_c (hk3 h3).2
        generalize t.2.2.2 = x at *
        have hl3 : l = 2 ∨ l = 3 ∨ l = 4 := by omega
        generalize mkH σ = hh
        rcases hl3 with rfl | rfl | rfl
        all_goals (rcases hg with rfl | rfl | rfl | rfl | rfl | rfl | rfl | rfl | rfl | rfl | rfl)
        all_goals rfl
      · rw [if_neg (show ¬ nI t.2.2.1 = (3 : Int32) from nq (b := 3) (by omega) (by omega) h3), if_neg (fun z => by
          unfold rkT opr at z
          rw [if_neg h0, if_neg h1, if_neg h3] at z
          by_cases h13 : wB t 13 = true
          · rw [if_pos h13] at z; omega
          · rw [if_neg h13] at z
            by_cases h12 : wB t 12 = true
            · rw [if_pos h12] at z; omega
            · rw [if_neg h12] at z; omega)]
theorem r_rank {σ ρ : ZS} {u : Nat → Nat} {n : Nat} {t : ZT} (L : LK σ ρ u n t) : xX9_rankHere 78 (mkH ρ) = some (nI (rkT t), mkH ρ) := by
  unfold xX9_rankHere
  rw [is_78, gu_t, r_isW L (w := 13) (by omega) (by decide +kernel), Option.bind_some]
  dsimp only
  by_cases h13 : wB t 13 = true
  · rw [if_pos h13, if_neg (show ¬ (1 : Int32) = 0 by decide)]
    unfold rkT
    rw [if_pos h13]
    rfl
  rw [if_neg h13, if_pos rfl]
  rw [is_78, gu_t, r_isW L (w := 12) (by omega) (by decide +kernel), Option.bind_some]
  dsimp only
  by_cases h12 : wB t 12 = true
  · rw [if_pos h12, if_neg (show ¬ (1 : Int32) = 0 by decide)]
    unfold rkT
    rw [if_neg h13, if_pos h12]
    rfl
  rw [if_neg h12, if_pos rfl]
  rw [is_78, gu_t, show (60 : Int32) = nI 60 from rfl, r_isSg L (w := 60) (by omega), Option.bind_some]
  dsimp only
  by_cases h60 : sB t 60 = true
  · rw [if_pos h60, if_neg (show ¬ (1 : Int32) = 0 by decide)]
    unfold rkT
    rw [if_neg h13, if_neg h12, if_pos (sB_y h60).1, (sB_y h60).2]
    rfl
  rw [if_neg h60, if_pos rfl]
  rw [is_78, gu_t, show (62 : Int32) = nI 62 from rfl, r_isSg L (w := 62) (by omega), Option.bind_some]
  dsimp only
  by_cases h62 : sB t 62 = true
  · rw [if_pos h62, if_neg (show ¬ (1 : Int32) = 0 by decide)]
    unfold rkT
    rw [if_neg h13, if_neg h12, if_pos (sB_y h62).1, (sB_y h62).2]
    rfl
  rw [if_neg h62, if_pos rfl]
  rw [is_78, gu_t, show (61 : Int32) = nI 61 from rfl, r_isSg L (w := 61) (by omega), Option.bind_some]
  dsimp only
  by_cases h61 : sB t 61 = true
  · rw [if_pos h61, if_neg (show ¬ (1 : Int32) = 0 by decide)]
    unfold rkT
    rw [if_neg h13, if_neg h12, if_pos (sB_y h61).1, (sB_y h61).2]
    rfl
  rw [if_neg h61, if_pos rfl]
  rw [is_78, gu_t, show (43 : Int32) = nI 43 from rfl, r_isSg L (w := 43) (by omega), Option.bind_some]
  dsimp only
  by_cases h43 : sB t 43 = true
  · rw [if_pos h43, if_neg (show ¬ (1 : Int32) = 0 by decide)]
    unfold rkT
    rw [if_neg h13, if_neg h12, if_pos (sB_y h43).1, (sB_y h43).2]
    rfl
  rw [if_neg h43, if_pos rfl]
  rw [is_78, gu_t, show (45 : Int32) = nI 45 from rfl, r_isSg L (w := 45) (by omega), Option.bind_some]
  dsimp only
  by_cases h45 : sB t 45 = true
  · rw [if_pos h45, if_neg (show ¬ (1 : Int32) = 0 by decide)]
    unfold rkT
    rw [if_neg h13, if_neg h12, if_pos (sB_y h45).1, (sB_y h45).2]
    rfl
  rw [if_neg h45, if_pos rfl]
  rw [is_78, gu_t, show (42 : Int32) = nI 42 from rfl, r_isSg L (w := 42) (by omega), Option.bind_some]
  dsimp only
  by_cases h42 : sB t 42 = true
  · rw [if_pos h42, if_neg (show ¬ (1 : Int32) = 0 by decide)]
    unfold rkT
    rw [if_neg h13, if_neg h12, if_pos (sB_y h42).1, (sB_y h42).2]
    rfl
  rw [if_neg h42, if_pos rfl]
  rw [is_78, gu_t, show (47 : Int32) = nI 47 from rfl, r_isSg L (w := 47) (by omega), Option.bind_some]
  dsimp only
  by_cases h47 : sB t 47 = true
  · rw [if_pos h47, if_neg (show ¬ (1 : Int32) = 0 by decide)]
    unfold rkT
    rw [if_neg h13, if_neg h12, if_pos (sB_y h47).1, (sB_y h47).2]
    rfl
  rw [if_neg h47, if_pos rfl]
  rw [is_78, gu_t, show (37 : Int32) = nI 37 from rfl, r_isSg L (w := 37) (by omega), Option.bind_some]
  dsimp only
  by_cases h37 : sB t 37 = true
  · rw [if_pos h37, if_neg (show ¬ (1 : Int32) = 0 by decide)]
    unfold rkT
    rw [if_neg h13, if_neg h12, if_pos (sB_y h37).1, (sB_y h37).2]
    rfl
  rw [if_neg h37, if_pos rfl]
  unfold rkT
  rw [if_neg h13, if_neg h12]
  by_cases h3 : t.2.2.1 = 3
  · rw [if_pos h3]
    have e : sgR t.2.2.2 = 0 := by
      unfold sgR
      rw [if_neg (fun z => by rcases z with z | z | z; exact h60 (sB_z h3 z); exact h62 (sB_z h3 z); exact h61 (sB_z h3 z)), if_neg (fun z => by rcases z with z | z; exact h43 (sB_z h3 z); exact h45 (sB_z h3 z)), if_neg (fun z => by rcases z with z | z | z; exact h42 (sB_z h3 z); exact h47 (sB_z h3 z); exact h37 (sB_z h3 z))]
    rw [e]
    rfl
  · rw [if_neg h3]
    rfl
def whT (t : ZT) : Nat := if wB t 15 then 115 else if wB t 16 then 101 else if wB t 17 then 117 else if wB t 18 then 102 else 0
theorem r_whT {σ ρ : ZS} {u : Nat → Nat} {n : Nat} {t : ZT} (L : LK σ ρ u n t) : xX9_wordHere 78 (mkH ρ) = some (nI (whT t), mkH ρ) := by
  unfold xX9_wordHere whT
  rw [is_78, gu_t, r_isW L (w := 15) (by omega) (by decide +kernel), Option.bind_some]
  dsimp only
  by_cases h15 : wB t 15 = true
  · rw [if_pos h15, if_neg (show ¬ (1 : Int32) = 0 by decide), if_pos h15]
    rfl
  rw [if_neg h15, if_pos rfl, if_neg h15]
  rw [is_78, gu_t, r_isW L (w := 16) (by omega) (by decide +kernel), Option.bind_some]
  dsimp only
  by_cases h16 : wB t 16 = true
  · rw [if_pos h16, if_neg (show ¬ (1 : Int32) = 0 by decide), if_pos h16]
    rfl
  rw [if_neg h16, if_pos rfl, if_neg h16]
  rw [is_78, gu_t, r_isW L (w := 17) (by omega) (by decide +kernel), Option.bind_some]
  dsimp only
  by_cases h17 : wB t 17 = true
  · rw [if_pos h17, if_neg (show ¬ (1 : Int32) = 0 by decide), if_pos h17]
    rfl
  rw [if_neg h17, if_pos rfl, if_neg h17]
  rw [is_78, gu_t, r_isW L (w := 18) (by omega) (by decide +kernel), Option.bind_some]
  dsimp only
  by_cases h18 : wB t 18 = true
  · rw [if_pos h18, if_neg (show ¬ (1 : Int32) = 0 by decide), if_pos h18]
    rfl
  rw [if_neg h18, if_pos rfl, if_neg h18]
  rfl
