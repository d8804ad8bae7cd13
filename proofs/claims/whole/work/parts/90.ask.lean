/-! taken, agree, later -/
theorem r_ownN {lo n m : Nat} {σ : ZS} {s : Nat} (V : WF lo n m (sF σ 104)) (hm : m ≤ 30) (hs : s < 6) : xX9_ownedBy 78 (nI s) (mkH σ) = some (nI (ownN (sF σ 104) s), mkH σ) := by
  have oc := WF_own V hs
  rw [r_own hs oc.2 oc.1, (own_n V hm hs).1]
theorem q_taken : QOK (xX8_taken 8) (xX9_taken 78) := by
  refine Q_rd fun σ ⟨bk, P, on, fo, len, X, I⟩ => ?_
  obtain ⟨⟨W, F, E, C, -⟩, -, -, V, L, PR, -⟩ := I
  have hp := (PR.1 0 _ (by omega) (PT_0 σ)).1
  have w0 := W.1
  have w30 := W.2.2.1
  have B := RP_B E.1 W
  obtain ⟨e, he⟩ := zfu (P 0) (by omega)
  have kc := lp (fun e k (a : Int32) => xX8_taken_L4 e 8 a (nI k) (mkH σ)) (fun s a => if onA (sF σ 104) on s then a ||| nI (ownN (sF σ 104) s) else a) (P 0) (fun _ _ => True) (fun a => (a, mkH σ)) ?_ ?_ (P 0) 0 (nI 0) e (by omega) trivial
  · have kr := lp (fun e k (a : Int32) => xX9_taken_L4 e 78 a (nI k) (mkH σ)) (fun s a => if onA (sF σ 104) on s then a ||| nI (ownN (sF σ 104) s) else a) (P 0) (fun _ _ => True) (fun a => (a, mkH σ)) ?_ ?_ (P 0) 0 (nI 0) e (by omega) trivial
    · refine ⟨zf (fun s a => if onA (sF σ 104) on s then a ||| nI (ownN (sF σ 104) s) else a) 0 (P 0) (nI 0), ?_, ?_⟩
      · unfold xX8_taken
        rw [he, ← nI_0]
        exact kc.1
      · unfold xX9_taken
        rw [he, ← nI_0]
        exact kr.1
    · intro e k a hk _
      refine ⟨?_, trivial⟩
      show xX9_taken_B4 (xX9_taken_L4 e) 78 a (nI k) (mkH σ) = _
      simp only [xX9_taken_B4, is_78, gu_t, r_lots B, Option.bind_some]
      rw [if_neg (fun z => by have := (nI_leI (by omega) (by omega)).mp z; omega)]
      simp only [r_on E W hk, Option.bind_some, is_78, gu_t, r_ownN V w30 (show k < 6 by omega), nI_s]
      by_cases ho : onA (sF σ 104) on k = true
      · simp only [if_pos ho, t10, if_false]
      · simp only [if_neg ho, if_true]
    · intro e a _
      show xX9_taken_B4 (xX9_taken_L4 e) 78 a (nI (P 0)) (mkH σ) = _
      simp only [xX9_taken_B4, is_78, gu_t, r_lots B, Option.bind_some]
      rw [if_pos ((nI_leI (by omega) (by omega)).mpr (Nat.le_refl _))]
  · intro e k a hk _
    refine ⟨?_, trivial⟩
    show xX8_taken_B4 (xX8_taken_L4 e) 8 a (nI k) (mkH σ) = _
    simp only [xX8_taken_B4, rR_8_5, rI_21_7, C.1.1, Option.bind_some]
    rw [if_neg (fun z => by have := (nI_leI (by omega) (by omega)).mp z; omega)]
    simp only [rNow, Option.bind_some, is_S hp, gu_t, c_on hp C W L hk, c_ownN hp L V w30 (show k < 6 by omega), nI_s]
    by_cases ho : onA (sF σ 104) on k = true
    · simp only [if_pos ho, t10, if_false]
    · simp only [if_neg ho, if_true]
  · intro e a _
    show xX8_taken_B4 (xX8_taken_L4 e) 8 a (nI (P 0)) (mkH σ) = _
    simp only [xX8_taken_B4, rR_8_5, rI_21_7, C.1.1, Option.bind_some]
    rw [if_pos ((nI_leI (by omega) (by omega)).mpr (Nat.le_refl _))]
theorem c_ag1 {σ : ZS} {P : Nat → Nat} {a b : Int32} (CB' : CB σ (P 0) (P 1)) : xX8_agree 8 a b (mkH σ) = if (0 ≤ a ∧ a < nI (P 0)) ∧ 0 ≤ b ∧ b < nI (P 0) then xX8_agree_L29 zFU 8 a b 0 0 (mkH σ) else some (-1, mkH σ) := by
  unfold xX8_agree
  generalize xX8_agree_L29 zFU = nl
  simp only [rR_8_5, Option.bind_some, is_21, gu_t, c_isShip CB']
  by_cases ha : 0 ≤ a ∧ a < nI (P 0)
  · by_cases hb : 0 ≤ b ∧ b < nI (P 0)
    · simp only [if_pos ha, if_pos hb, t10, if_false]
      rw [if_pos ⟨ha, hb⟩]
    · simp only [if_pos ha, if_neg hb, t10, if_false, if_true]
      rw [if_neg (fun z => hb z.2)]
  · simp only [if_neg ha, if_true]
    rw [if_neg (fun z => ha z.1)]
theorem r_ag1 {σ : ZS} {bk nsh nsl : Nat} {a b : Int32} (B : RB σ bk nsh nsl) : xX9_agree 78 a b (mkH σ) = if (0 ≤ a ∧ a < nI nsh) ∧ 0 ≤ b ∧ b < nI nsh then xX9_agree_L23 zFU 78 a b 0 0 (mkH σ) else some (-1, mkH σ) := by
  unfold xX9_agree
  generalize xX9_agree_L23 zFU = nl
  simp only [is_78, gu_t, r_isShip B, Option.bind_some]
  by_cases ha : 0 ≤ a ∧ a < nI nsh
  · by_cases hb : 0 ≤ b ∧ b < nI nsh
    · simp only [if_pos ha, if_pos hb, t10, if_false]
      rw [if_pos ⟨ha, hb⟩]
    · simp only [if_pos ha, if_neg hb, t10, if_false, if_true]
      rw [if_neg (fun z => hb z.2)]
  · simp only [if_neg ha, if_true]
    rw [if_neg (fun z => ha z.1)]
theorem q_agree (a b : Int32) : QOK (xX8_agree 8 a b) (xX9_agree 78 a b) := by
  refine Q_rd fun σ ⟨bk, P, on, fo, len, X, I⟩ => ?_
  obtain ⟨⟨W, F, E, C, -⟩, -, -, V, L, PR, -⟩ := I
  have hp := (PR.1 0 _ (by omega) (PT_0 σ)).1
  have w0 := W.1
  have w30 := W.2.2.1
  have B := RP_B E.1 W
  rw [c_ag1 (CP_B C.1 W), r_ag1 B]
  by_cases hab : (0 ≤ a ∧ a < nI (P 0)) ∧ 0 ≤ b ∧ b < nI (P 0)
  · rw [if_pos hab, if_pos hab]
    obtain ⟨s, hs, rfl⟩ := in_n (by omega) hab.1
    obtain ⟨o, ho, rfl⟩ := in_n (by omega) hab.2
    have s6 : s < 6 := by omega
    have o6 : o < 6 := by omega
    obtain ⟨e, he⟩ := zfu (P 1) (by omega)
    have kc := lp (fun e k (x : Int32) => xX8_agree_L29 e 8 (nI s) (nI o) x (nI k) (mkH σ)) (fun k x => if sF σ 104 (84 + 30 * s + k) = sF σ 104 (84 + 30 * o + k) then x + 1 else x) (P 1) (fun _ _ => True) (fun x => (x, mkH σ)) ?_ ?_ (P 1) 0 (nI 0) e (by omega) trivial
    · have kr := lp (fun e k (x : Int32) => xX9_agree_L23 e 78 (nI s) (nI o) x (nI k) (mkH σ)) (fun k x => if sF σ 104 (84 + 30 * s + k) = sF σ 104 (84 + 30 * o + k) then x + 1 else x) (P 1) (fun _ _ => True) (fun x => (x, mkH σ)) ?_ ?_ (P 1) 0 (nI 0) e (by omega) trivial
      · refine ⟨zf (fun k x => if sF σ 104 (84 + 30 * s + k) = sF σ 104 (84 + 30 * o + k) then x + 1 else x) 0 (P 1) (nI 0), ?_, ?_⟩
        · rw [he, ← nI_0]
          exact kc.1
        · rw [he, ← nI_0]
          exact kr.1
      · intro e k x hk _
        refine ⟨?_, trivial⟩
        show xX9_agree_B23 (xX9_agree_L23 e) 78 (nI s) (nI o) x (nI k) (mkH σ) = _
        simp only [xX9_agree_B23, is_78, gu_t, r_round B, Option.bind_some]
        rw [if_neg (fun z => by have := (nI_leI (by omega) (by omega)).mp z; omega)]
        simp only [r_holderIn (σ := σ) s6 (show k < 30 by omega), r_holderIn (σ := σ) o6 (show k < 30 by omega), is_78, gu_t, Option.bind_some, nI_s, Int32.add_zero]
        by_cases h : sF σ 104 (84 + 30 * s + k) = sF σ 104 (84 + 30 * o + k)
        · rw [if_pos h, if_pos h]
        · rw [if_neg h, if_neg h]
      · intro e x _
        show xX9_agree_B23 (xX9_agree_L23 e) 78 (nI s) (nI o) x (nI (P 1)) (mkH σ) = _
        simp only [xX9_agree_B23, is_78, gu_t, r_round B, Option.bind_some]
        rw [if_pos ((nI_leI (by omega) (by omega)).mpr (Nat.le_refl _))]
    · intro e k x hk _
      refine ⟨?_, trivial⟩
      show xX8_agree_B29 (xX8_agree_L29 e) 8 (nI s) (nI o) x (nI k) (mkH σ) = _
      simp only [xX8_agree_B29, rR_8_5, rI_21_0, C.1.2.1, Option.bind_some]
      rw [if_neg (fun z => by have := (nI_leI (by omega) (by omega)).mp z; omega)]
      simp only [rNow, Option.bind_some, is_S hp, gu_t, c_holder hp s6 (show k < 30 by omega), c_holder hp o6 (show k < 30 by omega), L.2.2.2 (84 + 30 * s + k) (by omega) (by omega), L.2.2.2 (84 + 30 * o + k) (by omega) (by omega), nI_s]
      by_cases h : sF σ 104 (84 + 30 * s + k) = sF σ 104 (84 + 30 * o + k)
      · rw [if_pos h, if_pos h]
      · rw [if_neg h, if_neg h]
    · intro e x _
      show xX8_agree_B29 (xX8_agree_L29 e) 8 (nI s) (nI o) x (nI (P 1)) (mkH σ) = _
      simp only [xX8_agree_B29, rR_8_5, rI_21_0, C.1.2.1, Option.bind_some]
      rw [if_pos ((nI_leI (by omega) (by omega)).mpr (Nat.le_refl _))]
  · rw [if_neg hab, if_neg hab]
    exact ⟨_, rfl, rfl⟩
theorem q_later (b : Int32) : QOK (xX8_later 8 b) (xX9_later 78 b) := by
  rintro σ ⟨bk, P, on, fo, len, X, I⟩
  obtain ⟨-, ⟨tp, f, ⟨t, ht, t1, t2⟩, l⟩, -⟩ := id I
  have e8 : (xX8_later 8 b (mkH σ)) = if 0 ≤ b ∧ b ≤ 1000 then (if nI t + b ≤ 100000 then some (nI t + b, mkH (setI σ 8 17 (nI t + b))) else some (-1, mkH σ)) else some (-1, mkH σ) := by
    simp only [xX8_later, rI_8_17, Option.bind_some, t1, wI_8_17, sI_eq]
    by_cases h1 : b < 0
    · rw [if_pos h1, if_neg (fun z => absurd z.1 (Int32.not_le.mpr h1))]
    · rw [if_neg h1]
      by_cases h2 : (1000 : Int32) < b
      · rw [if_pos h2, if_neg (fun z => absurd z.2 (Int32.not_le.mpr h2))]
      · rw [if_neg h2, if_pos (show 0 ≤ b ∧ b ≤ 1000 from ⟨Int32.not_lt.mp h1, Int32.not_lt.mp h2⟩)]
  have e9 : ∀ τ, sI τ 78 58 = nI t → (xX9_later 78 b (mkH τ)) = if 0 ≤ b ∧ b ≤ 1000 then (if nI t + b ≤ 100000 then some (nI t + b, mkH (setI τ 78 58 (nI t + b))) else some (-1, mkH τ)) else some (-1, mkH τ) := by
    intro τ h
    simp only [xX9_later, r_isIn, Option.bind_some, rI_78_58, h, wI_78_58, sI_eq]
    by_cases h1 : 0 ≤ b ∧ b ≤ 1000
    · simp only [if_pos h1, t10, if_false]
    · simp only [if_neg h1, if_true]
  by_cases hb : 0 ≤ b ∧ b ≤ 1000
  · by_cases h2 : nI t + b ≤ 100000
    · obtain ⟨n, hn, rfl⟩ := nI_of2 (x := b) (M := 1000) (n := 1000) (by decide) (Int32.not_lt.mpr hb.1) hb.2
      rw [if_pos hb, if_pos h2] at e8
      have r2 : sI (setI σ 8 17 (nI t + nI n)) 78 58 = nI t := by rw [sI_ne (by omega)]; exact t2
      have e9' := e9 _ r2
      rw [if_pos hb, if_pos h2] at e9'
      have hle : t + n ≤ 100000 := by
        rw [nI_add, nl_100000] at h2
        exact (nI_leI (by omega) (by omega)).mp h2
      have o8 : ∀ k, k ≠ 17 → sI (setI (setI σ 8 17 (nI t + nI n)) 78 58 (nI t + nI n)) 8 k = sI σ 8 k := fun k hk => by rw [sI_ne (by omega), sI_ne (by omega)]
      have o78 : ∀ k, k ≠ 58 → sI (setI (setI σ 8 17 (nI t + nI n)) 78 58 (nI t + nI n)) 78 k = sI σ 78 k := fun k hk => by rw [sI_ne (by omega), sI_ne (by omega)]
      refine ⟨_, _, _, e8, e9', ⟨rfl, rfl⟩, bk, P, on, fo, len, X, IV_m (FR_t (FR_I (Or.inl rfl)) (FR_I (Or.inr ⟨rfl, Or.inr (Or.inr (Or.inr (Or.inr rfl)))⟩))) ⟨?_, ?_, ⟨t + n, hle, ?_, ?_⟩, ?_⟩ I⟩
      · rw [o8 1 (by omega), o78 2 (by omega)]; exact tp
      · rw [o8 2 (by omega), o8 3 (by omega), o78 4 (by omega), o78 5 (by omega)]; exact f
      · rw [sI_ne (by omega), sI_eq, nI_add]
      · rw [sI_eq, nI_add]
      · rw [o8 16 (by omega), o78 51 (by omega)]; exact l
    · rw [if_pos hb, if_neg h2] at e8
      have e9' := e9 _ t2
      rw [if_pos hb, if_neg h2] at e9'
      exact ⟨_, _, _, e8, e9', ⟨rfl, rfl⟩, bk, P, on, fo, len, X, I⟩
  · rw [if_neg hb] at e8
    have e9' := e9 _ t2
    rw [if_neg hb] at e9'
    exact ⟨_, _, _, e8, e9', ⟨rfl, rfl⟩, bk, P, on, fo, len, X, I⟩
