/-! questions answered alike (reads) -/
theorem FR_X {S : Nat → Prop} {T : Nat → Nat → Prop} {σ τ : ZS} (h : FR S T σ τ) : sX τ = sX σ := by
  show τ.2.2.2.2.2.2.2.2 = _
  rw [h.2.2]
/-- both answer alike, the script stays, and what holds between two calls holds again -/
def QOK (cx rx : ZH → Option (Int32 × ZH)) : Prop := ∀ σ, INV σ → ∃ v τ υ, cx (mkH σ) = some (v, mkH τ) ∧ rx (mkH τ) = some (v, mkH υ) ∧ (sX τ = sX σ ∧ sX υ = sX σ) ∧ INV υ
theorem Q_rd {cx rx : ZH → Option (Int32 × ZH)} (h : ∀ σ, INV σ → ∃ v, cx (mkH σ) = some (v, mkH σ) ∧ rx (mkH σ) = some (v, mkH σ)) : QOK cx rx := by
  intro σ I
  obtain ⟨v, h1, h2⟩ := h σ I
  exact ⟨v, σ, σ, h1, h2, ⟨rfl, rfl⟩, I⟩
theorem t10 : ((1 : Int32) = 0) = False := eq_false (by decide)
theorem in_n {v : Int32} {n : Nat} (hn : n < 2 ^ 31) (h : 0 ≤ v ∧ v < nI n) : ∃ s, s < n ∧ v = nI s := by
  rcases int_in v n hn with h2 | h2
  · exact absurd h h2
  · exact h2
section RDS
variable {σ : ZS} {p n : Nat} {A : Nat → Int32}
theorem e_1 (L : LV n (cV σ p) A) (hn : n ≤ 6) {s : Nat} (hs : s < n) : sF σ (p + 1) s = A s := by
  rw [← (L.1 s hs).1]
  have := cV_1 σ p (i := s) (by omega)
  rw [Nat.zero_add] at this
  exact this.symm
theorem e_2 (L : LV n (cV σ p) A) (hn : n ≤ 6) {s : Nat} (hs : s < n) : sF σ (p + 2) s = A (6 + s) := by
  rw [← (L.1 s hs).2.1]; exact (cV_2 σ p (by omega)).symm
theorem e_3 (L : LV n (cV σ p) A) (hn : n ≤ 6) {s : Nat} (hs : s < n) : sF σ (p + 3) s = A (12 + s) := by
  rw [← (L.1 s hs).2.2.1]; exact (cV_3 σ p (by omega)).symm
theorem e_4 (L : LV n (cV σ p) A) (hn : n ≤ 6) {s : Nat} (hs : s < n) : sF σ (p + 4) s = A (18 + s) := by
  rw [← (L.1 s hs).2.2.2]; exact (cV_4 σ p (by omega)).symm
theorem e_5 (L : LV n (cV σ p) A) {s : Nat} (hs : s < 6) : sF σ (p + 5) s = A (24 + s) := by
  rw [← L.2.1 s hs]; exact (cV_5 σ p hs).symm
theorem e_6 (L : LV n (cV σ p) A) {s i : Nat} (hs : s < 6) (hi : i < 3) (ho : i < tn (A (24 + s))) : sF σ (p + 6) (s * 3 + i) = A (30 + 3 * s + i) ∧ sF σ (p + 7) (s * 3 + i) = A (48 + 3 * s + i) ∧ sF σ (p + 8) (s * 3 + i) = A (66 + 3 * s + i) := by
  obtain ⟨a1, a2, a3⟩ := L.2.2.1 s i hs hi ho
  rw [← a1, ← a2, ← a3, show 30 + 3 * s + i = 30 + (s * 3 + i) by omega, show 48 + 3 * s + i = 48 + (s * 3 + i) by omega, show 66 + 3 * s + i = 66 + (s * 3 + i) by omega, cV_6 σ p (by omega), cV_7 σ p (by omega), cV_8 σ p (by omega)]
  exact ⟨rfl, rfl, rfl⟩
theorem e_9 (L : LV n (cV σ p) A) {s k : Nat} (hs : s < 6) (hk : k < 30) : sF σ (p + 9) (s * 30 + k) = A (84 + 30 * s + k) ∧ sF σ (p + 10) (s * 30 + k) = A (264 + 30 * s + k) := by
  rw [← L.2.2.2 (84 + 30 * s + k) (by omega) (by omega), ← L.2.2.2 (264 + 30 * s + k) (by omega) (by omega), show 84 + 30 * s + k = 84 + (s * 30 + k) by omega, show 264 + 30 * s + k = 264 + (s * 30 + k) by omega, cV_9 σ p (by omega), cV_10 σ p (by omega)]
  exact ⟨rfl, rfl⟩
theorem e_11 (L : LV n (cV σ p) A) {s o : Nat} (hs : s < 6) (ho : o < 6) : sF σ (p + 11) (s * 6 + o) = A (444 + 6 * s + o) ∧ sF σ (p + 12) (s * 6 + o) = A (480 + 6 * s + o) := by
  rw [← L.2.2.2 (444 + 6 * s + o) (by omega) (by omega), ← L.2.2.2 (480 + 6 * s + o) (by omega) (by omega), show 444 + 6 * s + o = 444 + (s * 6 + o) by omega, show 480 + 6 * s + o = 480 + (s * 6 + o) by omega, cV_11 σ p (by omega), cV_12 σ p (by omega)]
  exact ⟨rfl, rfl⟩
theorem e_sc (L : LV n (cV σ p) A) : sI σ p 13 = A 516 ∧ sI σ p 15 = A 517 ∧ sI σ p 16 = A 518 ∧ sI σ p 17 = A 519 ∧ sI σ p 14 = A 520 := by
  rw [← L.2.2.2 516 (by omega) (by omega), ← L.2.2.2 517 (by omega) (by omega), ← L.2.2.2 518 (by omega) (by omega), ← L.2.2.2 519 (by omega) (by omega), ← L.2.2.2 520 (by omega) (by omega)]
  exact ⟨rfl, rfl, rfl, rfl, rfl⟩
end RDS
theorem ite_ex {c : Prop} {x y x' y' : Option (Int32 × ZH)} {h : ZH} (dc : Decidable c) (hx : ∃ v, x = some (v, h) ∧ x' = some (v, h)) (hy : ∃ v, y = some (v, h) ∧ y' = some (v, h)) : ∃ v, (@ite _ c dc x y) = some (v, h) ∧ (@ite _ c dc x' y') = some (v, h) := by
  by_cases hc : c
  · rw [if_pos hc, if_pos hc]; exact hx
  · rw [if_neg hc, if_neg hc]; exact hy
theorem q_fault (w : Int32) : QOK (xX8_fault 8 w) (xX9_fault 78 w) := by
  refine Q_rd fun σ ⟨bk, P, on, fo, len, X, I⟩ => ?_
  obtain ⟨-, ⟨-, ⟨f1, f2⟩, -⟩, -⟩ := I
  simp only [xX8_fault, xX9_fault, rI_8_2, rI_8_3, rI_78_4, rI_78_5, Option.bind_some, f1, f2]
  repeat' apply ite_ex
  all_goals exact ⟨_, rfl, rfl⟩
theorem q_about (w : Int32) : QOK (xX8_about 8 w) (xX9_about 78 w) := by
  refine Q_rd fun σ ⟨bk, P, on, fo, len, X, I⟩ => ?_
  obtain ⟨⟨W, F, E, C, -⟩, ⟨⟨n, -, m1, m2, -⟩, -, ⟨t, -, t1, t2⟩, l, -, l1, l2, -⟩, ⟨c, -, c1, c2, -⟩, V, L, PR, ⟨dn, un, d1, d2, d3, d4, -⟩, -⟩ := I
  have hp := (PR.1 0 _ (by omega) (PT_0 σ)).1
  have B := RP_B E.1 W
  obtain ⟨s1, s2, s3, s4, s5⟩ := e_sc L
  simp only [xX8_about, xX9_about, rR_8_5, rNow, rR_8_11, rR_8_12, rI_8_17, rI_8_1, rI_8_16, Option.bind_some, rI_21_7, rI_21_0, rI_21_1, rI_21_8, rI_21_5, C.1.1, C.1.2.1, C.1.2.2.1, C.1.2.2.2.2.2.2.2.2, C.1.2.2.2.2.2.2.1, rI_S15 hp, rI_S16 hp, rI_S17 hp, rI_S14 hp, rI_S13 hp, s1, s2, s3, s4, s5, rI_66_2, rI_66_3, d1, d2, rI_68_8, c1, t1, m1, l1, is_78, gu_t, r_lots B, r_round B, rR_78_13, rI_78_34, E.1.1, ra_83 σ E.1.2.1, E.1.2.2.2.2.1, rR_78_41, nl_517, nl_518, nl_519, nl_520, nl_516, ra_104 σ (show 517 < 521 by omega), ra_104 σ (show 518 < 521 by omega), ra_104 σ (show 519 < 521 by omega), ra_104 σ (show 520 < 521 by omega), ra_104 σ (show 516 < 521 by omega), rI_78_48, rI_78_49, d3, d4, rI_78_57, c2, rI_78_58, t2, rI_78_2, m2, rR_78_17, ra_87 σ E.1.2.1, E.1.2.2.2.2.2.2.2.2.2.2, rI_78_51, l2, rR_78_18, ra_88 σ E.1.2.1, E.1.2.2.2.2.2.2.2.2.1]
  repeat' apply ite_ex
  all_goals exact ⟨_, rfl, rfl⟩
theorem q_lit : QOK (xX8_lit 8) (xX9_lit 78) := by
  refine Q_rd fun σ ⟨bk, P, on, fo, len, X, I⟩ => ?_
  obtain ⟨⟨W, F, E, C, -⟩, -, -, V, L, PR, -⟩ := I
  have hp := (PR.1 0 _ (by omega) (PT_0 σ)).1
  have w0 := W.1
  have e1 : litS (cV σ (sNow σ)) (sF σ 26) (P 0) = litS (sF σ 104) on (P 0) := by
    unfold litS
    refine zf_c (P 0) (fun s a hs => ?_) _ 0 0 (by omega)
    unfold onA
    rw [C.2.1 s hs, L.2.2.2 516 (by omega) (by omega), L.2.2.2 517 (by omega) (by omega)]
  have e2 : litS (sF σ 104) (fun s => sF σ 95 (6 * bk + s)) (P 0) = litS (sF σ 104) on (P 0) := by
    unfold litS
    refine zf_c (P 0) (fun s a hs => ?_) _ 0 0 (by omega)
    show (if onA (sF σ 104) (fun s => sF σ 95 (6 * bk + s)) s = true then _ else _) = _
    unfold onA
    simp only [E.2.1 s hs]
  simp only [xX8_lit, xX9_lit, rNow, Option.bind_some, is_S hp, gu_t, c_onBits hp (CP_B C.1 W), e1, is_78, r_lit (RP_B E.1 W), e2]
  exact ⟨_, rfl, rfl⟩
theorem q_far (a b : Int32) : QOK (xX8_far 8 a b) (xX9_far 78 a b) := by
  refine Q_rd fun σ ⟨bk, P, on, fo, len, X, I⟩ => ?_
  obtain ⟨⟨W, F, E, C, -⟩, -, -, V, L, PR, -⟩ := I
  have hp := (PR.1 0 _ (by omega) (PT_0 σ)).1
  have w0 := W.1
  have B := RP_B E.1 W
  have CB' := CP_B C.1 W
  simp only [xX8_far, xX9_far, rR_8_5, Option.bind_some, is_21, gu_t, c_isShip CB', is_78, r_isShip B]
  by_cases ha : 0 ≤ a ∧ a < nI (P 0)
  · obtain ⟨s, hs, rfl⟩ := in_n (by omega) ha
    simp only [if_pos ha, t10, if_false]
    by_cases hb : 0 ≤ b ∧ b < nI (P 0)
    · obtain ⟨o, ho, rfl⟩ := in_n (by omega) hb
      simp only [if_pos hb, t10, if_false]
      simp only [rNow, Option.bind_some, is_S hp, gu_t, c_distance hp (show s < 6 by omega) (show o < 6 by omega), r_apart (σ := σ) (show s < 6 by omega) (show o < 6 by omega), far_LV L hs ho]
      exact ⟨_, rfl, rfl⟩
    · simp only [if_neg hb, if_true]
      exact ⟨_, rfl, rfl⟩
  · simp only [if_neg ha, if_true]
    exact ⟨_, rfl, rfl⟩
theorem q_ship (a w : Int32) : QOK (xX8_ship 8 a w) (xX9_ship 78 a w) := by
  refine Q_rd fun σ ⟨bk, P, on, fo, len, X, I⟩ => ?_
  obtain ⟨⟨W, F, E, C, -⟩, -, -, V, L, PR, -⟩ := I
  have hp := (PR.1 0 _ (by omega) (PT_0 σ)).1
  have w0 := W.1
  have B := RP_B E.1 W
  have CB' := CP_B C.1 W
  simp only [xX8_ship, xX9_ship, rR_8_5, Option.bind_some, is_21, gu_t, c_isShip CB', is_78, r_isShip B]
  by_cases ha : 0 ≤ a ∧ a < nI (P 0)
  · obtain ⟨s, hs, rfl⟩ := in_n (by omega) ha
    have s6 : s < 6 := by omega
    have sp : speedS (cV σ (sNow σ)) s = speedS (sF σ 104) s := by
      unfold speedS
      rw [(L.1 s hs).2.2.1, (L.1 s hs).2.2.2]
    simp only [if_pos ha, t10, if_false]
    simp only [rNow, Option.bind_some, rR_S1 hp, rR_S2 hp, rR_S3 hp, rR_S4 hp, rR_S5 hp, ra_S1 hp s6, ra_S2 hp s6, ra_S3 hp s6, ra_S4 hp s6, ra_S5 hp s6, e_1 L w0 hs, e_2 L w0 hs, e_3 L w0 hs, e_4 L w0 hs, e_5 L s6, is_S hp, gu_t, c_speed hp s6, sp, c_on hp C W L hs, c_heard hp CB' L V s6, rR_78_41, nl_0, nl_6, nl_12, nl_18, nl_24, nI_add, Nat.zero_add, ra_104 σ (show s < 521 by omega), ra_104 σ (show 6 + s < 521 by omega), ra_104 σ (show 12 + s < 521 by omega), ra_104 σ (show 18 + s < 521 by omega), ra_104 σ (show 24 + s < 521 by omega), r_speed (σ := σ) s6, r_on E W hs, (r_heard B V s6).1]
    repeat' apply ite_ex
    all_goals exact ⟨_, rfl, rfl⟩
  · simp only [if_neg ha, if_true]
    exact ⟨_, rfl, rfl⟩
theorem q_map (a b w : Int32) : QOK (xX8_map 8 a b w) (xX9_map 78 a b w) := by
  refine Q_rd fun σ ⟨bk, P, on, fo, len, X, I⟩ => ?_
  obtain ⟨⟨W, F, E, C, -⟩, -, -, V, L, PR, -⟩ := I
  have hp := (PR.1 0 _ (by omega) (PT_0 σ)).1
  have w0 := W.1
  have w30 := W.2.2.1
  have B := RP_B E.1 W
  have CB' := CP_B C.1 W
  simp only [xX8_map, xX9_map, rR_8_5, Option.bind_some, is_21, gu_t, c_isShip CB', is_78, r_isShip B, c_isSlot CB', r_isSlot B]
  by_cases ha : 0 ≤ a ∧ a < nI (P 0)
  · obtain ⟨s, hs, rfl⟩ := in_n (by omega) ha
    simp only [if_pos ha, t10, if_false]
    by_cases hb : 0 ≤ b ∧ b < nI (P 1)
    · obtain ⟨k, hk, rfl⟩ := in_n (by omega) hb
      have s6 : s < 6 := by omega
      have k30 : k < 30 := by omega
      simp only [if_pos hb, t10, if_false]
      simp only [rNow, Option.bind_some, rR_S9 hp, rR_S10 hp, nl_30, nl_264, pk_mul, nI_add, ra_S9 hp (show s * 30 + k < 180 by omega), ra_S10 hp (show s * 30 + k < 180 by omega), (e_9 L s6 k30).1, (e_9 L s6 k30).2, is_78, gu_t, r_holderIn (σ := σ) s6 k30, rR_78_41, ra_104 σ (show 264 + 30 * s + k < 521 by omega)]
      repeat' apply ite_ex
      all_goals exact ⟨_, rfl, rfl⟩
    · simp only [if_neg hb, if_true]
      exact ⟨_, rfl, rfl⟩
  · simp only [if_neg ha, if_true]
    exact ⟨_, rfl, rfl⟩
theorem q_known (a b w : Int32) : QOK (xX8_known 8 a b w) (xX9_known 78 a b w) := by
  refine Q_rd fun σ ⟨bk, P, on, fo, len, X, I⟩ => ?_
  obtain ⟨⟨W, F, E, C, -⟩, -, -, V, L, PR, -⟩ := I
  have hp := (PR.1 0 _ (by omega) (PT_0 σ)).1
  have w0 := W.1
  have B := RP_B E.1 W
  have CB' := CP_B C.1 W
  simp only [xX8_known, xX2_areTwo, xX9_known, rR_8_5, Option.bind_some, is_21, gu_t, c_isShip CB', is_78, r_isShip B]
  by_cases ha : 0 ≤ a ∧ a < nI (P 0)
  · obtain ⟨s, hs, rfl⟩ := in_n (by omega) ha
    simp only [if_pos ha, t10, if_false]
    by_cases hb : 0 ≤ b ∧ b < nI (P 0)
    · obtain ⟨o, ho, rfl⟩ := in_n (by omega) hb
      have s6 : s < 6 := by omega
      have o6 : o < 6 := by omega
      simp only [if_pos hb, t10, if_false]
      by_cases hne : nI s = nI o
      · simp only [if_pos hne, Option.bind_some, if_true]
        exact ⟨_, rfl, rfl⟩
      · simp only [if_neg hne, Option.bind_some, t10, if_false]
        simp only [rNow, Option.bind_some, rR_S11 hp, rR_S12 hp, nl_6, nl_444, nl_480, pk_mul, nI_add, ra_S11 hp (show s * 6 + o < 36 by omega), ra_S12 hp (show s * 6 + o < 36 by omega), (e_11 L s6 o6).1, (e_11 L s6 o6).2, rR_78_41, ra_104 σ (show 444 + 6 * s + o < 521 by omega), ra_104 σ (show 480 + 6 * s + o < 521 by omega)]
        repeat' apply ite_ex
        all_goals exact ⟨_, rfl, rfl⟩
    · simp only [if_neg hb, if_true, Option.bind_some]
      exact ⟨_, rfl, rfl⟩
  · simp only [if_neg ha, if_true, Option.bind_some]
    exact ⟨_, rfl, rfl⟩
theorem q_own (a b w : Int32) : QOK (xX8_own 8 a b w) (xX9_own 78 a b w) := by
  refine Q_rd fun σ ⟨bk, P, on, fo, len, X, I⟩ => ?_
  obtain ⟨⟨W, F, E, C, -⟩, -, -, V, L, PR, -⟩ := I
  have hp := (PR.1 0 _ (by omega) (PT_0 σ)).1
  have w0 := W.1
  have B := RP_B E.1 W
  have CB' := CP_B C.1 W
  simp only [xX8_own, xX9_own, rR_8_5, Option.bind_some, is_21, gu_t, c_isShip CB', is_78, r_isShip B]
  by_cases ha : 0 ≤ a ∧ a < nI (P 0)
  · obtain ⟨s, hs, rfl⟩ := in_n (by omega) ha
    have s6 : s < 6 := by omega
    have oc := WF_own V s6
    simp only [if_pos ha, t10, if_false]
    simp only [rNow, Option.bind_some, rR_S5 hp, ra_S5 hp s6, e_5 L s6, rR_78_41, nl_24, nI_add, ra_104 σ (show 24 + s < 521 by omega), r_isIn]
    generalize hk : tn (sF σ 104 (24 + s)) = k at oc
    rw [oc.1]
    by_cases hb : 0 ≤ b ∧ b < nI k
    · obtain ⟨i, hi, rfl⟩ := in_n (by omega) hb
      have e6 := e_6 L s6 (show i < 3 by omega) (by rw [hk]; exact hi)
      simp only [if_pos ((int_pred (show k < 2 ^ 30 by omega)).mpr hb), if_neg (Int32.not_lt.mpr hb.1), if_pos hb.2, t10, if_false]
      simp only [rNow, Option.bind_some, rR_S6 hp, rR_S7 hp, rR_S8 hp, nl_3, nl_30, nl_48, nl_66, pk_mul, nI_add, ← Nat.add_assoc, ra_S6 hp (show s * 3 + i < 18 by omega), ra_S7 hp (show s * 3 + i < 18 by omega), ra_S8 hp (show s * 3 + i < 18 by omega), e6.1, e6.2.1, e6.2.2, rR_78_41, ra_104 σ (show 30 + 3 * s + i < 521 by omega), ra_104 σ (show 48 + 3 * s + i < 521 by omega), ra_104 σ (show 66 + 3 * s + i < 521 by omega)]
      repeat' apply ite_ex
      all_goals exact ⟨_, rfl, rfl⟩
    · simp only [if_neg (show ¬ (0 ≤ b ∧ b ≤ nI k - 1) from fun z => hb ((int_pred (show k < 2 ^ 30 by omega)).mp z)), if_true]
      by_cases hb1 : b < 0
      · rw [if_pos hb1]
        exact ⟨_, rfl, rfl⟩
      · rw [if_neg hb1, if_neg (fun z => hb ⟨Int32.not_lt.mp hb1, z⟩)]
        exact ⟨_, rfl, rfl⟩
  · simp only [if_neg ha, if_true]
    exact ⟨_, rfl, rfl⟩
