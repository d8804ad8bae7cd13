/-! will, clashes -/
theorem c_will1 {σ : ZS} {P : Nat → Nat} {s n : Nat} (CB' : CB σ (P 0) (P 1)) (ha : 0 ≤ nI s ∧ nI s < nI (P 0)) (hn : n ≤ 90) : xX8_will 8 (nI s) (nI n) (mkH σ) = (xX5_copy 42 (sNow σ) (mkH σ)).bind fun h31 => xX8_will_L36 zFU 8 (nI s) (nI n) 0 h31 := by
  unfold xX8_will
  generalize xX8_will_L36 zFU = nl
  generalize xX5_copy = cp
  rw [rR_8_5, Option.bind_some, is_21, gu_t, c_isShip CB', Option.bind_some, if_pos ha]
  simp only [t10, if_false]
  rw [if_neg (nI_pos (by omega)), if_pos (by rw [nl_90]; exact nI_le hn (by omega)), rR_8_7, Option.bind_some, rNow, Option.bind_some, is_S (σ := σ) (p := 42) st_42, gu_t]
theorem c_will0 {σ : ZS} {P : Nat → Nat} {a b : Int32} (CB' : CB σ (P 0) (P 1)) (ha : ¬ ((0 ≤ a ∧ a < nI (P 0)) ∧ 0 ≤ b ∧ b ≤ 90)) : xX8_will 8 a b (mkH σ) = some (-1, mkH σ) := by
  unfold xX8_will
  generalize xX8_will_L36 zFU = nl
  generalize xX5_copy = cp
  rw [rR_8_5, Option.bind_some, is_21, gu_t, c_isShip CB', Option.bind_some]
  by_cases h1 : 0 ≤ a ∧ a < nI (P 0)
  · simp only [if_pos h1, t10, if_false]
    by_cases h2 : b < 0
    · rw [if_pos h2]
    · rw [if_neg h2, if_neg (fun z => ha ⟨h1, Int32.not_lt.mp h2, z⟩)]
  · simp only [if_neg h1, if_true]
theorem r_will0 {σ : ZS} {bk nsh nsl : Nat} {a b : Int32} (B : RB σ bk nsh nsl) (ha : ¬ ((0 ≤ a ∧ a < nI nsh) ∧ 0 ≤ b ∧ b ≤ 90)) : xX9_will 78 a b (mkH σ) = some (-1, mkH σ) := by
  unfold xX9_will
  generalize xX9_keepNow = kn
  generalize xX9_goSteps = gs
  generalize xX9_bringBack = bb
  rw [is_78, gu_t, r_isShip B, Option.bind_some]
  by_cases h1 : 0 ≤ a ∧ a < nI nsh
  · simp only [if_pos h1, t10, if_false, r_isIn, Option.bind_some]
    rw [if_neg (fun z => ha ⟨h1, z⟩)]
    simp only [if_true]
  · simp only [if_neg h1, if_true]
/-- what will is answered -/
def wlS (A : Nat → Int32) (s : Nat) : Int32 := if A (24 + s) = 0 then -1 else A (30 + 3 * s)
theorem c_will2 {σ : ZS} {P : Nat → Nat} {A : Nat → Int32} {s : Nat} (L : LV (P 0) (cV σ 42) A) (V : WF 1 (P 0) (P 1) A) (hs : s < 6) : xX8_will_B59 8 (nI s) (mkH σ) = some (wlS A s, mkH σ) := by
  have hp : isSt (sK σ) 42 := st_42
  have oc := WF_own V hs
  simp only [xX8_will_B59, rR_8_7, Option.bind_some, rR_S5 hp, ra_S5 hp hs, e_5 L hs]
  unfold wlS
  by_cases h : A (24 + s) = 0
  · rw [if_pos h, if_pos h]
  · rw [if_neg h, if_neg h]
    have h0 : 0 < tn (A (24 + s)) := by
      rcases Nat.eq_zero_or_pos (tn (A (24 + s))) with z | z
      · rw [z] at oc; exact absurd oc.1 h
      · exact z
    have e6 : sF σ (42 + 6) (s * 3) = A (30 + 3 * s) := (e_6 L hs (show 0 < 3 by omega) h0).1
    simp only [rR_S6 hp, nl_3, pk_mul, Option.bind_some, ra_S6 hp (show s * 3 < 18 by omega), e6]
theorem r_wl2 {τ υ0 υ1 υ : ZS} {bk nsh nsl s : Nat} {b : Int32} {A : Nat → Int32} (B : RB τ bk nsh nsl) (ha : 0 ≤ nI s ∧ nI s < nI nsh) (hb : 0 ≤ b ∧ b ≤ 90) (hs : s < 6) (u1 : xX9_keepNow 78 (mkH τ) = some (mkH υ0)) (hgs : xX9_goSteps 78 b (mkH υ0) = some (mkH υ1)) (x1 : xX9_bringBack 78 (mkH υ1) = some (mkH υ)) (hA : sF υ1 104 = A) (hz : ¬ A (24 + s) = 0 → ¬ A (24 + s) ≤ 0) : xX9_will 78 (nI s) b (mkH τ) = some (wlS A s, mkH υ) := by
  unfold xX9_will
  generalize xX9_goSteps = gs at *
  generalize xX9_keepNow = kn at *
  generalize xX9_bringBack = bb at *
  rw [is_78, gu_t, r_isShip B, Option.bind_some, if_pos ha]
  simp only [t10, if_false]
  rw [r_isIn, Option.bind_some, if_pos hb]
  simp only [t10, if_false]
  rw [is_78, gu_t, u1, Option.bind_some, is_78, gu_t, hgs, Option.bind_some, rR_78_41, Option.bind_some, nl_24, nI_add, ra_104 υ1 (show 24 + s < 521 by omega), Option.bind_some, hA]
  unfold wlS
  by_cases h : A (24 + s) = 0
  · rw [if_pos h, if_pos (by rw [h]; decide), is_78, gu_t, x1, Option.bind_some]
  · rw [if_neg h, if_neg (hz h), Option.bind_some, nl_30, nl_3, pk_mul, nI_add, ra_104 υ1 (show 30 + 3 * s < 521 by omega), Option.bind_some, hA, is_78, gu_t, x1, Option.bind_some]
theorem q_will (a b : Int32) : QOK (xX8_will 8 a b) (xX9_will 78 a b) := by
  refine Q_sc fun σ bk P on fo len X I => ?_
  obtain ⟨⟨W, F, E, C, -⟩, -, -, V, L, PR, -⟩ := id I
  have w0 := W.1
  have CB' := CP_B C.1 W
  have B := RP_B E.1 W
  by_cases hab : (0 ≤ a ∧ a < nI (P 0)) ∧ 0 ≤ b ∧ b ≤ 90
  · obtain ⟨ha, hb⟩ := hab
    obtain ⟨s, hs, rfl⟩ := in_n (by omega) ha
    obtain ⟨n, hn, rfl⟩ := nI_of2 (M := 90) (n := 90) (by decide) (Int32.not_lt.mpr hb.1) hb.2
    obtain ⟨τ0, t1, t2, t3, t4⟩ := c_ahead I
    obtain ⟨e, he⟩ := zfu n (by omega)
    obtain ⟨τ, t5, t6, t7⟩ := c_willL (a := nI s) W F hn n 0 τ0 _ e (by omega) st_42 t2 t3 V
    have V3 := WF_it (on := on) (fo := fo) (len := len) W n _ V
    refine ⟨wlS (itA P on fo len n (sF σ 104)) s, τ, ?_, FR_t t4 (sc_s t7), fun I2 h4 => ?_⟩
    · have t8 : ∀ q, q = nI 0 → xX8_will_L36 (e + n + 1) 8 (nI s) (nI n) q (mkH τ0) = some (wlS (itA P on fo len n (sF σ 104)) s, mkH τ) := by
        rintro q rfl
        rw [t5]
        exact c_will2 t6 V3 (by omega)
      rw [c_will1 CB' ha hn, t1, Option.bind_some, he]
      exact t8 0 rfl
    · obtain ⟨⟨-, -, E2, -⟩, -, -, V2, -⟩ := I2
      obtain ⟨υ0, u1, u2, u3, u4, u5⟩ := r_kept E2
      obtain ⟨υ1, v1, v2, v3⟩ := r_itL W F hn n 0 υ0 e (by omega) u2 (by rw [u3]; exact V2)
      rw [u3, h4] at v2
      obtain ⟨υ, x1, x2, x3⟩ := r_bringBack υ1
      have v9 : ∀ q, q = nI 0 → xX9_goSteps_L2 (e + n + 1) 78 (nI n) q (mkH υ0) = some (mkH υ1) := by
        rintro q rfl
        exact v1
      have hgs : xX9_goSteps 78 (nI n) (mkH υ0) = some (mkH υ1) := by
        unfold xX9_goSteps
        rw [he]
        exact v9 0 rfl
      have s6 : s < 6 := by omega
      have oc := WF_own V3 s6
      refine ⟨υ, ?_, FR_t u5 (FR_t (sc_r v3) (sc_r (FR_104 x3))), fun j hj => by rw [x2 j hj, v3.1 105 (fun z => by unfold rS at z; omega), u4 j hj]⟩
      refine r_wl2 (RP_B E2.1 W) ha hb s6 u1 hgs x1 v2 (fun h => ?_)
      rw [oc.1]
      refine nI_nle ?_ (by omega)
      rcases Nat.eq_zero_or_pos (tn (itA P on fo len n (sF σ 104) (24 + s))) with z | z
      · rw [z] at oc; exact absurd oc.1 h
      · exact z
  · refine ⟨-1, σ, c_will0 CB' hab, FR_r, fun I2 h4 => ⟨σ, r_will0 B hab, sc_4 FR_r⟩⟩
theorem c_cl1 {σ : ZS} {n : Nat} (hn : n ≤ 90) : xX8_clashes 8 (nI n) (mkH σ) = (xX5_copy 42 (sNow σ) (mkH σ)).bind fun h20 => xX8_clashes_L25 zFU 8 (nI n) 0 h20 := by
  unfold xX8_clashes
  generalize xX8_clashes_L25 zFU = nl
  generalize xX5_copy = cp
  rw [if_neg (nI_pos (by omega)), if_pos (by rw [nl_90]; exact nI_le hn (by omega)), rR_8_7, Option.bind_some, rNow, Option.bind_some, is_S (σ := σ) (p := 42) st_42, gu_t]
theorem c_cl0 {σ : ZS} {b : Int32} (hb : ¬ (0 ≤ b ∧ b ≤ 90)) : xX8_clashes 8 b (mkH σ) = some (-1, mkH σ) := by
  unfold xX8_clashes
  generalize xX8_clashes_L25 zFU = nl
  generalize xX5_copy = cp
  by_cases h2 : b < 0
  · rw [if_pos h2]
  · rw [if_neg h2, if_neg (fun z => hb ⟨Int32.not_lt.mp h2, z⟩)]
theorem r_cl0 {σ : ZS} {b : Int32} (hb : ¬ (0 ≤ b ∧ b ≤ 90)) : xX9_clashes 78 b (mkH σ) = some (-1, mkH σ) := by
  unfold xX9_clashes
  generalize xX9_keepNow = kn
  generalize xX9_goSteps = gs
  generalize xX9_bringBack = bb
  rw [r_isIn, Option.bind_some, if_neg hb]
  simp only [if_true]
theorem r_cl2 {τ υ0 υ1 υ : ZS} {b v w : Int32} (hb : 0 ≤ b ∧ b ≤ 90) (u1 : xX9_keepNow 78 (mkH τ) = some (mkH υ0)) (hgs : xX9_goSteps 78 b (mkH υ0) = some (mkH υ1)) (x1 : xX9_bringBack 78 (mkH υ1) = some (mkH υ)) (h1 : sF υ1 104 520 = v) (h2 : sF υ 104 520 = w) : xX9_clashes 78 b (mkH τ) = some (v - w, mkH υ) := by
  unfold xX9_clashes
  generalize xX9_goSteps = gs at *
  generalize xX9_keepNow = kn at *
  generalize xX9_bringBack = bb at *
  rw [r_isIn, Option.bind_some, if_pos hb]
  simp only [t10, if_false]
  rw [is_78, gu_t, u1, Option.bind_some, is_78, gu_t, hgs, Option.bind_some, rR_78_41, Option.bind_some, nl_520, ra_104 υ1 (show 520 < 521 by omega), Option.bind_some, is_78, gu_t, x1, Option.bind_some, rR_78_41, Option.bind_some, ra_104 υ (show 520 < 521 by omega), Option.bind_some, h1, h2]
theorem c_cl2 {τ : ZS} {v w : Int32} (hpt : isSt (sK τ) (sNow τ)) (c1 : sI τ 42 14 = v) (c2 : sI τ (sNow τ) 14 = w) : xX8_clashes_B48 8 (mkH τ) = some (v - w, mkH τ) := by
  unfold xX8_clashes_B48
  rw [rR_8_7, Option.bind_some, rI_S14 (σ := τ) (p := 42) st_42, Option.bind_some, rNow, Option.bind_some, rI_S14 hpt, Option.bind_some, c1, c2]
theorem q_clashes (b : Int32) : QOK (xX8_clashes 8 b) (xX9_clashes 78 b) := by
  refine Q_sc fun σ bk P on fo len X I => ?_
  obtain ⟨⟨W, F, E, C, -⟩, -, -, V, L, PR, -⟩ := id I
  have hn0 := PR.1 0 _ (by omega) (PT_0 σ)
  by_cases hb : 0 ≤ b ∧ b ≤ 90
  · obtain ⟨n, hn, rfl⟩ := nI_of2 (M := 90) (n := 90) (by decide) (Int32.not_lt.mpr hb.1) hb.2
    obtain ⟨τ0, t1, t2, t3, t4⟩ := c_ahead I
    obtain ⟨e, he⟩ := zfu n (by omega)
    obtain ⟨τ, t5, t6, t7⟩ := c_clashL W F hn n 0 τ0 _ e (by omega) st_42 t2 t3 V
    have hF := FR_t t4 (sc_s t7)
    have hN := FR_now hF
    have hp3 := st_in hn0.1
    have hpt : isSt (sK τ) (sNow τ) := by rw [hN, FR_K hF]; exact hn0.1
    have c1 : sI τ 42 14 = itA P on fo len n (sF σ 104) 520 := (e_sc t6).2.2.2.2
    have c2 : sI τ (sNow τ) 14 = sF σ 104 520 := by
      rw [hN, hF.2.1 (sNow σ) 14 (fun z => by unfold scT at z; have := hn0.2; omega)]
      exact (e_sc L).2.2.2.2
    refine ⟨itA P on fo len n (sF σ 104) 520 - sF σ 104 520, τ, ?_, hF, fun I2 h4 => ?_⟩
    · have t8 : ∀ q, q = nI 0 → xX8_clashes_L25 (e + n + 1) 8 (nI n) q (mkH τ0) = some (itA P on fo len n (sF σ 104) 520 - sF σ 104 520, mkH τ) := by
        rintro q rfl
        rw [t5]
        exact c_cl2 hpt c1 c2
      rw [c_cl1 hn, t1, Option.bind_some, he]
      exact t8 0 rfl
    · obtain ⟨⟨-, -, E2, -⟩, -, -, V2, -⟩ := I2
      obtain ⟨υ0, u1, u2, u3, u4, u5⟩ := r_kept E2
      obtain ⟨υ1, v1, v2, v3⟩ := r_itL W F hn n 0 υ0 e (by omega) u2 (by rw [u3]; exact V2)
      rw [u3, h4] at v2
      obtain ⟨υ, x1, x2, x3⟩ := r_bringBack υ1
      have v9 : ∀ q, q = nI 0 → xX9_goSteps_L2 (e + n + 1) 78 (nI n) q (mkH υ0) = some (mkH υ1) := by
        rintro q rfl
        exact v1
      have hgs : xX9_goSteps 78 (nI n) (mkH υ0) = some (mkH υ1) := by
        unfold xX9_goSteps
        rw [he]
        exact v9 0 rfl
      have h104 : ∀ j, j < 521 → sF υ 104 j = sF τ 104 j := fun j hj => by rw [x2 j hj, v3.1 105 (fun z => by unfold rS at z; omega), u4 j hj]
      refine ⟨υ, ?_, FR_t u5 (FR_t (sc_r v3) (sc_r (FR_104 x3))), h104⟩
      exact r_cl2 hb u1 hgs x1 (by rw [v2]) (by rw [h104 520 (by omega), h4])
  · exact ⟨-1, σ, c_cl0 hb, FR_r, fun I2 h4 => ⟨σ, r_cl0 hb, sc_4 FR_r⟩⟩
