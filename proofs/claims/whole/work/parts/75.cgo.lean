/-! the class's step: the frame's beginning, reports, hearing, the whole step -/
section CG
variable {σ : ZS} {p len : Nat} {P : Nat → Nat} {on fo A : Nat → Int32}
theorem c_on {s : Nat} (hp : isSt (sK σ) p) (E : CE σ P on fo len) (W : PW P) (L : LV (P 0) (cV σ p) A) (hs : s < P 0) : xX5_isOn p (nI s) (mkH σ) = some (if onA A on s then 1 else 0, mkH σ) := by
  rw [c_isOn hp (Nat.lt_of_lt_of_le hs W.1)]
  unfold onA
  rw [E.2.1 s hs, L.2.2.2 516 (by omega) (by omega), L.2.2.2 517 (by omega) (by omega)]
theorem c_bgL (hp : isSt (sK σ) p) (E : CE σ P on fo len) (W : PW P) (F : WFo fo len) (L : LV (P 0) (cV σ p) A) (V : WF 1 (P 0) (P 1) A) : ∃ τ, xX6_beginFrame_L17 zFU 57 p (0 : Int32) (mkH σ) = some (mkH τ) ∧ LV (P 0) (cV τ p) (zf (fun s A => if onA A on s ∧ on s < A 517 then skA P fo len s A else A) 0 (P 0) A) ∧ FR (cS p) (cT p) σ τ := by
  have w0 := W.1
  obtain ⟨e, he⟩ := zfu (P 0) (by omega)
  have key := lpI (fun e k (τ : ZS) => xX6_beginFrame_L17 e 57 p (nI k) (mkH τ)) (P 0) (fun k τ => FR (cS p) (cT p) σ τ ∧ LV (P 0) (cV τ p) (zf (fun s A => if onA A on s ∧ on s < A 517 then skA P fo len s A else A) 0 k A) ∧ WF 1 (P 0) (P 1) (zf (fun s A => if onA A on s ∧ on s < A 517 then skA P fo len s A else A) 0 k A)) (fun v => ∃ τ, v = mkH τ ∧ LV (P 0) (cV τ p) (zf (fun s A => if onA A on s ∧ on s < A 517 then skA P fo len s A else A) 0 (P 0) A) ∧ FR (cS p) (cT p) σ τ) ?_ ?_ (P 0) 0 σ e (by omega) ⟨FR_r, L, V⟩
  · obtain ⟨v, hv, τ, hv2, t2, t3⟩ := key
    refine ⟨τ, ?_, t2, t3⟩
    rw [he, ← hv2]
    exact hv
  · rintro e k τ hk ⟨hF, hL, V'⟩
    right
    have hpt : isSt (sK τ) p := by rw [FR_K hF]; exact hp
    have E' := CE_c hp hF E
    have hB : xX6_beginFrame_L17 (e + 1) 57 p (nI k) (mkH τ) = xX6_beginFrame_B17 (xX6_beginFrame_L17 e) 57 p (nI k) (mkH τ) := rfl
    have k6 : k < 6 := by omega
    rw [zf_l, Nat.zero_add]
    generalize zf (fun s A => if onA A on s ∧ on s < A 517 then skA P fo len s A else A) 0 k A = A' at *
    have e15 : sI τ p 15 = A' 517 := by rw [← cV_517, hL.2.2.2 517 (by omega) (by omega)]
    simp only [hB, xX6_beginFrame_B17, rR_S0 hpt, rI_21_7, E'.1.1, Option.bind_some]
    rw [if_neg (fun z => by have := (nI_leI (by omega) (by omega)).mp z; omega)]
    simp only [is_S hpt, gu_t, c_on hpt E' W hL hk, Option.bind_some, rI_S15 hpt, e15, rR_S0 hpt, rR_21_13, ra_26 τ k6, E'.2.1 k hk, nI_s]
    by_cases ho : onA A' on k = true
    · rw [ho]
      simp only [if_true]
      rw [if_neg (by decide)]
      by_cases hf : on k < A' 517
      · rw [if_neg (Int32.not_le.mpr hf)]
        obtain ⟨υ, u1, u2, u3⟩ := c_seek hpt E' W F hL V' hk
        simp only [is_57, gu_t, u1, Option.bind_some]
        rw [if_pos ⟨trivial, hf⟩]
        exact ⟨υ, rfl, FR_t hF u3, u2, WF_sk W k6 V'⟩
      · rw [if_pos (Int32.not_lt.mp hf), if_neg (fun z => hf z.2)]
        exact ⟨τ, rfl, hF, hL, V'⟩
    · rw [show onA A' on k = false by simpa using ho]
      simp only [Bool.false_eq_true, if_false, if_true]
      rw [if_neg (fun z => z.1)]
      exact ⟨τ, rfl, hF, hL, V'⟩
  · rintro e τ ⟨hF, hL, V'⟩
    have hpt : isSt (sK τ) p := by rw [FR_K hF]; exact hp
    have E' := CE_c hp hF E
    refine ⟨mkH τ, ?_, τ, rfl, hL, hF⟩
    show xX6_beginFrame_B17 (xX6_beginFrame_L17 e) 57 p (nI (P 0)) (mkH τ) = _
    simp only [xX6_beginFrame_B17, rR_S0 hpt, rI_21_7, E'.1.1, Option.bind_some]
    rw [if_pos ((nI_leI (by omega) (by omega)).mpr (Nat.le_refl _))]
theorem c_begin (hp : isSt (sK σ) p) (E : CE σ P on fo len) (W : PW P) (F : WFo fo len) (L : LV (P 0) (cV σ p) A) (V : WF 1 (P 0) (P 1) A) : ∃ τ, xX6_beginFrame 57 p (mkH σ) = some (mkH τ) ∧ LV (P 0) (cV τ p) (bgA P on fo len A) ∧ FR (cS p) (cT p) σ τ := by
  have w0 := W.1
  have e15 : sI σ p 15 = A 517 := by rw [← cV_517, L.2.2.2 517 (by omega) (by omega)]
  simp only [xX6_beginFrame, rI_S15 hp, e15, Option.bind_some]
  unfold bgA
  by_cases h : 0 < A 517
  · rw [if_neg (Int32.not_le.mpr h), if_pos h]
    obtain ⟨υ, u1, u2, u3⟩ := c_move hp E W
    have hpu : isSt (sK υ) p := by rw [FR_K u3]; exact hp
    have L1 : LV (P 0) (cV υ p) (mvA (P 0) A) := by rw [u2]; exact LV_mv L w0
    have V1 := WF_mv (k := P 0) w0 V
    obtain ⟨ω, o1, o2, o3⟩ := c_age (P := P) hpu (WF_LV L1 V1) w0
    have hpo : isSt (sK ω) p := by rw [FR_K o3]; exact hpu
    have L2 : LV (P 0) (cV ω p) (agA 180 (mvA (P 0) A)) := by rw [o2]; exact LV_ag L1 w0
    have E2 := CE_c hpu o3 (CE_c hp u3 E)
    obtain ⟨τ, t1, t2, t3⟩ := c_bgL hpo E2 W F L2 (WF_ag V1 w0)
    simp only [is_S hp, gu_t, u1, Option.bind_some, is_S hpu, o1, t1]
    exact ⟨τ, rfl, t2, FR_t u3 (FR_t o3 t3)⟩
  · rw [if_pos (Int32.not_lt.mp h), if_neg h]
    exact c_bgL hp E W F L V
theorem c_due {s n lo : Nat} (hp : isSt (sK σ) p) (L : LV (P 0) (cV σ p) A) (hs : s < 6) (hn : n ≤ 3) (ho : A (24 + s) = nI n) : xX6_dueNow p (nI s) (mkH σ) = some ((match duA A s n 0 with | none => -1 | some i => nI i), mkH σ) := by
  have e5 : sF σ (p + 5) s = nI n := by rw [← cV_5 σ p hs, L.2.1 s hs, ho]
  have e16 : sI σ p 16 = A 518 := by rw [← cV_518, L.2.2.2 518 (by omega) (by omega)]
  have e15 : sI σ p 15 = A 517 := by rw [← cV_517, L.2.2.2 517 (by omega) (by omega)]
  have key : ∀ f i e, i + f = n → xX6_dueNow_L2 (e + f + 1) p (nI s) (nI i) (mkH σ) = some ((match duA A s f i with | none => -1 | some i => nI i), mkH σ) := by
    intro f
    induction f with
    | zero =>
      intro i e hi
      show xX6_dueNow_B2 (xX6_dueNow_L2 (e + 0)) p (nI s) (nI i) (mkH σ) = _
      simp only [xX6_dueNow_B2, rR_S5 hp, ra_S5 hp hs, Option.bind_some, e5]
      rw [if_pos ((nI_leI (by omega) (by omega)).mpr (by omega))]
      rfl
    | succ f ih =>
      intro i e hi
      have hl := L.2.2.1 s i hs (by omega) (by rw [ho, tn_n (by omega)]; omega)
      have a1 : sF σ (p + 6) (s * 3 + i) = A (30 + 3 * s + i) := by rw [← hl.1, show 30 + 3 * s + i = 30 + (s * 3 + i) by omega, cV_6 σ p (by omega)]
      have a2 : sF σ (p + 8) (s * 3 + i) = A (66 + 3 * s + i) := by rw [← hl.2.2, show 66 + 3 * s + i = 66 + (s * 3 + i) by omega, cV_8 σ p (by omega)]
      show xX6_dueNow_B2 (xX6_dueNow_L2 (e + (f + 1))) p (nI s) (nI i) (mkH σ) = _
      simp only [xX6_dueNow_B2, rR_S5 hp, ra_S5 hp hs, Option.bind_some, e5]
      rw [if_neg (fun z => by have := (nI_leI (by omega) (by omega)).mp z; omega)]
      simp only [rR_S6 hp, rR_S8 hp, nl_3, pk_mul, nI_add, ra_S6 hp (show s * 3 + i < 18 by omega), ra_S8 hp (show s * 3 + i < 18 by omega), Option.bind_some, rI_S16 hp, rI_S15 hp, a1, a2, e15, e16, nI_s]
      rw [duA, show e + (f + 1) = e + f + 1 by omega]
      by_cases h1 : A (30 + 3 * s + i) = A 518
      · rw [if_pos h1]
        by_cases h2 : A 517 < A (66 + 3 * s + i)
        · rw [if_pos h2, if_neg (fun z => absurd z.2 (Int32.not_le.mpr h2))]
          exact ih (i + 1) e (by omega)
        · rw [if_neg h2, if_pos ⟨h1, Int32.not_lt.mp h2⟩]
      · rw [if_neg h1, if_neg (fun z => h1 z.1)]
        exact ih (i + 1) e (by omega)
  obtain ⟨e, he⟩ := zfu n (by omega)
  unfold xX6_dueNow
  rw [he]
  exact key n 0 e (by omega)
theorem c_rep86 {s i : Nat} (hp : isSt (sK σ) p) (E : CE σ P on fo len) (W : PW P) (L : LV (P 0) (cV σ p) A) (V : WF 1 (P 0) (P 1) A) (hs : s < P 0) (hi : i < tn (A (24 + s))) : ∃ τ, xX6_reportOne_B86 57 p (nI s) (nI (s * 3 + i)) (mkH σ) = some (mkH τ) ∧ LV (P 0) (cV τ p) (drA A) ∧ sF τ 60 = up1 (sF σ 60) s (A (30 + 3 * s + i)) ∧ sF τ 61 = up1 (sF σ 61) s (A (48 + 3 * s + i)) ∧ sI τ 57 3 = (if m100 (seedS (A 519)) < nI (P 6) then sI σ 57 3 ||| nI (2 ^ s) else sI σ 57 3) ∧ FR (cS p) (cT p) σ τ := by
  have w0 := W.1
  have hs6 : s < 6 := by omega
  have hp3 := st_in hp
  have h3 := (WF_own V hs6).2
  have hi18 : s * 3 + i < 18 := by omega
  have hl := L.2.2.1 s i hs6 (by omega) hi
  have a1 : sF σ (p + 6) (s * 3 + i) = A (30 + 3 * s + i) := by rw [← hl.1, show 30 + 3 * s + i = 30 + (s * 3 + i) by omega, cV_6 σ p (by omega)]
  have a2 : sF σ (p + 7) (s * 3 + i) = A (48 + 3 * s + i) := by rw [← hl.2.1, show 48 + 3 * s + i = 48 + (s * 3 + i) by omega, cV_7 σ p (by omega)]
  have hF1 : FR (cS p) (cT p) σ (setF (setF σ 60 s (A (30 + 3 * s + i))) 61 s (A (48 + 3 * s + i))) := FR_t (FR_F (by unfold cS; omega)) (FR_F (by unfold cS; omega))
  have hV1 : cV (setF (setF σ 60 s (A (30 + 3 * s + i))) 61 s (A (48 + 3 * s + i))) p = cV σ p := cV_o (S := fun a => a = 60 ∨ a = 61) (T := fun _ _ => False) (FR_t (FR_F (Or.inl rfl)) (FR_F (Or.inr rfl))) (fun a _ _ z => by omega) (fun _ z => z)
  have a3 : sF (setF σ 60 s (A (30 + 3 * s + i))) (p + 7) (s * 3 + i) = A (48 + 3 * s + i) := by rw [sF_ne (by omega)]; exact a2
  simp only [xX6_reportOne_B86, rR_57_1, rR_57_2, rR_S6 hp, ra_S6 hp hi18, Option.bind_some, a1, wa_60 σ _ hs6, rR_S7 (σ := setF σ 60 s (A (30 + 3 * s + i))) hp, ra_S7 (σ := setF σ 60 s (A (30 + 3 * s + i))) hp hi18, a3, wa_61 (setF σ 60 s (A (30 + 3 * s + i))) _ hs6]
  have b60 : sF (setF (setF σ 60 s (A (30 + 3 * s + i))) 61 s (A (48 + 3 * s + i))) 60 = up1 (sF σ 60) s (A (30 + 3 * s + i)) := by
    rw [← sF_up (σ := σ)]
    funext j
    exact sF_ne (by omega)
  have b61 : sF (setF (setF σ 60 s (A (30 + 3 * s + i))) 61 s (A (48 + 3 * s + i))) 61 = up1 (sF σ 61) s (A (48 + 3 * s + i)) := by
    rw [sF_up]
    refine up1_c ?_
    funext j
    exact sF_ne (by omega)
  have b57 : sI (setF (setF σ 60 s (A (30 + 3 * s + i))) 61 s (A (48 + 3 * s + i))) 57 3 = sI σ 57 3 := rfl
  generalize setF (setF σ 60 s (A (30 + 3 * s + i))) 61 s (A (48 + 3 * s + i)) = υ at *
  have hpu : isSt (sK υ) p := by rw [FR_K hF1]; exact hp
  have E1 := CE_c hp hF1 E
  have e9 : cV υ p 519 = A 519 := by rw [hV1]; exact L.2.2.2 519 (by omega) (by omega)
  have r5 : sI (setI υ p 17 (seedS (A 519))) 21 5 = nI (P 6) := by rw [sI_ne (by omega)]; exact E1.1.2.2.2.2.2.2.1
  have r3 : sI (setI υ p 17 (seedS (A 519))) 57 3 = sI σ 57 3 := by rw [sI_ne (by omega)]; exact b57
  have hL2 : LV (P 0) (cV (setI υ p 17 (seedS (A 519))) p) (drA A) := by
    have := cV_dr (σ := υ) (p := p)
    rw [e9] at this
    rw [this, hV1]
    exact LV_dr L w0
  simp only [is_S hpu, gu_t, c_draw hpu, Option.bind_some, e9, rR_S0 (σ := setI υ p 17 (seedS (A 519))) hpu, rI_21_5, r5]
  have hF2 : FR (cS p) (cT p) σ (setI υ p 17 (seedS (A 519))) := FR_t hF1 (FR_cI (by omega))
  show ∃ τ, (if nI (P 6) ≤ m100 (seedS (A 519)) then _ else _) = _ ∧ _
  by_cases h : nI (P 6) ≤ m100 (seedS (A 519))
  · rw [if_pos h]
    refine ⟨_, rfl, hL2, b60, b61, ?_, hF2⟩
    rw [if_neg (Int32.not_lt.mpr h)]
    exact r3
  · rw [if_neg h]
    simp only [rI_57_3, Option.bind_some, r3, one_shl (show s < 32 by omega), wI_57_3]
    refine ⟨_, rfl, ?_, b60, b61, ?_, FR_t hF2 (FR_I (by unfold cT; omega))⟩
    · rw [cV_o (S := fun _ => False) (T := fun a _ => a = 57) (FR_I rfl) (fun _ _ _ z => z) (fun k z => by omega)]
      exact hL2
    · rw [if_pos (Int32.not_le.mp h), sI_eq]
theorem c_report {s i : Nat} (hp : isSt (sK σ) p) (E : CE σ P on fo len) (W : PW P) (L : LV (P 0) (cV σ p) A) (V : WF 1 (P 0) (P 1) A) (hs : s < P 0) (hi : i < tn (A (24 + s))) : ∃ τ, xX6_reportOne 57 p (nI s) (nI (s * 3 + i)) (mkH σ) = some (mkH τ) ∧ LV (P 0) (cV τ p) (drA (rpA P s i A)) ∧ sF τ 60 = up1 (sF σ 60) s (rpA P s i A (30 + 3 * s + i)) ∧ sF τ 61 = up1 (sF σ 61) s (rpA P s i A (48 + 3 * s + i)) ∧ sI τ 57 3 = (if m100 (seedS (rpA P s i A 519)) < nI (P 6) then sI σ 57 3 ||| nI (2 ^ s) else sI σ 57 3) ∧ FR (cS p) (cT p) σ τ := by
  have w0 := W.1
  have w30 := W.2.2.1
  have hs6 : s < 6 := by omega
  have hp3 := st_in hp
  have h3 := (WF_own V hs6).2
  have hi3 : i < 3 := by omega
  have hi18 : s * 3 + i < 18 := by omega
  obtain ⟨t0, ht0, e0⟩ := V.2.2.2.1
  have hl := L.2.2.1 s i hs6 hi3 hi
  have a2 : sF σ (p + 7) (s * 3 + i) = A (48 + 3 * s + i) := by rw [← hl.2.1, show 48 + 3 * s + i = 48 + (s * 3 + i) by omega, cV_7 σ p (by omega)]
  have VR := WF_rp W V hs6 hi
  have eR : tn (rpA P s i A (24 + s)) = tn (A (24 + s)) := by rw [rp_n (by omega) (by omega) (by omega) (by omega)]
  have j7 : ∀ (τ : ZS) (v : Int32), cV (setF τ (p + 7) (s * 3 + i) v) p = up1 (cV τ p) (48 + 3 * s + i) v := fun τ v => cw (r := 7) (by decide) (by decide) hi18 (show 48 + (s * 3 + i) = 48 + 3 * s + i by omega)
  obtain ⟨-, l, l1, l2, l3⟩ := V.2.1 s i hs6 hi3 hi
  have el : A (48 + 3 * s + i) - 1 = nI (l - 1) := by rw [l3, nl_1, pk_sub l1]
  have e7 : ∀ v, sF (setF σ (p + 7) (s * 3 + i) v) (p + 7) (s * 3 + i) = v := fun v => sF_eq
  have L1 : LV (P 0) (cV (setF σ (p + 7) (s * 3 + i) (A (48 + 3 * s + i) - 1)) p) (up1 A (48 + 3 * s + i) (A (48 + 3 * s + i) - 1)) := by rw [j7]; exact LV_upg (by omega) L
  have hF1 : FR (cS p) (cT p) σ (setF σ (p + 7) (s * 3 + i) (A (48 + 3 * s + i) - 1)) := FR_cF (by omega)
  have V0 := WF_0l V hs6 hi
  have E1 := CE_c hp hF1 E
  have m60 : sF (setF σ (p + 7) (s * 3 + i) (A (48 + 3 * s + i) - 1)) 60 = sF σ 60 := by funext j; exact sF_ne (by omega)
  have m61 : sF (setF σ (p + 7) (s * 3 + i) (A (48 + 3 * s + i) - 1)) 61 = sF σ 61 := by funext j; exact sF_ne (by omega)
  have m57 : sI (setF σ (p + 7) (s * 3 + i) (A (48 + 3 * s + i) - 1)) 57 3 = sI σ 57 3 := rfl
  simp only [xX6_reportOne, rR_S7 hp, ra_S7 hp hi18, Option.bind_some, a2, wa_S7 _ hp hi18, rR_S7 (σ := setF σ (p + 7) (s * 3 + i) _) hp, ra_S7 (σ := setF σ (p + 7) (s * 3 + i) _) hp hi18, e7]
  generalize hσ1 : setF σ (p + 7) (s * 3 + i) (A (48 + 3 * s + i) - 1) = σ1 at *
  have hp1 : isSt (sK σ1) p := by rw [FR_K hF1]; exact hp
  by_cases h0 : A (48 + 3 * s + i) - 1 = 0
  · rw [h0, if_neg (by decide)]
    have e16 : sI σ1 p 16 = nI t0 := by rw [← cV_518, L1.2.2.2 518 (by omega) (by omega), up1_n (by omega), e0]
    obtain ⟨τ, c1, c2, c3⟩ := c_choose (slot := t0) hp1 (Or.inr rfl) E1.1 W L1 V0 hs (by omega)
    have hF2 : FR (cS p) (cT p) σ1 τ := FR_ch c3
    have hpt : isSt (sK τ) p := by rw [FR_K hF2]; exact hp1
    have E2 := CE_c hp1 hF2 E1
    have n60 : sF τ 60 = sF σ 60 := by rw [c3.1 60 (by decide), m60]
    have n61 : sF τ 61 = sF σ 61 := by rw [c3.1 61 (by decide), m61]
    have n57 : sI τ 57 3 = sI σ 57 3 := by rw [c3.2.1 57 3 (by omega), m57]
    simp only [rR_57_0, rI_S16 hp1, e16, Option.bind_some, is_58, gu_t]
    have hrp : rpA P s i A = (match ckA P (up1 A (48 + 3 * s + i) (A (48 + 3 * s + i) - 1)) s t0 with | none => up1 (drA A) (48 + 3 * s + i) (nI (lfS A (P 5))) | some t => owA (drA (drA A)) s i (nI t) (nI (lfS (drA A) (P 5))) (A 517 + 1)) := by
      unfold rpA
      rw [if_pos h0, e0, tn_n (by omega)]
      cases ckA P (up1 A (48 + 3 * s + i) (A (48 + 3 * s + i) - 1)) s t0 <;> rfl
    cases hc : ckA P (up1 A (48 + 3 * s + i) (A (48 + 3 * s + i) - 1)) s t0 with
    | none =>
      obtain ⟨k1, k2⟩ := c2 hc
      rw [hc] at hrp
      replace hrp : rpA P s i A = up1 (drA A) (48 + 3 * s + i) (nI (lfS A (P 5))) := hrp
      have e9 : cV τ p 519 = A 519 := by rw [k2, L1.2.2.2 519 (by omega) (by omega), up1_n (by omega)]
      have dl := c_drawLeft hpt E2.1 W (by rw [e9]; exact V.2.2.2.2)
      have elf : lfS (cV τ p) (P 5) = lfS A (P 5) := by unfold lfS; rw [e9]
      simp only [k1, Option.bind_some, if_true, rR_S7 hpt, is_S hpt, gu_t, dl, elf, e9, wa_S7 (σ := setI τ p 17 (seedS (A 519))) _ hpt hi18]
      have hF3 : FR (cS p) (cT p) τ (setF (setI τ p 17 (seedS (A 519))) (p + 7) (s * 3 + i) (nI (lfS A (P 5)))) := FR_t (FR_cI (by omega)) (FR_cF (by omega))
      have L3 : LV (P 0) (cV (setF (setI τ p 17 (seedS (A 519))) (p + 7) (s * 3 + i) (nI (lfS A (P 5)))) p) (rpA P s i A) := by
        rw [j7, hrp]
        have hd := cV_dr (σ := τ) (p := p)
        rw [e9] at hd
        rw [hd, k2, ← up1_dr (A := A) (v := A (48 + 3 * s + i) - 1) (by omega)]
        exact LV_upg (by omega) (LV_dr L1 w0)
      obtain ⟨ω, o1, o2, o3, o4, o5, o6⟩ := c_rep86 (σ := setF (setI τ p 17 (seedS (A 519))) (p + 7) (s * 3 + i) (nI (lfS A (P 5)))) hpt (CE_c hpt hF3 E2) W L3 VR hs (by rw [eR]; exact hi)
      refine ⟨ω, o1, o2, ?_, ?_, ?_, FR_t hF1 (FR_t hF2 (FR_t hF3 o6))⟩
      · rw [o3, ← n60]
        refine up1_c ?_
        funext j
        exact sF_ne (by omega)
      · rw [o4, ← n61]
        refine up1_c ?_
        funext j
        exact sF_ne (by omega)
      · have q57 : sI (setF (setI τ p 17 (seedS (A 519))) (p + 7) (s * 3 + i) (nI (lfS A (P 5)))) 57 3 = sI σ 57 3 := by
          show sI (setI τ p 17 (seedS (A 519))) 57 3 = _
          rw [sI_ne (by omega), n57]
        rw [o5, q57]
    | some t =>
      obtain ⟨k1, k2, k3, k4⟩ := c1 t hc
      rw [hc] at hrp
      replace hrp : rpA P s i A = owA (drA (drA A)) s i (nI t) (nI (lfS (drA A) (P 5))) (A 517 + 1) := hrp
      have elf : lfS (drA (up1 A (48 + 3 * s + i) (A (48 + 3 * s + i) - 1))) (P 5) = lfS (drA A) (P 5) := by
        unfold lfS
        rw [drA_9 (B := A) (up1_n (by omega))]
      rw [elf] at k3
      have f15 : sI τ p 15 = A 517 := by
        rw [← cV_517, k4, drA_n (by omega), drA_n (by omega), L1.2.2.2 517 (by omega) (by omega), up1_n (by omega)]
      have p15 : ∀ u v, sI (setF (setF τ (p + 6) (s * 3 + i) u) (p + 7) (s * 3 + i) v) p 15 = A 517 := fun u v => f15
      have p2 : ∀ u, sI (setF τ (p + 6) (s * 3 + i) u) 58 2 = nI (lfS (drA A) (P 5)) := fun u => k3
      simp only [k1, Option.bind_some]
      rw [if_neg (by decide)]
      simp only [rR_S6 hpt, rR_57_0, rI_58_1, k2, Option.bind_some, wa_S6 _ hpt hi18, rR_S7 (σ := setF τ (p + 6) (s * 3 + i) (nI t)) hpt, rI_58_2, p2, wa_S7 (σ := setF τ (p + 6) (s * 3 + i) (nI t)) _ hpt hi18, rR_S8 (σ := setF (setF τ (p + 6) (s * 3 + i) (nI t)) (p + 7) (s * 3 + i) (nI (lfS (drA A) (P 5)))) hpt, rI_S15 (σ := setF (setF τ (p + 6) (s * 3 + i) (nI t)) (p + 7) (s * 3 + i) (nI (lfS (drA A) (P 5)))) hpt, p15, wa_S8 (σ := setF (setF τ (p + 6) (s * 3 + i) (nI t)) (p + 7) (s * 3 + i) (nI (lfS (drA A) (P 5)))) _ hpt hi18]
      have hF3 : FR (cS p) (cT p) τ (setF (setF (setF τ (p + 6) (s * 3 + i) (nI t)) (p + 7) (s * 3 + i) (nI (lfS (drA A) (P 5)))) (p + 8) (s * 3 + i) (A 517 + 1)) := FR_t (FR_t (FR_cF (by omega)) (FR_cF (by omega))) (FR_cF (by omega))
      have L3 : LV (P 0) (cV (setF (setF (setF τ (p + 6) (s * 3 + i) (nI t)) (p + 7) (s * 3 + i) (nI (lfS (drA A) (P 5)))) (p + 8) (s * 3 + i) (A 517 + 1)) p) (rpA P s i A) := by
        rw [cw (r := 8) (j := 66 + 3 * s + i) (by decide) (by decide) hi18 (show 66 + (s * 3 + i) = 66 + 3 * s + i by omega), j7, cw (r := 6) (j := 30 + 3 * s + i) (by decide) (by decide) hi18 (show 30 + (s * 3 + i) = 30 + 3 * s + i by omega), k4, hrp, ← owA_dr (v := A (48 + 3 * s + i) - 1) hs6 hi3]
        exact LV_ow (LV_dr (LV_dr L1 w0) w0) hs6 hi3
      obtain ⟨ω, o1, o2, o3, o4, o5, o6⟩ := c_rep86 (σ := setF (setF (setF τ (p + 6) (s * 3 + i) (nI t)) (p + 7) (s * 3 + i) (nI (lfS (drA A) (P 5)))) (p + 8) (s * 3 + i) (A 517 + 1)) hpt (CE_c hpt hF3 E2) W L3 VR hs (by rw [eR]; exact hi)
      refine ⟨ω, o1, o2, ?_, ?_, ?_, FR_t hF1 (FR_t hF2 (FR_t hF3 o6))⟩
      · rw [o3, ← n60]
        refine up1_c ?_
        funext j
        rw [sF_ne (by omega), sF_ne (by omega), sF_ne (by omega)]
      · rw [o4, ← n61]
        refine up1_c ?_
        funext j
        rw [sF_ne (by omega), sF_ne (by omega), sF_ne (by omega)]
      · rw [o5, show sI (setF (setF (setF τ (p + 6) (s * 3 + i) (nI t)) (p + 7) (s * 3 + i) (nI (lfS (drA A) (P 5)))) (p + 8) (s * 3 + i) (A 517 + 1)) 57 3 = sI σ 57 3 from n57]
  · have hl1 : l ≠ 1 := fun z => by rw [el, z] at h0; exact h0 rfl
    rw [if_pos (show 0 < A (48 + 3 * s + i) - 1 by rw [el, nl_0]; exact nI_lt (by omega) (by omega))]
    have hrp : rpA P s i A = up1 A (48 + 3 * s + i) (A (48 + 3 * s + i) - 1) := by unfold rpA; rw [if_neg h0]
    obtain ⟨ω, o1, o2, o3, o4, o5, o6⟩ := c_rep86 (σ := σ1) hp1 E1 W (by rw [hrp]; exact L1) VR hs (by rw [eR]; exact hi)
    exact ⟨ω, o1, o2, by rw [o3, m60], by rw [o4, m61], by rw [o5, m57], FR_t hF1 o6⟩
theorem c_setH {s t : Nat} {u v : Int32} (hp : isSt (sK σ) p) (hs : s < 6) (ht : t < 30) : ∃ τ, xX5_setHolder p (nI s) (nI t) u v (mkH σ) = some (mkH τ) ∧ cV τ p = up1 (up1 (cV σ p) (84 + 30 * s + t) u) (264 + 30 * s + t) v ∧ FR (fun a => a = p + 9 ∨ a = p + 10) (fun _ _ => False) σ τ := by
  have hi : s * 30 + t < 180 := by omega
  refine ⟨setF (setF σ (p + 9) (s * 30 + t) u) (p + 10) (s * 30 + t) v, ?_, ?_, FR_t (FR_F (Or.inl rfl)) (FR_F (Or.inr rfl))⟩
  · simp only [xX5_setHolder, rR_S9 hp, Option.bind_some, nl_30, pk_mul, nI_add, wa_S9 _ hp hi, rR_S10 (σ := setF σ (p + 9) (s * 30 + t) u) hp, wa_S10 (σ := setF σ (p + 9) (s * 30 + t) u) _ hp hi]
  · rw [cw (r := 10) (j := 264 + 30 * s + t) (by decide) (by decide) hi (show 264 + (s * 30 + t) = 264 + 30 * s + t by omega), cw (r := 9) (j := 84 + 30 * s + t) (by decide) (by decide) hi (show 84 + (s * 30 + t) = 84 + 30 * s + t by omega)]
theorem c_hear {s o t l : Nat} (hp : isSt (sK σ) p) (W : PW P) (L : LV (P 0) (cV σ p) A) (V : WF 1 (P 0) (P 1) A) (hs : s < P 0) (ho : o < P 0) (ht : t < P 1) (h8 : sF σ 60 o = nI t) (h7 : sF σ 61 o = nI l) : ∃ τ, xX6_hear 57 p (nI s) (nI o) (mkH σ) = some (mkH τ) ∧ LV (P 0) (cV τ p) (hrA s o (nI t) (nI l) A) ∧ FR (fun a => p ≤ a ∧ a ≤ p + 12) (fun _ _ => False) σ τ := by
  have w0 := W.1
  have w30 := W.2.2.1
  have hp3 := st_in hp
  have hs6 : s < 6 := by omega
  have ho6 : o < 6 := by omega
  obtain ⟨t0, ht0, e0⟩ := V.2.2.2.1
  have e16 : sI σ p 16 = nI t0 := by rw [← cV_518, L.2.2.2 518 (by omega) (by omega), e0]
  obtain ⟨υ, u1, u2, u3⟩ := c_setH (σ := σ) (s := s) (t := t0) (u := -1) (v := 0) hp hs6 (by omega)
  have hpu : isSt (sK υ) p := by rw [FR_K u3]; exact hp
  have r8 : sF υ 60 o = nI t := by rw [u3.1 60 (by omega)]; exact h8
  have r7 : sF υ 61 o = nI l := by rw [u3.1 61 (by omega)]; exact h7
  obtain ⟨ω, o1, o2, o3⟩ := c_setH (σ := υ) (s := s) (t := t) (u := nI o) (v := nI l + 1) hpu hs6 (by omega)
  have hpo : isSt (sK ω) p := by rw [FR_K o3]; exact hpu
  have hi : s * 6 + o < 36 := by omega
  have b1 : sF ω (p + 1) o = A o := by
    rw [o3.1 (p + 1) (by omega), u3.1 (p + 1) (by omega), ← (L.1 o ho).1]
    have := cV_1 σ p ho6
    rw [Nat.zero_add] at this
    exact this.symm
  have b2 : sF (setF ω (p + 11) (s * 6 + o) (A o)) (p + 2) o = A (6 + o) := by
    rw [sF_ne (by omega), o3.1 (p + 2) (by omega), u3.1 (p + 2) (by omega), ← (L.1 o ho).2.1]
    exact (cV_2 σ p ho6).symm
  refine ⟨setF (setF ω (p + 11) (s * 6 + o) (A o)) (p + 12) (s * 6 + o) (A (6 + o)), ?_, ?_, FR_t (FR_m u3 (fun a z => by omega) (fun _ _ z => z)) (FR_t (FR_m o3 (fun a z => by omega) (fun _ _ z => z)) (FR_t (FR_F ⟨by omega, by omega⟩) (FR_F ⟨by omega, by omega⟩)))⟩
  · simp only [xX6_hear, rI_S16 hp, e16, Option.bind_some, is_S hp, gu_t, u1, rR_57_1, rR_57_2, ra_60 υ ho6, ra_61 υ ho6, r8, r7, is_S hpu, o1, rR_S11 hpo, rR_S1 hpo, ra_S1 hpo ho6, b1, nl_6, pk_mul, nI_add, wa_S11 _ hpo hi, rR_S12 (σ := setF ω (p + 11) (s * 6 + o) (A o)) hpo, rR_S2 (σ := setF ω (p + 11) (s * 6 + o) (A o)) hpo, ra_S2 (σ := setF ω (p + 11) (s * 6 + o) (A o)) hpo ho6, b2, wa_S12 (σ := setF ω (p + 11) (s * 6 + o) (A o)) _ hpo hi]
  · rw [cw (r := 12) (j := 480 + 6 * s + o) (by decide) (by decide) hi (show 480 + (s * 6 + o) = 480 + 6 * s + o by omega), cw (r := 11) (j := 444 + 6 * s + o) (by decide) (by decide) hi (show 444 + (s * 6 + o) = 444 + 6 * s + o by omega), o2, u2]
    unfold hrA
    rw [e0, tn_n (by omega), tn_n (by omega)]
    exact LV_upg (by omega) (LV_upg (by omega) (LV_upg (by omega) (LV_upg (by omega) (LV_upg (by omega) (LV_upg (by omega) L)))))
theorem far_LV {s o : Nat} (L : LV (P 0) (cV σ p) A) (hs : s < P 0) (ho : o < P 0) : farS (cV σ p) s o = farS A s o := by
  unfold farS
  rw [(L.1 s hs).1, (L.1 s hs).2.1, (L.1 o ho).1, (L.1 o ho).2.1]
/-- behind the inner loop of one who listens -/
theorem c_lis87 {s rep fad c f : Nat} {ns le : Nat → Int32} (r2 : Nat → Nat → Int32 → Int32 → ZH → Option ZH) (hp : isSt (sK σ) p) (W : PW P) (L : LV (P 0) (cV σ p) A) (V : WF 1 (P 0) (P 1) A) (hs : s < P 0) (hfl : fad < 2 ^ 6) (hfd : sI σ 57 3 = nI fad) (hr : ∀ s, rep.testBit s = true → (∃ t, t < P 1 ∧ ns s = nI t) ∧ ∃ l, 1 ≤ l ∧ l ≤ 7 ∧ le s = nI l) (h8 : ∀ o, rep.testBit o = true → sF σ 60 o = ns o ∧ sF σ 61 o = le o) (hc : c ≤ 6) (hcf : 0 < c → f < P 0 ∧ rep.testBit f = true) : ∃ τ, xX6_listenAll_B87 r2 57 p (nI rep) (nI s) (nI c) (if c = 0 then -1 else nI f) (mkH σ) = r2 57 p (nI rep) (nI (s + 1)) (mkH τ) ∧ LV (P 0) (cV τ p) (if 1 < c then up1 A 520 (A 520 + 1) else if c = 1 ∧ fad.testBit f = false then hrA s f (ns f) (le f) A else A) ∧ FR (fun a => p ≤ a ∧ a ≤ p + 12) (fun a k => a = p ∧ 13 ≤ k) σ τ := by
  have w0 := W.1
  have hp3 := st_in hp
  by_cases h1 : 1 < c
  · have e14 : sI σ p 14 = A 520 := by rw [← cV_520, L.2.2.2 520 (by omega) (by omega)]
    refine ⟨setI σ p 14 (A 520 + 1), ?_, ?_, FR_I ⟨rfl, by omega⟩⟩
    · simp only [xX6_listenAll_B87, xX6_listenAll_B103, rI_S14 hp, e14, Option.bind_some, wI_S14 _ hp, nI_s]
      rw [if_neg (fun z => by rw [nl_1] at z; have := (nI_leI (by omega) (by omega)).mp z; omega), if_neg (fun z => by rw [nl_1] at z; have := (nI_eq (by omega) (by omega)).mp z; omega)]
    · rw [if_pos h1, cV_I (i := 520) (by omega)]
      exact LV_upg (by omega) L
  · rw [if_neg h1]
    simp only [xX6_listenAll_B87, xX6_listenAll_B103, nI_s]
    rw [if_pos (by rw [nl_1]; exact (nI_leI (by omega) (by omega)).mpr (by omega))]
    by_cases h2 : c = 1
    · subst h2
      obtain ⟨f1, f2⟩ := hcf (by omega)
      rw [if_pos (show nI 1 = 1 from rfl), if_neg (show ¬ (1 : Nat) = 0 by decide)]
      simp only [rI_57_3, hfd, Option.bind_some]
      have hbb := bitB_n (show fad < 2 ^ 31 by omega) (show f < 32 by omega)
      unfold bitB at hbb
      by_cases hfb : fad.testBit f = true
      · rw [hfb] at hbb
        rw [if_neg (fun z => and1n.mp z (of_decide_eq_true hbb)), if_neg (fun z => by rw [hfb] at z; cases z.2)]
        exact ⟨σ, rfl, L, FR_r⟩
      · have hfb2 : fad.testBit f = false := by simpa using hfb
        rw [hfb2] at hbb
        rw [if_pos (and1n.mpr (of_decide_eq_false hbb)), if_pos ⟨trivial, hfb2⟩]
        obtain ⟨⟨t, ht, et⟩, l, l1, l2, el⟩ := hr f f2
        obtain ⟨τ, t1, t2, t3⟩ := c_hear (o := f) (t := t) (l := l) hp W L V hs f1 ht (by rw [(h8 f f2).1, et]) (by rw [(h8 f f2).2, el])
        simp only [is_57, gu_t, t1, Option.bind_some]
        rw [et, el]
        exact ⟨τ, rfl, t2, FR_m t3 (fun _ z => z) (fun _ _ z => z.elim)⟩
    · rw [if_neg (fun z => by rw [nl_1] at z; exact h2 ((nI_eq (by omega) (by omega)).mp z)), if_neg (fun z => h2 z.1)]
      exact ⟨σ, rfl, L, FR_r⟩
theorem c_lis42 {s rep fad : Nat} {ns le : Nat → Int32} (r2 : Nat → Nat → Int32 → Int32 → ZH → Option ZH) (hp : isSt (sK σ) p) (E : CE σ P on fo len) (W : PW P) (L : LV (P 0) (cV σ p) A) (V : WF 1 (P 0) (P 1) A) (hs : s < P 0) (hrl : rep < 2 ^ 6) (hfl : fad < 2 ^ 6) (hfd : sI σ 57 3 = nI fad) (hr : ∀ s, rep.testBit s = true → (∃ t, t < P 1 ∧ ns s = nI t) ∧ ∃ l, 1 ≤ l ∧ l ≤ 7 ∧ le s = nI l) (h8 : ∀ o, rep.testBit o = true → sF σ 60 o = ns o ∧ sF σ 61 o = le o) : ∃ τ, xX6_listenAll_L42 r2 zFU 57 p (nI rep) (nI s) (0 : Int32) (-1 : Int32) (0 : Int32) (mkH σ) = r2 57 p (nI rep) (nI (s + 1)) (mkH τ) ∧ LV (P 0) (cV τ p) (if 1 < (hdA P A s rep).1 then up1 A 520 (A 520 + 1) else if (hdA P A s rep).1 = 1 ∧ fad.testBit (hdA P A s rep).2 = false then hrA s (hdA P A s rep).2 (ns (hdA P A s rep).2) (le (hdA P A s rep).2) A else A) ∧ FR (fun a => p ≤ a ∧ a ≤ p + 12) (fun a k => a = p ∧ 13 ≤ k) σ τ := by
  have w0 := W.1
  have hp3 := st_in hp
  have hcl : (hdA P A s rep).1 ≤ P 0 := zf_I (fun k (r : Nat × Nat) => r.1 ≤ k) (P 0) (fun k r hk hI => by
    by_cases h : rep.testBit k = true ∧ farS A s k ≤ nI (P 2)
    · rw [if_pos h]; exact Nat.succ_le_succ hI
    · rw [if_neg h]; exact Nat.le_succ_of_le hI) (P 0) 0 (0, 0) (by omega) (Nat.le_refl 0)
  obtain ⟨τ, t1, t2, t3⟩ := c_lis87 (rep := rep) (c := (hdA P A s rep).1) (f := (hdA P A s rep).2) r2 hp W L V hs hfl hfd hr h8 (by omega) hd_in
  refine ⟨τ, ?_, t2, t3⟩
  obtain ⟨e, he⟩ := zfu (P 0) (by omega)
  have key : ∀ m k (r : Nat × Nat) e, k + m = P 0 → r.1 ≤ k → zf (fun o r => if rep.testBit o ∧ farS A s o ≤ nI (P 2) then (r.1 + 1, o) else r) k m r = hdA P A s rep → xX6_listenAll_L42 r2 (e + m + 1) 57 p (nI rep) (nI s) (nI r.1) (if r.1 = 0 then -1 else nI r.2) (nI k) (mkH σ) = r2 57 p (nI rep) (nI (s + 1)) (mkH τ) := by
    intro m
    induction m with
    | zero =>
      intro k r e hk hrk hz
      rw [zf] at hz
      show xX6_listenAll_B42 r2 (xX6_listenAll_L42 r2 (e + 0)) 57 p (nI rep) (nI s) (nI r.1) (if r.1 = 0 then -1 else nI r.2) (nI k) (mkH σ) = _
      simp only [xX6_listenAll_B42, rR_S0 hp, rI_21_7, E.1.1, Option.bind_some]
      rw [if_pos ((nI_leI (by omega) (by omega)).mpr (by omega)), hz]
      exact t1
    | succ m ih =>
      intro k r e hk hrk hz
      rw [zf] at hz
      show xX6_listenAll_B42 r2 (xX6_listenAll_L42 r2 (e + (m + 1))) 57 p (nI rep) (nI s) (nI r.1) (if r.1 = 0 then -1 else nI r.2) (nI k) (mkH σ) = _
      simp only [xX6_listenAll_B42, rR_S0 hp, rI_21_7, E.1.1, Option.bind_some]
      rw [if_neg (fun z => by have := (nI_leI (by omega) (by omega)).mp z; omega), show e + (m + 1) = e + m + 1 by omega]
      have hbb := bitB_n (show rep < 2 ^ 31 by omega) (show k < 32 by omega)
      unfold bitB at hbb
      simp only [is_S hp, gu_t, c_inRange hp (show s < 6 by omega) (show k < 6 by omega), Option.bind_some, far_LV L hs (show k < P 0 by omega), E.1.2.2.1, nI_s]
      by_cases hb : rep.testBit k = true
      · rw [hb] at hbb
        rw [if_pos (of_decide_eq_true hbb)]
        by_cases hf : farS A s k ≤ nI (P 2)
        · rw [if_pos ⟨hb, hf⟩] at hz
          rw [if_pos hf, if_neg (by decide)]
          have := ih (k + 1) (r.1 + 1, k) e (by omega) (Nat.succ_le_succ hrk) hz
          rw [if_neg (show ¬ (r.1 + 1, k).1 = 0 from Nat.succ_ne_zero _)] at this
          exact this
        · rw [if_neg (fun z => hf z.2)] at hz
          rw [if_neg hf, if_pos rfl]
          exact ih (k + 1) r e (by omega) (by omega) hz
      · rw [show rep.testBit k = false by simpa using hb] at hbb
        rw [if_neg (fun z => hb z.1)] at hz
        rw [if_neg (of_decide_eq_false hbb)]
        exact ih (k + 1) r e (by omega) (by omega) hz
  rw [he]
  exact key (P 0) 0 (0, 0) e (by omega) (Nat.le_refl 0) rfl
theorem FR_cl {σ τ : ZS} (h : FR (fun a => p ≤ a ∧ a ≤ p + 12) (fun a k => a = p ∧ 13 ≤ k) σ τ) : FR (cS p) (cT p) σ τ := FR_m h (fun a z => by unfold cS; omega) (fun a k z => by unfold cT; omega)
theorem c_listen {rep fad : Nat} {ns le : Nat → Int32} (hp : isSt (sK σ) p) (E : CE σ P on fo len) (W : PW P) (L : LV (P 0) (cV σ p) A) (V : WF 1 (P 0) (P 1) A) (hrl : rep < 2 ^ 6) (hfl : fad < 2 ^ 6) (hfd : sI σ 57 3 = nI fad) (hr : ∀ s, rep.testBit s = true → (∃ t, t < P 1 ∧ ns s = nI t) ∧ ∃ l, 1 ≤ l ∧ l ≤ 7 ∧ le s = nI l) (h8 : ∀ o, rep.testBit o = true → sF σ 60 o = ns o ∧ sF σ 61 o = le o) : ∃ τ, xX6_listenAll 57 p (nI rep) (mkH σ) = some (mkH τ) ∧ LV (P 0) (cV τ p) (zf (liA P on rep fad ns le) 0 (P 0) A) ∧ FR (cS p) (cT p) σ τ := by
  have w0 := W.1
  have hp3 := st_in hp
  obtain ⟨e, he⟩ := zfu (P 0) (by omega)
  have key := lpI (fun e k (τ : ZS) => xX6_listenAll_L2 e 57 p (nI rep) (nI k) (mkH τ)) (P 0) (fun k τ => FR (fun a => p ≤ a ∧ a ≤ p + 12) (fun a k => a = p ∧ 13 ≤ k) σ τ ∧ LV (P 0) (cV τ p) (zf (liA P on rep fad ns le) 0 k A) ∧ WF 1 (P 0) (P 1) (zf (liA P on rep fad ns le) 0 k A)) (fun v => ∃ τ, v = mkH τ ∧ LV (P 0) (cV τ p) (zf (liA P on rep fad ns le) 0 (P 0) A) ∧ FR (cS p) (cT p) σ τ) ?_ ?_ (P 0) 0 σ e (by omega) ⟨FR_r, L, V⟩
  · obtain ⟨v, hv, τ, hv2, t2, t3⟩ := key
    refine ⟨τ, ?_, t2, t3⟩
    unfold xX6_listenAll
    rw [he, ← hv2]
    exact hv
  · rintro e k τ hk ⟨hF, hL, V'⟩
    right
    have hpt : isSt (sK τ) p := by rw [FR_K hF]; exact hp
    have E' := CE_c hp (FR_cl hF) E
    have hB : xX6_listenAll_L2 (e + 1) 57 p (nI rep) (nI k) (mkH τ) = xX6_listenAll_B2 (xX6_listenAll_L2 e) 57 p (nI rep) (nI k) (mkH τ) := rfl
    rw [zf_l, Nat.zero_add]
    have VW := WF_li (on := on) (fad := fad) W V' (show k < 6 by omega) hr
    generalize zf (liA P on rep fad ns le) 0 k A = A' at *
    simp only [hB, xX6_listenAll_B2, rR_S0 hpt, rI_21_7, E'.1.1, Option.bind_some]
    rw [if_neg (fun z => by have := (nI_leI (by omega) (by omega)).mp z; omega)]
    simp only [is_S hpt, gu_t, c_on hpt E' W hL hk, Option.bind_some, nI_s]
    have hbb := bitB_n (show rep < 2 ^ 31 by omega) (show k < 32 by omega)
    unfold bitB at hbb
    by_cases ho : onA A' on k = true
    · rw [ho]
      simp only [if_true]
      rw [if_neg (by decide)]
      by_cases hb : rep.testBit k = true
      · rw [hb] at hbb
        rw [if_pos (of_decide_eq_true hbb)]
        have el : liA P on rep fad ns le k A' = A' := by
          unfold liA
          rw [if_neg (fun z => by rw [hb] at z; cases z.2)]
        rw [el]
        exact ⟨τ, rfl, hF, hL, V'⟩
      · have hb2 : rep.testBit k = false := by simpa using hb
        rw [hb2] at hbb
        rw [if_neg (of_decide_eq_false hbb)]
        obtain ⟨υ, u1, u2, u3⟩ := c_lis42 (s := k) (fad := fad) (xX6_listenAll_L2 e) hpt E' W hL V' hk hrl hfl (by rw [hF.2.1 57 3 (by omega)]; exact hfd) hr (fun o ho => by rw [hF.1 60 (by omega), hF.1 61 (by omega)]; exact h8 o ho)
        refine ⟨υ, u1, FR_t hF u3, ?_, VW⟩
        unfold liA
        rw [if_pos ⟨ho, hb2⟩]
        exact u2
    · rw [show onA A' on k = false by simpa using ho]
      simp only [Bool.false_eq_true, if_false, if_true]
      have el : liA P on rep fad ns le k A' = A' := by
        unfold liA
        rw [if_neg (fun z => ho z.1)]
      rw [el]
      exact ⟨τ, rfl, hF, hL, V'⟩
  · rintro e τ ⟨hF, hL, V'⟩
    have hpt : isSt (sK τ) p := by rw [FR_K hF]; exact hp
    have E' := CE_c hp (FR_cl hF) E
    refine ⟨mkH τ, ?_, τ, rfl, hL, FR_cl hF⟩
    show xX6_listenAll_B2 (xX6_listenAll_L2 e) 57 p (nI rep) (nI (P 0)) (mkH τ) = _
    simp only [xX6_listenAll_B2, rR_S0 hpt, rI_21_7, E'.1.1, Option.bind_some]
    rw [if_pos ((nI_leI (by omega) (by omega)).mpr (Nat.le_refl _))]
theorem li_0 {fad : Nat} {ns le : Nat → Int32} : ∀ m k (A : Nat → Int32), zf (liA P on 0 fad ns le) k m A = A := by
  have h0 : ∀ (A : Nat → Int32) s, (hdA P A s 0).1 = 0 := by
    intro A s
    refine zf_I (fun _ (r : Nat × Nat) => r.1 = 0) (P 0) (fun k r hk hI => ?_) (P 0) 0 (0, 0) (by omega) rfl
    rw [if_neg (fun z => by rw [Nat.zero_testBit] at z; cases z.1)]
    exact hI
  intro m
  induction m with
  | zero => intro k A; rfl
  | succ m ih =>
    intro k A
    rw [zf, ih]
    unfold liA
    by_cases h : onA A on k = true ∧ (0 : Nat).testBit k = false
    · rw [if_pos h, if_neg (by rw [h0]; omega), if_neg (fun z => by rw [h0] at z; cases z.1)]
    · rw [if_neg h]
theorem c_goOn (hp : isSt (sK σ) p) (E : CE σ P on fo len) (W : PW P) (L : LV (P 0) (cV σ p) A) (V : WF 1 (P 0) (P 1) A) : ∃ τ, xX5_goOn p (mkH σ) = some (mkH τ) ∧ LV (P 0) (cV τ p) (noA P A) ∧ FR (cS p) (cT p) σ τ := by
  have w0 := W.1
  have w6 := W.2.1
  have w30 := W.2.2.1
  have hp3 := st_in hp
  obtain ⟨t0, ht0, e0⟩ := V.2.2.2.1
  have e16 : sI σ p 16 = nI t0 := by rw [← cV_518, L.2.2.2 518 (by omega) (by omega), e0]
  have e15 : sI σ p 15 = A 517 := by rw [← cV_517, L.2.2.2 517 (by omega) (by omega)]
  have r1 : sI (setI σ p 16 (nI (t0 + 1))) 21 0 = nI (P 1) := by rw [sI_ne (by omega)]; exact E.1.2.1
  have r2 : sI (setI σ p 16 (nI (t0 + 1))) p 16 = nI (t0 + 1) := sI_eq
  have r3 : sI (setI (setI σ p 16 (nI (t0 + 1))) p 16 0) p 15 = A 517 := by rw [sI_ne (by omega), sI_ne (by omega)]; exact e15
  simp only [xX5_goOn, rI_S16 hp, e16, Option.bind_some, nI_s, wI_S16 _ hp, rI_S16 (σ := setI σ p 16 (nI (t0 + 1))) hp, r2, rR_S0 (σ := setI σ p 16 (nI (t0 + 1))) hp, rI_21_0, r1]
  have hc1 : cV (setI σ p 16 (nI (t0 + 1))) p = up1 (cV σ p) 518 (nI (t0 + 1)) := cV_I (by omega)
  unfold noA
  rw [e0, tn_n (by omega)]
  by_cases h : t0 + 1 = P 1
  · rw [if_neg (fun z => by have := (nI_ltI (by omega) (by omega)).mp z; omega), if_pos h]
    simp only [wI_S16 (σ := setI σ p 16 (nI (t0 + 1))) _ hp, Option.bind_some, rI_S15 (σ := setI (setI σ p 16 (nI (t0 + 1))) p 16 0) hp, r3, wI_S15 (σ := setI (setI σ p 16 (nI (t0 + 1))) p 16 0) _ hp]
    refine ⟨_, rfl, ?_, FR_t (FR_cI (by omega)) (FR_t (FR_cI (by omega)) (FR_cI (by omega)))⟩
    rw [cV_I (i := 517) (by omega), cV_I (i := 518) (by omega), hc1, up1_2]
    exact LV_upg (by omega) (LV_upg (by omega) L)
  · rw [if_pos ((nI_ltI (by omega) (by omega)).mpr (by omega)), if_neg h]
    refine ⟨_, rfl, ?_, FR_cI (by omega)⟩
    rw [hc1]
    exact LV_upg (by omega) L
end CG
