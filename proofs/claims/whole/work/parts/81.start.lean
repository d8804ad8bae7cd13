/-! a fleet begun anew: class and reference; rows of the reference kept and brought back -/
theorem c_stF {σ : ZS} {p : Nat} {dr : Int32} (hp : isSt (sK σ) p) (hd : sI σ 21 6 = dr) : ∃ τ, xX5_start_L74 zFU p (0 : Int32) (mkH σ) = some (mkH τ) ∧ cV τ p = up1 (up1 (up1 (up1 (up1 (fgU 6 (cV σ p)) 516 0) 520 0) 517 0) 518 0) 519 dr ∧ FR (qS p) (qT p) σ τ := by
  have hp3 := st_in hp
  obtain ⟨e, he⟩ := zfu 6 (by omega)
  have key := lpI (fun e k (τ : ZS) => xX5_start_L74 e p (nI k) (mkH τ)) 6 (fun k τ => FR (qS p) (qT p) σ τ ∧ cV τ p = fgU k (cV σ p)) (fun v => ∃ τ, v = mkH τ ∧ cV τ p = up1 (up1 (up1 (up1 (up1 (fgU 6 (cV σ p)) 516 0) 520 0) 517 0) 518 0) 519 dr ∧ FR (qS p) (qT p) σ τ) ?_ ?_ 6 0 σ e (by omega) ⟨FR_r, fgU_0.symm⟩
  · obtain ⟨v, hv, τ, hv2, t2, t3⟩ := key
    refine ⟨τ, ?_, t2, t3⟩
    rw [he, ← hv2]
    exact hv
  · rintro e k τ hk ⟨hF, hA⟩
    right
    have hpt : isSt (sK τ) p := by rw [FR_K hF]; exact hp
    have hB : xX5_start_L74 (e + 1) p (nI k) (mkH τ) = xX5_start_B74 (xX5_start_L74 e) p (nI k) (mkH τ) := rfl
    obtain ⟨υ, u1, u2, u3⟩ := c_forget (s := k) hpt hk
    simp only [hB, xX5_start_B74, is_S hpt, gu_t, u1, Option.bind_some, nI_s]
    rw [if_neg (fun z => by rw [nl_6] at z; have := (nI_leI (by omega) (by omega)).mp z; omega)]
    refine ⟨υ, rfl, FR_t hF u3, ?_⟩
    rw [u2, hA]
    exact fgU_s hk
  · rintro e τ ⟨hF, hA⟩
    have hpt : isSt (sK τ) p := by rw [FR_K hF]; exact hp
    have d1 : sI (setI (setI (setI (setI τ p 13 0) p 14 0) p 15 0) p 16 0) 21 6 = dr := by
      rw [sI_ne (by omega), sI_ne (by omega), sI_ne (by omega), sI_ne (by omega), hF.2.1 21 6 (by unfold qT; omega)]
      exact hd
    refine ⟨mkH (setI (setI (setI (setI (setI τ p 13 0) p 14 0) p 15 0) p 16 0) p 17 dr), ?_, _, rfl, ?_, FR_t hF (FR_t (FR_t (FR_t (FR_t (FR_I ⟨rfl, by omega⟩) (FR_I ⟨rfl, by omega⟩)) (FR_I ⟨rfl, by omega⟩)) (FR_I ⟨rfl, by omega⟩)) (FR_I ⟨rfl, by omega⟩))⟩
    · show xX5_start_B74 (xX5_start_L74 e) p (nI 6) (mkH τ) = _
      simp only [xX5_start_B74]
      rw [if_pos (by rw [nl_6]; exact (nI_leI (by omega) (by omega)).mpr (Nat.le_refl _))]
      simp only [xX5_start_B91, wI_S13 _ hpt, Option.bind_some, wI_S14 (σ := setI τ p 13 0) _ hpt, wI_S15 (σ := setI (setI τ p 13 0) p 14 0) _ hpt, wI_S16 (σ := setI (setI (setI τ p 13 0) p 14 0) p 15 0) _ hpt, rR_S0 (σ := setI (setI (setI (setI τ p 13 0) p 14 0) p 15 0) p 16 0) hpt, rI_21_6, d1, wI_S17 (σ := setI (setI (setI (setI τ p 13 0) p 14 0) p 15 0) p 16 0) _ hpt]
    · rw [cV_I (i := 519) (by omega), cV_I (i := 518) (by omega), cV_I (i := 517) (by omega), cV_I (i := 520) (by omega), cV_I (i := 516) (by omega), hA]
theorem pc_G {σ τ : ZS} {p r c : Nat} (hr : 1 ≤ r) (hr2 : r ≤ 4) (hc : c = 21 + r) (hp : isSt (sK σ) p) (hF : FR (qS p) (qT p) σ τ) : ∃ υ, z_cp (mkH τ) c (p + r) (nI 6) = some (mkH υ) ∧ FR (qS p) (qT p) σ υ ∧ sF υ (p + r) = sF σ c ∧ ∀ i, i ≠ r → sF υ (p + i) = sF τ (p + i) := by
  subst hc
  have hp3 := st_in hp
  have hpt : isSt (sK τ) p := by rw [FR_K hF]; exact hp
  have l2 := (st_lay hpt).2 r (by omega)
  rw [vO_lay hr (by omega)] at l2
  have h6 : (vO r).2 = 6 := by rcases (show r = 1 ∨ r = 2 ∨ r = 3 ∨ r = 4 by omega) with rfl | rfl | rfl | rfl <;> rfl
  have l1 : layA (sK τ) (21 + r) = .inr (0, 6) := by rcases (show r = 1 ∨ r = 2 ∨ r = 3 ∨ r = 4 by omega) with rfl | rfl | rfl | rfl <;> rfl
  rw [h6] at l2
  refine ⟨setRow τ (p + r) (sF τ (21 + r)), mk_cp (m := 6) (by omega) (by have := (st_lay hpt).1; omega) l1 l2 (by decide) (Nat.le_refl _), FR_t hF (FR_R (by unfold qS; omega)), ?_, fun i hi => ?_⟩
  · show (fun j => if p + r = p + r then sF τ (21 + r) j else sF τ (p + r) j) = _
    funext j
    rw [if_pos rfl, hF.1 (21 + r) (by unfold qS; omega)]
  · show (fun j => if p + i = p + r then sF τ (21 + r) j else sF τ (p + i) j) = _
    funext j
    rw [if_neg (by omega)]
theorem c_start {σ : ZS} {p : Nat} {dr : Int32} (hp : isSt (sK σ) p) (hd : sI σ 21 6 = dr) : ∃ τ, xX5_start p (mkH σ) = some (mkH τ) ∧ (∀ j, j < 521 → cV τ p j = ctA (fun r s => sF σ (22 + r) s) dr (cV σ p) j) ∧ FR (qS p) (qT p) σ τ := by
  have hp3 := st_in hp
  have s0 : FR (qS p) (qT p) σ σ := FR_r
  obtain ⟨t1, e1, s1, f1, g1⟩ := pc_G (τ := σ) (r := 1) (c := 22) (by decide) (by decide) rfl hp s0
  have p1 : isSt (sK t1) p := by rw [FR_K s1]; exact hp
  obtain ⟨t2, e2, s2, f2, g2⟩ := pc_G (τ := t1) (r := 2) (c := 23) (by decide) (by decide) rfl hp s1
  have p2 : isSt (sK t2) p := by rw [FR_K s2]; exact hp
  obtain ⟨t3, e3, s3, f3, g3⟩ := pc_G (τ := t2) (r := 3) (c := 24) (by decide) (by decide) rfl hp s2
  have p3 : isSt (sK t3) p := by rw [FR_K s3]; exact hp
  obtain ⟨t4, e4, s4, f4, g4⟩ := pc_G (τ := t3) (r := 4) (c := 25) (by decide) (by decide) rfl hp s3
  have p4 : isSt (sK t4) p := by rw [FR_K s4]; exact hp
  have hd4 : sI t4 21 6 = dr := by rw [s4.2.1 21 6 (by unfold qT; omega)]; exact hd
  obtain ⟨τ, u1, u2, u3⟩ := c_stF p4 hd4
  refine ⟨τ, ?_, ?_, FR_t s4 u3⟩
  · simp only [xX5_start, Option.bind_some, nl_6, rR_S0 hp, rR_21_9, rR_S1 hp, e1, rR_S0 p1, rR_21_10, rR_S2 p1, e2, rR_S0 p2, rR_21_11, rR_S3 p2, e3, rR_S0 p3, rR_21_12, rR_S4 p3, e4, u1]
  · intro j hj5
    rw [u2]
    unfold ctA
    have hv : ∀ j, j < 516 → cV t4 p j = if j < 24 then sF σ (22 + j / 6) (j % 6) else cV σ p j := by
      intro j hj
      by_cases h : j < 24
      · rw [if_pos h]
        rcases (show j < 6 ∨ (6 ≤ j ∧ j < 12) ∨ (12 ≤ j ∧ j < 18) ∨ (18 ≤ j ∧ j < 24) by omega) with c | c | c | c
        · have := cV_1 t4 p c
          rw [Nat.zero_add] at this
          rw [this, g4 1 (by decide), g3 1 (by decide), g2 1 (by decide), f1, show j / 6 = 0 by omega, show j % 6 = j by omega]
        · have := cV_2 t4 p (i := j - 6) (by omega)
          rw [show 6 + (j - 6) = j by omega] at this
          rw [this, g4 2 (by decide), g3 2 (by decide), f2, show j / 6 = 1 by omega, show j % 6 = j - 6 by omega]
        · have := cV_3 t4 p (i := j - 12) (by omega)
          rw [show 12 + (j - 12) = j by omega] at this
          rw [this, g4 3 (by decide), f3, show j / 6 = 2 by omega, show j % 6 = j - 12 by omega]
        · have := cV_4 t4 p (i := j - 18) (by omega)
          rw [show 18 + (j - 18) = j by omega] at this
          rw [this, f4, show j / 6 = 3 by omega, show j % 6 = j - 18 by omega]
      · rw [if_neg h]
        obtain ⟨r, hr1, hr2, q1, q2, he⟩ := cV_row σ p j hj
        have hr5 : 5 ≤ r := by
          rcases Nat.lt_or_ge r 5 with h5 | h5
          · rcases (show r = 1 ∨ r = 2 ∨ r = 3 ∨ r = 4 by omega) with rfl | rfl | rfl | rfl <;> simp [vO] at q1 q2 <;> omega
          · exact h5
        rw [he, he, g4 r (by omega), g3 r (by omega), g2 r (by omega), g1 r (by omega)]
    have hc : ∀ j, j < 516 → fgU 6 (cV t4 p) j = fgU 6 (fun j => if j < 24 then sF σ (22 + j / 6) (j % 6) else cV σ p j) j := by
      intro j hj
      unfold fgU
      rw [hv j hj]
    by_cases h : j < 516
    · rw [up1_n (by omega), up1_n (by omega), up1_n (by omega), up1_n (by omega), up1_n (by omega), up1_n (by omega), up1_n (by omega), up1_n (by omega), up1_n (by omega), up1_n (by omega), hc j h]
    · rcases (show j = 516 ∨ j = 517 ∨ j = 518 ∨ j = 519 ∨ j = 520 by omega) with rfl | rfl | rfl | rfl | rfl
      · rw [up1_n (by omega), up1_n (by omega), up1_n (by omega), up1_n (by omega), up1_e, up1_n (by omega), up1_n (by omega), up1_n (by omega), up1_n (by omega), up1_e]
      · rw [up1_n (by omega), up1_n (by omega), up1_e, up1_n (by omega), up1_n (by omega), up1_e]
      · rw [up1_n (by omega), up1_e, up1_n (by omega), up1_e]
      · rw [up1_e, up1_e]
      · rw [up1_n (by omega), up1_n (by omega), up1_n (by omega), up1_e, up1_n (by omega), up1_n (by omega), up1_n (by omega), up1_e]
/-! the reference -/
theorem r_fgK {σ : ZS} {s : Nat} (hs : s < 6) : ∃ τ, xX9_forget_L57 zFU 78 (nI s) (0 : Int32) (mkH σ) = some (mkH τ) ∧ sF τ 104 = fgK s 6 (sF σ 104) ∧ FR (fun a => a = 104) (fun _ _ => False) σ τ := by
  obtain ⟨e, he⟩ := zfu 6 (by omega)
  have key := lpI (fun e k (τ : ZS) => xX9_forget_L57 e 78 (nI s) (nI k) (mkH τ)) 6 (fun k τ => FR (fun a => a = 104) (fun _ _ => False) σ τ ∧ sF τ 104 = fgK s k (sF σ 104)) (fun v => ∃ τ, v = mkH τ ∧ sF τ 104 = fgK s 6 (sF σ 104) ∧ FR (fun a => a = 104) (fun _ _ => False) σ τ) ?_ ?_ 6 0 σ e (by omega) ⟨FR_r, fgK_0.symm⟩
  · obtain ⟨v, hv, τ, hv2, t2, t3⟩ := key
    refine ⟨τ, ?_, t2, t3⟩
    rw [he, ← hv2]
    exact hv
  · rintro e k τ hk ⟨hF, hA⟩
    right
    have hB : xX9_forget_L57 (e + 1) 78 (nI s) (nI k) (mkH τ) = xX9_forget_B57 (xX9_forget_L57 e) 78 (nI s) (nI k) (mkH τ) := rfl
    simp only [hB, xX9_forget_B57, rR_78_41, Option.bind_some, nl_444, nl_480, nl_6, pk_mul, nI_add, wa_104 _ _ (show 444 + 6 * s + k < 521 by omega), wa_104 _ _ (show 480 + 6 * s + k < 521 by omega), nI_s]
    rw [if_neg (fun z => by have := (nI_leI (by omega) (by omega)).mp z; omega)]
    refine ⟨_, rfl, FR_t hF (FR_t (FR_F rfl) (FR_F rfl)), ?_⟩
    rw [sF_up, sF_up, hA]
    exact fgK_s hs hk
  · rintro e τ ⟨hF, hA⟩
    refine ⟨mkH τ, ?_, τ, rfl, hA, hF⟩
    show xX9_forget_B57 (xX9_forget_L57 e) 78 (nI s) (nI 6) (mkH τ) = _
    simp only [xX9_forget_B57]
    rw [if_pos (by rw [nl_6]; exact (nI_leI (by omega) (by omega)).mpr (Nat.le_refl _))]
theorem r_forget {σ : ZS} {s : Nat} (hs : s < 6) : ∃ τ, xX9_forget 78 (nI s) (mkH σ) = some (mkH τ) ∧ sF τ 104 = fgA s (sF σ 104) ∧ FR (fun a => a = 104) (fun _ _ => False) σ τ := by
  obtain ⟨e, he⟩ := zfu 30 (by omega)
  have key := lpI (fun e k (τ : ZS) => xX9_forget_L12 e 78 (nI s) (nI k) (mkH τ)) 30 (fun k τ => FR (fun a => a = 104) (fun _ _ => False) σ τ ∧ sF τ 104 = fgH s k (up1 (sF σ 104) (24 + s) 0)) (fun v => ∃ τ, v = mkH τ ∧ sF τ 104 = fgA s (sF σ 104) ∧ FR (fun a => a = 104) (fun _ _ => False) σ τ) ?_ ?_ 30 0 (setF σ 104 (24 + s) 0) e (by omega) ⟨FR_F rfl, by rw [sF_up, fgH_0]⟩
  · obtain ⟨v, hv, τ, hv2, t2, t3⟩ := key
    refine ⟨τ, ?_, t2, t3⟩
    simp only [xX9_forget, rR_78_41, Option.bind_some, nl_24, nI_add, wa_104 _ _ (show 24 + s < 521 by omega)]
    rw [he, ← hv2]
    exact hv
  · rintro e k τ hk ⟨hF, hA⟩
    right
    have hB : xX9_forget_L12 (e + 1) 78 (nI s) (nI k) (mkH τ) = xX9_forget_B12 (xX9_forget_L12 e) 78 (nI s) (nI k) (mkH τ) := rfl
    simp only [hB, xX9_forget_B12, rR_78_41, Option.bind_some, nl_84, nl_264, nl_30, pk_mul, nI_add, wa_104 _ _ (show 84 + 30 * s + k < 521 by omega), wa_104 _ _ (show 264 + 30 * s + k < 521 by omega), nI_s]
    rw [if_neg (fun z => by have := (nI_leI (by omega) (by omega)).mp z; omega)]
    refine ⟨_, rfl, FR_t hF (FR_t (FR_F rfl) (FR_F rfl)), ?_⟩
    rw [sF_up, sF_up, hA]
    exact fgH_s hs hk
  · rintro e τ ⟨hF, hA⟩
    obtain ⟨υ, u1, u2, u3⟩ := r_fgK (σ := τ) hs
    refine ⟨mkH υ, ?_, υ, rfl, ?_, FR_t hF u3⟩
    · show xX9_forget_B12 (xX9_forget_L12 e) 78 (nI s) (nI 30) (mkH τ) = _
      simp only [xX9_forget_B12]
      rw [if_pos (by rw [nl_30]; exact (nI_leI (by omega) (by omega)).mpr (Nat.le_refl _))]
      exact u1
    · rw [u2, hA]
      rfl
theorem r_layTold {σ : ZS} {bk : Nat} {P : Nat → Nat} (R : RP σ bk P) (W : PW P) : ∃ τ, xX9_layTold 78 (mkH σ) = some (mkH τ) ∧ sF τ 104 = stA (P 0) (fun r s => sF σ (91 + r) (6 * bk + s)) (nI (P 7)) (fun j => if j < 521 then 0 else sF σ 104 j) ∧ FR (fun a => a = 104) (fun _ _ => False) σ τ := by
  have w0 := W.1
  have hb := R.2.1
  obtain ⟨e, he⟩ := zfu 521 (by omega)
  obtain ⟨e2, he2⟩ := zfu 6 (by omega)
  have hz0 : (fun j => if j < 0 then 0 else sF σ 104 j) = sF σ 104 := by
    funext j
    rw [if_neg (by omega)]
  have key := lpI (fun e k (τ : ZS) => xX9_layTold_L2 e 78 (nI k) (mkH τ)) 521 (fun k τ => FR (fun a => a = 104) (fun _ _ => False) σ τ ∧ sF τ 104 = fun j => if j < k then 0 else sF σ 104 j) (fun v => ∃ τ, v = mkH τ ∧ sF τ 104 = stA (P 0) (fun r s => sF σ (91 + r) (6 * bk + s)) (nI (P 7)) (fun j => if j < 521 then 0 else sF σ 104 j) ∧ FR (fun a => a = 104) (fun _ _ => False) σ τ) ?_ ?_ 521 0 σ e (by omega) ⟨FR_r, hz0.symm⟩
  · obtain ⟨v, hv, τ, hv2, t2, t3⟩ := key
    refine ⟨τ, ?_, t2, t3⟩
    unfold xX9_layTold
    rw [he, ← hv2]
    exact hv
  · rintro e k τ hk ⟨hF, hA⟩
    right
    have hB : xX9_layTold_L2 (e + 1) 78 (nI k) (mkH τ) = xX9_layTold_B2 (xX9_layTold_L2 e) 78 (nI k) (mkH τ) := rfl
    simp only [hB, xX9_layTold_B2, rR_78_41, Option.bind_some, wa_104 _ _ (show k < 521 by omega), nI_s]
    rw [if_neg (fun z => by rw [nl_521] at z; have := (nI_leI (by omega) (by omega)).mp z; omega)]
    refine ⟨_, rfl, FR_t hF (FR_F rfl), ?_⟩
    rw [sF_up, hA]
    funext j
    by_cases hj : j = k
    · rw [hj, up1_e, if_pos (by omega)]
    · rw [up1_n hj]
      by_cases h2 : j < k
      · rw [if_pos h2, if_pos (by omega)]
      · rw [if_neg h2, if_neg (by omega)]
  · rintro e τ ⟨hF, hA⟩
    have key2 := lpI (fun e k (υ : ZS) => xX9_layTold_L24 e 78 (nI k) (mkH υ)) 6 (fun k υ => FR (fun a => a = 104) (fun _ _ => False) σ υ ∧ sF υ 104 = tlU (P 0) (fun r s => sF σ (91 + r) (6 * bk + s)) k (fun j => if j < 521 then 0 else sF σ 104 j)) (fun v => ∃ υ, v = mkH υ ∧ sF υ 104 = stA (P 0) (fun r s => sF σ (91 + r) (6 * bk + s)) (nI (P 7)) (fun j => if j < 521 then 0 else sF σ 104 j) ∧ FR (fun a => a = 104) (fun _ _ => False) σ υ) ?_ ?_ 6 0 τ e2 (by omega) ⟨hF, by rw [tlU_0]; exact hA⟩
    · obtain ⟨v, hv, υ, hv2, t2, t3⟩ := key2
      refine ⟨mkH υ, ?_, υ, rfl, t2, t3⟩
      show xX9_layTold_B2 (xX9_layTold_L2 e) 78 (nI 521) (mkH τ) = _
      simp only [xX9_layTold_B2]
      rw [if_pos (by rw [nl_521]; exact (nI_leI (by omega) (by omega)).mpr (Nat.le_refl _)), he2, ← hv2]
      exact hv
    · rintro e k υ hk ⟨hF2, hA2⟩
      right
      have R2 : RP υ bk P := RP_f hF2 (fun a h1 h2 z => by omega) (fun z => z) R
      have B2 := RP_B R2 W
      have hB : xX9_layTold_L24 (e + 1) 78 (nI k) (mkH υ) = xX9_layTold_B24 (xX9_layTold_L24 e) 78 (nI k) (mkH υ) := rfl
      simp only [hB, xX9_layTold_B24, is_78, gu_t, r_lots B2, Option.bind_some]
      rw [if_neg (fun z => by rw [nl_6] at z; have := (nI_leI (by omega) (by omega)).mp z; omega)]
      have hs := tlU_s (n := P 0) (X := fun r s => sF σ (91 + r) (6 * bk + s)) (Z := fun j => if j < 521 then 0 else sF σ 104 j) hk
      unfold tlA at hs
      by_cases hkn : k < P 0
      · rw [if_neg (fun z => by have := (nI_leI (by omega) (by omega)).mp z; omega)]
        rw [if_pos hkn] at hs
        have st : ∀ (υ' : ZS) (i r : Nat), i < 521 → FR (fun a => a = 104) (fun _ _ => False) σ υ' → ∃ υ'', z_uI (mkH υ') 104 (nI i) (sF σ (91 + r) (6 * bk + k)) = some (mkH υ'') ∧ sF υ'' 104 = up1 (sF υ' 104) i (sF σ (91 + r) (6 * bk + k)) ∧ FR (fun a => a = 104) (fun _ _ => False) σ υ'' ∧ sI υ'' 78 34 = nI bk := by
          intro υ' i r hi hF'
          refine ⟨setF υ' 104 i (sF σ (91 + r) (6 * bk + k)), wa_104 υ' _ hi, sF_up, FR_t hF' (FR_F rfl), ?_⟩
          show sI υ' 78 34 = nI bk
          rw [hF'.2.1 78 34 (fun z => z)]
          exact R.1
        have rd : ∀ (υ' : ZS) (c : Nat), 91 ≤ c → c ≤ 94 → FR (fun a => a = 104) (fun _ _ => False) σ υ' → sF υ' c (6 * bk + k) = sF σ c (6 * bk + k) := fun υ' c h1 h2 hF' => by rw [hF'.1 c (by omega)]
        obtain ⟨y1, a1, b1, f1, g1⟩ := st υ k 0 (by omega) hF2
        obtain ⟨y2, a2, b2, f2, g2⟩ := st y1 (6 + k) 1 (by omega) f1
        obtain ⟨y3, a3, b3, f3, g3⟩ := st y2 (12 + k) 2 (by omega) f2
        obtain ⟨y4, a4, b4, f4, g4⟩ := st y3 (18 + k) 3 (by omega) f3
        obtain ⟨ω, o1, o2, o3⟩ := r_forget (σ := y4) hk
        have hi12 : 6 * bk + k < 12 := by omega
        replace a1 : z_uI (mkH υ) 104 (nI k) (sF σ 91 (6 * bk + k)) = some (mkH y1) := a1
        replace a2 : z_uI (mkH y1) 104 (nI (6 + k)) (sF σ 92 (6 * bk + k)) = some (mkH y2) := a2
        replace a3 : z_uI (mkH y2) 104 (nI (12 + k)) (sF σ 93 (6 * bk + k)) = some (mkH y3) := a3
        replace a4 : z_uI (mkH y3) 104 (nI (18 + k)) (sF σ 94 (6 * bk + k)) = some (mkH y4) := a4
        simp only [rR_78_41, rR_78_21, rR_78_22, rR_78_23, rR_78_24, Option.bind_some, rI_78_34, R2.1, g1, g2, g3, nl_0, nl_6, nl_12, nl_18, pk_mul, nI_add, Nat.zero_add, ra_91 υ hi12, rd υ 91 (by omega) (by omega) hF2, a1, ra_92 y1 hi12, rd y1 92 (by omega) (by omega) f1, a2, ra_93 y2 hi12, rd y2 93 (by omega) (by omega) f2, a3, ra_94 y3 hi12, rd y3 94 (by omega) (by omega) f3, a4, is_78, gu_t, o1, nI_s]
        refine ⟨ω, rfl, FR_t f4 o3, ?_⟩
        rw [o2, b4, b3, b2, b1, hA2]
        exact hs
      · rw [if_pos ((nI_leI (by omega) (by omega)).mpr (by omega))]
        rw [if_neg hkn] at hs
        obtain ⟨ω, o1, o2, o3⟩ := r_forget (σ := υ) hk
        simp only [is_78, gu_t, o1, Option.bind_some, nI_s]
        refine ⟨ω, rfl, FR_t hF2 o3, ?_⟩
        rw [o2, hA2]
        exact hs
    · rintro e υ ⟨hF2, hA2⟩
      have R2 : RP υ bk P := RP_f hF2 (fun a h1 h2 z => by omega) (fun z => z) R
      refine ⟨mkH (setF υ 104 519 (nI (P 7))), ?_, _, rfl, ?_, FR_t hF2 (FR_F rfl)⟩
      · show xX9_layTold_B24 (xX9_layTold_L24 e) 78 (nI 6) (mkH υ) = _
        simp only [xX9_layTold_B24]
        rw [if_pos (by rw [nl_6]; exact (nI_leI (by omega) (by omega)).mpr (Nat.le_refl _))]
        simp only [xX9_layTold_B140, rR_78_41, rR_78_19, rI_78_34, R2.1, Option.bind_some, ra_89 υ hb, R2.2.2.2.2.2.2.2.2.2.1, nl_519, wa_104 υ _ (show 519 < 521 by omega)]
      · rw [sF_up, hA2]
        rfl
