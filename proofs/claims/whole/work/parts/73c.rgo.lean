/-! the reference's step: the whole step -/
section RG
variable {σ : ZS} {bk len : Nat} {P : Nat → Nat} {on fo : Nat → Int32}
theorem r_go3 (W : PW P) : ∀ (υ : ZS) (rep : Nat), RE υ bk P on fo len → WF 1 (P 0) (P 1) (sF υ 104) → ∃ τ, xX9_goStep_B131 78 (nI rep) (mkH υ) = some (nI rep, mkH τ) ∧ sF τ 104 = noA P (sF υ 104) ∧ FR rS rT υ τ := by
  have w0 := W.1
  have w6 := W.2.1
  have w1 := W.2.2.1
  have hp6 : (2 : Nat) ^ P 0 ≤ 2 ^ 6 := Nat.pow_le_pow_right (by decide) w0
  intro υ rep E' V'
  obtain ⟨t0, ht0, e0⟩ := V'.2.2.2.1
  have R' := RP_r (FR_4 (σ := υ) (k := 518) (v := nI (t0 + 1))) E'.1
  have e8 : sF (setF υ 104 518 (nI (t0 + 1))) 104 518 = nI (t0 + 1) := sF_eq
  simp only [xX9_goStep_B131, rR_78_41, Option.bind_some, nl_518, ra_104 υ (show 518 < 521 by omega), e0, nI_s, wa_104 υ _ (show 518 < 521 by omega), ra_104 (setF υ 104 518 (nI (t0 + 1))) (show 518 < 521 by omega), e8, is_78, gu_t, r_round (RP_B R' W)]
  unfold noA
  rw [e0, tn_n (by omega)]
  by_cases h : t0 + 1 = P 1
  · rw [if_pos (by rw [h]), if_pos h]
    have e7 : sF (setF (setF υ 104 518 (nI (t0 + 1))) 104 518 0) 104 517 = sF υ 104 517 := by rw [sF_ne (by omega), sF_ne (by omega)]
    simp only [rR_78_41, wa_104 (setF υ 104 518 (nI (t0 + 1))) _ (show 518 < 521 by omega), Option.bind_some, nl_517, ra_104 (setF (setF υ 104 518 (nI (t0 + 1))) 104 518 0) (show 517 < 521 by omega), e7, wa_104 (setF (setF υ 104 518 (nI (t0 + 1))) 104 518 0) _ (show 517 < 521 by omega)]
    refine ⟨setF (setF (setF υ 104 518 (nI (t0 + 1))) 104 518 0) 104 517 (sF υ 104 517 + 1), rfl, ?_, FR_t FR_4 (FR_t FR_4 FR_4)⟩
    rw [sF_up, sF_up, sF_up]
    funext j
    by_cases j1 : j = 517
    · rw [j1, up1_e, up1_e]
    · rw [up1_n j1, up1_n j1]
      by_cases j2 : j = 518
      · rw [j2, up1_e, up1_e]
      · rw [up1_n j2, up1_n j2, up1_n j2]
  · rw [if_neg (fun z => h ((nI_eq (by omega) (by omega)).mp z)), if_neg h]
    exact ⟨_, rfl, sF_up, FR_4⟩
theorem r_go2 (W : PW P) : ∀ (υ : ZS) (r : ZR), RE υ bk P on fo len → sF υ 104 = r.1 → RI P (P 0) r → (∀ o, r.2.1.testBit o = true → sF υ 108 o = r.2.2.2.1 o ∧ sF υ 107 o = r.2.2.2.2 o + 1) → ∃ τ, xX9_goStep_L94 zFU 78 (nI r.2.1) (nI r.2.2.1) (0 : Int32) (mkH υ) = some (nI r.2.1, mkH τ) ∧ sF τ 104 = noA P (zf (liA P on r.2.1 r.2.2.1 r.2.2.2.1 r.2.2.2.2) 0 (P 0) r.1) ∧ FR rS rT υ τ := by
  have w0 := W.1
  have w6 := W.2.1
  have w1 := W.2.2.1
  have hp6 : (2 : Nat) ^ P 0 ≤ 2 ^ 6 := Nat.pow_le_pow_right (by decide) w0
  intro υ r E' hA0 HI h8
  have hrl : r.2.1 < 2 ^ 6 := Nat.lt_of_lt_of_le HI.2.1 hp6
  have hfl : r.2.2.1 < 2 ^ 6 := Nat.lt_of_lt_of_le HI.2.2.1 hp6
  obtain ⟨e, he⟩ := zfu (P 0) (by omega)
  have key := lpI (fun e k (τ : ZS) => xX9_goStep_L94 e 78 (nI r.2.1) (nI r.2.2.1) (nI k) (mkH τ)) (P 0) (fun k τ => FR (fun a => a = 104) (fun _ _ => False) υ τ ∧ sF τ 104 = zf (liA P on r.2.1 r.2.2.1 r.2.2.2.1 r.2.2.2.2) 0 k r.1 ∧ WF 1 (P 0) (P 1) (sF τ 104)) (fun v => ∃ τ, v = (nI r.2.1, mkH τ) ∧ sF τ 104 = noA P (zf (liA P on r.2.1 r.2.2.1 r.2.2.2.1 r.2.2.2.2) 0 (P 0) r.1) ∧ FR rS rT υ τ) ?_ ?_ (P 0) 0 υ e (by omega) ⟨FR_r, hA0, by rw [hA0]; exact HI.1⟩
  · obtain ⟨v, hv, τ, hv2, t2, t3⟩ := key
    refine ⟨τ, ?_, t2, t3⟩
    rw [he, ← hv2]
    exact hv
  · rintro e k τ hk ⟨hF, hA, V'⟩
    right
    have E2 := RE_r (FR_104 hF) E'
    have B2 := RP_B E2.1 W
    have hB : xX9_goStep_L94 (e + 1) 78 (nI r.2.1) (nI r.2.2.1) (nI k) (mkH τ) = xX9_goStep_B94 (xX9_goStep_L94 e) 78 (nI r.2.1) (nI r.2.2.1) (nI k) (mkH τ) := rfl
    simp only [hB, xX9_goStep_B94, is_78, gu_t, r_lots B2, Option.bind_some]
    rw [if_neg (fun z => by have := (nI_leI (by omega) (by omega)).mp z; omega)]
    simp only [r_on E2 W hk, Option.bind_some, r_bit, bitB_n (show r.2.1 < 2 ^ 31 by omega) (show k < 32 by omega), nI_s, zf_l, Nat.zero_add, ← hA]
    unfold liA
    by_cases ho : onA (sF τ 104) on k = true
    · rw [ho]
      simp only [if_true]
      rw [if_neg (by decide)]
      cases hb : r.2.1.testBit k
      · simp only [Bool.false_eq_true, if_false, if_true]
        obtain ⟨ω, w1', w2', w3'⟩ := r_listen (σ := τ) (s := k) (rep := r.2.1) (fad := r.2.2.1) (ns := r.2.2.2.1) (le := r.2.2.2.2) E2 W V' hk hrl hfl HI.2.2.2 (fun o ho => by rw [hF.1 108 (by decide), hF.1 107 (by decide)]; exact h8 o ho)
        simp only [is_78, gu_t, w1', Option.bind_some]
        refine ⟨ω, rfl, FR_t hF w3', ?_, ?_⟩
        · rw [if_pos ⟨trivial, trivial⟩]; exact w2'
        · have := WF_li (on := on) (fad := r.2.2.1) W V' (show k < 6 by omega) HI.2.2.2
          unfold liA at this
          rw [if_pos ⟨ho, hb⟩] at this
          rw [w2']; exact this
      · simp only [if_true]
        rw [if_neg (by decide)]
        refine ⟨τ, rfl, hF, ?_, V'⟩
        rw [if_neg (fun z => by cases z.2)]
    · rw [show onA (sF τ 104) on k = false by simpa using ho]
      simp only [Bool.false_eq_true, if_false, if_true]
      refine ⟨τ, rfl, hF, ?_, V'⟩
      rw [if_neg (fun z => z.1)]
  · rintro e τ ⟨hF, hA, V'⟩
    have E2 := RE_r (FR_104 hF) E'
    have B2 := RP_B E2.1 W
    obtain ⟨ω, w1', w2', w3'⟩ := r_go3 W τ r.2.1 E2 V'
    refine ⟨(nI r.2.1, mkH ω), ?_, ω, rfl, ?_, FR_t (FR_104 hF) w3'⟩
    · show xX9_goStep_B94 (xX9_goStep_L94 e) 78 (nI r.2.1) (nI r.2.2.1) (nI (P 0)) (mkH τ) = _
      simp only [xX9_goStep_B94, is_78, gu_t, r_lots B2, Option.bind_some]
      rw [if_pos ((nI_leI (by omega) (by omega)).mpr (Nat.le_refl _))]
      exact w1'
    · rw [w2', hA]
theorem r_go1 (E : RE σ bk P on fo len) (W : PW P) (V : WF 1 (P 0) (P 1) (sF σ 104)) : ∀ (υ : ZS), RE υ bk P on fo len → FR rS rT σ υ → sF υ 104 = (if sF σ 104 518 = 0 then bgA P on fo len (sF σ 104) else sF σ 104) → ∃ τ, xX9_goStep_L21 zFU 78 (0 : Int32) (0 : Int32) (0 : Int32) (mkH υ) = some (nI (goA P on fo len (sF σ 104)).2, mkH τ) ∧ sF τ 104 = (goA P on fo len (sF σ 104)).1 ∧ FR rS rT σ τ := by
  have w0 := W.1
  have w6 := W.2.1
  have w1 := W.2.2.1
  have hp6 : (2 : Nat) ^ P 0 ≤ 2 ^ 6 := Nat.pow_le_pow_right (by decide) w0
  intro υ E' hFu hA0
  obtain ⟨e, he⟩ := zfu (P 0) (by omega)
  have H0 := RI_0 (on := on) (fo := fo) (len := len) W V
  have key := lpI (fun e k (x : ZS × Nat × Nat) => xX9_goStep_L21 e 78 (nI x.2.1) (nI x.2.2) (nI k) (mkH x.1)) (P 0) (fun k x => FR rS rT σ x.1 ∧ ∃ r, r = zf (raA P on) 0 k ((if sF σ 104 518 = 0 then bgA P on fo len (sF σ 104) else sF σ 104), 0, 0, (fun _ => 0), (fun _ => 0)) ∧ RI P k r ∧ sF x.1 104 = r.1 ∧ x.2.1 = r.2.1 ∧ x.2.2 = r.2.2.1 ∧ ∀ o, r.2.1.testBit o = true → sF x.1 108 o = r.2.2.2.1 o ∧ sF x.1 107 o = r.2.2.2.2 o + 1) (fun v => ∃ τ, v = (nI (goA P on fo len (sF σ 104)).2, mkH τ) ∧ sF τ 104 = (goA P on fo len (sF σ 104)).1 ∧ FR rS rT σ τ) ?_ ?_ (P 0) 0 (υ, 0, 0) e (by omega) ⟨hFu, _, rfl, H0, hA0, rfl, rfl, fun o ho => by
    have h2 : (0 : Nat).testBit o = true := ho
    rw [Nat.zero_testBit] at h2
    cases h2⟩
  · obtain ⟨v, hv, τ, hv2, t2, t3⟩ := key
    refine ⟨τ, ?_, t2, t3⟩
    rw [he, ← hv2]
    exact hv
  · rintro e k ⟨τ, rep, fad⟩ hk ⟨hF, r, hr, HI, hA, hrep, hfad, h8⟩
    right
    replace hrep : rep = r.2.1 := hrep
    replace hfad : fad = r.2.2.1 := hfad
    replace hA : sF τ 104 = r.1 := hA
    subst hrep hfad
    have hrl : r.2.1 < 2 ^ 6 := Nat.lt_of_lt_of_le HI.2.1 (Nat.pow_le_pow_right (by decide) (by omega))
    have E2 := RE_r hF E
    have B2 := RP_B E2.1 W
    have V' : WF 1 (P 0) (P 1) (sF τ 104) := by rw [hA]; exact HI.1
    have HN := RI_s (on := on) W (show k < 6 by omega) HI
    have hB : xX9_goStep_L21 (e + 1) 78 (nI r.2.1) (nI r.2.2.1) (nI k) (mkH τ) = xX9_goStep_B21 (xX9_goStep_L21 e) 78 (nI r.2.1) (nI r.2.2.1) (nI k) (mkH τ) := rfl
    have oc := WF_own V' (show k < 6 by omega)
    show ∃ s' : ZS × Nat × Nat, xX9_goStep_L21 (e + 1) 78 (nI r.2.1) (nI r.2.2.1) (nI k) (mkH τ) = _ ∧ _
    simp only [hB, xX9_goStep_B21, is_78, gu_t, r_lots B2, Option.bind_some]
    rw [if_neg (fun z => by have := (nI_leI (by omega) (by omega)).mp z; omega)]
    simp only [r_on E2 W hk, Option.bind_some]
    by_cases ho : onA (sF τ 104) on k = true
    · have ho2 : onA r.1 on k = true := by rw [← hA]; exact ho
      rw [ho]
      simp only [if_true]
      rw [if_neg (by decide)]
      simp only [rR_78_41, Option.bind_some, nl_518, ra_104 τ (show 518 < 521 by omega), is_78, gu_t, r_due (show k < 6 by omega) oc.2 oc.1]
      rw [hA] at oc ⊢
      cases hd : duA r.1 k (tn (r.1 (24 + k))) 0 with
      | none =>
        simp only [xX9_goStep_B54, nI_s]
        rw [if_neg (by decide)]
        have er : raA P on k r = r := by unfold raA; rw [if_pos ho2, hd]
        rw [er] at HN
        exact ⟨(τ, r.2.1, r.2.2.1), rfl, hF, r, by rw [zf_l, Nat.zero_add, ← hr, er], HN, hA, rfl, rfl, h8⟩
      | some i =>
        obtain ⟨-, d2, d3, -⟩ := du_in _ _ _ hd
        rw [Nat.zero_add] at d2
        obtain ⟨ω, w1', w2', w3', w4', w5'⟩ := r_report (σ := τ) (s := k) (i := i) E2 W V' (by omega) (by rw [hA]; exact d2) (by rw [hA]; exact d3)
        rw [hA] at w1' w2' w3' w4'
        have er : raA P on k r = (drA (rpA P k i r.1), r.2.1 ||| 2 ^ k, (if m100 (seedS (rpA P k i r.1 519)) < nI (P 6) then r.2.2.1 ||| 2 ^ k else r.2.2.1), up1 r.2.2.2.1 k (rpA P k i r.1 (30 + 3 * k + i)), up1 r.2.2.2.2 k (rpA P k i r.1 (48 + 3 * k + i))) := by unfold raA; rw [if_pos ho2, hd]
        simp only [xX9_goStep_B54, is_78, gu_t, w1', Option.bind_some, one_shl (show k < 32 by omega), nx_or, nI_s]
        rw [if_pos (nI_pos' (by omega))]
        refine ⟨(ω, r.2.1 ||| 2 ^ k, (if m100 (seedS (rpA P k i r.1 519)) < nI (P 6) then r.2.2.1 ||| 2 ^ k else r.2.2.1)), ?_, FR_t hF w5', raA P on k r, by rw [zf_l, Nat.zero_add, ← hr], HN, ?_, ?_, ?_, ?_⟩
        · by_cases hm : m100 (seedS (rpA P k i r.1 519)) < nI (P 6)
          · rw [if_pos hm, if_neg (by decide), if_pos hm]
          · rw [if_neg hm, if_pos rfl, if_neg hm]
        · rw [er]; exact w2'
        · rw [er]
        · rw [er]
        · rw [er]
          intro o hob
          show sF ω 108 o = up1 r.2.2.2.1 k _ o ∧ sF ω 107 o = up1 r.2.2.2.2 k _ o + 1
          rw [w3', w4']
          by_cases hok : o = k
          · rw [hok, up1_e, up1_e, up1_e, up1_e]
            exact ⟨rfl, rfl⟩
          · rw [up1_n hok, up1_n hok, up1_n hok, up1_n hok]
            apply h8
            have hs2 : (r.2.1 ||| 2 ^ k).testBit o = true := hob
            rw [Nat.testBit_or, Nat.testBit_two_pow, show decide (k = o) = false from decide_eq_false (fun z => hok z.symm), Bool.or_false] at hs2
            exact hs2
    · have ho2 : ¬ onA r.1 on k = true := by rw [← hA]; exact ho
      rw [show onA (sF τ 104) on k = false by simpa using ho]
      simp only [Bool.false_eq_true, if_false, if_true]
      simp only [xX9_goStep_B54, nI_s]
      rw [if_neg (by decide)]
      have er : raA P on k r = r := by unfold raA; rw [if_neg ho2]
      rw [er] at HN
      exact ⟨(τ, r.2.1, r.2.2.1), rfl, hF, r, by rw [zf_l, Nat.zero_add, ← hr, er], HN, hA, rfl, rfl, h8⟩
  · rintro e ⟨τ, rep, fad⟩ ⟨hF, r, hr, HI, hA, hrep, hfad, h8⟩
    replace hrep : rep = r.2.1 := hrep
    replace hfad : fad = r.2.2.1 := hfad
    replace hA : sF τ 104 = r.1 := hA
    subst hrep hfad
    have E2 := RE_r hF E
    have B2 := RP_B E2.1 W
    obtain ⟨ω, w1', w2', w3'⟩ := r_go2 W τ r E2 hA HI h8
    have er : r = rsA P on fo len (sF σ 104) := hr
    refine ⟨(nI (goA P on fo len (sF σ 104)).2, mkH ω), ?_, ω, rfl, ?_, FR_t hF w3'⟩
    · show xX9_goStep_B21 (xX9_goStep_L21 e) 78 (nI r.2.1) (nI r.2.2.1) (nI (P 0)) (mkH τ) = _
      simp only [xX9_goStep_B21, is_78, gu_t, r_lots B2, Option.bind_some]
      rw [if_pos ((nI_leI (by omega) (by omega)).mpr (Nat.le_refl _))]
      rw [w1', er]
      rfl
    · rw [w2', er]
      rfl
theorem r_go (E : RE σ bk P on fo len) (W : PW P) (F : WFo fo len) (V : WF 1 (P 0) (P 1) (sF σ 104)) : ∃ τ, xX9_goStep 78 (mkH σ) = some (nI (goA P on fo len (sF σ 104)).2, mkH τ) ∧ sF τ 104 = (goA P on fo len (sF σ 104)).1 ∧ FR rS rT σ τ := by
  simp only [xX9_goStep, rR_78_41, Option.bind_some, nl_518, ra_104 σ (show 518 < 521 by omega)]
  by_cases h : sF σ 104 518 = 0
  · rw [if_pos h]
    obtain ⟨υ, u1, u2, u3⟩ := r_begin E W F V
    simp only [is_78, gu_t, u1, Option.bind_some]
    exact r_go1 E W V υ (RE_r u3 E) u3 (by rw [if_pos h]; exact u2)
  · rw [if_neg h]
    exact r_go1 E W V σ E FR_r (by rw [if_neg h])
end RG
