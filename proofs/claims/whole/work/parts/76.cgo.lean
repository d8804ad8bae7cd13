/-! the class's step: all reports, the whole step -/
section CH
variable {σ : ZS} {p len : Nat} {P : Nat → Nat} {on fo A : Nat → Int32}
theorem c_repAll {A0 : Nat → Int32} (hp : isSt (sK σ) p) (E : CE σ P on fo len) (W : PW P) (L : LV (P 0) (cV σ p) A0) (HI0 : RI P 0 (A0, 0, 0, (fun _ => 0), (fun _ => 0))) : ∃ τ r, r = zf (raA P on) 0 (P 0) (A0, 0, 0, (fun _ => 0), (fun _ => 0)) ∧ xX6_reportAll 57 p (mkH σ) = some (nI r.2.1, mkH τ) ∧ LV (P 0) (cV τ p) r.1 ∧ RI P (P 0) r ∧ sI τ 57 3 = nI r.2.2.1 ∧ (∀ o, r.2.1.testBit o = true → sF τ 60 o = r.2.2.2.1 o ∧ sF τ 61 o = r.2.2.2.2 o) ∧ FR (cS p) (cT p) σ τ := by
  have w0 := W.1
  have hp3 := st_in hp
  obtain ⟨e, he⟩ := zfu (P 0) (by omega)
  have hF0 : FR (cS p) (cT p) σ (setI σ 57 3 0) := FR_I (by unfold cT; omega)
  have hV0 : cV (setI σ 57 3 0) p = cV σ p := cV_o (S := fun _ => False) (T := fun a _ => a = 57) (FR_I rfl) (fun _ _ _ z => z) (fun k z => by omega)
  have key := lpI (fun e k (x : ZS × Nat) => xX6_reportAll_L9 e 57 p (nI x.2) (nI k) (mkH x.1)) (P 0) (fun k x => FR (cS p) (cT p) σ x.1 ∧ ∃ r, r = zf (raA P on) 0 k (A0, 0, 0, (fun _ => 0), (fun _ => 0)) ∧ RI P k r ∧ LV (P 0) (cV x.1 p) r.1 ∧ x.2 = r.2.1 ∧ sI x.1 57 3 = nI r.2.2.1 ∧ ∀ o, r.2.1.testBit o = true → sF x.1 60 o = r.2.2.2.1 o ∧ sF x.1 61 o = r.2.2.2.2 o) (fun v => ∃ τ r, v = (nI r.2.1, mkH τ) ∧ r = zf (raA P on) 0 (P 0) (A0, 0, 0, (fun _ => 0), (fun _ => 0)) ∧ LV (P 0) (cV τ p) r.1 ∧ RI P (P 0) r ∧ sI τ 57 3 = nI r.2.2.1 ∧ (∀ o, r.2.1.testBit o = true → sF τ 60 o = r.2.2.2.1 o ∧ sF τ 61 o = r.2.2.2.2 o) ∧ FR (cS p) (cT p) σ τ) ?_ ?_ (P 0) 0 (setI σ 57 3 0, 0) e (by omega) ⟨hF0, _, rfl, HI0, by rw [hV0]; exact L, rfl, sI_eq, fun o ho => by
    have h2 : (0 : Nat).testBit o = true := ho
    rw [Nat.zero_testBit] at h2
    cases h2⟩
  · obtain ⟨v, hv, τ, r, hv2, q1, q2, q3, q4, q5, q6⟩ := key
    refine ⟨τ, r, q1, ?_, q2, q3, q4, q5, q6⟩
    simp only [xX6_reportAll, wI_57_3, Option.bind_some]
    rw [he, ← hv2]
    exact hv
  · rintro e k ⟨τ, rep⟩ hk ⟨hF, r, hr, HI, hL, hrep, hfd, h8⟩
    right
    replace hrep : rep = r.2.1 := hrep
    replace hL : LV (P 0) (cV τ p) r.1 := hL
    replace hF : FR (cS p) (cT p) σ τ := hF
    replace hfd : sI τ 57 3 = nI r.2.2.1 := hfd
    subst hrep
    have hpt : isSt (sK τ) p := by rw [FR_K hF]; exact hp
    have E' := CE_c hp hF E
    have V' := HI.1
    have HN := RI_s (on := on) W (show k < 6 by omega) HI
    have oc := WF_own V' (show k < 6 by omega)
    have hB : xX6_reportAll_L9 (e + 1) 57 p (nI r.2.1) (nI k) (mkH τ) = xX6_reportAll_B9 (xX6_reportAll_L9 e) 57 p (nI r.2.1) (nI k) (mkH τ) := rfl
    show ∃ s' : ZS × Nat, xX6_reportAll_L9 (e + 1) 57 p (nI r.2.1) (nI k) (mkH τ) = _ ∧ _
    simp only [hB, xX6_reportAll_B9, rR_S0 hpt, rI_21_7, E'.1.1, Option.bind_some]
    rw [if_neg (fun z => by have := (nI_leI (by omega) (by omega)).mp z; omega)]
    simp only [is_S hpt, gu_t, c_on hpt E' W hL hk, Option.bind_some]
    by_cases ho : onA r.1 on k = true
    · rw [ho]
      simp only [if_true]
      rw [if_neg (by decide)]
      simp only [c_due (P := P) (lo := 0) hpt hL (show k < 6 by omega) oc.2 oc.1, Option.bind_some]
      cases hd : duA r.1 k (tn (r.1 (24 + k))) 0 with
      | none =>
        simp only [xX6_reportAll_B37, nI_s, if_true]
        have er : raA P on k r = r := by unfold raA; rw [if_pos ho, hd]
        rw [er] at HN
        exact ⟨(τ, r.2.1), rfl, hF, r, by rw [zf_l, Nat.zero_add, ← hr, er], HN, hL, rfl, hfd, h8⟩
      | some i =>
        obtain ⟨-, d2, d3, -⟩ := du_in _ _ _ hd
        rw [Nat.zero_add] at d2
        obtain ⟨ω, w1', w2', w3', w4', w5', w6'⟩ := c_report hpt E' W hL V' hk d2
        have er : raA P on k r = (drA (rpA P k i r.1), r.2.1 ||| 2 ^ k, (if m100 (seedS (rpA P k i r.1 519)) < nI (P 6) then r.2.2.1 ||| 2 ^ k else r.2.2.1), up1 r.2.2.2.1 k (rpA P k i r.1 (30 + 3 * k + i)), up1 r.2.2.2.2 k (rpA P k i r.1 (48 + 3 * k + i))) := by unfold raA; rw [if_pos ho, hd]
        simp only [xX6_reportAll_B37]
        rw [if_neg (nI_m1 (by omega))]
        simp only [is_57, gu_t, nl_3, pk_mul, nI_add, w1', Option.bind_some, one_shl (show k < 32 by omega), nx_or, nI_s]
        refine ⟨(ω, r.2.1 ||| 2 ^ k), rfl, FR_t hF w6', raA P on k r, by rw [zf_l, Nat.zero_add, ← hr], HN, ?_, ?_, ?_, ?_⟩
        · rw [er]; exact w2'
        · rw [er]
        · rw [er]
          show sI ω 57 3 = nI (if _ then _ else _)
          rw [w5', hfd, nx_or]
          by_cases hm : m100 (seedS (rpA P k i r.1 519)) < nI (P 6)
          · rw [if_pos hm, if_pos hm]
          · rw [if_neg hm, if_neg hm]
        · rw [er]
          intro o hob
          show sF ω 60 o = up1 r.2.2.2.1 k _ o ∧ sF ω 61 o = up1 r.2.2.2.2 k _ o
          rw [w3', w4']
          by_cases hok : o = k
          · rw [hok, up1_e, up1_e, up1_e, up1_e]
            exact ⟨rfl, rfl⟩
          · rw [up1_n hok, up1_n hok, up1_n hok, up1_n hok]
            apply h8
            have hs2 : (r.2.1 ||| 2 ^ k).testBit o = true := hob
            rw [Nat.testBit_or, Nat.testBit_two_pow, show decide (k = o) = false from decide_eq_false (fun z => hok z.symm), Bool.or_false] at hs2
            exact hs2
    · rw [show onA r.1 on k = false by simpa using ho]
      simp only [Bool.false_eq_true, if_false, if_true, xX6_reportAll_B37, nI_s]
      have er : raA P on k r = r := by unfold raA; rw [if_neg ho]
      rw [er] at HN
      exact ⟨(τ, r.2.1), rfl, hF, r, by rw [zf_l, Nat.zero_add, ← hr, er], HN, hL, rfl, hfd, h8⟩
  · rintro e ⟨τ, rep⟩ ⟨hF, r, hr, HI, hL, hrep, hfd, h8⟩
    replace hrep : rep = r.2.1 := hrep
    replace hF : FR (cS p) (cT p) σ τ := hF
    subst hrep
    have hpt : isSt (sK τ) p := by rw [FR_K hF]; exact hp
    have E' := CE_c hp hF E
    refine ⟨(nI r.2.1, mkH τ), ?_, τ, r, rfl, hr, hL, HI, hfd, h8, hF⟩
    show xX6_reportAll_B9 (xX6_reportAll_L9 e) 57 p (nI r.2.1) (nI (P 0)) (mkH τ) = _
    simp only [xX6_reportAll_B9, rR_S0 hpt, rI_21_7, E'.1.1, Option.bind_some]
    rw [if_pos ((nI_leI (by omega) (by omega)).mpr (Nat.le_refl _))]
theorem c_go12 {A0 : Nat → Int32} (hp : isSt (sK σ) p) (E : CE σ P on fo len) (W : PW P) (L : LV (P 0) (cV σ p) A0) (HI0 : RI P 0 (A0, 0, 0, (fun _ => 0), (fun _ => 0))) : ∃ τ r, r = zf (raA P on) 0 (P 0) (A0, 0, 0, (fun _ => 0), (fun _ => 0)) ∧ xX6_go_B12 57 p (mkH σ) = some (nI r.2.1, mkH τ) ∧ LV (P 0) (cV τ p) (noA P (zf (liA P on r.2.1 r.2.2.1 r.2.2.2.1 r.2.2.2.2) 0 (P 0) r.1)) ∧ FR (cS p) (cT p) σ τ := by
  have w0 := W.1
  have hp6 : (2 : Nat) ^ P 0 ≤ 2 ^ 6 := Nat.pow_le_pow_right (by decide) w0
  obtain ⟨υ, r, q1, q2, q3, q4, q5, q6, q7⟩ := c_repAll hp E W L HI0
  have hpu : isSt (sK υ) p := by rw [FR_K q7]; exact hp
  have E1 := CE_c hp q7 E
  have hrl : r.2.1 < 2 ^ 6 := Nat.lt_of_lt_of_le q4.2.1 hp6
  have hfl : r.2.2.1 < 2 ^ 6 := Nat.lt_of_lt_of_le q4.2.2.1 hp6
  simp only [xX6_go_B12, is_57, gu_t, q2, Option.bind_some]
  by_cases h0 : r.2.1 = 0
  · rw [if_pos (by rw [h0]; rfl)]
    obtain ⟨τ, t1, t2, t3⟩ := c_goOn hpu E1 W q3 q4.1
    refine ⟨τ, r, q1, ?_, ?_, FR_t q7 t3⟩
    · simp only [is_S hpu, gu_t, t1, Option.bind_some]
    · rw [h0, li_0]
      exact t2
  · rw [if_neg (nI_ne0 (by omega) (by omega))]
    obtain ⟨ω, o1, o2, o3⟩ := c_listen hpu E1 W q3 q4.1 hrl hfl q5 q4.2.2.2 q6
    have hpo : isSt (sK ω) p := by rw [FR_K o3]; exact hpu
    have E2 := CE_c hpu o3 E1
    obtain ⟨τ, t1, t2, t3⟩ := c_goOn hpo E2 W o2 (WF_lik W q4.2.2.2 (P 0) 0 _ (by omega) q4.1)
    refine ⟨τ, r, q1, ?_, t2, FR_t q7 (FR_t o3 t3)⟩
    simp only [o1, Option.bind_some, is_S hpo, gu_t, t1]
theorem c_go (hp : isSt (sK σ) p) (E : CE σ P on fo len) (W : PW P) (F : WFo fo len) (L : LV (P 0) (cV σ p) A) (V : WF 1 (P 0) (P 1) A) : ∃ τ, xX6_go 57 p (mkH σ) = some (nI (goA P on fo len A).2, mkH τ) ∧ LV (P 0) (cV τ p) (goA P on fo len A).1 ∧ FR (cS p) (cT p) σ τ := by
  have e16 : sI σ p 16 = A 518 := by rw [← cV_518, L.2.2.2 518 (by omega) (by omega)]
  have HI0 := RI_0 (on := on) (fo := fo) (len := len) W V
  simp only [xX6_go, rI_S16 hp, e16, Option.bind_some]
  by_cases h : A 518 = 0
  · rw [if_pos h]
    rw [if_pos h] at HI0
    obtain ⟨υ, u1, u2, u3⟩ := c_begin hp E W F L V
    have hpu : isSt (sK υ) p := by rw [FR_K u3]; exact hp
    obtain ⟨τ, r, q1, q2, q3, q4⟩ := c_go12 hpu (CE_c hp u3 E) W u2 HI0
    have er : r = rsA P on fo len A := by rw [q1]; unfold rsA; rw [if_pos h]
    simp only [is_57, gu_t, u1, Option.bind_some, q2]
    refine ⟨τ, ?_, ?_, FR_t u3 q4⟩
    · rw [er]; rfl
    · rw [er] at q3; exact q3
  · rw [if_neg h]
    rw [if_neg h] at HI0
    obtain ⟨τ, r, q1, q2, q3, q4⟩ := c_go12 hp E W L HI0
    have er : r = rsA P on fo len A := by rw [q1]; unfold rsA; rw [if_neg h]
    refine ⟨τ, ?_, ?_, q4⟩
    · rw [q2, er]; rfl
    · rw [er] at q3; exact q3
end CH
