/-! image, back -/
theorem c_img41 {σ : ZS} {r b : Nat} (hr : isSt (sK σ) r) (hq : isSt (sK σ) (sNow σ)) (hne : sNow σ ≠ r) (hb : b < 3) : ∃ τ, xX8_image_B41 8 (nI b) r (mkH σ) = some (sI σ (sNow σ) 15, mkH τ) ∧ cV τ r = cV σ (sNow σ) ∧ sF τ 76 = up1 (sF σ 76) b 1 ∧ FR (fun a => qS r a ∨ a = 76) (qT r) σ τ := by
  obtain ⟨υ, u1, u2, u3⟩ := c_copy hq hr hne
  have hr3 := st_in hr
  have hq3 := st_in hq
  have hN : sNow υ = sNow σ := FR_now u3
  have hw := wa_76 υ (k := b) 1 hb
  rw [nb1] at hw
  have hN2 : sNow (setF υ 76 b 1) = sNow σ := hN
  have hst : isSt (sK (setF υ 76 b 1)) (sNow σ) := by
    show isSt (sK υ) (sNow σ)
    rw [FR_K u3]; exact hq
  have e15 : sI (setF υ 76 b 1) (sNow σ) 15 = sI σ (sNow σ) 15 := u3.2.1 _ _ (fun z => by unfold qT at z; omega)
  refine ⟨setF υ 76 b 1, ?_, ?_, ?_, FR_t (FR_m u3 (fun a z => Or.inl z) (fun _ _ z => z)) (FR_F (Or.inr rfl))⟩
  · unfold xX8_image_B41
    generalize xX5_copy = cp at *
    rw [rNow, Option.bind_some, is_S hr, gu_t, u1, Option.bind_some, rR_8_14, Option.bind_some, hw, Option.bind_some, rNow, Option.bind_some, hN2, rI_S15 hst, Option.bind_some, e15]
  · rw [← u2]
    exact cV_o (S := fun a => a = 76) (T := fun _ _ => False) (FR_F rfl) (fun a h1 h2 z => by omega) (fun _ z => z)
  · rw [sF_up, u3.1 76 (fun z => by unfold qS at z; omega)]
theorem c_img {σ : ZS} {b : Nat} (hP : PTR σ) (hb : b < 3) : ∃ τ r, xX8_image 8 (nI b) (mkH σ) = some (sI σ (sNow σ) 15, mkH τ) ∧ cV τ r = cV σ (sNow σ) ∧ sQ τ 75 b = some r ∧ PTR τ ∧ sNow τ = sNow σ ∧ sF τ 76 = up1 (sF σ 76) b 1 ∧ GF (fun a => qS r a ∨ a = 76) (qT r) (fun a k => a = 75 ∧ k = b) σ τ := by
  have hq := hP.1 0 (sNow σ) (by omega) (PT_0 σ)
  have hl3 : nI b < (3 : Int32) := by rw [nl_3]; exact nI_lt hb (by omega)
  have h0 : ∀ (x : Option Nat), sQ σ 75 b = x → xX8_image 8 (nI b) (mkH σ) = (match x with | none => ((z_nw (mkH σ) (.inl (5, [.null, .null, .null, .null, .null, .null, .null, .null, .null, .null, .null, .null, .null, .int 0, .int 0, .int 0, .int 0, .int 0]))).bind fun q22 => ((z_gR q22.2 8 8 5).bind fun x27 => ((xX5_init q22.1 x27 q22.2).bind fun h30 => ((z_gR h30 8 8 13).bind fun x35 => ((z_uQ h30 x35 (nI b) q22.1).bind fun h40 => xX8_image_B41 8 (nI b) q22.1 h40))))) | some y16 => xX8_image_B41 8 (nI b) y16 (mkH σ)) := by
    intro x hx
    unfold xX8_image
    rw [if_neg (nI_pos (by omega)), if_pos hl3, rR_8_13, Option.bind_some, ra_75 σ hb, Option.bind_some, hx]
    cases x <;> rfl
  cases hs : sQ σ 75 b with
  | some r =>
    have hr := hP.1 (b + 41) r (by omega) (by rw [PT_b]; exact hs)
    have hne : sNow σ ≠ r := fun z => by
      have := hP.2 0 (b + 41) r (by omega) (by omega) (by rw [PT_0, z]) (by rw [PT_b]; exact hs)
      omega
    obtain ⟨τ, t1, t2, t3, t4⟩ := c_img41 hr.1 hq.1 hne hb
    have hQ : ∀ a k, sQ τ a k = sQ σ a k := fun a k => by show τ.2.2.2.2.2.2.1 a k = _; rw [t4.2.2]
    refine ⟨τ, r, (h0 _ hs).trans t1, t2, by rw [hQ, hs], ?_, FR_now t4, t3, GF_f t4⟩
    refine PTR_map id (fun i hi => hi) (fun i j _ _ h => h) (fun i hi => ?_) (by rw [FR_K t4]; exact Nat.le_refl _) hP
    show PT τ i = PT σ i
    unfold PT
    rw [FR_now t4, hQ, hQ]
  | none =>
    have hl := st_lt hq.1
    have hq1 : isSt (sK (growS σ)) (sNow σ) := gr_mono hq.1
    have hF : isSt (sK (setQ (growS σ) 75 b (some (118 + 13 * sK σ)))) (118 + 13 * sK σ) := gr_st
    obtain ⟨τ, t1, t2, t3, t4⟩ := c_img41 (σ := setQ (growS σ) 75 b (some (118 + 13 * sK σ))) (r := 118 + 13 * sK σ) (b := b) hF hq1 (by show sNow σ ≠ _; omega) hb
    have hQ : ∀ a k, sQ τ a k = sQ (setQ (growS σ) 75 b (some (118 + 13 * sK σ))) a k := fun a k => by show τ.2.2.2.2.2.2.1 a k = _; rw [t4.2.2]
    have g : GF (fun a => qS (118 + 13 * sK σ) a ∨ a = 76) (qT (118 + 13 * sK σ)) (fun a k => a = 75 ∧ k = b) σ τ := GF_t (GF_t GF_g (GF_q ⟨rfl, rfl⟩)) (GF_f t4)
    have hv : cV (setQ (growS σ) 75 b (some (118 + 13 * sK σ))) (sNow σ) = cV σ (sNow σ) := by
      rw [← gr_cV hq.1]
      rfl
    have hNt : sNow τ = sNow σ := by rw [FR_now t4]; rfl
    have e15 : sI (setQ (growS σ) 75 b (some (118 + 13 * sK σ))) (sNow σ) 15 = sI σ (sNow σ) 15 := gr_I (by omega)
    refine ⟨τ, 118 + 13 * sK σ, ?_, by rw [t2]; exact hv, by rw [hQ, sQ_eq], ?_, hNt, ?_, g⟩
    · rw [h0 _ hs]
      have hR : z_gR (z_push (mkH σ) (.inl (5, [.null, .null, .null, .null, .null, .null, .null, .null, .null, .null, .null, .null, .null, .int 0, .int 0, .int 0, .int 0, .int 0]))) 8 8 5 = some 21 := by rw [gH_R (by omega), rR_8_5]
      simp only [z_nw, Option.bind_some, mk_2, hR, new_init, rR_8_13, wa_75 (σ := growS σ) hb gr_st]
      refine Eq.trans t1 ?_
      show some (sI (setQ (growS σ) 75 b (some (118 + 13 * sK σ))) (sNow σ) 15, mkH τ) = _
      rw [e15]
    · refine PTR_new (σ := σ) (s := b + 41) (by omega) (fun i hi hne => ?_) ?_ ?_ g.2.2.2.2.2.2.2 hP
      · unfold PT
        rw [hNt, hQ, hQ]
        by_cases h1 : i = 0
        · rw [if_pos h1, if_pos h1]
        · rw [if_neg h1, if_neg h1]
          by_cases h2 : i < 41
          · rw [if_pos h2, if_pos h2, sQ_ne (by omega)]
            rfl
          · rw [if_neg h2, if_neg h2, sQ_ne (by omega)]
            rfl
      · rw [PT_b, hQ, sQ_eq]
      · rw [FR_K t4]; exact hF
    · rw [t3]
      have : sF (setQ (growS σ) 75 b (some (118 + 13 * sK σ))) 76 = sF σ 76 := funext fun k => gr_F (by omega)
      rw [this]
theorem r_img {σ : ZS} {b : Nat} (hb : b < 3) : ∃ τ, xX9_image 78 (nI b) (mkH σ) = some (sF σ 104 517, mkH τ) ∧ (∀ j, j < 521 → sF τ 116 (521 * b + j) = sF σ 104 j) ∧ (∀ k, ¬ (521 * b ≤ k ∧ k < 521 * b + 521) → sF τ 116 k = sF σ 116 k) ∧ sF τ 117 = up1 (sF σ 117) b 1 ∧ FR (fun a => a = 116 ∨ a = 117) (fun _ _ => False) σ τ := by
  obtain ⟨e, he⟩ := zfu 521 (by omega)
  have key := lpI (fun e k (τ : ZS) => xX9_image_L13 e 78 (nI b) (nI k) (mkH τ)) 521 (fun k τ => FR (fun a => a = 116) (fun _ _ => False) σ τ ∧ (∀ j, j < k → sF τ 116 (521 * b + j) = sF σ 104 j) ∧ ∀ i, ¬ (521 * b ≤ i ∧ i < 521 * b + 521) → sF τ 116 i = sF σ 116 i) (fun v => ∃ τ, v = (sF σ 104 517, mkH τ) ∧ (∀ j, j < 521 → sF τ 116 (521 * b + j) = sF σ 104 j) ∧ (∀ k, ¬ (521 * b ≤ k ∧ k < 521 * b + 521) → sF τ 116 k = sF σ 116 k) ∧ sF τ 117 = up1 (sF σ 117) b 1 ∧ FR (fun a => a = 116 ∨ a = 117) (fun _ _ => False) σ τ) ?_ ?_ 521 0 σ e (by omega) ⟨FR_r, fun j hj => absurd hj (Nat.not_lt_zero j), fun _ _ => rfl⟩
  · obtain ⟨v, hv, τ, rfl, t⟩ := key
    refine ⟨τ, ?_, t⟩
    have hin : 0 ≤ nI b ∧ nI b ≤ 2 := ⟨nI_pos' (by omega), by rw [nl_2]; exact nI_le (by omega) (by omega)⟩
    rw [← he, nI_0] at hv
    unfold xX9_image
    generalize xX9_image_L13 zFU = nl at *
    rw [r_isIn, Option.bind_some, if_pos hin, if_neg (show ¬ (1 : Int32) = 0 by decide)]
    exact hv
  · rintro e k τ hk ⟨hF, hA, hO⟩
    right
    have h4 : sF τ 104 k = sF σ 104 k := by rw [hF.1 104 (by omega)]
    refine ⟨setF τ 116 (521 * b + k) (sF σ 104 k), ?_, FR_t hF (FR_F rfl), fun j hj => ?_, fun i hi => ?_⟩
    · show xX9_image_B13 (xX9_image_L13 e) 78 (nI b) (nI k) (mkH τ) = xX9_image_L13 e 78 (nI b) (nI (k + 1)) _
      generalize xX9_image_L13 e = nl
      unfold xX9_image_B13
      rw [if_neg (fun z => by rw [nl_521] at z; have := (nI_leI (by omega) (by omega)).mp z; omega), rR_78_59, Option.bind_some, rR_78_41, Option.bind_some, ra_104 τ hk, Option.bind_some, h4, nl_521, pk_mul, nI_add, wa_116 τ (k := 521 * b + k) _ (by omega), Option.bind_some, nI_s]
    · by_cases h : j = k
      · rw [h, sF_eq]
      · rw [sF_ne (by omega)]; exact hA j (by omega)
    · rw [sF_ne (by omega)]; exact hO i hi
  · rintro e τ ⟨hF, hA, hO⟩
    have hw := wa_117 τ (k := b) 1 hb
    rw [nb1] at hw
    have h4 : sF (setF τ 117 b 1) 104 517 = sF σ 104 517 := by rw [sF_ne (by omega), hF.1 104 (by omega)]
    refine ⟨_, ?_, setF τ 117 b 1, rfl, fun j hj => by rw [sF_ne (by omega)]; exact hA j hj, fun k hk => by rw [sF_ne (by omega)]; exact hO k hk, by rw [sF_up, hF.1 117 (by omega)], FR_t (FR_m hF (fun a z => Or.inl z) (fun _ _ z => z)) (FR_F (Or.inr rfl))⟩
    show xX9_image_B13 (xX9_image_L13 e) 78 (nI b) (nI 521) (mkH τ) = _
    unfold xX9_image_B13 xX9_image_B44
    rw [if_pos (show (521 : Int32) ≤ nI 521 by decide), rR_78_60, Option.bind_some, hw, Option.bind_some, rR_78_41, Option.bind_some, nl_517, ra_104 _ (show 517 < 521 by omega), Option.bind_some, h4]
theorem box_in {a : Int32} : (0 ≤ a ∧ a ≤ 2) ↔ (0 ≤ a ∧ a < nI 3) := int_pred (v := a) (n := 3) (by decide)
theorem q_image (a : Int32) : QOK (xX8_image 8 a) (xX9_image 78 a) := by
  rintro σ ⟨bk, P, on, fo, len, X, I⟩
  by_cases ha : 0 ≤ a ∧ a < nI 3
  · obtain ⟨b, hb, rfl⟩ := in_n (by omega) ha
    obtain ⟨i1, i2, i3, i4, i5, i6, i7, i8⟩ := id I
    have w0 := i1.1.1
    obtain ⟨τ, r, t1, t2, t3, t4, t5, t6, t7⟩ := c_img i6 hb
    obtain ⟨υ, u1, u2, u3, u4, u5⟩ := r_img (σ := τ) hb
    have hn0 := i6.1 0 (sNow σ) (by omega) (PT_0 σ)
    have hn3 := st_in hn0.1
    have hrU := t4.1 (b + 41) r (by omega) (by rw [PT_b]; exact t3)
    have hr3 := st_in hrU.1
    have h42 := hrU.2
    have g : GF (fun a => qS r a ∨ a = 76 ∨ a = 116 ∨ a = 117) (qT r) (fun a k => a = 75 ∧ k = b) σ υ := GF_t (GF_m t7 (fun a z => z.elim Or.inl (fun y => Or.inr (Or.inl y))) (fun _ _ z => z) (fun _ _ z => z)) (GF_f (FR_m u5 (fun a z => Or.inr (Or.inr z)) (fun _ _ z => z.elim)))
    have f104 : sF τ 104 = sF σ 104 := t7.1 104 (fun z => by unfold qS at z; omega) (by omega)
    have hNu : sNow υ = sNow σ := by rw [FR_now u5, t5]
    have hQu : ∀ a k, sQ υ a k = sQ τ a k := fun a k => by show υ.2.2.2.2.2.2.1 a k = _; rw [u5.2.2]
    have hPu : PTR υ := PTR_map id (fun i hi => hi) (fun i j _ _ h => h) (fun i hi => by
      show PT υ i = PT τ i
      unfold PT
      rw [hNu, t5, hQu, hQu]) (by rw [FR_K u5]; exact Nat.le_refl _) t4
    -- other states are as they were
    have hv : ∀ i q, i < 44 → i ≠ b + 41 → PT υ i = some q → isSt (sK σ) q → cV υ q = cV σ q := by
      intro i q hi hne hq hst
      have hq1 := hPu.1 i q hi hq
      have hqr : q ≠ r := fun z => hne (hPu.2 i (b + 41) q hi (by omega) hq (by rw [PT_b, hQu, t3, z]))
      have hrs : isSt (sK υ) r := by rw [FR_K u5]; exact hrU.1
      have ap := st_ap hq1.1 hrs hqr
      have q3 := st_in hst
      exact GF_cV g hst (fun a b1 b2 z => by unfold qS at z; omega) (fun k z => by unfold qT at z; omega)
    have hcvr : cV υ r = cV σ (sNow σ) := by
      rw [cV_o u5 (fun a h1 h2 z => by omega) (fun _ z => z), t2]
    have fr : sI σ (sNow σ) 15 = sF σ 104 517 := (e_sc i5).2.1
    refine ⟨sF σ 104 517, τ, υ, by rw [t1, fr], by rw [u1, f104], ⟨t7.2.2.2.2.2.2.1, (FR_X u5).trans t7.2.2.2.2.2.2.1⟩, bk, P, on, fo, len, X, IP_g g (fun a z y => by unfold qS at z; omega) (fun a k z y => by unfold qT at z; omega) i1, IM_o g ⟨fun z => by unfold qS at z; omega, fun z => by unfold qS at z; omega, fun z => by unfold qS at z; omega, fun z => by unfold qS at z; omega⟩ (fun k z => by unfold qT at z; omega) ⟨fun z => by unfold qT at z; omega, fun z => by unfold qT at z; omega, fun z => by unfold qT at z; omega, fun z => by unfold qT at z; omega, fun z => by unfold qT at z; omega⟩ i2, IS_o g (fun a h1 h2 z => by unfold qS at z; omega) (fun a h1 h2 z => by unfold qS at z; omega) ⟨fun z => by unfold qT at z; omega, fun z => by unfold qT at z; omega⟩ i3, ?_, ?_, hPu, ?_, fun b' hb' => ?_⟩
    · rw [g.1 104 (fun z => by unfold qS at z; omega) (by omega)]; exact i4
    · rw [hNu, hv 0 (sNow σ) (by omega) (by omega) (by rw [PT_0, hNu]) hn0.1, g.1 104 (fun z => by unfold qS at z; omega) (by omega)]
      exact i5
    · obtain ⟨dn, un, d1, d2, d3, d4, d5, d6⟩ := i7
      refine ⟨dn, un, ?_, ?_, ?_, ?_, d5, fun i hi => ?_⟩
      · rw [g.2.1 66 2 (fun z => by unfold qT at z; omega) (by omega)]; exact d1
      · rw [g.2.1 66 3 (fun z => by unfold qT at z; omega) (by omega)]; exact d2
      · rw [g.2.1 78 48 (fun z => by unfold qT at z; omega) (by omega)]; exact d3
      · rw [g.2.1 78 49 (fun z => by unfold qT at z; omega) (by omega)]; exact d4
      · obtain ⟨q, q1, q2, q3⟩ := d6 i hi
        have hst := (i6.1 (i + 1) q (by omega) (by rw [PT_h (by omega)]; exact q1)).1
        have hq2 : sQ υ 67 i = some q := by rw [g.2.2.1 67 i (fun z => by omega)]; exact q1
        refine ⟨q, hq2, ?_, ?_⟩
        · rw [hv (i + 1) q (by omega) (by omega) (by rw [PT_h (by omega)]; exact hq2) hst, g.1 109 (fun z => by unfold qS at z; omega) (by omega)]
          exact q2
        · rw [g.1 109 (fun z => by unfold qS at z; omega) (by omega)]
          exact q3
    · have f76 : sF υ 76 = up1 (sF σ 76) b 1 := by rw [u5.1 76 (by omega)]; exact t6
      have f117 : sF υ 117 = up1 (sF σ 117) b 1 := by rw [u4, t7.1 117 (fun z => by unfold qS at z; omega) (by omega)]
      rw [f76, f117]
      by_cases hbb : b' = b
      · subst hbb
        rw [up1_e, up1_e]
        refine ⟨rfl, Or.inr ⟨rfl, r, by rw [hQu]; exact t3, ?_, ?_⟩⟩
        · rw [hcvr]
          exact LV_5 (fun _ _ => rfl) (fun j hj => by show sF υ 116 (521 * b' + j) = _; rw [u2 j hj, f104]) w0 i5
        · exact WF_5 (fun j hj => by show sF υ 116 (521 * b' + j) = _; rw [u2 j hj, f104]) i4
      · rw [up1_n hbb, up1_n hbb]
        obtain ⟨b1, b2⟩ := i8 b' hb'
        refine ⟨b1, ?_⟩
        rcases b2 with b2 | ⟨b2, q, q1, q2, q3⟩
        · exact Or.inl b2
        · right
          have hst := (i6.1 (b' + 41) q (by omega) (by rw [PT_b]; exact q1)).1
          have hq2 : sQ υ 75 b' = some q := by rw [g.2.2.1 75 b' (fun z => by omega)]; exact q1
          have hrow : ∀ j, j < 521 → sF υ 116 (521 * b' + j) = sF σ 116 (521 * b' + j) := fun j hj => by
            rw [u3 _ (by
              rcases Nat.lt_or_gt_of_ne hbb with h | h
              · have := Nat.mul_le_mul_left 521 (show b' + 1 ≤ b by omega)
                omega
              · have := Nat.mul_le_mul_left 521 (show b + 1 ≤ b' by omega)
                omega), t7.1 116 (fun z => by unfold qS at z; omega) (by omega)]
          refine ⟨b2, q, hq2, ?_, WF_5 hrow q3⟩
          rw [hv (b' + 41) q (by omega) (by omega) (by rw [PT_b]; exact hq2) hst]
          exact LV_5 (fun _ _ => rfl) hrow w0 q2
  · refine ⟨-1, σ, σ, ?_, ?_, ⟨rfl, rfl⟩, bk, P, on, fo, len, X, I⟩
    · unfold xX8_image
      by_cases h1 : a < 0
      · rw [if_pos h1]
      · rw [if_neg h1, if_neg (show ¬ a < (3 : Int32) from fun z => ha ⟨Int32.not_lt.mp h1, z⟩)]
    · unfold xX9_image
      rw [r_isIn, Option.bind_some, if_neg (fun z => ha (box_in.mp z)), if_pos rfl]
theorem r_bck {σ : ZS} {b : Nat} (hb : b < 3) : ∃ τ, xX9_back_L22 zFU 78 (nI b) 0 (mkH σ) = some (sF τ 104 517, mkH τ) ∧ (∀ j, j < 521 → sF τ 104 j = sF σ 116 (521 * b + j)) ∧ sI τ 78 48 = 0 ∧ sI τ 78 49 = 0 ∧ FR (fun a => a = 104) (fun a k => a = 78 ∧ (k = 48 ∨ k = 49)) σ τ := by
  obtain ⟨e, he⟩ := zfu 521 (by omega)
  have key := lpI (fun e k (τ : ZS) => xX9_back_L22 e 78 (nI b) (nI k) (mkH τ)) 521 (fun k τ => FR (fun a => a = 104) (fun _ _ => False) σ τ ∧ ∀ j, j < k → sF τ 104 j = sF σ 116 (521 * b + j)) (fun v => ∃ τ, v = (sF τ 104 517, mkH τ) ∧ (∀ j, j < 521 → sF τ 104 j = sF σ 116 (521 * b + j)) ∧ sI τ 78 48 = 0 ∧ sI τ 78 49 = 0 ∧ FR (fun a => a = 104) (fun a k => a = 78 ∧ (k = 48 ∨ k = 49)) σ τ) ?_ ?_ 521 0 σ e (by omega) ⟨FR_r, fun j hj => absurd hj (Nat.not_lt_zero j)⟩
  · obtain ⟨v, hv, τ, rfl, t⟩ := key
    refine ⟨τ, ?_, t⟩
    rw [← he, nI_0] at hv
    exact hv
  · rintro e k τ hk ⟨hF, hA⟩
    right
    have h4 : sF τ 116 (521 * b + k) = sF σ 116 (521 * b + k) := by rw [hF.1 116 (by omega)]
    refine ⟨setF τ 104 k (sF σ 116 (521 * b + k)), ?_, FR_t hF (FR_F rfl), fun j hj => ?_⟩
    · show xX9_back_B22 (xX9_back_L22 e) 78 (nI b) (nI k) (mkH τ) = xX9_back_L22 e 78 (nI b) (nI (k + 1)) _
      generalize xX9_back_L22 e = nl
      unfold xX9_back_B22
      rw [if_neg (fun z => by rw [nl_521] at z; have := (nI_leI (by omega) (by omega)).mp z; omega), rR_78_41, Option.bind_some, rR_78_59, Option.bind_some, nl_521, pk_mul, nI_add, ra_116 τ (show 521 * b + k < 1563 by omega), Option.bind_some, h4, wa_104 τ (k := k) _ hk, Option.bind_some, nI_s]
    · by_cases h : j = k
      · rw [h, sF_eq]
      · rw [sF_ne (by omega)]; exact hA j (by omega)
  · rintro e τ ⟨hF, hA⟩
    refine ⟨_, ?_, setI (setI τ 78 48 0) 78 49 0, rfl, hA, by rw [sI_ne (by omega), sI_eq], sI_eq, FR_t (FR_m hF (fun _ z => z) (fun _ _ z => z.elim)) (FR_t (FR_I ⟨rfl, Or.inl rfl⟩) (FR_I ⟨rfl, Or.inr rfl⟩))⟩
    show xX9_back_B22 (xX9_back_L22 e) 78 (nI b) (nI 521) (mkH τ) = _
    unfold xX9_back_B22 xX9_back_B53
    rw [if_pos (show (521 : Int32) ≤ nI 521 by decide), wI_78_48, Option.bind_some, wI_78_49, Option.bind_some, rR_78_41, Option.bind_some, nl_517, ra_104 _ (show 517 < 521 by omega), Option.bind_some]
theorem q_back (a : Int32) : QOK (xX8_back 8 a) (xX9_back 78 a) := by
  rintro σ ⟨bk, P, on, fo, len, X, I⟩
  by_cases ha : 0 ≤ a ∧ a < nI 3
  · obtain ⟨b, hb, rfl⟩ := in_n (by omega) ha
    obtain ⟨i1, i2, i3, i4, i5, i6, i7, i8⟩ := id I
    have w0 := i1.1.1
    have hin := box_in.mpr ha
    have h3 : ¬ (3 : Int32) ≤ nI b := Int32.not_le.mpr ha.2
    obtain ⟨b1, b2⟩ := i8 b hb
    rcases b2 with b2 | ⟨b2, r, r1, r2, r3⟩
    · refine ⟨-1, σ, σ, ?_, ?_, ⟨rfl, rfl⟩, bk, P, on, fo, len, X, I⟩
      · unfold xX8_back
        rw [if_neg (nI_pos (by omega)), if_neg h3, rR_8_14, Option.bind_some, ra_76 σ hb, Option.bind_some, b1, b2, if_pos rfl]
      · unfold xX9_back
        rw [r_isIn, Option.bind_some, if_pos hin, if_neg (show ¬ (1 : Int32) = 0 by decide)]
        show ((z_gR (mkH σ) 78 9 60).bind fun x10 => ((z_aB (mkH σ) x10 (nI b)).bind fun x14 => (if x14 = 0 then some ((-1 : Int32), mkH σ) else xX9_back_L22 zFU 78 (nI b) (0 : Int32) (mkH σ)))) = _
        rw [rR_78_60, Option.bind_some, ra_117 σ hb, Option.bind_some, b2, if_pos rfl]
    · have hn0 := i6.1 0 (sNow σ) (by omega) (PT_0 σ)
      have hn3 := st_in hn0.1
      have hr := i6.1 (b + 41) r (by omega) (by rw [PT_b]; exact r1)
      have hne : r ≠ sNow σ := fun z => by
        have := i6.2 (b + 41) 0 r (by omega) (by omega) (by rw [PT_b]; exact r1) (by rw [PT_0, z])
        omega
      obtain ⟨τ1, t1, t2, t3⟩ := c_copy hr.1 hn0.1 hne
      have hN1 : sNow τ1 = sNow σ := FR_now t3
      have hFt : FR (qS (sNow σ)) (fun a k => qT (sNow σ) a k ∨ a = 66) σ (setI (setI τ1 66 2 0) 66 3 0) := FR_t (FR_m t3 (fun _ z => z) (fun _ _ z => Or.inl z)) (FR_t (FR_I (Or.inr rfl)) (FR_I (Or.inr rfl)))
      have hcv : cV (setI (setI τ1 66 2 0) 66 3 0) (sNow σ) = cV σ r := by
        rw [← t2]
        exact cV_o (S := fun _ => False) (T := fun a _ => a = 66) (FR_t (FR_I rfl) (FR_I rfl)) (fun _ _ _ z => z) (fun k z => by omega)
      have hstt : isSt (sK (setI (setI τ1 66 2 0) 66 3 0)) (sNow σ) := by
        show isSt (sK τ1) (sNow σ)
        rw [FR_K t3]; exact hn0.1
      have v2 : sI (setI (setI τ1 66 2 0) 66 3 0) 66 2 = 0 := by rw [sI_ne (by omega), sI_eq]
      have v3 : sI (setI (setI τ1 66 2 0) 66 3 0) 66 3 = 0 := sI_eq
      have hNt : sNow (setI (setI τ1 66 2 0) 66 3 0) = sNow σ := hN1
      have e15 : sI (setI (setI τ1 66 2 0) 66 3 0) (sNow σ) 15 = sF σ 116 (521 * b + 517) := by
        rw [← cV_517, hcv, r2.2.2.2 517 (by omega) (by omega)]
      have hC : xX8_back 8 (nI b) (mkH σ) = some (sF σ 116 (521 * b + 517), mkH (setI (setI τ1 66 2 0) 66 3 0)) := by
        unfold xX8_back xX1_forget
        generalize xX5_copy = cp at *
        rw [if_neg (nI_pos (by omega)), if_neg h3, rR_8_14, Option.bind_some, ra_76 σ hb, Option.bind_some, b1, b2, if_neg (show ¬ (1 : Int32) = 0 by decide), rR_8_13, Option.bind_some, ra_75 σ hb, Option.bind_some, r1]
        show ((z_gR (mkH σ) 8 8 6).bind fun x34 => (z_gu (z_is (mkH σ) x34 5) ((cp x34 r (mkH σ)).bind fun h38 => ((z_gR h38 8 8 11).bind fun x42 => (z_gu (z_is h38 x42 1) ((((z_sF h38 x42 1 2 (.int (0 : Int32))).bind fun h2 => ((z_sF h2 x42 1 3 (.int (0 : Int32))).bind fun h7 => some h7))).bind fun h45 => ((z_gR h45 8 8 6).bind fun x49 => ((z_gI h45 x49 5 15).bind fun x52 => some (x52, h45))))))))) = _
        rw [rNow, Option.bind_some, is_S hn0.1, gu_t, t1, Option.bind_some, rR_8_11, Option.bind_some, is_66, gu_t, wI_66_2, Option.bind_some, wI_66_3, Option.bind_some, Option.bind_some, rNow, Option.bind_some, hNt, rI_S15 hstt, Option.bind_some, e15]
      generalize setI (setI τ1 66 2 0) 66 3 0 = τ at *
      obtain ⟨υ, u1, u2, u3, u4, u5⟩ := r_bck (σ := τ) hb
      have f116 : sF τ 116 = sF σ 116 := hFt.1 116 (fun z => by unfold qS at z; omega)
      have f117 : sF τ 117 = sF σ 117 := hFt.1 117 (fun z => by unfold qS at z; omega)
      rw [f116] at u2
      have hF : FR (fun a => qS (sNow σ) a ∨ a = 104) (fun a k => qT (sNow σ) a k ∨ a = 66 ∨ (a = 78 ∧ (k = 48 ∨ k = 49))) σ υ := FR_t (FR_m hFt (fun _ z => Or.inl z) (fun _ _ z => z.elim Or.inl (fun y => Or.inr (Or.inl y)))) (FR_m u5 (fun _ z => Or.inr z) (fun _ _ z => Or.inr (Or.inr z)))
      have g : GF (fun a => qS (sNow σ) a ∨ a = 104) (fun a k => qT (sNow σ) a k ∨ a = 66 ∨ (a = 78 ∧ (k = 48 ∨ k = 49))) (fun _ _ => False) σ υ := GF_f hF
      have hNu : sNow υ = sNow σ := FR_now hF
      have hPu : PTR υ := PTR_o g hNu (fun _ _ z => z) i6
      refine ⟨sF σ 116 (521 * b + 517), τ, υ, hC, ?_, ⟨FR_X hFt, FR_X hF⟩, bk, P, on, fo, len, X, IP_g g (fun a z y => by unfold qS at z; omega) (fun a k z y => by unfold qT at z; omega) i1, IM_o g ⟨fun z => by unfold qS at z; omega, fun z => by unfold qS at z; omega, fun z => by unfold qS at z; omega, fun z => by unfold qS at z; omega⟩ (fun k z => by unfold qT at z; omega) ⟨fun z => by unfold qT at z; omega, fun z => by unfold qT at z; omega, fun z => by unfold qT at z; omega, fun z => by unfold qT at z; omega, fun z => by unfold qT at z; omega⟩ i2, IS_o g (fun a h1 h2 z => by unfold qS at z; omega) (fun a h1 h2 z => by unfold qS at z; omega) ⟨fun z => by unfold qT at z; omega, fun z => by unfold qT at z; omega⟩ i3, WF_5 u2 r3, ?_, hPu, ⟨0, 0, ?_, ?_, by rw [u3]; rfl, by rw [u4]; rfl, by omega, fun i hi => absurd hi (Nat.not_lt_zero _)⟩, ?_⟩
      · unfold xX9_back
        generalize xX9_back_L22 zFU = nl at *
        rw [r_isIn, Option.bind_some, if_pos hin, if_neg (show ¬ (1 : Int32) = 0 by decide)]
        show ((z_gR (mkH τ) 78 9 60).bind fun x10 => ((z_aB (mkH τ) x10 (nI b)).bind fun x14 => (if x14 = 0 then some ((-1 : Int32), mkH τ) else nl 78 (nI b) (0 : Int32) (mkH τ)))) = _
        rw [rR_78_60, Option.bind_some, ra_117 τ hb, Option.bind_some, f117, b2, if_neg (show ¬ (1 : Int32) = 0 by decide), u1, u2 517 (by omega)]
      · rw [hNu, cV_o u5 (fun a h1 h2 z => by omega) (fun k z => by omega), hcv]
        exact LV_5 (fun _ _ => rfl) u2 w0 r2
      · rw [u5.2.1 66 2 (by omega), v2]; rfl
      · rw [u5.2.1 66 3 (by omega), v3]; rfl
      · refine IB_o g i6 ⟨fun z => by unfold qS at z; omega, fun z => by unfold qS at z; omega, fun z => by unfold qS at z; omega⟩ (fun _ z => z) (fun i q hi hq => ?_) i8
        have hq1 := i6.1 (i + 41) q (by omega) (by rw [PT_b]; exact hq)
        have hqn : q ≠ sNow σ := fun z => by
          have := i6.2 (i + 41) 0 q (by omega) (by omega) (by rw [PT_b]; exact hq) (by rw [PT_0, z])
          omega
        have ap := st_ap hq1.1 hn0.1 hqn
        have q3 := st_in hq1.1
        exact ⟨fun a h1 h2 z => by unfold qS at z; omega, fun k z => by unfold qT at z; omega⟩
  · refine ⟨-1, σ, σ, ?_, ?_, ⟨rfl, rfl⟩, bk, P, on, fo, len, X, I⟩
    · unfold xX8_back
      by_cases h1 : a < 0
      · rw [if_pos h1]
      · rw [if_neg h1, if_pos (show (3 : Int32) ≤ a from Int32.not_lt.mp (fun z => ha ⟨Int32.not_lt.mp h1, z⟩))]
    · unfold xX9_back
      rw [r_isIn, Option.bind_some, if_neg (fun z => ha (box_in.mp z)), if_pos rfl]
