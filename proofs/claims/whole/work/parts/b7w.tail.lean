/-! fleet: the class's and the reference's ends -/
noncomputable def cTl (h40 : ZH) : Option (Int32 × ZH) := ((z_gR h40 8 8 5).bind fun x50 => ((z_gR h40 8 8 4).bind fun x54 => ((z_gR h40 x54 3 0).bind fun x57 => (z_gu (z_is h40 x50 2) ((xX2_copy x50 x57 h40).bind fun h60 => ((z_gR h60 8 8 6).bind fun x64 => (z_gu (z_is h60 x64 5) ((xX5_start x64 h60).bind fun h67 => ((z_gR h67 8 8 11).bind fun x71 => (z_gu (z_is h67 x71 1) ((xX1_forget x71 h67).bind fun h74 => ((z_gR h74 8 8 12).bind fun x78 => (z_gu (z_is h74 x78 4) ((xX4_forget x78 h74).bind fun h81 => ((z_sF h81 8 8 16 (.int (0 : Int32))).bind fun h86 => xX8_fleet_L91 zFU 8 (0 : Int32) h86)))))))))))))))
def s0T (τ : ZS) : ZS := setI (setI (setI τ 8 1 0) 8 2 (sI τ 10 1)) 8 3 (sI τ 10 2)
theorem c_tail {σ τ : ZS} {b : Int32} (hr : xX3_read 10 9 (sI σ 8 1) (mkH σ) = some (b, mkH τ)) : xX8_fleet 8 (mkH σ) = if b = 0 then some (-1, mkH (s0T τ)) else cTl (mkH (s0T τ)) := by
  have g1 : sI (setI τ 8 1 0) 10 1 = sI τ 10 1 := sI_ne (by omega)
  have g2 : sI (setI (setI τ 8 1 0) 8 2 (sI τ 10 1)) 10 2 = sI τ 10 2 := by rw [sI_ne (by omega), sI_ne (by omega)]
  generalize hT : cTl = ct
  unfold xX8_fleet
  rw [rR_8_4, Option.bind_some, rR_8_0, Option.bind_some, rI_8_1, Option.bind_some, is_10, gu_t, hr, Option.bind_some]
  dsimp only
  rw [wI_8_1, Option.bind_some, rR_8_4, Option.bind_some, rI_10_1, Option.bind_some, g1, wI_8_2, Option.bind_some, rR_8_4, Option.bind_some, rI_10_2, Option.bind_some, g2, wI_8_3, Option.bind_some, ← hT]
  rfl
theorem c_91 {s : ZS} {v : Int32} (h7 : sI s 21 7 = v) : xX8_fleet_L91 zFU 8 (0 : Int32) (mkH s) = some (v, mkH (setF (setF (setF s 76 0 0) 76 1 0) 76 2 0)) := by
  obtain ⟨e, he⟩ := zfu 3 (by omega)
  have st : ∀ (f : Nat) (k : Nat) (q : ZS), k < 3 → xX8_fleet_L91 (f + 1) 8 (nI k) (mkH q) = xX8_fleet_L91 f 8 (nI (k + 1)) (mkH (setF q 76 k 0)) := fun f k q hk => by
    have hB : xX8_fleet_L91 (f + 1) 8 (nI k) (mkH q) = xX8_fleet_B91 (xX8_fleet_L91 f) 8 (nI k) (mkH q) := rfl
    rw [hB]
    generalize xX8_fleet_L91 f = nl
    unfold xX8_fleet_B91
    rw [if_neg (show ¬ (3 : Int32) ≤ nI k from fun z => by rw [show (3 : Int32) = nI 3 from rfl] at z; have := (nI_leI (by omega) (by omega)).mp z; omega), rR_8_14, Option.bind_some, wa_76 _ _ hk, Option.bind_some, nI_s]
    rfl
  have hB : ∀ (q : ZS), xX8_fleet_L91 (e + 1) 8 (nI 3) (mkH q) = xX8_fleet_B91 (xX8_fleet_L91 e) 8 (nI 3) (mkH q) := fun q => rfl
  rw [he, show (0 : Int32) = nI 0 from rfl, show e + 3 + 1 = e + 1 + 1 + 1 + 1 by omega, st _ 0 _ (by omega), st _ 1 _ (by omega), st _ 2 _ (by omega), hB]
  generalize xX8_fleet_L91 e = nl
  unfold xX8_fleet_B91
  rw [if_pos (show (3 : Int32) ≤ nI 3 from by decide), rR_8_5, Option.bind_some, rI_21_7, Option.bind_some]
  show some (sI s 21 7, _) = _
  rw [h7]
  rfl
def suS (p a : Nat) : Prop := (22 ≤ a ∧ a ≤ 27) ∨ qS p a ∨ a = 76
def suT (p a k : Nat) : Prop := a = 21 ∨ qT p a k ∨ (a = 66 ∧ (k = 2 ∨ k = 3)) ∨ (a = 68 ∧ k = 8) ∨ (a = 8 ∧ k = 16)
theorem c_suc {s : ZS} (hp : isSt (sK s) (sNow s)) : ∃ s', cTl (mkH s) = some (sI s 11 7, mkH s') ∧ (∀ k, sI s' 21 k = sI (cpI s) 21 k) ∧ (∀ r, r < 6 → sF s' (22 + r) = sF s (12 + r)) ∧ (∃ B, ∀ j, j < 521 → cV s' (sNow s) j = ctA (fun r q => sF s (12 + r) q) (sI s 11 6) B j) ∧ (sI s' 66 2 = 0 ∧ sI s' 66 3 = 0 ∧ sI s' 68 8 = 0 ∧ sI s' 8 16 = 0 ∧ ∀ b, b < 3 → sF s' 76 b = 0) ∧ FR (suS (sNow s)) (suT (sNow s)) s s' := by
  obtain ⟨s1, a1, a2, a3, a4⟩ := c_cpP (s := s)
  have hst := st_in hp
  have hN : sNow s1 = sNow s := FR_now a4
  have hK : sK s1 = sK s := FR_K a4
  have hp1 : isSt (sK s1) (sNow s) := by rw [hK]; exact hp
  have hd : sI s1 21 6 = sI s 11 6 := by rw [a2]; exact cpI_V.2.2.2.2.2.2.1
  have h7 : sI s1 21 7 = sI s 11 7 := by rw [a2]; exact cpI_V.2.2.2.2.2.2.2.1
  obtain ⟨s2, b1, b2, b3⟩ := c_start hp1 hd
  have hst21 : ∀ k, sI s2 21 k = sI s1 21 k := fun k => b3.2.1 21 k (by unfold qT; omega)
  have hcF : FR (suS (sNow s)) (suT (sNow s)) s s2 := FR_t (FR_m a4 (fun a z => Or.inl z) (fun a k z => Or.inl z)) (FR_m b3 (fun a z => Or.inr (Or.inl z)) (fun a k z => Or.inr (Or.inl z)))
  refine ⟨setF (setF (setF (setI (setI (setI (setI s2 66 2 0) 66 3 0) 68 8 0) 8 16 0) 76 0 0) 76 1 0) 76 2 0, ?_, ?_, ?_, ?_, ⟨?_, ?_, ?_, ?_, ?_⟩, ?_⟩
  · have c91 := c_91 (s := setI (setI (setI (setI s2 66 2 0) 66 3 0) 68 8 0) 8 16 0) (v := sI s 11 7) (by rw [sI_ne (by omega), sI_ne (by omega), sI_ne (by omega), sI_ne (by omega), hst21]; exact h7)
    unfold cTl
    generalize xX8_fleet_L91 zFU = nl at *
    rw [rR_8_5, Option.bind_some, rR_8_4, Option.bind_some, rR_10_0, Option.bind_some, is_21, gu_t, a1, Option.bind_some, rNow, Option.bind_some, hN, is_S hp1, gu_t, b1, Option.bind_some, rR_8_11, Option.bind_some, is_66, gu_t]
    unfold xX1_forget
    rw [wI_66_2, Option.bind_some, wI_66_3, Option.bind_some, Option.bind_some, rR_8_12, Option.bind_some, is_68, gu_t]
    unfold xX4_forget
    rw [wI_68_8, Option.bind_some, Option.bind_some, wI_8_16, Option.bind_some]
    exact c91
  · intro k
    show sI (setI (setI (setI (setI s2 66 2 0) 66 3 0) 68 8 0) 8 16 0) 21 k = _
    rw [sI_ne (by omega), sI_ne (by omega), sI_ne (by omega), sI_ne (by omega), hst21]
    exact a2 k
  · intro r hr
    rw [← a3 r hr, ← b3.1 (22 + r) (by unfold qS; omega)]
    funext k
    rw [sF_ne (by omega), sF_ne (by omega), sF_ne (by omega)]
    rfl
  · refine ⟨cV s1 (sNow s), fun j hj => ?_⟩
    have e1 : cV (setF (setF (setF (setI (setI (setI (setI s2 66 2 0) 66 3 0) 68 8 0) 8 16 0) 76 0 0) 76 1 0) 76 2 0) (sNow s) = cV s2 (sNow s) := cV_o (S := fun a => a = 76) (T := fun a _ => a = 66 ∨ a = 68 ∨ a = 8) (FR_t (FR_I (Or.inl rfl)) (FR_t (FR_I (Or.inl rfl)) (FR_t (FR_I (Or.inr (Or.inl rfl))) (FR_t (FR_I (Or.inr (Or.inr rfl))) (FR_t (FR_F rfl) (FR_t (FR_F rfl) (FR_F rfl))))))) (fun a h1 h2 => by omega) (fun k => by omega)
    rw [e1, b2 j hj, show (fun r q => sF s1 (22 + r) q) = (fun r q => sF s1 (22 + r) q) from rfl]
    unfold ctA fgU up1
    by_cases h24 : j < 24
    · have e2 := a3 (j / 6) (by omega)
      simp only [h24, if_true, e2]
    · simp only [h24, if_false]
  · show sI (setI (setI (setI (setI s2 66 2 0) 66 3 0) 68 8 0) 8 16 0) 66 2 = 0
    rw [sI_ne (by omega), sI_ne (by omega), sI_ne (by omega), sI_eq]
  · show sI (setI (setI (setI (setI s2 66 2 0) 66 3 0) 68 8 0) 8 16 0) 66 3 = 0
    rw [sI_ne (by omega), sI_ne (by omega), sI_eq]
  · show sI (setI (setI (setI (setI s2 66 2 0) 66 3 0) 68 8 0) 8 16 0) 68 8 = 0
    rw [sI_ne (by omega), sI_eq]
  · exact sI_eq (σ := setI (setI (setI s2 66 2 0) 66 3 0) 68 8 0) (a := 8) (k := 16) (v := 0)
  · intro b hb
    have hx : b = 0 ∨ b = 1 ∨ b = 2 := by omega
    rcases hx with rfl | rfl | rfl
    · rw [sF_ne (by omega), sF_ne (by omega), sF_eq]
    · rw [sF_ne (by omega), sF_eq]
    · rw [sF_eq]
  · exact FR_t hcF (FR_t (FR_I (by unfold suT; omega)) (FR_t (FR_I (by unfold suT; omega)) (FR_t (FR_I (by unfold suT; omega)) (FR_t (FR_I (by unfold suT; omega)) (FR_t (FR_F (by unfold suS; omega)) (FR_t (FR_F (by unfold suS; omega)) (FR_F (by unfold suS; omega))))))))
theorem r_26 {s : ZS} : xX9_startAnew_L26 zFU 78 (0 : Int32) (mkH s) = some (mkH (setF (setF (setF s 117 0 0) 117 1 0) 117 2 0)) := by
  obtain ⟨e, he⟩ := zfu 3 (by omega)
  have st : ∀ (f : Nat) (k : Nat) (q : ZS), k < 3 → xX9_startAnew_L26 (f + 1) 78 (nI k) (mkH q) = xX9_startAnew_L26 f 78 (nI (k + 1)) (mkH (setF q 117 k 0)) := fun f k q hk => by
    have hB : xX9_startAnew_L26 (f + 1) 78 (nI k) (mkH q) = xX9_startAnew_B26 (xX9_startAnew_L26 f) 78 (nI k) (mkH q) := rfl
    rw [hB]
    generalize xX9_startAnew_L26 f = nl
    unfold xX9_startAnew_B26
    rw [if_neg (show ¬ (3 : Int32) ≤ nI k from fun z => by rw [show (3 : Int32) = nI 3 from rfl] at z; have := (nI_leI (by omega) (by omega)).mp z; omega), rR_78_60, Option.bind_some, wa_117 _ _ hk, Option.bind_some, nI_s]
    rfl
  have hB : ∀ (q : ZS), xX9_startAnew_L26 (e + 1) 78 (nI 3) (mkH q) = xX9_startAnew_B26 (xX9_startAnew_L26 e) 78 (nI 3) (mkH q) := fun q => rfl
  rw [he, show (0 : Int32) = nI 0 from rfl, show e + 3 + 1 = e + 1 + 1 + 1 + 1 by omega, st _ 0 _ (by omega), st _ 1 _ (by omega), st _ 2 _ (by omega), hB]
  generalize xX9_startAnew_L26 e = nl
  unfold xX9_startAnew_B26
  rw [if_pos (show (3 : Int32) ≤ nI 3 from by decide)]
  rfl
def rsT (a k : Nat) : Prop := a = 78 ∧ (k = 34 ∨ k = 48 ∨ k = 49 ∨ k = 57 ∨ k = 51)
def raT (a k : Nat) : Prop := a = 78 ∧ (k = 48 ∨ k = 49 ∨ k = 57 ∨ k = 51)
theorem r_anew {υ : ZS} {rb : Nat} {P : Nat → Nat} (R : RP υ rb P) (W : PW P) : ∃ υ', xX9_startAnew 78 (mkH υ) = some (mkH υ') ∧ sF υ' 104 = stA (P 0) (fun r s => sF υ (91 + r) (6 * rb + s)) (nI (P 7)) (fun j => if j < 521 then 0 else sF υ 104 j) ∧ (sI υ' 78 48 = 0 ∧ sI υ' 78 49 = 0 ∧ sI υ' 78 57 = 0 ∧ sI υ' 78 51 = 0 ∧ ∀ b, b < 3 → sF υ' 117 b = 0) ∧ FR (fun a => a = 104 ∨ a = 117) raT υ υ' := by
  obtain ⟨υ1, a1, a2, a3⟩ := r_layTold R W
  refine ⟨setF (setF (setF (setI (setI (setI (setI υ1 78 48 0) 78 49 0) 78 57 0) 78 51 0) 117 0 0) 117 1 0) 117 2 0, ?_, ?_, ⟨?_, ?_, ?_, ?_, ?_⟩, ?_⟩
  · have h26 := r_26 (s := setI (setI (setI (setI υ1 78 48 0) 78 49 0) 78 57 0) 78 51 0)
    generalize hnl : xX9_startAnew_L26 zFU = nl at *
    unfold xX9_startAnew
    rw [is_78, gu_t, a1, Option.bind_some, wI_78_48, Option.bind_some, wI_78_49, Option.bind_some, wI_78_57, Option.bind_some, wI_78_51, Option.bind_some, hnl]
    exact h26
  · rw [← a2]
    funext j
    rw [sF_ne (by omega), sF_ne (by omega), sF_ne (by omega)]
    rfl
  · show sI (setI (setI (setI (setI υ1 78 48 0) 78 49 0) 78 57 0) 78 51 0) 78 48 = 0
    rw [sI_ne (by omega), sI_ne (by omega), sI_ne (by omega), sI_eq]
  · show sI (setI (setI (setI (setI υ1 78 48 0) 78 49 0) 78 57 0) 78 51 0) 78 49 = 0
    rw [sI_ne (by omega), sI_ne (by omega), sI_eq]
  · show sI (setI (setI (setI (setI υ1 78 48 0) 78 49 0) 78 57 0) 78 51 0) 78 57 = 0
    rw [sI_ne (by omega), sI_eq]
  · exact sI_eq (σ := setI (setI (setI υ1 78 48 0) 78 49 0) 78 57 0) (a := 78) (k := 51) (v := 0)
  · intro b hb
    have hx : b = 0 ∨ b = 1 ∨ b = 2 := by omega
    rcases hx with rfl | rfl | rfl
    · rw [sF_ne (by omega), sF_ne (by omega), sF_eq]
    · rw [sF_ne (by omega), sF_eq]
    · rw [sF_eq]
  · exact FR_t (FR_m a3 (fun a z => Or.inl z) (fun _ _ z => z.elim)) (FR_t (FR_I (by unfold raT; omega)) (FR_t (FR_I (by unfold raT; omega)) (FR_t (FR_I (by unfold raT; omega)) (FR_t (FR_I (by unfold raT; omega)) (FR_t (FR_F (by omega)) (FR_t (FR_F (by omega)) (FR_F (by omega))))))))
theorem r_suc {υ : ZS} {rb : Nat} {P : Nat → Nat} (hg : sI υ 78 4 = 0) (h35 : sI υ 78 35 = nI rb) (R : RP (setI υ 78 34 (nI rb)) rb P) (W : PW P) : ∃ υ', xX9_fleet_B95 78 (mkH υ) = some (nI (P 0), mkH υ') ∧ sF υ' 104 = stA (P 0) (fun r s => sF υ (91 + r) (6 * rb + s)) (nI (P 7)) (fun j => if j < 521 then 0 else sF υ 104 j) ∧ sI υ' 78 34 = nI rb ∧ (sI υ' 78 48 = 0 ∧ sI υ' 78 49 = 0 ∧ sI υ' 78 57 = 0 ∧ sI υ' 78 51 = 0 ∧ ∀ b, b < 3 → sF υ' 117 b = 0) ∧ FR (fun a => a = 104 ∨ a = 117) rsT υ υ' := by
  obtain ⟨υ', a1, a2, a3, a4⟩ := r_anew R W
  have g34 : sI υ' 78 34 = nI rb := by rw [a4.2.1 78 34 (by unfold raT; omega)]; exact R.1
  have g81 : sF υ' 81 rb = nI (P 0) := by rw [a4.1 81 (by omega)]; exact R.2.2.1
  refine ⟨υ', ?_, a2, g34, a3, FR_t (FR_I (by unfold rsT; omega)) (FR_m a4 (fun _ z => z) (fun a k z => by unfold raT at z; unfold rsT; omega))⟩
  unfold xX9_fleet_B95
  rw [is_78, gu_t, r_good hg, Option.bind_some]
  dsimp only
  rw [if_neg (by decide), rI_78_35, Option.bind_some, h35, wI_78_34, Option.bind_some, is_78, gu_t, a1, Option.bind_some, rR_78_11, Option.bind_some, rI_78_34, Option.bind_some, g34, ra_81 _ R.2.1, Option.bind_some, g81]
