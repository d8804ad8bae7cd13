/-! questions answered alike (with scratch rows) -/
theorem Q_sc {cx rx : ZH → Option (Int32 × ZH)} (h : ∀ σ bk P on fo len X, IV σ bk P on fo len X → ∃ v τ, cx (mkH σ) = some (v, mkH τ) ∧ FR scS scT σ τ ∧ (IV τ bk P on fo len X → sF τ 104 = sF σ 104 → ∃ υ, rx (mkH τ) = some (v, mkH υ) ∧ FR (fun a => scS a ∨ a = 104) scT τ υ ∧ ∀ j, j < 521 → sF υ 104 j = sF τ 104 j)) : QOK cx rx := by
  rintro σ ⟨bk, P, on, fo, len, X, I⟩
  obtain ⟨v, τ, h1, h2, h3⟩ := h σ bk P on fo len X I
  have h4 : sF τ 104 = sF σ 104 := h2.1 104 (fun z => by unfold scS at z; omega)
  have I2 : IV τ bk P on fo len X := IV_q (FR_m h2 (fun _ z => Or.inl z) (fun _ _ z => z)) (fun j _ => by rw [h4]) I
  obtain ⟨υ, u1, u2, u3⟩ := h3 I2 h4
  exact ⟨v, τ, υ, h1, u1, ⟨FR_X h2, (FR_X u2).trans (FR_X h2)⟩, bk, P, on, fo, len, X, IV_q u2 u3 I2⟩
theorem sc_4 {σ τ : ZS} (h : FR scS scT σ τ) : FR (fun a => scS a ∨ a = 104) scT σ τ ∧ ∀ j, j < 521 → sF τ 104 j = sF σ 104 j := ⟨FR_m h (fun _ z => Or.inl z) (fun _ _ z => z), fun j _ => by rw [h.1 104 (fun z => by unfold scS at z; omega)]⟩
theorem q_rate (a : Int32) : QOK (xX8_rate 8 a) (xX9_rate 78 a) := by
  refine Q_sc fun σ bk P on fo len X I => ?_
  obtain ⟨⟨W, F, E, C, -⟩, -, -, V, L, PR, -⟩ := id I
  have hp := (PR.1 0 _ (by omega) (PT_0 σ)).1
  have w0 := W.1
  have CB' := CP_B C.1 W
  by_cases ha : 0 ≤ a ∧ a < nI (P 0)
  · obtain ⟨s, hs, rfl⟩ := in_n (by omega) ha
    obtain ⟨τ, t1, t2⟩ := c_rate hp C.1 W L V F C.2.2 hs
    refine ⟨nI (rtS (sF σ 104) s (P 1) fo len), τ, ?_, FR_m t2 (fun a z => Or.inl z) (fun _ _ z => z.elim), fun I2 h4 => ?_⟩
    · simp only [xX8_rate, rR_8_5, Option.bind_some, is_21, gu_t, c_isShip CB', if_pos ha, t10, if_false, rNow, is_S hp, t1]
    · obtain ⟨⟨-, -, E2, -⟩, -, -, V2, -⟩ := I2
      obtain ⟨υ, u1, u2⟩ := r_rate E2.1 W V2 F E2.2.2.1 (show s < 6 by omega)
      rw [h4] at u1
      have hF : FR scS scT τ υ := FR_m u2 (fun a z => by unfold scS; omega) (fun a k z => by unfold scT; omega)
      refine ⟨υ, ?_, sc_4 hF⟩
      simp only [xX9_rate, is_78, gu_t, r_isShip (RP_B E2.1 W), Option.bind_some, if_pos ha, t10, if_false, u1]
  · refine ⟨-1, σ, ?_, FR_r, fun I2 h4 => ⟨σ, ?_, sc_4 FR_r⟩⟩
    · simp only [xX8_rate, rR_8_5, Option.bind_some, is_21, gu_t, c_isShip CB', if_neg ha, if_true]
    · simp only [xX9_rate, is_78, gu_t, r_isShip (RP_B E.1 W), Option.bind_some, if_neg ha, if_true]
theorem own_LV {lo n m : Nat} {σ : ZS} {p s : Nat} {A : Nat → Int32} (L : LV n (cV σ p) A) (V : WF lo n m A) (hm : m ≤ 30) (hs : s < 6) : ownS (cV σ p) s (tn (A (24 + s))) = nI (ownN A s) := by
  have oc := WF_own V hs
  rw [← (own_n V hm hs).1]
  unfold ownS
  exact zf_c (tn (A (24 + s))) (fun k a hk => by rw [(L.2.2.1 s k hs (by omega) hk).1]) _ 0 0 (by omega)
theorem c_ownN {lo n m : Nat} {σ : ZS} {p s : Nat} {A : Nat → Int32} (hp : isSt (sK σ) p) (L : LV n (cV σ p) A) (V : WF lo n m A) (hm : m ≤ 30) (hs : s < 6) : xX5_ownedBits p (nI s) (mkH σ) = some (nI (ownN A s), mkH σ) := by
  have oc := WF_own V hs
  rw [c_own hp hs oc.2 (by rw [L.2.1 s hs]; exact oc.1), own_LV L V hm hs]
theorem q_free (a : Int32) : QOK (xX8_free 8 a) (xX9_free 78 a) := by
  refine Q_rd fun σ ⟨bk, P, on, fo, len, X, I⟩ => ?_
  obtain ⟨⟨W, F, E, C, -⟩, -, -, V, L, PR, -⟩ := I
  have hp := (PR.1 0 _ (by omega) (PT_0 σ)).1
  have w0 := W.1
  have w30 := W.2.2.1
  have B := RP_B E.1 W
  have CB' := CP_B C.1 W
  by_cases ha : 0 ≤ a ∧ a < nI (P 0)
  · obtain ⟨s, hs, rfl⟩ := in_n (by omega) ha
    have s6 : s < 6 := by omega
    have oc := WF_own V s6
    have ow := own_n V w30 s6
    have fr := free_n (A := sF σ 104) (s := s) (m := P 1) w30 ow.2
    refine ⟨nI (freeN (sF σ 104) s (P 1)), ?_, ?_⟩
    · simp only [xX8_free, rR_8_5, Option.bind_some, is_21, gu_t, c_isShip CB', if_pos ha, t10, if_false, rNow, is_S hp, c_ownN hp L V w30 s6]
      obtain ⟨e, he⟩ := zfu (P 1) (by omega)
      have key := lp (fun e k (x : Nat) => xX8_free_L27 e 8 (nI s) (nI (ownN (sF σ 104) s)) (nI x) (nI k) (mkH σ)) (fun k x => if frB (sF σ 104) s k then x ||| 2 ^ k else x) (P 1) (fun _ _ => True) (fun x => (nI x, mkH σ)) ?_ ?_ (P 1) 0 0 e (by omega) trivial
      · rw [he]
        exact key.1
      · intro e k x hk _
        refine ⟨?_, trivial⟩
        have k30 : k < 30 := by omega
        show xX8_free_B27 (xX8_free_L27 e) 8 (nI s) (nI (ownN (sF σ 104) s)) (nI x) (nI k) (mkH σ) = _
        simp only [xX8_free_B27, xX8_free_B58, rR_8_5, Option.bind_some, rI_21_0, C.1.2.1]
        rw [if_neg (fun z => by have := (nI_leI (by omega) (by omega)).mp z; omega)]
        simp only [rNow, Option.bind_some, is_S hp, gu_t, c_holder hp s6 k30, L.2.2.2 (84 + 30 * s + k) (by omega) (by omega), one_shl (show k < 32 by omega), nx_or, nI_s, if_true, t10, if_false]
        unfold frB
        have hbb := bitB_n (show ownN (sF σ 104) s < 2 ^ 31 by have := ow.2; omega) (show k < 32 by omega)
        unfold bitB at hbb
        rcases V.2.2.1 s k s6 k30 with h | ⟨o, y, h6, -, -, -, h7, -⟩
        · rw [h.1, if_pos rfl, show decide ((-1 : Int32) < 0) = true from rfl, Bool.true_and]
          by_cases hyb : (ownN (sF σ 104) s).testBit k = true
          · rw [hyb] at hbb
            rw [if_neg (fun z => and1n.mp z (of_decide_eq_true hbb))]
            simp [hyb]
          · rw [show (ownN (sF σ 104) s).testBit k = false by simpa using hyb] at hbb
            rw [if_pos (and1n.mpr (of_decide_eq_false hbb))]
            simp [hyb]
        · rw [h7, if_neg (nI_m1 (by omega)), show decide (nI o < 0) = false from decide_eq_false (nI_pos (by omega)), Bool.false_and]
          simp
      · intro e x _
        show xX8_free_B27 (xX8_free_L27 e) 8 (nI s) (nI (ownN (sF σ 104) s)) (nI x) (nI (P 1)) (mkH σ) = _
        simp only [xX8_free_B27, rR_8_5, Option.bind_some, rI_21_0, C.1.2.1]
        rw [if_pos ((nI_leI (by omega) (by omega)).mpr (Nat.le_refl _))]
    · simp only [xX9_free, is_78, gu_t, r_isShip B, Option.bind_some, if_pos ha, t10, if_false, r_free B s6 oc.2 oc.1, ow.1, fr.1]
  · refine ⟨-1, ?_, ?_⟩
    · simp only [xX8_free, rR_8_5, Option.bind_some, is_21, gu_t, c_isShip CB', if_neg ha, if_true]
    · simp only [xX9_free, is_78, gu_t, r_isShip B, Option.bind_some, if_neg ha, if_true]
theorem sc_w {σ τ : ZS} (h : FR (fun a => a = 106) (fun _ _ => False) σ τ) : FR scS scT σ τ := FR_m h (fun a z => by unfold scS; omega) (fun _ _ z => z.elim)
theorem sc_c {σ τ : ZS} (h : FR (fun a => a = 55 + 1) (fun a _ => a = 55) σ τ) : FR scS scT σ τ := FR_m h (fun a z => by unfold scS; omega) (fun a k z => by unfold scT; omega)
theorem q_cand (a b : Int32) : QOK (xX8_candidates 8 a b) (xX9_candidates 78 a b) := by
  refine Q_sc fun σ bk P on fo len X I => ?_
  obtain ⟨⟨W, F, E, C, -⟩, -, -, V, L, PR, -⟩ := id I
  have hp := (PR.1 0 _ (by omega) (PT_0 σ)).1
  have w0 := W.1
  have w30 := W.2.2.1
  have CB' := CP_B C.1 W
  have B := RP_B E.1 W
  by_cases ha : 0 ≤ a ∧ a < nI (P 0)
  · by_cases hb : 0 ≤ b ∧ b < nI (P 1)
    · obtain ⟨s, hs, rfl⟩ := in_n (by omega) ha
      obtain ⟨k, hk, rfl⟩ := in_n (by omega) hb
      obtain ⟨τ, t1, t2, t3, t4, t5⟩ := c_look (slot := k) (wd := P 3) hp (Or.inl rfl) C.1 W L V hs W.2.2.2.2.1 (by omega)
      refine ⟨nI (candS (sF σ 104) s (wP (P 1) (P 3) k) (wN (P 1) (P 3)) (P 4)), τ, ?_, sc_c t5, fun I2 h4 => ?_⟩
      · simp only [xX8_candidates, rR_8_5, Option.bind_some, is_21, gu_t, c_isShip CB', c_isSlot CB', if_pos ha, if_pos hb, t10, if_false, rR_8_8, rNow, rI_21_2, C.1.2.2.2.1, is_55, t1, rI_55_0, t2]
      · obtain ⟨⟨-, -, E2, -⟩, -, -, V2, -⟩ := I2
        obtain ⟨υ, u1, u2, u3, u4⟩ := r_cand (s := s) (slot := k) E2.1 W V2 (by omega) W.2.2.2.2.1 (by omega) (Or.inl ⟨E2.2.2.2, rfl⟩)
        rw [h4] at u1
        refine ⟨υ, ?_, sc_4 (sc_w u3)⟩
        simp only [xX9_candidates, is_78, gu_t, r_isShip (RP_B E2.1 W), r_isSlot (RP_B E2.1 W), Option.bind_some, if_pos ha, if_pos hb, t10, if_false, u1]
    · refine ⟨-1, σ, ?_, FR_r, fun I2 h4 => ⟨σ, ?_, sc_4 FR_r⟩⟩
      · simp only [xX8_candidates, rR_8_5, Option.bind_some, is_21, gu_t, c_isShip CB', c_isSlot CB', if_pos ha, if_neg hb, t10, if_false, if_true]
      · simp only [xX9_candidates, is_78, gu_t, r_isShip B, r_isSlot B, Option.bind_some, if_pos ha, if_neg hb, t10, if_false, if_true]
  · refine ⟨-1, σ, ?_, FR_r, fun I2 h4 => ⟨σ, ?_, sc_4 FR_r⟩⟩
    · simp only [xX8_candidates, rR_8_5, Option.bind_some, is_21, gu_t, c_isShip CB', if_neg ha, if_true]
    · simp only [xX9_candidates, is_78, gu_t, r_isShip B, Option.bind_some, if_neg ha, if_true]
theorem c_reuse {σ : ZS} {P : Nat → Nat} {A : Nat → Int32} {s k : Nat} (hp : isSt (sK σ) (sNow σ)) (C : CP σ P) (W : PW P) (L : LV (P 0) (cV σ (sNow σ)) A) (V : WF 1 (P 0) (P 1) A) (hs : s < P 0) (hk : k < P 1) : ∃ τ, xX8_reuse 8 (nI s) (nI k) (mkH σ) = some (farO A s (wP (P 1) (P 3) k) (fun t => (ownN A s).testBit t) (wN (P 1) (P 3)), mkH τ) ∧ FR scS scT σ τ := by
  have hp3 := st_in hp
  have w0 := W.1
  have w6 := W.2.1
  have w30 := W.2.2.1
  have CB' := CP_B C W
  have s6 : s < 6 := by omega
  have ha : 0 ≤ nI s ∧ nI s < nI (P 0) := ⟨nI_pos' (by omega), nI_lt hs (by omega)⟩
  have hb : 0 ≤ nI k ∧ nI k < nI (P 1) := ⟨nI_pos' (by omega), nI_lt hk (by omega)⟩
  have hbn := wN_le (m := P 1) (wd := P 3)
  have hw2 : ∀ i, i < wN (P 1) (P 3) → wP (P 1) (P 3) k i < 30 := fun i _ => Nat.lt_of_lt_of_le (wP_lt (by omega)) w30
  obtain ⟨τ, t1, t2, t3, t4⟩ := c_order (q := 55) (slot := k) (wd := P 3) (Or.inl rfl) C W W.2.2.2.2.1 (by omega)
  have t5 : FR (fun a => a = 55 + 1) (fun a _ => a = 55) σ τ := FR_m t4 (fun _ z => z) (fun _ _ z => z.1)
  have hpt : isSt (sK τ) (sNow σ) := by rw [FR_K t5]; exact hp
  have hV : cV τ (sNow σ) = cV σ (sNow σ) := cV_o t5 (fun a _ _ z => by omega) (fun k z => by omega)
  have L2 : LV (P 0) (cV τ (sNow σ)) A := by rw [hV]; exact L
  have ow := own_n V w30 s6
  have hN := FR_now t5
  have hpn : isSt (sK τ) (sNow τ) := by rw [hN]; exact hpt
  have L3 : LV (P 0) (cV τ (sNow τ)) A := by rw [hN]; exact L2
  have cf := c_far (σ := τ) (q := 55) (y := ownN A s) (w := wP (P 1) (P 3) k) hpn (Or.inl rfl) L3 V w0 hs (show wN (P 1) (P 3) ≤ 30 by omega) ow.2 t2 t3 hw2
  have co := c_ownN hpn L3 V w30 s6
  refine ⟨τ, ?_, sc_c t5⟩
  have e1 : xX8_reuse 8 (nI s) (nI k) (mkH σ) = (xX0_setOrder 55 21 (nI k) (nI (P 3)) (mkH σ)).bind fun h40 => ((z_gR h40 8 8 8).bind fun x44 => ((z_gR h40 8 8 6).bind fun x48 => ((z_gR h40 8 8 6).bind fun x53 => (z_gu (z_is h40 x53 5) ((xX5_ownedBits x53 (nI s) h40).bind fun r57 => (z_gu (z_is r57.2 x44 0) ((xX0_farthestHeld x44 x48 (nI s) r57.1 r57.2).bind fun r60 => some (r60.1, r60.2)))))))) := by
    unfold xX8_reuse
    generalize xX0_setOrder = so
    generalize xX5_ownedBits = ob
    generalize xX0_farthestHeld = fh
    simp only [rR_8_5, Option.bind_some, is_21, gu_t, c_isShip CB', c_isSlot CB', if_pos ha, if_pos hb, t10, if_false, rR_8_8, rI_21_2, C.2.2.2.1, is_55]
  rw [e1, t1, Option.bind_some, rR_8_8, Option.bind_some, rNow, Option.bind_some, Option.bind_some, is_S hpn, gu_t, co, Option.bind_some]
  show z_gu (z_is (mkH τ) 55 0) ((xX0_farthestHeld 55 (sNow τ) (nI s) (nI (ownN A s)) (mkH τ)).bind fun r60 => some (r60.1, r60.2)) = _
  rw [is_55, gu_t, cf]
  rfl
theorem r_reuse {σ : ZS} {bk : Nat} {P : Nat → Nat} {s k : Nat} (R : RP σ bk P) (ht : sI σ 78 43 < 0) (W : PW P) (V : WF 1 (P 0) (P 1) (sF σ 104)) (hs : s < P 0) (hk : k < P 1) : ∃ υ, xX9_reuse 78 (nI s) (nI k) (mkH σ) = some (farO (sF σ 104) s (wP (P 1) (P 3) k) (fun t => (ownN (sF σ 104) s).testBit t) (wN (P 1) (P 3)), mkH υ) ∧ FR scS scT σ υ := by
  have w0 := W.1
  have w6 := W.2.1
  have w30 := W.2.2.1
  have B := RP_B R W
  have s6 : s < 6 := by omega
  have ha : 0 ≤ nI s ∧ nI s < nI (P 0) := ⟨nI_pos' (by omega), nI_lt hs (by omega)⟩
  have hb : 0 ≤ nI k ∧ nI k < nI (P 1) := ⟨nI_pos' (by omega), nI_lt hk (by omega)⟩
  have hbn := wN_le (m := P 1) (wd := P 3)
  have hw2 : ∀ i, i < wN (P 1) (P 3) → wP (P 1) (P 3) k i < 30 := fun i _ => Nat.lt_of_lt_of_le (wP_lt (by omega)) w30
  obtain ⟨υ, u1, u2, u3⟩ := r_window (slot := k) R W W.2.2.2.2.1 (by omega) (Or.inl ⟨ht, rfl⟩)
  have h5 : sF υ 104 = sF σ 104 := u3.1 104 (by decide)
  obtain ⟨x, hx⟩ : ∃ x : Nat, x = 0 := ⟨0, rfl⟩
  have rf := r_far (σ := υ) (s := s) (x := x) (w := wP (P 1) (P 3) k) (n := wN (P 1) (P 3)) (by rw [h5]; exact V) w0 w30 s6 (by omega) (by omega) u2 hw2
  rw [h5] at rf
  have esk : (fun t => (ownN (sF σ 104) s).testBit t || x.testBit t) = fun t => (ownN (sF σ 104) s).testBit t := by
    funext t
    rw [hx, Nat.zero_testBit, Bool.or_false]
  rw [esk, hx, nI_0] at rf
  refine ⟨υ, ?_, sc_w u3⟩
  unfold xX9_reuse
  generalize xX9_farthestOf = fh at *
  generalize xX9_layWindow = lw at *
  simp only [is_78, gu_t, r_isShip B, r_isSlot B, Option.bind_some, if_pos ha, if_pos hb, t10, if_false, u1, rf]
theorem q_reuse (a b : Int32) : QOK (xX8_reuse 8 a b) (xX9_reuse 78 a b) := by
  refine Q_sc fun σ bk P on fo len X I => ?_
  obtain ⟨⟨W, F, E, C, -⟩, -, -, V, L, PR, -⟩ := id I
  have hp := (PR.1 0 _ (by omega) (PT_0 σ)).1
  have w0 := W.1
  have w30 := W.2.2.1
  have CB' := CP_B C.1 W
  have B := RP_B E.1 W
  by_cases ha : 0 ≤ a ∧ a < nI (P 0)
  · by_cases hb : 0 ≤ b ∧ b < nI (P 1)
    · obtain ⟨s, hs, rfl⟩ := in_n (by omega) ha
      obtain ⟨k, hk, rfl⟩ := in_n (by omega) hb
      obtain ⟨τ, t1, t2⟩ := c_reuse hp C.1 W L V hs hk
      refine ⟨_, τ, t1, t2, fun I2 h4 => ?_⟩
      obtain ⟨⟨-, -, E2, -⟩, -, -, V2, -⟩ := I2
      obtain ⟨υ, u1, u2⟩ := r_reuse E2.1 E2.2.2.2 W V2 hs hk
      rw [h4] at u1
      exact ⟨υ, u1, sc_4 u2⟩
    · refine ⟨-1, σ, ?_, FR_r, fun I2 h4 => ⟨σ, ?_, sc_4 FR_r⟩⟩
      · simp only [xX8_reuse, rR_8_5, Option.bind_some, is_21, gu_t, c_isShip CB', c_isSlot CB', if_pos ha, if_neg hb, t10, if_false, if_true]
      · simp only [xX9_reuse, is_78, gu_t, r_isShip B, r_isSlot B, Option.bind_some, if_pos ha, if_neg hb, t10, if_false, if_true]
  · refine ⟨-1, σ, ?_, FR_r, fun I2 h4 => ⟨σ, ?_, sc_4 FR_r⟩⟩
    · simp only [xX8_reuse, rR_8_5, Option.bind_some, is_21, gu_t, c_isShip CB', if_neg ha, if_true]
    · simp only [xX9_reuse, is_78, gu_t, r_isShip B, Option.bind_some, if_neg ha, if_true]
