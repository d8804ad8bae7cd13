/-! steer, turn -/
theorem act_fin {σ τ τ2 τ3 υ : ZS} {bk : Nat} {P : Nat → Nat} {on fo A' : Nat → Int32} {len : Nat} {X : Nat → Nat → Int32} {p c dn un : Nat} (I : IV σ bk P on fo len X) (d5 : dn + un ≤ 40) (d6 : ∀ k, k < dn + un → ∃ q, sQ σ 67 k = some q ∧ LV (P 0) (cV σ q) (fun j => sF σ 109 (521 * k + j)) ∧ WF 1 (P 0) (P 1) (fun j => sF σ 109 (521 * k + j))) (kc : (dn = 40 ∧ c + 1 = 40) ∨ (dn < 40 ∧ c = dn)) (k2 : sI τ 66 2 = nI (c + 1)) (k3 : sI τ 66 3 = 0) (k4 : sQ τ 67 c = some p) (k5 : cV τ p = cV σ (sNow σ)) (k6 : ∀ i, i < c → sQ τ 67 i = if dn = 40 then sQ σ 67 (i + 1) else sQ σ 67 i) (k7 : sNow τ = sNow σ) (k8 : PTR τ) (k9 : GF (qS p) (kT p) kU σ τ) (k10 : isSt (sK τ) (sNow σ)) (k12 : p ≠ sNow σ) (k13 : isSt (sK τ) p) (k14 : p ≠ 42) (k16 : sF τ 104 = sF σ 104) (g3 : FR (cS (sNow σ)) (cT (sNow σ)) τ τ2) (g2 : LV (P 0) (cV τ2 (sNow σ)) A') (VA : WF 1 (P 0) (P 1) A') (r3 : sI τ3 78 48 = nI (c + 1)) (r4 : sI τ3 78 49 = 0) (r5 : ∀ j, j < 521 → sF τ3 109 (521 * c + j) = sF τ2 104 j) (r6 : ∀ k, k < 521 * c → sF τ3 109 k = if dn = 40 then sF τ2 109 (k + 521) else sF τ2 109 k) (r7 : FR hS hT τ2 τ3) (u2 : sF υ 104 = A') (u3 : FR rS rT τ3 υ) : IV υ bk P on fo len X ∧ (sX τ2 = sX σ ∧ sX υ = sX σ) := by
  obtain ⟨-, -, -, V, L, PR, -⟩ := id I
  have hp := (PR.1 0 _ (by omega) (PT_0 σ)).1
  have hp3 := st_in hp
  have pp3 := st_in k13
  have gAll : GF (aS p (sNow σ)) (aT p (sNow σ)) kU σ τ3 := by
    refine GF_t (GF_m k9 (fun a z => Or.inl z) (fun a k z => ?_) (fun _ _ z => z)) (GF_t (GF_f (FR_m g3 (fun a z => Or.inr (Or.inl z)) (fun a k z => Or.inr (Or.inl z)))) (GF_f (FR_m r7 (fun a z => by unfold hS at z; unfold aS; omega) (fun a k z => by unfold hT at z; unfold aT; omega))))
    unfold kT at z
    unfold aT
    rcases z with z | z
    · exact Or.inl z
    · exact Or.inr (Or.inr (Or.inl z))
  have gF : GF (aS p (sNow σ)) (aT p (sNow σ)) kU σ υ := GF_t gAll (GF_f (FR_m u3 (fun a z => by unfold rS at z; unfold aS; omega) (fun a k z => by unfold rT at z; unfold aT; omega)))
  have hFr : FR (fun a => 103 ≤ a ∧ a ≤ 109) (fun a k => a = 78) τ2 υ := FR_t (FR_m r7 (fun a z => by unfold hS at z; omega) (fun a k z => by unfold hT at z; omega)) (FR_m u3 (fun a z => by unfold rS at z; omega) (fun a k z => by unfold rT at z; omega))
  have hNu : sNow υ = sNow σ := by rw [FR_now hFr, FR_now g3, k7]
  have hQu : ∀ a k, sQ υ a k = sQ τ a k := fun a k => by
    show υ.2.2.2.2.2.2.1 a k = _
    rw [hFr.2.2, g3.2.2]
  have hKu : sK υ = sK τ := by rw [FR_K hFr, FR_K g3]
  have hPu : PTR υ := PTR_map id (fun i hi => hi) (fun i j _ _ h => h) (fun i hi => by
    show PT υ i = PT τ i
    unfold PT
    rw [hNu, k7, hQu, hQu]) (by rw [hKu]; exact Nat.le_refl _) k8
  have hcVn : cV υ (sNow σ) = cV τ2 (sNow σ) := cV_o hFr (fun a h1 h2 z => by omega) (fun k z => by omega)
  have ap := st_ap k13 k10 k12
  have hcVp : cV υ p = cV σ (sNow σ) := by
    rw [cV_o hFr (fun a h1 h2 z => by omega) (fun k z => by omega), cV_o g3 (fun a h1 h2 z => by unfold cS at z; omega) (fun k z => by unfold cT at z; omega)]
    exact k5
  refine ⟨IV_a (p := p) (c := c) (dn := dn) (un := un) I d5 d6 kc gF hNu hPu (by rw [hQu]; exact k4) (fun i hi => by rw [hQu]; exact k6 i hi) hcVp ?_ ?_ ?_ ?_ (by rw [u2]; exact VA) (by rw [hcVn, u2]; exact g2) (fun j hj => ?_) (fun k hk => ?_), (FR_X g3).trans k9.2.2.2.2.2.2.1, (FR_X hFr).trans ((FR_X g3).trans k9.2.2.2.2.2.2.1)⟩
  · rw [hFr.2.1 66 2 (by omega), g3.2.1 66 2 (fun z => by unfold cT at z; omega)]; exact k2
  · rw [hFr.2.1 66 3 (by omega), g3.2.1 66 3 (fun z => by unfold cT at z; omega)]; exact k3
  · rw [u3.2.1 78 48 (fun z => by unfold rT at z; omega)]; exact r3
  · rw [u3.2.1 78 49 (fun z => by unfold rT at z; omega)]; exact r4
  · rw [u3.1 109 (fun z => by unfold rS at z; omega), r5 j hj, g3.1 104 (fun z => by unfold cS at z; omega), k16]
  · rw [u3.1 109 (fun z => by unfold rS at z; omega), r6 k hk, g3.1 109 (fun z => by unfold cS at z; omega), k9.1 109 (fun z => by unfold qS at z; omega) (by omega)]
theorem LV_lo {n k : Nat} {B A : Nat → Int32} {v : Int32} (hk : k < 24) (hn : n ≤ 6) (L : LV n B A) : LV n (up1 B k v) (up1 A k v) := by
  have e : ∀ j, B j = A j → up1 B k v j = up1 A k v j := fun j h => by
    unfold up1
    by_cases hj : j = k
    · rw [if_pos hj, if_pos hj]
    · rw [if_neg hj, if_neg hj, h]
  refine ⟨fun s hs => ?_, fun s hs => e _ (L.2.1 s hs), fun s i hs hi ho => ?_, fun j h1 h2 => e _ (L.2.2.2 j h1 h2)⟩
  · obtain ⟨l1, l2, l3, l4⟩ := L.1 s hs
    exact ⟨e _ l1, e _ l2, e _ l3, e _ l4⟩
  · rw [up1_n (by omega)] at ho
    obtain ⟨l1, l2, l3⟩ := L.2.2.1 s i hs hi ho
    exact ⟨e _ l1, e _ l2, e _ l3⟩
theorem mv_iff {v : Int32} : (0 ≤ v ∧ v ≤ 99) ↔ ¬ (v < 0) ∧ ¬ ((100 : Int32) ≤ v) := by
  constructor
  · intro z
    exact ⟨Int32.not_lt.mpr z.1, fun y => absurd (Int32.le_trans y z.2) (by decide)⟩
  · rintro ⟨z1, z2⟩
    have h := (int_pred (v := v) (n := 100) (by decide)).mpr ⟨Int32.not_lt.mp z1, Int32.not_le.mp z2⟩
    exact ⟨h.1, h.2⟩
theorem c_isMove (v : Int32) (h : ZH) : xX8_isMove v h = some (if 0 ≤ v ∧ v ≤ 99 then 1 else 0, h) := by
  unfold xX8_isMove
  by_cases h1 : v < 0
  · rw [if_pos h1, if_neg (fun z => (mv_iff.mp z).1 h1)]
  · rw [if_neg h1]
    by_cases h2 : (100 : Int32) ≤ v
    · rw [if_pos h2, if_neg (fun z => (mv_iff.mp z).2 h2)]
    · rw [if_neg h2, if_pos (mv_iff.mpr ⟨h1, h2⟩)]
theorem q_steer (a x y : Int32) : QOK (xX8_steer 8 a x y) (xX9_steer 78 a x y) := by
  rintro σ ⟨bk, P, on, fo, len, X, I⟩
  obtain ⟨⟨W, F, E, C, -⟩, -, -, V, L, PR, -⟩ := id I
  have w0 := W.1
  have CB' := CP_B C.1 W
  have B := RP_B E.1 W
  have hp := (PR.1 0 _ (by omega) (PT_0 σ)).1
  have hp3 := st_in hp
  by_cases hc : (0 ≤ a ∧ a < nI (P 0)) ∧ (0 ≤ x ∧ x ≤ 99) ∧ (0 ≤ y ∧ y ≤ 99)
  · obtain ⟨ha, hx, hy⟩ := hc
    obtain ⟨s, hs, rfl⟩ := in_n (by omega) ha
    have s6 : s < 6 := by omega
    obtain ⟨τ, p, c, dn, un, d5, d6, d3, k1, kc, k2, k3, k4, k5, k6, k7, k8, k9, k10, k11, k12, k13, k14, k15, k16⟩ := k_act I
    have hw3 := wa_S3 (σ := τ) (k := s) x k10 s6
    have hw4 := wa_S4 (σ := setF τ (sNow σ + 3) s x) (k := s) y k10 s6
    have g3 : FR (cS (sNow σ)) (cT (sNow σ)) τ (setF (setF τ (sNow σ + 3) s x) (sNow σ + 4) s y) := FR_t (FR_F (by unfold cS; omega)) (FR_F (by unfold cS; omega))
    have hcv : cV (setF (setF τ (sNow σ + 3) s x) (sNow σ + 4) s y) (sNow σ) = up1 (up1 (cV σ (sNow σ)) (12 + s) x) (18 + s) y := by
      rw [cV_F (r := 4) (by omega) (by omega) (by show s < 6; exact s6), cV_F (r := 3) (by omega) (by omega) (by show s < 6; exact s6), k11]
      rfl
    have g2 : LV (P 0) (cV (setF (setF τ (sNow σ + 3) s x) (sNow σ + 4) s y) (sNow σ)) (up1 (up1 (sF σ 104) (12 + s) x) (18 + s) y) := by
      rw [hcv]
      exact LV_lo (by omega) w0 (LV_lo (by omega) w0 L)
    have VA : WF 1 (P 0) (P 1) (up1 (up1 (sF σ 104) (12 + s) x) (18 + s) y) := WF_lo (fun k h1 h2 => by rw [up1_n (by omega), up1_n (by omega)]) V
    have hst4 : isSt (sK (setF (setF τ (sNow σ + 3) s x) (sNow σ + 4) s y)) (sNow σ) := k10
    have hspd : xX5_speedOf (sNow σ) (nI s) (mkH (setF (setF τ (sNow σ + 3) s x) (sNow σ + 4) s y)) = some (speedS (up1 (up1 (sF σ 104) (12 + s) x) (18 + s) y) s, mkH (setF (setF τ (sNow σ + 3) s x) (sNow σ + 4) s y)) := by
      rw [c_speed hst4 s6]
      unfold speedS
      rw [(g2.1 s hs).2.2.1, (g2.1 s hs).2.2.2]
    have hNw : ∀ a k v, sNow (setF τ a k v) = sNow σ := fun a k v => k7
    have hNw2 : sNow (setF (setF τ (sNow σ + 3) s x) (sNow σ + 4) s y) = sNow σ := k7
    have hC : xX8_steer 8 (nI s) x y (mkH σ) = some (speedS (up1 (up1 (sF σ 104) (12 + s) x) (18 + s) y) s, mkH (setF (setF τ (sNow σ + 3) s x) (sNow σ + 4) s y)) := by
      unfold xX8_steer
      generalize xX1_keep = kp at *
      generalize xX5_speedOf = sp at *
      rw [rR_8_5, Option.bind_some, is_21, gu_t, c_isShip CB', Option.bind_some, if_pos ha, if_neg (show ¬ (1 : Int32) = 0 by decide), c_isMove, Option.bind_some, if_pos hx, if_neg (show ¬ (1 : Int32) = 0 by decide), c_isMove, Option.bind_some, if_pos hy, if_neg (show ¬ (1 : Int32) = 0 by decide)]
      show ((z_gR (mkH σ) 8 8 11).bind fun x28 => ((z_gR (mkH σ) 8 8 6).bind fun x32 => (z_gu (z_is (mkH σ) x28 1) ((kp x28 x32 (mkH σ)).bind fun h35 => ((z_gR h35 8 8 6).bind fun x39 => ((z_gR h35 x39 5 3).bind fun x42 => ((z_uI h35 x42 (nI s) x).bind fun h47 => ((z_gR h47 8 8 6).bind fun x49 => ((z_gR h47 x49 5 4).bind fun x52 => ((z_uI h47 x52 (nI s) y).bind fun h57 => ((z_gR h57 8 8 6).bind fun x59 => (z_gu (z_is h57 x59 5) ((sp x59 (nI s) h57).bind fun r63 => some (r63.1, r63.2))))))))))))) ) = _
      rw [rR_8_11, Option.bind_some, rNow, Option.bind_some, is_66, gu_t, k1, Option.bind_some, rNow, Option.bind_some, k7, rR_S3 k10, Option.bind_some, hw3, Option.bind_some, rNow, Option.bind_some, hNw, rR_S4 (σ := setF τ (sNow σ + 3) s x) k10, Option.bind_some, hw4, Option.bind_some, rNow, Option.bind_some, hNw2, is_S hst4, gu_t, hspd, Option.bind_some]
    generalize setF (setF τ (sNow σ + 3) s x) (sNow σ + 4) s y = τ2 at *
    have h48 : sI τ2 78 48 = nI dn := by
      rw [g3.2.1 78 48 (fun z => by unfold cT at z; omega), k9.2.1 78 48 (fun z => by unfold kT qT at z; have := st_in k13; omega) (by omega)]
      exact d3
    obtain ⟨τ3, c', r1, r2, r3, r4, r5, r6, r7⟩ := r_keepAct (σ := τ2) (ac := dn) (by omega) h48
    have hcc : c' = c := by omega
    subst hcc
    have f2 : sF τ2 104 = sF σ 104 := by rw [g3.1 104 (fun z => by unfold cS at z; omega), k16]
    have f3 : sF τ3 104 = sF σ 104 := by rw [r7.1 104 (fun z => by unfold hS at z; omega), f2]
    have R2 : RP τ2 bk P := RP_c hp g3 k15.2.2.1.1
    have u2 : sF (setF (setF τ3 104 (12 + s) x) 104 (18 + s) y) 104 = up1 (up1 (sF σ 104) (12 + s) x) (18 + s) y := by
      rw [sF_up, sF_up, f3]
    obtain ⟨IVu, sx⟩ := act_fin (υ := setF (setF τ3 104 (12 + s) x) 104 (18 + s) y) I d5 d6 kc k2 k3 k4 k5 k6 k7 k8 k9 k10 k12 k13 k14 k16 g3 g2 VA r3 r4 r5 r6 r7 u2 (FR_t FR_4 FR_4)
    refine ⟨_, τ2, setF (setF τ3 104 (12 + s) x) 104 (18 + s) y, hC, ?_, sx, bk, P, on, fo, len, X, IVu⟩
    have hsr : xX9_speedOf 78 (nI s) (mkH (setF (setF τ3 104 (12 + s) x) 104 (18 + s) y)) = some (speedS (up1 (up1 (sF σ 104) (12 + s) x) (18 + s) y) s, mkH (setF (setF τ3 104 (12 + s) x) 104 (18 + s) y)) := by
      rw [r_speed s6, u2]
    unfold xX9_steer
    generalize xX9_keepAct = kp at *
    generalize xX9_speedOf = sp at *
    rw [is_78, gu_t, r_isShip (RP_B R2 W), Option.bind_some, if_pos ha, if_neg (show ¬ (1 : Int32) = 0 by decide), r_isIn, Option.bind_some, if_pos hx, if_neg (show ¬ (1 : Int32) = 0 by decide), r_isIn, Option.bind_some, if_pos hy, if_neg (show ¬ (1 : Int32) = 0 by decide)]
    show z_gu (z_is (mkH τ2) 78 9) ((kp 78 (mkH τ2)).bind fun h31 => ((z_gR h31 78 9 41).bind fun x35 => ((z_uI h31 x35 ((12 : Int32) + nI s) x).bind fun h43 => ((z_gR h43 78 9 41).bind fun x45 => ((z_uI h43 x45 ((18 : Int32) + nI s) y).bind fun h53 => (z_gu (z_is h53 78 9) ((sp 78 (nI s) h53).bind fun r56 => some (r56.1, r56.2)))))))) = _
    rw [is_78, gu_t, r1, Option.bind_some, rR_78_41, Option.bind_some, nl_12, nI_add, wa_104 τ3 (k := 12 + s) x (by omega), Option.bind_some, rR_78_41, Option.bind_some, nl_18, nI_add, wa_104 _ (k := 18 + s) y (by omega), Option.bind_some, is_78, gu_t, hsr, Option.bind_some]
  · refine ⟨-1, σ, σ, ?_, ?_, ⟨rfl, rfl⟩, bk, P, on, fo, len, X, I⟩
    · unfold xX8_steer
      rw [rR_8_5, Option.bind_some, is_21, gu_t, c_isShip CB', Option.bind_some]
      by_cases h1 : 0 ≤ a ∧ a < nI (P 0)
      · rw [if_pos h1, if_neg (show ¬ (1 : Int32) = 0 by decide), c_isMove, Option.bind_some]
        by_cases h2 : 0 ≤ x ∧ x ≤ 99
        · rw [if_pos h2, if_neg (show ¬ (1 : Int32) = 0 by decide), c_isMove, Option.bind_some, if_neg (fun z => hc ⟨h1, h2, z⟩), if_pos rfl]
        · rw [if_neg h2, if_pos rfl]
      · rw [if_neg h1, if_pos rfl]
    · unfold xX9_steer
      rw [is_78, gu_t, r_isShip B, Option.bind_some]
      by_cases h1 : 0 ≤ a ∧ a < nI (P 0)
      · rw [if_pos h1, if_neg (show ¬ (1 : Int32) = 0 by decide), r_isIn, Option.bind_some]
        by_cases h2 : 0 ≤ x ∧ x ≤ 99
        · rw [if_pos h2, if_neg (show ¬ (1 : Int32) = 0 by decide), r_isIn, Option.bind_some, if_neg (fun z => hc ⟨h1, h2, z⟩), if_pos rfl]
        · rw [if_neg h2, if_pos rfl]
      · rw [if_neg h1, if_pos rfl]
def tuA (A : Nat → Int32) (s : Nat) : Nat → Int32 := up1 A 516 (A 516 ^^^ ((1 : Int32) <<< (nI s &&& 31)))
theorem q_turn (a : Int32) : QOK (xX8_turn 8 a) (xX9_turn 78 a) := by
  rintro σ ⟨bk, P, on, fo, len, X, I⟩
  obtain ⟨⟨W, F, E, C, -⟩, -, -, V, L, PR, -⟩ := id I
  have w0 := W.1
  have CB' := CP_B C.1 W
  have B := RP_B E.1 W
  have hp := (PR.1 0 _ (by omega) (PT_0 σ)).1
  have hp3 := st_in hp
  by_cases ha : 0 ≤ a ∧ a < nI (P 0)
  · obtain ⟨s, hs, rfl⟩ := in_n (by omega) ha
    have s6 : s < 6 := by omega
    obtain ⟨τ, p, c, dn, un, d5, d6, d3, k1, kc, k2, k3, k4, k5, k6, k7, k8, k9, k10, k11, k12, k13, k14, k15, k16⟩ := k_act I
    have L1 : LV (P 0) (cV τ (sNow σ)) (sF σ 104) := by rw [k11]; exact L
    have e13 : sI τ (sNow σ) 13 = sF σ 104 516 := (e_sc L1).1
    generalize hv : sF σ 104 516 ^^^ ((1 : Int32) <<< (nI s &&& 31)) = v at *
    have hA1 : tuA (sF σ 104) s = up1 (sF σ 104) 516 v := by unfold tuA; rw [hv]
    have gI : FR (cS (sNow σ)) (cT (sNow σ)) τ (setI τ (sNow σ) 13 v) := FR_I (Or.inl ⟨rfl, by omega⟩)
    have hcv : cV (setI τ (sNow σ) 13 v) (sNow σ) = up1 (cV τ (sNow σ)) 516 v := cV_I (Or.inl ⟨rfl, rfl⟩)
    have L2 : LV (P 0) (cV (setI τ (sNow σ) 13 v) (sNow σ)) (tuA (sF σ 104) s) := by rw [hcv, hA1]; exact LV_up (by omega) L1 w0
    have V2 : WF 1 (P 0) (P 1) (tuA (sF σ 104) s) := by rw [hA1]; exact WF_up (by omega) (fun z => by omega) (fun z => by omega) V
    have v516 : tuA (sF σ 104) s 516 = v := by rw [hA1, up1_e]
    have hkI : isSt (sK (setI τ (sNow σ) 13 v)) (sNow σ) := k10
    -- the class's act, with or without forgetting
    have hcl : ∃ τ2 A', A' = (if bitB v (nI s) then fgA s (tuA (sF σ 104) s) else tuA (sF σ 104) s) ∧ xX8_turn 8 (nI s) (mkH σ) = some (v, mkH τ2) ∧ LV (P 0) (cV τ2 (sNow σ)) A' ∧ FR (cS (sNow σ)) (cT (sNow σ)) τ τ2 := by
      have hpre : xX8_turn 8 (nI s) (mkH σ) = (if ((v >>> (nI s &&& 31)) &&& (1 : Int32)) = (1 : Int32) then ((xX5_forgetAll (sNow σ) (nI s) (mkH (setI τ (sNow σ) 13 v))).bind fun h59 => ((z_gR h59 8 8 6).bind fun x63 => ((z_gI h59 x63 5 13).bind fun x66 => some (x66, h59)))) else some (v, mkH (setI τ (sNow σ) 13 v))) := by
        unfold xX8_turn
        generalize xX1_keep = kp at *
        generalize xX5_forgetAll = fg at *
        have hNw : sNow (setI τ (sNow σ) 13 v) = sNow σ := k7
        rw [rR_8_5, Option.bind_some, is_21, gu_t, c_isShip CB', Option.bind_some, if_pos ha, if_neg (show ¬ (1 : Int32) = 0 by decide)]
        show ((z_gR (mkH σ) 8 8 11).bind fun x14 => ((z_gR (mkH σ) 8 8 6).bind fun x18 => (z_gu (z_is (mkH σ) x14 1) ((kp x14 x18 (mkH σ)).bind fun h21 => ((z_gR h21 8 8 6).bind fun x25 => ((z_gI h21 x25 5 13).bind fun x29 => ((z_sF h21 x25 5 13 (.int (x29 ^^^ ((1 : Int32) <<< (nI s &&& 31))))).bind fun h36 => ((z_gR h36 8 8 6).bind fun x40 => ((z_gI h36 x40 5 13).bind fun x43 => (if ((x43 >>> (nI s &&& 31)) &&& (1 : Int32)) = (1 : Int32) then ((z_gR h36 8 8 6).bind fun x55 => (z_gu (z_is h36 x55 5) ((fg x55 (nI s) h36).bind fun h59 => ((z_gR h59 8 8 6).bind fun x63 => ((z_gI h59 x63 5 13).bind fun x66 => some (x66, h59)))))) else ((z_gR h36 8 8 6).bind fun x63 => ((z_gI h36 x63 5 13).bind fun x66 => some (x66, h36))))))))))))) = _
        rw [rR_8_11, Option.bind_some, rNow, Option.bind_some, is_66, gu_t, k1, Option.bind_some, rNow, Option.bind_some, k7, rI_S13 k10, Option.bind_some, e13, hv, wI_S13 v k10, Option.bind_some, rNow, Option.bind_some, hNw, rI_S13 hkI, Option.bind_some, sI_eq, Option.bind_some, Option.bind_some, is_S hkI, gu_t, rI_S13 hkI, Option.bind_some, sI_eq]
      rw [hpre]
      by_cases hb : bitB v (nI s) = true
      · have hb2 : ((v >>> (nI s &&& 31)) &&& (1 : Int32)) = 1 := of_decide_eq_true hb
        obtain ⟨τ2, f1, f2, f3⟩ := c_forget (σ := setI τ (sNow σ) 13 v) hkI s6
        have hN2 : sNow τ2 = sNow σ := by rw [FR_now f3]; exact k7
        have hk2 : isSt (sK τ2) (sNow σ) := by rw [FR_K f3]; exact hkI
        have L3 : LV (P 0) (cV τ2 (sNow σ)) (fgA s (tuA (sF σ 104) s)) := by rw [f2]; exact LV_fg s6 w0 L2
        have e13b : sI τ2 (sNow σ) 13 = v := by
          rw [(e_sc L3).1, fg_pt s6, if_neg (by omega), if_neg (by omega), if_neg (by omega), if_neg (by omega), if_neg (by omega), v516]
        refine ⟨τ2, fgA s (tuA (sF σ 104) s), by rw [if_pos hb], ?_, L3, FR_t gI (FR_m f3 (fun a z => Or.inl z) (fun a k z => Or.inl z))⟩
        rw [if_pos hb2, f1, Option.bind_some, rNow, Option.bind_some, hN2, rI_S13 hk2, Option.bind_some, e13b]
      · have hb2 : ¬ ((v >>> (nI s &&& 31)) &&& (1 : Int32)) = 1 := fun z => hb (decide_eq_true z)
        refine ⟨setI τ (sNow σ) 13 v, tuA (sF σ 104) s, by rw [if_neg hb], ?_, L2, gI⟩
        rw [if_neg hb2]
    obtain ⟨τ2, A', hA', hC, g2, g3⟩ := hcl
    have VA : WF 1 (P 0) (P 1) A' := by
      rw [hA']
      split
      · exact WF_fg s6 V2
      · exact V2
    have h48 : sI τ2 78 48 = nI dn := by
      rw [g3.2.1 78 48 (fun z => by unfold cT at z; omega), k9.2.1 78 48 (fun z => by unfold kT qT at z; have := st_in k13; omega) (by omega)]
      exact d3
    obtain ⟨τ3, c', r1, r2, r3, r4, r5, r6, r7⟩ := r_keepAct (σ := τ2) (ac := dn) (by omega) h48
    have hcc : c' = c := by omega
    subst hcc
    have f2 : sF τ2 104 = sF σ 104 := by rw [g3.1 104 (fun z => by unfold cS at z; omega), k16]
    have f3 : sF τ3 104 = sF σ 104 := by rw [r7.1 104 (fun z => by unfold hS at z; omega), f2]
    have R2 : RP τ2 bk P := RP_c hp g3 k15.2.2.1.1
    have u516 : sF (setF τ3 104 516 v) 104 = tuA (sF σ 104) s := by rw [sF_up, f3, hA1]
    have hrl : ∃ υ, xX9_turn 78 (nI s) (mkH τ2) = some (v, mkH υ) ∧ sF υ 104 = A' ∧ FR rS rT τ3 υ := by
      have e516 : sF τ3 104 516 = sF σ 104 516 := by rw [f3]
      have hpre : xX9_turn 78 (nI s) (mkH τ2) = (if (if bitB v (nI s) then (1 : Int32) else 0) = 0 then some (v, mkH (setF τ3 104 516 v)) else ((xX9_forget 78 (nI s) (mkH (setF τ3 104 516 v))).bind fun h45 => ((z_gR h45 78 9 41).bind fun x49 => ((z_aI h45 x49 (516 : Int32)).bind fun x55 => some (x55, h45))))) := by
        unfold xX9_turn
        generalize xX9_keepAct = kp at *
        generalize xX9_forget = fg at *
        have e2 : sF (setF τ3 104 516 v) 104 516 = v := sF_eq
        rw [is_78, gu_t, r_isShip (RP_B R2 W), Option.bind_some, if_pos ha, if_neg (show ¬ (1 : Int32) = 0 by decide)]
        show z_gu (z_is (mkH τ2) 78 9) ((kp 78 (mkH τ2)).bind fun h11 => ((z_gR h11 78 9 41).bind fun x15 => ((z_aI h11 x15 (516 : Int32)).bind fun x22 => ((z_uI h11 x15 (516 : Int32) (x22 ^^^ ((1 : Int32) <<< (nI s &&& 31)))).bind fun h27 => ((z_gR h27 78 9 41).bind fun x29 => ((z_aI h27 x29 (516 : Int32)).bind fun x35 => ((xX9_bit x35 (nI s) h27).bind fun r37 => (if r37.1 = 0 then ((z_gR r37.2 78 9 41).bind fun x49 => ((z_aI r37.2 x49 (516 : Int32)).bind fun x55 => some (x55, r37.2))) else (z_gu (z_is r37.2 78 9) ((fg 78 (nI s) r37.2).bind fun h45 => ((z_gR h45 78 9 41).bind fun x49 => ((z_aI h45 x49 (516 : Int32)).bind fun x55 => some (x55, h45))))))))))))) = _
        rw [is_78, gu_t, r1, Option.bind_some, rR_78_41, Option.bind_some, nl_516, ra_104 τ3 (show 516 < 521 by omega), Option.bind_some, e516, hv, wa_104 τ3 (k := 516) v (by omega), Option.bind_some, rR_78_41, Option.bind_some, ra_104 (setF τ3 104 516 v) (show 516 < 521 by omega), Option.bind_some, e2, r_bit, Option.bind_some]
        show (if (if bitB v (nI s) then (1 : Int32) else 0) = 0 then ((z_gR (mkH (setF τ3 104 516 v)) 78 9 41).bind fun x49 => ((z_aI (mkH (setF τ3 104 516 v)) x49 (nI 516)).bind fun x55 => some (x55, mkH (setF τ3 104 516 v)))) else (z_gu (z_is (mkH (setF τ3 104 516 v)) 78 9) ((fg 78 (nI s) (mkH (setF τ3 104 516 v))).bind fun h45 => ((z_gR h45 78 9 41).bind fun x49 => ((z_aI h45 x49 (nI 516)).bind fun x55 => some (x55, h45)))))) = _
        rw [rR_78_41, Option.bind_some, ra_104 (setF τ3 104 516 v) (show 516 < 521 by omega), Option.bind_some, e2, is_78, gu_t]
      rw [hpre, hA']
      by_cases hb : bitB v (nI s) = true
      · obtain ⟨υ, f1, f2', f3'⟩ := r_forget (σ := setF τ3 104 516 v) s6
        rw [u516] at f2'
        have ev : sF υ 104 516 = v := by
          rw [f2', fg_pt s6, if_neg (by omega), if_neg (by omega), if_neg (by omega), if_neg (by omega), if_neg (by omega), v516]
        refine ⟨υ, ?_, by rw [if_pos hb]; exact f2', FR_t FR_4 (FR_104 f3')⟩
        rw [if_pos hb, if_neg (show ¬ (1 : Int32) = 0 by decide), f1, Option.bind_some, rR_78_41, Option.bind_some, nl_516, ra_104 υ (show 516 < 521 by omega), Option.bind_some, ev]
      · refine ⟨setF τ3 104 516 v, ?_, by rw [if_neg hb]; exact u516, FR_4⟩
        rw [if_neg hb, if_pos rfl]
    obtain ⟨υ, u1, u2, u3⟩ := hrl
    obtain ⟨IVu, sx⟩ := act_fin I d5 d6 kc k2 k3 k4 k5 k6 k7 k8 k9 k10 k12 k13 k14 k16 g3 g2 VA r3 r4 r5 r6 r7 u2 u3
    exact ⟨v, τ2, υ, hC, u1, sx, bk, P, on, fo, len, X, IVu⟩
  · refine ⟨-1, σ, σ, ?_, ?_, ⟨rfl, rfl⟩, bk, P, on, fo, len, X, I⟩
    · unfold xX8_turn
      rw [rR_8_5, Option.bind_some, is_21, gu_t, c_isShip CB', Option.bind_some, if_neg ha, if_pos rfl]
    · unfold xX9_turn
      rw [is_78, gu_t, r_isShip B, Option.bind_some, if_neg ha, if_pos rfl]
