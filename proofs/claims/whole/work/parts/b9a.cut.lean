/-! the class's part of the heap alone: cells below 78 -/
def cut (h : ZH) : ZH := (fun j => if j < 78 then h.1 j else z_junk, 78)
def mkK (σ : ZS) : ZH := cut (mkH σ)
theorem cut_1 {h : ZH} {a : Nat} (ha : a < 78) : (cut h).1 a = h.1 a := if_pos ha
theorem cut_mk {σ : ZS} : cut (mkH σ) = mkK σ := rfl
theorem cut_up {h : ZH} {a : Nat} {c : ZC} (ha : a < 78) : z_up (cut h) a c = cut (z_up h a c) := by
  unfold z_up cut
  refine Prod.ext (funext fun j => ?_) rfl
  show (if j = a then c else if j < 78 then h.1 j else z_junk) = if j < 78 then (if j = a then c else h.1 j) else z_junk
  by_cases hj : j = a
  · rw [if_pos hj, if_pos (by omega), if_pos hj]
  · rw [if_neg hj, if_neg hj]
theorem kgF {σ : ZS} {a ci k : Nat} (ha : a < 78) : z_gF (mkK σ) a ci k = z_gF (mkH σ) a ci k := by
  unfold z_gF mkK
  rw [cut_1 ha]
theorem kgR {σ : ZS} {a ci k : Nat} (ha : a < 78) : z_gR (mkK σ) a ci k = z_gR (mkH σ) a ci k := by
  unfold z_gR
  rw [kgF ha]
theorem kgI {σ : ZS} {a ci k : Nat} (ha : a < 78) : z_gI (mkK σ) a ci k = z_gI (mkH σ) a ci k := by
  unfold z_gI
  rw [kgF ha]
theorem kis {σ : ZS} {a ci : Nat} (ha : a < 78) : z_is (mkK σ) a ci = z_is (mkH σ) a ci := by
  unfold z_is mkK
  rw [cut_1 ha]
theorem ksF {σ : ZS} {a ci k : Nat} {v : Value} (ha : a < 78) : z_sF (mkK σ) a ci k v = (z_sF (mkH σ) a ci k v).map cut := by
  unfold z_sF mkK
  rw [cut_1 ha]
  split
  · rename_i o ho
    by_cases hc : o.1 = ci ∧ k < o.2.length
    · rw [if_pos hc, if_pos hc, cut_up ha]; rfl
    · rw [if_neg hc, if_neg hc]; rfl
  · rfl
theorem kuI {σ : ZS} {a : Nat} {i x : Int32} (ha : a < 78) : z_uI (mkK σ) a i x = (z_uI (mkH σ) a i x).map cut := by
  unfold z_uI mkK
  rw [cut_1 ha]
  split
  · rename_i r hr
    by_cases hc : r.1 = 0 ∧ ¬ i < 0 ∧ i.toNatClampNeg < r.2.length
    · rw [if_pos hc, if_pos hc, cut_up ha]; rfl
    · rw [if_neg hc, if_neg hc]; rfl
  · rfl
theorem kcp {σ : ZS} {a b : Nat} {n : Int32} (ha : a < 78) (hb : b < 78) : z_cp (mkK σ) a b n = (z_cp (mkH σ) a b n).map cut := by
  unfold z_cp mkK
  rw [cut_1 ha, cut_1 hb]
  split
  · rename_i r q hr hq
    by_cases hc : r.1 = 0 ∧ q.1 = 0 ∧ ¬ n < 0 ∧ n.toNatClampNeg = q.2.length ∧ n.toNatClampNeg ≤ r.2.length
    · rw [if_pos hc, if_pos hc, cut_up hb]; rfl
    · rw [if_neg hc, if_neg hc]; rfl
  · rfl
theorem c_setH_k {σ : ZS} {p s t : Nat} {u v : Int32} (hp : isSt (sK σ) p) (h78 : p + 12 < 78) (hs : s < 6) (ht : t < 30) : ∃ τ, xX5_setHolder p (nI s) (nI t) u v (mkK σ) = some (mkK τ) ∧ cV τ p = up1 (up1 (cV σ p) (84 + 30 * s + t) u) (264 + 30 * s + t) v ∧ FR (fun a => a = p + 9 ∨ a = p + 10) (fun _ _ => False) σ τ := by
  have hi : s * 30 + t < 180 := by omega
  refine ⟨setF (setF σ (p + 9) (s * 30 + t) u) (p + 10) (s * 30 + t) v, ?_, ?_, FR_t (FR_F (Or.inl rfl)) (FR_F (Or.inr rfl))⟩
  · simp only [kgR (a := p) (show p < 78 by omega), kgR (a := 21) (show 21 < 78 by decide), kgI (a := 21) (show 21 < 78 by decide), kis (a := p) (show p < 78 by omega), ksF (a := p) (show p < 78 by omega), Option.map_some, cut_mk, kuI (a := p + 9) (show p + 9 < 78 by omega), kuI (a := p + 10) (show p + 10 < 78 by omega), xX5_setHolder, rR_S9 hp, Option.bind_some, nl_30, pk_mul, nI_add, wa_S9 _ hp hi, rR_S10 (σ := setF σ (p + 9) (s * 30 + t) u) hp, wa_S10 (σ := setF σ (p + 9) (s * 30 + t) u) _ hp hi]
  · rw [cw (r := 10) (j := 264 + 30 * s + t) (by decide) (by decide) hi (show 264 + (s * 30 + t) = 264 + 30 * s + t by omega), cw (r := 9) (j := 84 + 30 * s + t) (by decide) (by decide) hi (show 84 + (s * 30 + t) = 84 + 30 * s + t by omega)]
theorem c_fgK_k {σ : ZS} {p s : Nat} (hp : isSt (sK σ) p) (h78 : p + 12 < 78) (hs : s < 6) : ∃ τ, xX5_forgetAll_L31 zFU p (nI s) (0 : Int32) (mkK σ) = some (mkK τ) ∧ cV τ p = fgK s 6 (cV σ p) ∧ FR (qS p) (qT p) σ τ := by
  obtain ⟨e, he⟩ := zfu 6 (by omega)
  have key := lpI (fun e k (τ : ZS) => xX5_forgetAll_L31 e p (nI s) (nI k) (mkK τ)) 6 (fun k τ => FR (qS p) (qT p) σ τ ∧ cV τ p = fgK s k (cV σ p)) (fun v => ∃ τ, v = mkK τ ∧ cV τ p = fgK s 6 (cV σ p) ∧ FR (qS p) (qT p) σ τ) ?_ ?_ 6 0 σ e (by omega) ⟨FR_r, fgK_0.symm⟩
  · obtain ⟨v, hv, τ, hv2, t2, t3⟩ := key
    refine ⟨τ, ?_, t2, t3⟩
    rw [he, ← hv2]
    exact hv
  · rintro e k τ hk ⟨hF, hA⟩
    right
    have hpt : isSt (sK τ) p := by rw [FR_K hF]; exact hp
    have hB : xX5_forgetAll_L31 (e + 1) p (nI s) (nI k) (mkK τ) = xX5_forgetAll_B31 (xX5_forgetAll_L31 e) p (nI s) (nI k) (mkK τ) := rfl
    have hi : s * 6 + k < 36 := by omega
    simp only [kgR (a := p) (show p < 78 by omega), kgR (a := 21) (show 21 < 78 by decide), kgI (a := 21) (show 21 < 78 by decide), kis (a := p) (show p < 78 by omega), ksF (a := p) (show p < 78 by omega), Option.map_some, cut_mk, kuI (a := p + 11) (show p + 11 < 78 by omega), kuI (a := p + 12) (show p + 12 < 78 by omega), hB, xX5_forgetAll_B31, rR_S11 hpt, Option.bind_some, nl_6, pk_mul, nI_add, wa_S11 _ hpt hi, rR_S12 (σ := setF τ (p + 11) (s * 6 + k) (-1)) hpt, wa_S12 (σ := setF τ (p + 11) (s * 6 + k) (-1)) _ hpt hi, nI_s]
    rw [if_neg (fun z => by have := (nI_leI (by omega) (by omega)).mp z; omega)]
    refine ⟨_, rfl, FR_t hF (FR_t (FR_F (by unfold qS; omega)) (FR_F (by unfold qS; omega))), ?_⟩
    rw [cw (r := 12) (j := 480 + 6 * s + k) (by decide) (by decide) hi (show 480 + (s * 6 + k) = 480 + 6 * s + k by omega), cw (r := 11) (j := 444 + 6 * s + k) (by decide) (by decide) hi (show 444 + (s * 6 + k) = 444 + 6 * s + k by omega), hA]
    exact fgK_s hs hk
  · rintro e τ ⟨hF, hA⟩
    refine ⟨mkK τ, ?_, τ, rfl, hA, hF⟩
    show xX5_forgetAll_B31 (xX5_forgetAll_L31 e) p (nI s) (nI 6) (mkK τ) = _
    simp only [kgR (a := p) (show p < 78 by omega), kgR (a := 21) (show 21 < 78 by decide), kgI (a := 21) (show 21 < 78 by decide), kis (a := p) (show p < 78 by omega), ksF (a := p) (show p < 78 by omega), Option.map_some, cut_mk, kuI (a := p + 11) (show p + 11 < 78 by omega), kuI (a := p + 12) (show p + 12 < 78 by omega), xX5_forgetAll_B31]
    rw [if_pos (by rw [nl_6]; exact (nI_leI (by omega) (by omega)).mpr (Nat.le_refl _))]
theorem c_forget_k {σ : ZS} {p s : Nat} (hp : isSt (sK σ) p) (h78 : p + 12 < 78) (hs : s < 6) : ∃ τ, xX5_forgetAll p (nI s) (mkK σ) = some (mkK τ) ∧ cV τ p = fgA s (cV σ p) ∧ FR (qS p) (qT p) σ τ := by
  obtain ⟨e, he⟩ := zfu 30 (by omega)
  have hF0 : FR (qS p) (qT p) σ (setF σ (p + 5) s 0) := FR_F (by unfold qS; omega)
  have hV0 : cV (setF σ (p + 5) s 0) p = up1 (cV σ p) (24 + s) 0 := cw (r := 5) (by decide) (by decide) hs rfl
  have key := lpI (fun e k (τ : ZS) => xX5_forgetAll_L9 e p (nI s) (nI k) (mkK τ)) 30 (fun k τ => FR (qS p) (qT p) σ τ ∧ cV τ p = fgH s k (up1 (cV σ p) (24 + s) 0)) (fun v => ∃ τ, v = mkK τ ∧ cV τ p = fgA s (cV σ p) ∧ FR (qS p) (qT p) σ τ) ?_ ?_ 30 0 (setF σ (p + 5) s 0) e (by omega) ⟨hF0, by rw [hV0, fgH_0]⟩
  · obtain ⟨v, hv, τ, hv2, t2, t3⟩ := key
    refine ⟨τ, ?_, t2, t3⟩
    simp only [kgR (a := p) (show p < 78 by omega), kgR (a := 21) (show 21 < 78 by decide), kgI (a := 21) (show 21 < 78 by decide), kis (a := p) (show p < 78 by omega), ksF (a := p) (show p < 78 by omega), Option.map_some, cut_mk, kuI (a := p + 5) (show p + 5 < 78 by omega), xX5_forgetAll, rR_S5 hp, Option.bind_some, wa_S5 _ hp hs]
    rw [he, ← hv2]
    exact hv
  · rintro e k τ hk ⟨hF, hA⟩
    right
    have hpt : isSt (sK τ) p := by rw [FR_K hF]; exact hp
    have hB : xX5_forgetAll_L9 (e + 1) p (nI s) (nI k) (mkK τ) = xX5_forgetAll_B9 (xX5_forgetAll_L9 e) p (nI s) (nI k) (mkK τ) := rfl
    obtain ⟨υ, u1, u2, u3⟩ := c_setH_k (σ := τ) (s := s) (t := k) (u := -1) (v := 0) hpt h78 hs hk
    simp only [kgR (a := p) (show p < 78 by omega), kgR (a := 21) (show 21 < 78 by decide), kgI (a := 21) (show 21 < 78 by decide), kis (a := p) (show p < 78 by omega), ksF (a := p) (show p < 78 by omega), Option.map_some, cut_mk, kuI (a := p + 5) (show p + 5 < 78 by omega), hB, xX5_forgetAll_B9, is_S hpt, gu_t, u1, Option.bind_some, nI_s]
    rw [if_neg (fun z => by rw [nl_30] at z; have := (nI_leI (by omega) (by omega)).mp z; omega)]
    refine ⟨υ, rfl, FR_t hF (FR_q9 u3), ?_⟩
    rw [u2, hA]
    exact fgH_s hs hk
  · rintro e τ ⟨hF, hA⟩
    have hpt : isSt (sK τ) p := by rw [FR_K hF]; exact hp
    obtain ⟨υ, u1, u2, u3⟩ := c_fgK_k (s := s) hpt h78 hs
    refine ⟨mkK υ, ?_, υ, rfl, ?_, FR_t hF u3⟩
    · show xX5_forgetAll_B9 (xX5_forgetAll_L9 e) p (nI s) (nI 30) (mkK τ) = _
      simp only [kgR (a := p) (show p < 78 by omega), kgR (a := 21) (show 21 < 78 by decide), kgI (a := 21) (show 21 < 78 by decide), kis (a := p) (show p < 78 by omega), ksF (a := p) (show p < 78 by omega), Option.map_some, cut_mk, kuI (a := p + 5) (show p + 5 < 78 by omega), xX5_forgetAll_B9]
      rw [if_pos (by rw [nl_30]; exact (nI_leI (by omega) (by omega)).mpr (Nat.le_refl _))]
      exact u1
    · rw [u2, hA]
      rfl
theorem c_stF_k {σ : ZS} {p : Nat} {dr : Int32} (hp : isSt (sK σ) p) (h78 : p + 12 < 78) (hd : sI σ 21 6 = dr) : ∃ τ, xX5_start_L74 zFU p (0 : Int32) (mkK σ) = some (mkK τ) ∧ cV τ p = up1 (up1 (up1 (up1 (up1 (fgU 6 (cV σ p)) 516 0) 520 0) 517 0) 518 0) 519 dr ∧ FR (qS p) (qT p) σ τ := by
  have hp3 := st_in hp
  obtain ⟨e, he⟩ := zfu 6 (by omega)
  have key := lpI (fun e k (τ : ZS) => xX5_start_L74 e p (nI k) (mkK τ)) 6 (fun k τ => FR (qS p) (qT p) σ τ ∧ cV τ p = fgU k (cV σ p)) (fun v => ∃ τ, v = mkK τ ∧ cV τ p = up1 (up1 (up1 (up1 (up1 (fgU 6 (cV σ p)) 516 0) 520 0) 517 0) 518 0) 519 dr ∧ FR (qS p) (qT p) σ τ) ?_ ?_ 6 0 σ e (by omega) ⟨FR_r, fgU_0.symm⟩
  · obtain ⟨v, hv, τ, hv2, t2, t3⟩ := key
    refine ⟨τ, ?_, t2, t3⟩
    rw [he, ← hv2]
    exact hv
  · rintro e k τ hk ⟨hF, hA⟩
    right
    have hpt : isSt (sK τ) p := by rw [FR_K hF]; exact hp
    have hB : xX5_start_L74 (e + 1) p (nI k) (mkK τ) = xX5_start_B74 (xX5_start_L74 e) p (nI k) (mkK τ) := rfl
    obtain ⟨υ, u1, u2, u3⟩ := c_forget_k (s := k) hpt h78 hk
    simp only [kgR (a := p) (show p < 78 by omega), kgR (a := 21) (show 21 < 78 by decide), kgI (a := 21) (show 21 < 78 by decide), kis (a := p) (show p < 78 by omega), ksF (a := p) (show p < 78 by omega), Option.map_some, cut_mk, hB, xX5_start_B74, is_S hpt, gu_t, u1, Option.bind_some, nI_s]
    rw [if_neg (fun z => by rw [nl_6] at z; have := (nI_leI (by omega) (by omega)).mp z; omega)]
    refine ⟨υ, rfl, FR_t hF u3, ?_⟩
    rw [u2, hA]
    exact fgU_s hk
  · rintro e τ ⟨hF, hA⟩
    have hpt : isSt (sK τ) p := by rw [FR_K hF]; exact hp
    have d1 : sI (setI (setI (setI (setI τ p 13 0) p 14 0) p 15 0) p 16 0) 21 6 = dr := by
      rw [sI_ne (by omega), sI_ne (by omega), sI_ne (by omega), sI_ne (by omega), hF.2.1 21 6 (by unfold qT; omega)]
      exact hd
    refine ⟨mkK (setI (setI (setI (setI (setI τ p 13 0) p 14 0) p 15 0) p 16 0) p 17 dr), ?_, _, rfl, ?_, FR_t hF (FR_t (FR_t (FR_t (FR_t (FR_I ⟨rfl, by omega⟩) (FR_I ⟨rfl, by omega⟩)) (FR_I ⟨rfl, by omega⟩)) (FR_I ⟨rfl, by omega⟩)) (FR_I ⟨rfl, by omega⟩))⟩
    · show xX5_start_B74 (xX5_start_L74 e) p (nI 6) (mkK τ) = _
      simp only [kgR (a := p) (show p < 78 by omega), kgR (a := 21) (show 21 < 78 by decide), kgI (a := 21) (show 21 < 78 by decide), kis (a := p) (show p < 78 by omega), ksF (a := p) (show p < 78 by omega), Option.map_some, cut_mk, xX5_start_B74]
      rw [if_pos (by rw [nl_6]; exact (nI_leI (by omega) (by omega)).mpr (Nat.le_refl _))]
      simp only [kgR (a := p) (show p < 78 by omega), kgR (a := 21) (show 21 < 78 by decide), kgI (a := 21) (show 21 < 78 by decide), kis (a := p) (show p < 78 by omega), ksF (a := p) (show p < 78 by omega), Option.map_some, cut_mk, xX5_start_B91, wI_S13 _ hpt, Option.bind_some, wI_S14 (σ := setI τ p 13 0) _ hpt, wI_S15 (σ := setI (setI τ p 13 0) p 14 0) _ hpt, wI_S16 (σ := setI (setI (setI τ p 13 0) p 14 0) p 15 0) _ hpt, rR_S0 (σ := setI (setI (setI (setI τ p 13 0) p 14 0) p 15 0) p 16 0) hpt, rI_21_6, d1, wI_S17 (σ := setI (setI (setI (setI τ p 13 0) p 14 0) p 15 0) p 16 0) _ hpt]
    · rw [cV_I (i := 519) (by omega), cV_I (i := 518) (by omega), cV_I (i := 517) (by omega), cV_I (i := 520) (by omega), cV_I (i := 516) (by omega), hA]
theorem pc_G_k {σ τ : ZS} {p r c : Nat} (hr : 1 ≤ r) (hr2 : r ≤ 4) (hc : c = 21 + r) (hp : isSt (sK σ) p) (h78 : p + 12 < 78) (hF : FR (qS p) (qT p) σ τ) : ∃ υ, z_cp (mkK τ) c (p + r) (nI 6) = some (mkK υ) ∧ FR (qS p) (qT p) σ υ ∧ sF υ (p + r) = sF σ c ∧ ∀ i, i ≠ r → sF υ (p + i) = sF τ (p + i) := by
  subst hc
  have hp3 := st_in hp
  have hpt : isSt (sK τ) p := by rw [FR_K hF]; exact hp
  have l2 := (st_lay hpt).2 r (by omega)
  rw [vO_lay hr (by omega)] at l2
  have h6 : (vO r).2 = 6 := by rcases (show r = 1 ∨ r = 2 ∨ r = 3 ∨ r = 4 by omega) with rfl | rfl | rfl | rfl <;> rfl
  have l1 : layA (sK τ) (21 + r) = .inr (0, 6) := by rcases (show r = 1 ∨ r = 2 ∨ r = 3 ∨ r = 4 by omega) with rfl | rfl | rfl | rfl <;> rfl
  rw [h6] at l2
  refine ⟨setRow τ (p + r) (sF τ (21 + r)), by rw [kcp (by omega) (by omega), mk_cp (m := 6) (by omega) (by have := (st_lay hpt).1; omega) l1 l2 (by decide) (Nat.le_refl _)]; rfl, FR_t hF (FR_R (by unfold qS; omega)), ?_, fun i hi => ?_⟩
  · show (fun j => if p + r = p + r then sF τ (21 + r) j else sF τ (p + r) j) = _
    funext j
    rw [if_pos rfl, hF.1 (21 + r) (by unfold qS; omega)]
  · show (fun j => if p + i = p + r then sF τ (21 + r) j else sF τ (p + i) j) = _
    funext j
    rw [if_neg (by omega)]
theorem c_start_k {σ : ZS} {p : Nat} {dr : Int32} (hp : isSt (sK σ) p) (h78 : p + 12 < 78) (hd : sI σ 21 6 = dr) : ∃ τ, xX5_start p (mkK σ) = some (mkK τ) ∧ (∀ j, j < 521 → cV τ p j = ctA (fun r s => sF σ (22 + r) s) dr (cV σ p) j) ∧ FR (qS p) (qT p) σ τ := by
  have hp3 := st_in hp
  have s0 : FR (qS p) (qT p) σ σ := FR_r
  obtain ⟨t1, e1, s1, f1, g1⟩ := pc_G_k (τ := σ) (r := 1) (c := 22) (by decide) (by decide) rfl hp h78 s0
  have p1 : isSt (sK t1) p := by rw [FR_K s1]; exact hp
  obtain ⟨t2, e2, s2, f2, g2⟩ := pc_G_k (τ := t1) (r := 2) (c := 23) (by decide) (by decide) rfl hp h78 s1
  have p2 : isSt (sK t2) p := by rw [FR_K s2]; exact hp
  obtain ⟨t3, e3, s3, f3, g3⟩ := pc_G_k (τ := t2) (r := 3) (c := 24) (by decide) (by decide) rfl hp h78 s2
  have p3 : isSt (sK t3) p := by rw [FR_K s3]; exact hp
  obtain ⟨t4, e4, s4, f4, g4⟩ := pc_G_k (τ := t3) (r := 4) (c := 25) (by decide) (by decide) rfl hp h78 s3
  have p4 : isSt (sK t4) p := by rw [FR_K s4]; exact hp
  have hd4 : sI t4 21 6 = dr := by rw [s4.2.1 21 6 (by unfold qT; omega)]; exact hd
  obtain ⟨τ, u1, u2, u3⟩ := c_stF_k p4 h78 hd4
  refine ⟨τ, ?_, ?_, FR_t s4 u3⟩
  · simp only [kgR (a := p) (show p < 78 by omega), kgR (a := 21) (show 21 < 78 by decide), kgI (a := 21) (show 21 < 78 by decide), kis (a := p) (show p < 78 by omega), ksF (a := p) (show p < 78 by omega), Option.map_some, cut_mk, xX5_start, Option.bind_some, nl_6, rR_S0 hp, rR_21_9, rR_S1 hp, e1, rR_S0 p1, rR_21_10, rR_S2 p1, e2, rR_S0 p2, rR_21_11, rR_S3 p2, e3, rR_S0 p3, rR_21_12, rR_S4 p3, e4, u1]
  · intro j hj5
    rw [u2]
    unfold ctA
    have hv : ∀ j, j < 516 → cV t4 p j = if j < 24 then sF σ (22 + j / 6) (j % 6) else cV σ p j := by
      intro j hj
      by_cases h : j < 24
      · rw [if_pos h]
        rcases (show j < 6 ∨ (6 ≤ j ∧ j < 12) ∨ (12 ≤ j ∧ j < 18) ∨ (18 ≤ j ∧ j < 24) by omega) with c | c | c | c
        · have := cV_1 t4 p c
          rw [Nat.zero_add] at this
          rw [this, g4 1 (by decide), g3 1 (by decide), g2 1 (by decide), f1, show j / 6 = 0 by omega, show j % 6 = j by omega]
        · have := cV_2 t4 p (i := j - 6) (by omega)
          rw [show 6 + (j - 6) = j by omega] at this
          rw [this, g4 2 (by decide), g3 2 (by decide), f2, show j / 6 = 1 by omega, show j % 6 = j - 6 by omega]
        · have := cV_3 t4 p (i := j - 12) (by omega)
          rw [show 12 + (j - 12) = j by omega] at this
          rw [this, g4 3 (by decide), f3, show j / 6 = 2 by omega, show j % 6 = j - 12 by omega]
        · have := cV_4 t4 p (i := j - 18) (by omega)
          rw [show 18 + (j - 18) = j by omega] at this
          rw [this, f4, show j / 6 = 3 by omega, show j % 6 = j - 18 by omega]
      · rw [if_neg h]
        obtain ⟨r, hr1, hr2, q1, q2, he⟩ := cV_row σ p j hj
        have hr5 : 5 ≤ r := by
          rcases Nat.lt_or_ge r 5 with h5 | h5
          · rcases (show r = 1 ∨ r = 2 ∨ r = 3 ∨ r = 4 by omega) with rfl | rfl | rfl | rfl <;> simp [vO] at q1 q2 <;> omega
          · exact h5
        rw [he, he, g4 r (by omega), g3 r (by omega), g2 r (by omega), g1 r (by omega)]
    have hc : ∀ j, j < 516 → fgU 6 (cV t4 p) j = fgU 6 (fun j => if j < 24 then sF σ (22 + j / 6) (j % 6) else cV σ p j) j := by
      intro j hj
      unfold fgU
      rw [hv j hj]
    by_cases h : j < 516
    · rw [up1_n (by omega), up1_n (by omega), up1_n (by omega), up1_n (by omega), up1_n (by omega), up1_n (by omega), up1_n (by omega), up1_n (by omega), up1_n (by omega), up1_n (by omega), hc j h]
    · rcases (show j = 516 ∨ j = 517 ∨ j = 518 ∨ j = 519 ∨ j = 520 by omega) with rfl | rfl | rfl | rfl | rfl
      · rw [up1_n (by omega), up1_n (by omega), up1_n (by omega), up1_n (by omega), up1_e, up1_n (by omega), up1_n (by omega), up1_n (by omega), up1_n (by omega), up1_e]
      · rw [up1_n (by omega), up1_n (by omega), up1_e, up1_n (by omega), up1_n (by omega), up1_e]
      · rw [up1_n (by omega), up1_e, up1_n (by omega), up1_e]
      · rw [up1_e, up1_e]
      · rw [up1_n (by omega), up1_n (by omega), up1_n (by omega), up1_e, up1_n (by omega), up1_n (by omega), up1_n (by omega), up1_e]
