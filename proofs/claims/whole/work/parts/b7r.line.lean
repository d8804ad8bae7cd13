/-! the three sorts of lines, in step -/
theorem j8 {j : Nat} (h : j < 7) : j = 0 ∨ j = 1 ∨ j = 2 ∨ j = 3 ∨ j = 4 ∨ j = 5 ∨ j = 6 := by omega
theorem rl_num {j : Nat} (hj : j < 7) : ∃ fld, (∀ σ, z_gR (mkH σ) 78 9 fld = some (rwJ j)) ∧ (∀ rb σ v, rb < 2 → z_uI (mkH σ) (rwJ j) (nI rb) v = some (mkH (setF σ (rwJ j) rb v))) ∧ ∀ (ρ υ : ZS), sI ρ 78 4 = 0 → xX9_goOn 78 (mkH ρ) = some (mkH υ) → xX9_readLine_B24 78 (jN (kW j)) (mkH ρ) = rNum fld (nI (rbJ j)) (nI (loJ j)) (nI (hiJ j)) (mkH υ) := by
  rcases j8 hj with rfl | rfl | rfl | rfl | rfl | rfl | rfl
  · exact ⟨12, rR_78_12, fun rb σ v h => wa_82 σ v h, fun ρ υ h g => rl_0 h g⟩
  · exact ⟨13, rR_78_13, fun rb σ v h => wa_83 σ v h, fun ρ υ h g => rl_1 h g⟩
  · exact ⟨14, rR_78_14, fun rb σ v h => wa_84 σ v h, fun ρ υ h g => rl_2 h g⟩
  · exact ⟨15, rR_78_15, fun rb σ v h => wa_85 σ v h, fun ρ υ h g => rl_3 h g⟩
  · exact ⟨16, rR_78_16, fun rb σ v h => wa_86 σ v h, fun ρ υ h g => rl_4 h g⟩
  · exact ⟨18, rR_78_18, fun rb σ v h => wa_88 σ v h, fun ρ υ h g => rl_5 h g⟩
  · exact ⟨19, rR_78_19, fun rb σ v h => wa_89 σ v h, fun ρ υ h g => rl_6 h g⟩
theorem rw_b {j : Nat} (hj : j < 7) : 82 ≤ rwJ j ∧ rwJ j ≤ 89 ∧ rwJ j ≠ 87 ∧ ∀ i, i < 7 → rwJ i = rwJ j → i = j := by
  refine ⟨?_, ?_, ?_, fun i hi h => ?_⟩
  · unfold rwJ; split <;> omega
  · unfold rwJ; split <;> omega
  · unfold rwJ; split <;> omega
  · unfold rwJ at h
    split at h <;> split at h <;> omega
theorem PW_u {P : Nat → Nat} {j x : Nat} (hj : j < 7) (h1 : loJ j ≤ x) (h2 : x ≤ hiJ j) (W : PW P) : PW (fun i => if i = j + 1 then x else P i) := by
  unfold PW at W ⊢
  rcases j7 hj with rfl | rfl | rfl | rfl | rfl | rfl | rfl <;> simp [loJ, hiJ] at h1 h2 ⊢ <;> omega
theorem line_num {rb : Nat} {u : Nat → Nat} {n j : Nat} {σ ρ : ZS} {t : ZT} {P : Nat → Nat} {X : Nat → Nat → Nat} {pl ln : Nat → Nat} {fo : Nat → Int32} {len tc tr : Nat} (N : LN rb u n σ ρ t P X pl ln fo len tc tr) (hrb : rb < 2) (hj : j < 7) (h1 : t.2.2.1 = 1) (h2 : t.2.2.2 = j) (hb : tc.testBit j = false) : LRES rb u n σ ρ t := by
  obtain ⟨L, n35, nW, nF, ⟨nS1, nS2⟩, ⟨nC, n87⟩, nX, nN, nM, ⟨m9, m90, mc, mr, mb⟩, nO, n7, nE, nL⟩ := N
  obtain ⟨b1, b2, b3, b4⟩ := bits_or (j := j) (by omega) mc mr mb
  have hlt := nx_gt L.2.2.2.2.1 (show t.2.2.1 ≠ 0 by omega)
  obtain ⟨w8, wN⟩ := wd_tok L h1 h2 (by omega)
  have hfl := r_fullW L hrb n35 m90 mr h1 h2 (by omega)
  rw [mb j (by omega), hb, if_neg (by decide)] at hfl
  obtain ⟨τ1, υ1, s1, s2, s3, s4, s5⟩ := LK_s (LK_cI (a := 10) (k := 9) (v := nI (tc ||| 2 ^ j)) (by omega) L)
  obtain ⟨fld, g1, g2, g3⟩ := rl_num hj
  obtain ⟨r1, r2, r3, r4⟩ := rw_b hj
  have hcl := cl_w L h1 h2 (by omega) m9 mc
  rw [hb, if_neg (by decide), s1, Option.bind_some, if_neg (show ¬ nI j = (7 : Int32) from nq (b := 7) (by omega) (by omega) (by omega))] at hcl
  have hrl : xX9_readLine 78 (mkH ρ) = rNum fld (nI (rbJ j)) (nI (loJ j)) (nI (hiJ j)) (mkH υ1) := by rw [rl_yes w8 hfl, wN]; exact g3 ρ υ1 L.2.2.2.2.2.1 s2
  have e35 : sI υ1 78 35 = nI rb := by rw [s5.2.1 78 35 (by unfold eT; omega)]; exact n35
  have e90 : sF υ1 90 rb = nI tr := by rw [s5.1 90 (fun z => z)]; exact m90
  have hFc : FG fe (fun a k => dT a k ∨ (a = 10 ∧ k = 9)) fj σ τ1 := FG_t (FG_I (Or.inr ⟨rfl, rfl⟩)) (FG_f s4 (fun a k z => Or.inl z))
  have hFr : FG fe eT fj ρ υ1 := FG_n s5 (fun a k z => z)
  have hFc' : FG lnG lnT fj σ τ1 := FG_m hFc (fun _ _ z => z.elim) (fun a k z => by unfold dT at z; unfold lnT; omega) (fun _ z => z)
  have hFr' : FG (lnR rb) fT (lnJ rb) ρ υ1 := FG_m hFr (fun _ _ z => z.elim) (fun a k z => Or.inl (eT_rF z)) (fun _ z => z.elim)
  have h9τ : sI τ1 10 9 = nI (tc ||| 2 ^ j) := by rw [s4.2.1 10 9 (by unfold dT; omega), sI_eq]
  rcases two_nl (b := rbJ j) s3 hrb hj g1 (fun σ v => g2 rb σ v hrb) (by omega) (by omega) e35 e90 with ⟨τ, υ, t', x, ⟨x1, x2⟩, ⟨x3, x4⟩, x5, x6, ⟨x7, x8, x9⟩, x10, x11⟩ | ⟨τ, υ, ⟨x3, x4⟩, x5, x10, x11⟩
  · left
    refine ⟨τ, υ, t', fun i => if i = j + 1 then x else P i, X, pl, ln, fo, len, tc ||| 2 ^ j, tr ||| 2 ^ rbJ j, ⟨hcl.trans x3, hrl.trans x4⟩, ?_, by omega, FG_t hFc' (FG_m x10 (fun _ _ z => z.elim) (fun a k z => by unfold nlT cF at z; unfold lnT; omega) (fun _ z => z)), FG_t hFr' (FG_m x11 (fun a k z => by unfold nlG at z; unfold lnR; omega) (fun a k z => Or.inl z) (fun _ z => z.elim))⟩
    have cI : ∀ k, k ≠ j → sI τ 11 k = sI σ 11 k := fun k hk => by
      rw [x10.2.1 11 k (by unfold nlT cF; omega), hFc.2.1 11 k (by unfold dT; omega)]
    have cFl : ∀ a k, sF τ a k = sF σ a k := fun a k => by rw [x10.1 a k (fun z => z), hFc.1 a k (fun z => z)]
    have rFl : ∀ a k, ¬ ((a = rwJ j ∨ a = 90) ∧ k = rb) → sF υ a k = sF ρ a k := fun a k hk => by rw [x11.1 a k hk, hFr.1 a k (fun z => z)]
    have rI : ∀ k, ¬ rF 78 k → sI υ 78 k = sI ρ 78 k := fun k hk => by rw [x11.2.1 78 k hk, hFr.2.1 78 k (fun z => hk (eT_rF z))]
    have rJl : ∀ k, sJ υ k = sJ ρ k := fun k => by rw [x11.2.2.1 k (fun z => z), hFr.2.2.1 k (fun z => z)]
    have p0 : (fun i => if i = j + 1 then x else P i) 0 = P 0 := by show (if 0 = j + 1 then x else P 0) = P 0; rw [if_neg (by omega)]
    have p8 : (fun i => if i = j + 1 then x else P i) 8 = P 8 := by show (if 8 = j + 1 then x else P 8) = P 8; rw [if_neg (by omega)]
    have pj : ∀ i, (fun i => if i = j + 1 then x else P i) (i + 1) = if i = j then x else P (i + 1) := fun i => by
      show (if i + 1 = j + 1 then x else P (i + 1)) = _
      by_cases hi : i = j
      · rw [if_pos hi, if_pos (by omega)]
      · rw [if_neg hi, if_neg (by omega)]
    have hW := PW_u hj x1 x2 nW
    generalize (fun i => if i = j + 1 then x else P i) = P' at *
    refine ⟨x5, by rw [rI 35 (by unfold rF; omega)]; exact n35, hW, fun i hi => ?_, ?_, ⟨⟨?_, ?_, fun i hi => ?_⟩, ?_⟩, ?_, ?_, ?_, ⟨?_, ?_, b1, b2, b3⟩, nO, ?_, fun h0 => ?_, fun h0 => ?_⟩
    · rw [pj]
      by_cases hij : i = j
      · subst hij
        rw [if_pos rfl]
        exact ⟨x7, x8⟩
      · rw [if_neg hij, cI i hij, rFl _ _ (fun z => by rcases z.1 with z | z; exact hij (r4 i hi z); have := rw_b hi; omega)]
        exact nF i hi
    · rw [p0, cI 7 (by omega), rFl 81 rb (by omega)]; exact ⟨nS1, nS2⟩
    · rw [p8, cI 8 (by omega)]; exact nC.1
    · rw [cI 15 (by omega)]; exact nC.2.1
    · rw [cFl]; exact nC.2.2 i hi
    · rw [p8, rFl 87 rb (by omega)]; exact n87
    · rw [p0]
      intro r s hr hs
      rw [cFl, rFl _ _ (by omega)]
      exact nX r s hr hs
    · rw [p0]; exact nN
    · rw [p0]
      intro s hs
      rw [cFl, cFl, rJl]
      exact nM s hs
    · rw [x10.2.1 10 9 (by unfold nlT cF; omega)]; exact h9τ
    · rw [x9, sb_n (by have := (rb_i (show j < 8 by omega) (show j < 8 by omega)).1; omega)]
    · rw [b4, decide_eq_false (show ¬ j = 7 by omega), Bool.or_false]; exact n7
    · rw [p8, rI 36 (by unfold rF; omega)]; exact nE h0
    · rw [rFl 96 rb (by omega), rFl 97 rb (by omega)]
      refine ⟨(nL h0).1, (nL h0).2.1, fun i hi => ?_⟩
      rw [rFl 99 _ (by omega), rFl 100 _ (by omega)]
      exact (nL h0).2.2 i hi
  · right
    exact ⟨τ, υ, ⟨hcl.trans x3, hrl.trans x4⟩, x5, FG_t hFc' (FG_m x10 (fun _ _ z => z.elim) (fun a k z => by unfold nlT cF at z; unfold lnT; omega) (fun _ z => z)), FG_t hFr' (FG_m x11 (fun a k z => by unfold nlG at z; unfold lnR; omega) (fun a k z => Or.inl z) (fun _ z => z.elim))⟩
theorem line_rule {rb : Nat} {u : Nat → Nat} {n : Nat} {σ ρ : ZS} {t : ZT} {P : Nat → Nat} {X : Nat → Nat → Nat} {pl ln : Nat → Nat} {fo : Nat → Int32} {len tc tr : Nat} (N : LN rb u n σ ρ t P X pl ln fo len tc tr) (hrb : rb < 2) (h1 : t.2.2.1 = 1) (h2 : t.2.2.2 = 7) (hb : tc.testBit 7 = false) : LRES rb u n σ ρ t := by
  obtain ⟨L, n35, nW, nF, ⟨nS1, nS2⟩, ⟨nC, n87⟩, nX, nN, nM, ⟨m9, m90, mc, mr, mb⟩, nO, n7, nE, nL⟩ := N
  have hl0 : len = 0 := by
    rw [hb] at n7
    have := of_decide_eq_false n7.symm
    omega
  subst hl0
  obtain ⟨p80, n36⟩ := nE rfl
  rw [p80] at nC n87
  obtain ⟨b1, b2, b3, b4⟩ := bits_or (j := 7) (by omega) mc mr mb
  have hlt := nx_gt L.2.2.2.2.1 (show t.2.2.1 ≠ 0 by omega)
  obtain ⟨w8, wN⟩ := wd_tok L h1 h2 (by omega)
  have hfl := r_fullW L hrb n35 m90 mr h1 h2 (by omega)
  rw [mb 7 (by omega), hb, if_neg (by decide)] at hfl
  obtain ⟨τ1, υ1, s1, s2, s3, s4, s5⟩ := LK_s (LK_cI (a := 10) (k := 9) (v := nI (tc ||| 2 ^ 7)) (by omega) L)
  have hcl := cl_w L h1 h2 (by omega) m9 mc
  rw [hb, if_neg (by decide), s1, Option.bind_some, if_pos (show nI 7 = (7 : Int32) from rfl), is_10, gu_t] at hcl
  have hrl : xX9_readLine 78 (mkH ρ) = rRu (mkH υ1) := by rw [rl_yes w8 hfl, wN]; exact rl_7 L.2.2.2.2.2.1 s2
  have e35 : sI υ1 78 35 = nI rb := by rw [s5.2.1 78 35 (by unfold eT; omega)]; exact n35
  have e36 : sI υ1 78 36 = nI (560 * rb) := by rw [s5.2.1 78 36 (by unfold eT; omega)]; exact n36
  have e90 : sF υ1 90 rb = nI tr := by rw [s5.1 90 (fun z => z)]; exact m90
  have e87 : sF υ1 87 rb = nI 0 := by rw [s5.1 87 (fun z => z)]; exact n87
  have hFc : FG fe (fun a k => dT a k ∨ (a = 10 ∧ k = 9)) fj σ τ1 := FG_t (FG_I (Or.inr ⟨rfl, rfl⟩)) (FG_f s4 (fun a k z => Or.inl z))
  have hFr : FG fe eT fj ρ υ1 := FG_n s5 (fun a k z => z)
  have hFc' : FG lnG lnT fj σ τ1 := FG_m hFc (fun _ _ z => z.elim) (fun a k z => by unfold dT at z; unfold lnT; omega) (fun _ z => z)
  have hFr' : FG (lnR rb) fT (lnJ rb) ρ υ1 := FG_m hFr (fun _ _ z => z.elim) (fun a k z => Or.inl (eT_rF z)) (fun _ z => z.elim)
  have h9τ : sI τ1 10 9 = nI (tc ||| 2 ^ 7) := by rw [s4.2.1 10 9 (by unfold dT; omega), sI_eq]
  have C1 : CQ τ1 fo 0 0 := CQ_f s4 (by unfold dT; omega) (by unfold dT; omega) ⟨by rw [sI_ne (by omega)]; exact nC.1, by rw [sI_ne (by omega)]; exact nC.2.1, nC.2.2⟩
  rcases two_rule s3 hrb C1 e35 e87 e36 e90 with ⟨τ, υ, t', fo', len', un, ⟨x1, x2⟩, ⟨x3, x4⟩, x5, x6, x7, x8, ⟨y1, y2, y3, y4⟩, y5, x10, x11⟩ | ⟨τ, υ, ⟨x3, x4⟩, x5, x10, x11⟩
  · left
    refine ⟨τ, υ, t', fun i => if i = 8 then un else P i, X, pl, ln, fo', len', tc ||| 2 ^ 7, tr ||| 2 ^ rbJ 7, ⟨hcl.trans x3, hrl.trans x4⟩, ?_, by omega, FG_t hFc' (FG_m x10 (fun a k z => by unfold flG at z; unfold lnG; omega) (fun a k z => by unfold flT cF at z; unfold lnT; omega) (fun _ z => z)), FG_t hFr' (FG_m x11 (fun a k z => by unfold ruG fG at z; unfold lnR; omega) (fun a k z => z) (fun _ z => z.elim))⟩
    have cI : ∀ k, k ≠ 8 → k ≠ 15 → sI τ 11 k = sI σ 11 k := fun k hk hk2 => by
      rw [x10.2.1 11 k (by unfold flT cF; omega), hFc.2.1 11 k (by unfold dT; omega)]
    have cFl : ∀ a k, a ≠ 17 → sF τ a k = sF σ a k := fun a k ha => by rw [x10.1 a k ha, hFc.1 a k (fun z => z)]
    have rFl : ∀ a k, ¬ ruG rb a k → sF υ a k = sF ρ a k := fun a k hk => by rw [x11.1 a k hk, hFr.1 a k (fun z => z)]
    have rJl : ∀ k, sJ υ k = sJ ρ k := fun k => by rw [x11.2.2.1 k (fun z => z), hFr.2.2.1 k (fun z => z)]
    have p0 : ∀ i, i ≠ 8 → (fun i => if i = 8 then un else P i) i = P i := fun i hi => by show (if i = 8 then un else P i) = P i; rw [if_neg hi]
    have p8 : (fun i => if i = 8 then un else P i) 8 = un := by show (if 8 = 8 then un else P 8) = un; rw [if_pos rfl]
    have hW : PW (fun i => if i = 8 then un else P i) := by unfold PW at nW ⊢; simp; omega
    generalize (fun i => if i = 8 then un else P i) = P' at *
    refine ⟨x5, by rw [x11.2.1 78 35 (by unfold fT rF; omega)]; exact e35, hW, fun i hi => ?_, ?_, ⟨by rw [p8]; exact x7, by rw [p8]; exact y1⟩, ?_, ?_, ?_, ⟨?_, ?_, b1, b2, b3⟩, x8, ?_, fun h0 => absurd h0 (by omega), fun h0 => ⟨y3, y4, y5⟩⟩
    · have := rw_b hi
      rw [p0 _ (by omega), cI i (by omega) (by omega), rFl _ _ (by unfold ruG fG; omega)]
      exact nF i hi
    · rw [p0 0 (by omega), cI 7 (by omega) (by omega), rFl 81 rb (by unfold ruG fG; omega)]; exact ⟨nS1, nS2⟩
    · rw [p0 0 (by omega)]
      intro r s hr hs
      rw [cFl _ _ (by omega), rFl _ _ (by unfold ruG fG; omega)]
      exact nX r s hr hs
    · rw [p0 0 (by omega)]; exact nN
    · rw [p0 0 (by omega)]
      intro s hs
      rw [cFl _ _ (by omega), cFl _ _ (by omega), rJl]
      exact nM s hs
    · rw [x10.2.1 10 9 (by unfold flT cF; omega)]; exact h9τ
    · rw [y2, show (32 : Int32) = nI (2 ^ rbJ 7) from rfl, nx_or]
    · rw [b4, decide_eq_true rfl, Bool.or_true, decide_eq_true x1]
  · right
    exact ⟨τ, υ, ⟨hcl.trans x3, hrl.trans x4⟩, x5, FG_t hFc' (FG_m x10 (fun a k z => by unfold flG at z; unfold lnG; omega) (fun a k z => by unfold flT cF at z; unfold lnT; omega) (fun _ z => z)), FG_t hFr' (FG_m x11 (fun a k z => by unfold ruG fG at z; unfold lnR; omega) (fun a k z => z) (fun _ z => z.elim))⟩
theorem line_ship {rb : Nat} {u : Nat → Nat} {n : Nat} {σ ρ : ZS} {t : ZT} {P : Nat → Nat} {X : Nat → Nat → Nat} {pl ln : Nat → Nat} {fo : Nat → Int32} {len tc tr : Nat} (N : LN rb u n σ ρ t P X pl ln fo len tc tr) (hrb : rb < 2) (h1 : t.2.2.1 = 1) (h2 : t.2.2.2 = 8) (hns : P 0 < 6) : LRES rb u n σ ρ t := by
  obtain ⟨L, n35, nW, nF, ⟨nS1, nS2⟩, ⟨nC, n87⟩, nX, nN, nM, ⟨m9, m90, mc, mr, mb⟩, nO, n7, nE, nL⟩ := N
  have hlt := nx_gt L.2.2.2.2.1 (show t.2.2.1 ≠ 0 by omega)
  obtain ⟨w8, wN⟩ := wd_tok L h1 h2 (by omega)
  have hfl := r_fullS L hrb n35 nS2 nW.1 (wB_z h1 h2)
  rw [if_neg (show ¬ P 0 = 6 by omega)] at hfl
  obtain ⟨τ1, υ1, s1, s2, s3, s4, s5⟩ := LK_s L
  have hcl := cl_sh L h1 h2 nS1 hns s1
  have hrl : xX9_readLine 78 (mkH ρ) = rShp (mkH υ1) := by rw [rl_yes w8 hfl, wN]; exact rl_8 L.2.2.2.2.2.1 s2
  have e35 : sI υ1 78 35 = nI rb := by rw [s5.2.1 78 35 (by unfold eT; omega)]; exact n35
  have e81 : sF υ1 81 rb = nI (P 0) := by rw [s5.1 81 (fun z => z)]; exact nS2
  have c7 : sI τ1 11 7 = nI (P 0) := by rw [s4.2.1 11 7 (by unfold dT; omega)]; exact nS1
  have hFc : FG fe dT fj σ τ1 := FG_f s4 (fun a k z => z)
  have hFr : FG fe eT fj ρ υ1 := FG_n s5 (fun a k z => z)
  have hFc' : FG lnG lnT fj σ τ1 := FG_m hFc (fun _ _ z => z.elim) (fun a k z => by unfold dT at z; unfold lnT; omega) (fun _ z => z)
  have hFr' : FG (lnR rb) fT (lnJ rb) ρ υ1 := FG_m hFr (fun _ _ z => z.elim) (fun a k z => Or.inl (eT_rF z)) (fun _ z => z.elim)
  have hNM : (∀ s, s < P 0 → sF τ1 19 s = nI (pl s) ∧ sF τ1 20 s = nI (ln s)) ∧ ∀ s, s < P 0 → sJ υ1 (6 * rb + s) = jN (pkW (gu0 u n) (pl s) (ln s)) := by
    refine ⟨fun s hs => ?_, fun s hs => ?_⟩
    · rw [hFc.1 19 s (fun z => z), hFc.1 20 s (fun z => z)]; exact ⟨(nM s hs).1, (nM s hs).2.1⟩
    · rw [hFr.2.2.1 _ (fun z => z)]; exact (nM s hs).2.2
  have hmc : ∀ a k, shG (P 0) a k → lnG a k := fun a k z => by unfold shG at z; unfold lnG; omega
  have hmt : ∀ a k, shT a k → lnT a k := fun a k z => by unfold shT cF at z; unfold lnT; omega
  have hmr : ∀ a k, shR rb (P 0) a k → lnR rb a k := fun a k z => by unfold shR at z; unfold lnR; omega
  have hmj : ∀ j, j = 6 * rb + P 0 → lnJ rb j := fun j z => by unfold lnJ; omega
  rcases two_ship s3 hrb hns c7 e81 e35 nN hNM.1 hNM.2 with ⟨τ2, υ2, x, t2, ⟨x1, x2⟩, ⟨x3, x4⟩, x5, x6, x7, ⟨x8, x9⟩, ⟨y1, y2, y3, y4⟩, x10, x11⟩ | ⟨τ2, υ2, x3, x4, x5, x10, x11⟩
  · have hcs : ∀ v, xX3_takeSign 10 (59 : Int32) (mkH τ2) = some v → cSh (mkH τ1) = if v.1 = 0 then some (0, v.2) else some (1, v.2) := fun v hv => by
      unfold cSh
      rw [x3, Option.bind_some]
      dsimp only
      rw [if_neg (by decide), is_10, gu_t, hv, Option.bind_some]
    have hrs : rShp (mkH υ1) = xX9_must 78 (if sB t2 59 then 1 else 0) (mkH υ2) := by
      unfold rShp
      rw [x4, Option.bind_some, r_238 x5]
    rcases two_sign x5 (w := 59) (by omega) with ⟨τ, υ, k1, k2, k3, k4, k5, k6⟩ | ⟨τ, υ, k1, k2, k3, k4, k5⟩
    · left
      refine ⟨τ, υ, nx (gu0 u n) n t2, fun i => if i = 0 then P 0 + 1 else P i, fun r s => if s = P 0 then x r else X r s, fun s => if s = P 0 then (nx (gu0 u n) n t).1 else pl s, fun s => if s = P 0 then (nx (gu0 u n) n t).2.1 - (nx (gu0 u n) n t).1 else ln s, fo, len, tc, tr, ⟨?_, ?_⟩, ?_, by omega, FG_t hFc' (FG_t (FG_m x10 hmc hmt (fun _ z => z)) (FG_f k5 (fun a k z => by unfold cF at z; unfold lnT; omega))), FG_t hFr' (FG_t (FG_m x11 hmr (fun a k z => Or.inl z) hmj) (FG_n k6 (fun a k z => Or.inl z)))⟩
      · rw [hcl, hcs _ k1]
        dsimp only
        rw [if_neg (by decide)]
      · rw [hrl, hrs]; exact k2
      · have cI : ∀ a k, ¬ cF a k → ¬ (a = 11 ∧ k = 7) → sI τ a k = sI σ a k := fun a k hk hk2 => by
          rw [k5.2.1 a k hk, x10.2.1 a k (fun z => z.elim hk hk2), hFc.2.1 a k (fun z => hk (dT_cF z))]
        have cFl : ∀ a k, ¬ shG (P 0) a k → sF τ a k = sF σ a k := fun a k ha => by rw [k5.1 a (fun z => z), x10.1 a k ha, hFc.1 a k (fun z => z)]
        have rFl : ∀ a k, ¬ shR rb (P 0) a k → sF υ a k = sF ρ a k := fun a k hk => by rw [k6.1 a (fun z => z), x11.1 a k hk, hFr.1 a k (fun z => z)]
        have rI : ∀ k, ¬ rF 78 k → sI υ 78 k = sI ρ 78 k := fun k hk => by rw [k6.2.1 78 k hk, x11.2.1 78 k hk, hFr.2.1 78 k (fun z => hk (eT_rF z))]
        have rJl : ∀ k, k ≠ 6 * rb + P 0 → sJ υ k = sJ ρ k := fun k hk => by rw [show sJ υ k = sJ υ2 k from congrFun (congrArg (fun q => q.1) k6.2.2) k, x11.2.2.1 k hk, hFr.2.2.1 k (fun z => z)]
        have rJe : sJ υ (6 * rb + P 0) = jN (pkW (gu0 u n) (nx (gu0 u n) n t).1 ((nx (gu0 u n) n t).2.1 - (nx (gu0 u n) n t).1)) := by rw [show sJ υ (6 * rb + P 0) = sJ υ2 (6 * rb + P 0) from congrFun (congrArg (fun q => q.1) k6.2.2) _]; exact y4
        have p0 : ∀ i, (fun i => if i = 0 then P 0 + 1 else P i) (i + 1) = P (i + 1) := fun i => by show (if i + 1 = 0 then P 0 + 1 else P (i + 1)) = P (i + 1); rw [if_neg (by omega)]
        have p1 : (fun i => if i = 0 then P 0 + 1 else P i) 0 = P 0 + 1 := by show (if 0 = 0 then P 0 + 1 else P 0) = P 0 + 1; rw [if_pos rfl]
        have hW : PW (fun i => if i = 0 then P 0 + 1 else P i) := by unfold PW at nW ⊢; simp; omega
        generalize hP : (fun i => if i = 0 then P 0 + 1 else P i) = P' at *
        have p8 : P' 8 = P 8 := p0 7
        have htn := TK_nx s3.2.2.2.2.1
        have htb := (TK_b s3.2.2.2.2.1).2.1 y1
        refine ⟨k4, by rw [rI 35 (by unfold rF; omega)]; exact n35, hW, fun i hi => ?_, ?_, ⟨⟨?_, ?_, fun i hi => ?_⟩, ?_⟩, ?_, ?_, ?_, ⟨?_, ?_, mc, mr, mb⟩, nO, n7, fun h0 => ?_, fun h0 => ?_⟩
        · have := rw_b hi
          rw [p0 i, cI 11 i (by unfold cF; omega) (by omega), rFl _ _ (by unfold shR; omega)]
          exact nF i hi
        · rw [p1, k5.2.1 11 7 (by unfold cF; omega), k6.1 81 (fun z => z)]; exact ⟨x8, x9⟩
        · rw [p8, cI 11 8 (by unfold cF; omega) (by omega)]; exact nC.1
        · rw [cI 11 15 (by unfold cF; omega) (by omega)]; exact nC.2.1
        · rw [cFl 17 i (by unfold shG; omega)]; exact nC.2.2 i hi
        · rw [p8, rFl 87 rb (by unfold shR; omega)]; exact n87
        · rw [p1]
          intro r s hr hs
          by_cases hsn : s = P 0
          · subst hsn
            dsimp only
            rw [if_pos rfl, k5.1 _ (fun z => z), k6.1 _ (fun z => z)]
            exact x7 r hr
          · dsimp only
            rw [if_neg hsn, cFl _ _ (by unfold shG; omega), rFl _ _ (by unfold shR; omega)]
            exact nX r s hr (by omega)
        · rw [p1]
          intro s hs
          by_cases hsn : s = P 0
          · dsimp only
            rw [if_pos hsn, if_pos hsn]
            refine ⟨htb.2.1, by omega, htb.2.2.1⟩
          · dsimp only
            rw [if_neg hsn, if_neg hsn]
            exact nN s (by omega)
        · rw [p1]
          intro s hs
          by_cases hsn : s = P 0
          · dsimp only
            rw [if_pos hsn, if_pos hsn, hsn, k5.1 19 (fun z => z), k5.1 20 (fun z => z)]
            exact ⟨y2, y3, rJe⟩
          · dsimp only
            rw [if_neg hsn, if_neg hsn, cFl _ _ (by unfold shG; omega), cFl _ _ (by unfold shG; omega), rJl _ (by omega)]
            exact nM s (by omega)
        · rw [cI 10 9 (by unfold cF; omega) (by omega)]; exact m9
        · rw [rFl 90 rb (by unfold shR; omega)]; exact m90
        · rw [p8, rI 36 (by unfold rF; omega)]; exact nE h0
        · rw [rFl 96 rb (by unfold shR; omega), rFl 97 rb (by unfold shR; omega)]
          refine ⟨(nL h0).1, (nL h0).2.1, fun i hi => ?_⟩
          rw [rFl 99 _ (by unfold shR; omega), rFl 100 _ (by unfold shR; omega)]
          exact (nL h0).2.2 i hi
    · right
      refine ⟨τ, υ, ⟨?_, ?_⟩, k3, FG_t hFc' (FG_t (FG_m x10 hmc hmt (fun _ z => z)) (FG_f k4 (fun a k z => by unfold cF at z; unfold lnT; omega))), FG_t hFr' (FG_t (FG_m x11 hmr (fun a k z => Or.inl z) hmj) (FG_n k5 (fun a k z => Or.inl z)))⟩
      · rw [hcl, hcs _ k1]
        dsimp only
        rw [if_pos rfl]
      · rw [hrl, hrs]; exact k2
  · right
    have hFr2 : FG (lnR rb) fT (lnJ rb) ρ υ2 := FG_t hFr' (FG_m x11 hmr (fun a k z => Or.inl z) hmj)
    refine ⟨τ2, υ2, ⟨?_, ?_⟩, x5, FG_t hFc' (FG_m x10 hmc hmt (fun _ z => z)), hFr2⟩
    · rw [hcl]
      unfold cSh
      rw [x3, Option.bind_some]
      dsimp only
      rw [if_pos rfl]
    · rw [hrl]
      unfold rShp
      rw [x4, Option.bind_some]
      exact ng_238 x5 (TR_g hFr2 (fun k => by unfold lnR; omega) (by unfold fT rF; omega) L.2.1)
theorem two_line {rb : Nat} {u : Nat → Nat} {n : Nat} {σ ρ : ZS} {t : ZT} {P : Nat → Nat} {X : Nat → Nat → Nat} {pl ln : Nat → Nat} {fo : Nat → Int32} {len tc tr : Nat} (N : LN rb u n σ ρ t P X pl ln fo len tc tr) (hrb : rb < 2) : LRES rb u n σ ρ t := by
  have N0 := N
  obtain ⟨L, n35, nW, nF, ⟨nS1, nS2⟩, ⟨nC, n87⟩, nX, nN, nM, ⟨m9, m90, mc, mr, mb⟩, nO, n7, nE, nL⟩ := N
  obtain ⟨τ, υ, q1, q2, -, q3, q4, q5⟩ := two_no L
  have hFc : FG lnG lnT fj σ τ := FG_f q4 (fun a k z => by unfold cF at z; unfold lnT; omega)
  have hFr : FG (lnR rb) fT (lnJ rb) ρ υ := FG_n q5 (fun a k z => Or.inl z)
  by_cases h : t.2.2.1 = 1 ∧ t.2.2.2 ≤ 8
  · obtain ⟨h1, h2⟩ := h
    by_cases h8 : t.2.2.2 = 8
    · by_cases h6 : P 0 = 6
      · right
        have hfl := r_fullS L hrb n35 nS2 nW.1 (wB_z h1 h8)
        rw [if_pos h6] at hfl
        exact ⟨τ, υ, ⟨cl_s6 L h1 h8 nS1 h6 q1, rl_no (fun _ => hfl) q2 (BAD_n q3)⟩, q3, hFc, hFr⟩
      · exact line_ship N0 hrb h1 h8 (by have := nW.1; omega)
    · by_cases hb : tc.testBit t.2.2.2 = true
      · right
        have hfl := r_fullW L hrb n35 m90 mr h1 rfl (by omega)
        rw [mb _ (by omega), if_pos hb] at hfl
        refine ⟨τ, υ, ⟨?_, rl_no (fun _ => hfl) q2 (BAD_n q3)⟩, q3, hFc, hFr⟩
        rw [cl_w L h1 rfl (by omega) m9 mc, if_pos hb, q1, Option.bind_some]
        exact zr0
      · have hb' : tc.testBit t.2.2.2 = false := by simpa using hb
        by_cases h7 : t.2.2.2 = 7
        · rw [h7] at hb'
          exact line_rule N0 hrb h1 h7 hb'
        · exact line_num N0 hrb (show t.2.2.2 < 7 by omega) h1 rfl hb'
  · right
    exact ⟨τ, υ, ⟨cl_no L h q1, rl_no (fun _ => r_fullN L h) q2 (BAD_n q3)⟩, q3, hFc, hFr⟩
