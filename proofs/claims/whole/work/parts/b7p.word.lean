/-! a line of the text: words, numbers -/
theorem kc_0 : (495740482675 : Int64) = jN (kW 0) := by decide
theorem kc_1 : (491260897125 : Int64) = jN (kW 1) := by decide
theorem kc_2 : (2003395685 : Int64) = jN (kW 2) := by decide
theorem kc_3 : (465557353332 : Int64) = jN (kW 3) := by decide
theorem kc_4 : (461262647411 : Int64) = jN (kW 4) := by decide
theorem kc_5 : (439720633715 : Int64) = jN (kW 5) := by decide
theorem kc_6 : (1685217655 : Int64) = jN (kW 6) := by decide
theorem kc_7 : (32199680925529203 : Int64) = jN (kW 7) := by decide
theorem kc_8 : (1936222576 : Int64) = jN (kW 8) := by decide
noncomputable def rNum (fld : Nat) (b lo hi : Int32) (h : ZH) : Option ZH := ((z_gR h 78 9 fld).bind fun x => ((z_gI h 78 9 35).bind fun y => (z_gu (z_is h 78 9) ((xX9_once 78 b lo hi h).bind fun r => ((z_uI r.2 x y r.1).bind fun h2 => xX9_readLine_B238 78 h2)))))
noncomputable def rShp (h : ZH) : Option ZH := (xX9_readShip 78 h).bind fun h2 => xX9_readLine_B238 78 h2
theorem sk_62 {c : Int64} {h : ZH} (hc : ¬ lg_cmp c 491260897125 = 0) : xX9_readLine_B62 78 c h = xX9_readLine_B87 78 c h := by unfold xX9_readLine_B62; rw [if_neg hc]
theorem sk_87 {c : Int64} {h : ZH} (hc : ¬ lg_cmp c 2003395685 = 0) : xX9_readLine_B87 78 c h = xX9_readLine_B112 78 c h := by unfold xX9_readLine_B87; rw [if_neg hc]
theorem sk_112 {c : Int64} {h : ZH} (hc : ¬ lg_cmp c 465557353332 = 0) : xX9_readLine_B112 78 c h = xX9_readLine_B136 78 c h := by unfold xX9_readLine_B112; rw [if_neg hc]
theorem sk_136 {c : Int64} {h : ZH} (hc : ¬ lg_cmp c 461262647411 = 0) : xX9_readLine_B136 78 c h = xX9_readLine_B161 78 c h := by unfold xX9_readLine_B136; rw [if_neg hc]
theorem sk_161 {c : Int64} {h : ZH} (hc : ¬ lg_cmp c 1936222576 = 0) : xX9_readLine_B161 78 c h = xX9_readLine_B173 78 c h := by unfold xX9_readLine_B161; rw [if_neg hc]
theorem sk_173 {c : Int64} {h : ZH} (hc : ¬ lg_cmp c 32199680925529203 = 0) : xX9_readLine_B173 78 c h = xX9_readLine_B185 78 c h := by unfold xX9_readLine_B173; rw [if_neg hc]
theorem sk_185 {c : Int64} {h : ZH} (hc : ¬ lg_cmp c 439720633715 = 0) : xX9_readLine_B185 78 c h = xX9_readLine_B211 78 c h := by unfold xX9_readLine_B185; rw [if_neg hc]
theorem sk_211 {c : Int64} {h : ZH} (hc : ¬ lg_cmp c 1685217655 = 0) : xX9_readLine_B211 78 c h = xX9_readLine_B238 78 h := by unfold xX9_readLine_B211; rw [if_neg hc]
theorem rl_0 {ρ υ : ZS} (hg : sI ρ 78 4 = 0) (go : xX9_goOn 78 (mkH ρ) = some (mkH υ)) : xX9_readLine_B24 78 (jN (kW 0)) (mkH ρ) = rNum 12 (nI 0) (nI 6) (nI 30) (mkH υ) := by
  rw [← kc_0]
  have e : (fun h => xX9_readLine_B62 78 495740482675 h) = xX9_readLine_B238 78 := funext fun h => by rw [sk_62 (by decide), sk_87 (by decide), sk_112 (by decide), sk_136 (by decide), sk_161 (by decide), sk_173 (by decide), sk_185 (by decide), sk_211 (by decide)]
  unfold xX9_readLine_B24
  rw [is_78, gu_t, r_good hg, Option.bind_some]
  dsimp only
  rw [if_neg (by decide), is_78, gu_t, go, Option.bind_some, if_pos (by decide)]
  unfold rNum
  rw [← e]
  rfl
theorem rl_1 {ρ υ : ZS} (hg : sI ρ 78 4 = 0) (go : xX9_goOn 78 (mkH ρ) = some (mkH υ)) : xX9_readLine_B24 78 (jN (kW 1)) (mkH ρ) = rNum 13 (nI 1) (nI 1) (nI 99) (mkH υ) := by
  rw [← kc_1]
  have e : (fun h => xX9_readLine_B87 78 491260897125 h) = xX9_readLine_B238 78 := funext fun h => by rw [sk_87 (by decide), sk_112 (by decide), sk_136 (by decide), sk_161 (by decide), sk_173 (by decide), sk_185 (by decide), sk_211 (by decide)]
  unfold xX9_readLine_B24
  rw [is_78, gu_t, r_good hg, Option.bind_some]
  dsimp only
  rw [if_neg (by decide), is_78, gu_t, go, Option.bind_some, if_neg (by decide)]
  unfold xX9_readLine_B62
  rw [if_pos (by decide)]
  unfold rNum
  rw [← e]
  rfl
theorem rl_2 {ρ υ : ZS} (hg : sI ρ 78 4 = 0) (go : xX9_goOn 78 (mkH ρ) = some (mkH υ)) : xX9_readLine_B24 78 (jN (kW 2)) (mkH ρ) = rNum 14 (nI 2) (nI 0) (nI 9) (mkH υ) := by
  rw [← kc_2]
  have e : (fun h => xX9_readLine_B112 78 2003395685 h) = xX9_readLine_B238 78 := funext fun h => by rw [sk_112 (by decide), sk_136 (by decide), sk_161 (by decide), sk_173 (by decide), sk_185 (by decide), sk_211 (by decide)]
  unfold xX9_readLine_B24
  rw [is_78, gu_t, r_good hg, Option.bind_some]
  dsimp only
  rw [if_neg (by decide), is_78, gu_t, go, Option.bind_some, if_neg (by decide), sk_62 (by decide)]
  unfold xX9_readLine_B87
  rw [if_pos (by decide)]
  unfold rNum
  rw [← e]
  rfl
theorem rl_3 {ρ υ : ZS} (hg : sI ρ 78 4 = 0) (go : xX9_goOn 78 (mkH ρ) = some (mkH υ)) : xX9_readLine_B24 78 (jN (kW 3)) (mkH ρ) = rNum 15 (nI 3) (nI 1) (nI 4) (mkH υ) := by
  rw [← kc_3]
  have e : (fun h => xX9_readLine_B136 78 465557353332 h) = xX9_readLine_B238 78 := funext fun h => by rw [sk_136 (by decide), sk_161 (by decide), sk_173 (by decide), sk_185 (by decide), sk_211 (by decide)]
  unfold xX9_readLine_B24
  rw [is_78, gu_t, r_good hg, Option.bind_some]
  dsimp only
  rw [if_neg (by decide), is_78, gu_t, go, Option.bind_some, if_neg (by decide), sk_62 (by decide), sk_87 (by decide)]
  unfold xX9_readLine_B112
  rw [if_pos (by decide)]
  unfold rNum
  rw [← e]
  rfl
theorem rl_4 {ρ υ : ZS} (hg : sI ρ 78 4 = 0) (go : xX9_goOn 78 (mkH ρ) = some (mkH υ)) : xX9_readLine_B24 78 (jN (kW 4)) (mkH ρ) = rNum 16 (nI 4) (nI 1) (nI 7) (mkH υ) := by
  rw [← kc_4]
  have e : (fun h => xX9_readLine_B161 78 461262647411 h) = xX9_readLine_B238 78 := funext fun h => by rw [sk_161 (by decide), sk_173 (by decide), sk_185 (by decide), sk_211 (by decide)]
  unfold xX9_readLine_B24
  rw [is_78, gu_t, r_good hg, Option.bind_some]
  dsimp only
  rw [if_neg (by decide), is_78, gu_t, go, Option.bind_some, if_neg (by decide), sk_62 (by decide), sk_87 (by decide), sk_112 (by decide)]
  unfold xX9_readLine_B136
  rw [if_pos (by decide)]
  unfold rNum
  rw [← e]
  rfl
theorem rl_5 {ρ υ : ZS} (hg : sI ρ 78 4 = 0) (go : xX9_goOn 78 (mkH ρ) = some (mkH υ)) : xX9_readLine_B24 78 (jN (kW 5)) (mkH ρ) = rNum 18 (nI 6) (nI 0) (nI 100) (mkH υ) := by
  rw [← kc_5]
  have e : (fun h => xX9_readLine_B211 78 439720633715 h) = xX9_readLine_B238 78 := funext fun h => by rw [sk_211 (by decide)]
  unfold xX9_readLine_B24
  rw [is_78, gu_t, r_good hg, Option.bind_some]
  dsimp only
  rw [if_neg (by decide), is_78, gu_t, go, Option.bind_some, if_neg (by decide), sk_62 (by decide), sk_87 (by decide), sk_112 (by decide), sk_136 (by decide), sk_161 (by decide), sk_173 (by decide)]
  unfold xX9_readLine_B185
  rw [if_pos (by decide)]
  unfold rNum
  rw [← e]
  rfl
theorem rl_6 {ρ υ : ZS} (hg : sI ρ 78 4 = 0) (go : xX9_goOn 78 (mkH ρ) = some (mkH υ)) : xX9_readLine_B24 78 (jN (kW 6)) (mkH ρ) = rNum 19 (nI 7) (nI 0) (nI 999) (mkH υ) := by
  rw [← kc_6]
  unfold xX9_readLine_B24
  rw [is_78, gu_t, r_good hg, Option.bind_some]
  dsimp only
  rw [if_neg (by decide), is_78, gu_t, go, Option.bind_some, if_neg (by decide), sk_62 (by decide), sk_87 (by decide), sk_112 (by decide), sk_136 (by decide), sk_161 (by decide), sk_173 (by decide), sk_185 (by decide)]
  unfold xX9_readLine_B211
  rw [if_pos (by decide)]
  unfold rNum
  rfl
theorem rl_7 {ρ υ : ZS} (hg : sI ρ 78 4 = 0) (go : xX9_goOn 78 (mkH ρ) = some (mkH υ)) : xX9_readLine_B24 78 (jN (kW 7)) (mkH ρ) = rRu (mkH υ) := by
  rw [← kc_7]
  have e : (fun h => xX9_readLine_B185 78 32199680925529203 h) = xX9_readLine_B238 78 := funext fun h => by rw [sk_185 (by decide), sk_211 (by decide)]
  unfold xX9_readLine_B24
  rw [is_78, gu_t, r_good hg, Option.bind_some]
  dsimp only
  rw [if_neg (by decide), is_78, gu_t, go, Option.bind_some, if_neg (by decide), sk_62 (by decide), sk_87 (by decide), sk_112 (by decide), sk_136 (by decide), sk_161 (by decide)]
  unfold xX9_readLine_B173
  rw [if_pos (by decide)]
  unfold rRu
  rw [is_78, gu_t]
  rw [← e]
theorem rl_8 {ρ υ : ZS} (hg : sI ρ 78 4 = 0) (go : xX9_goOn 78 (mkH ρ) = some (mkH υ)) : xX9_readLine_B24 78 (jN (kW 8)) (mkH ρ) = rShp (mkH υ) := by
  rw [← kc_8]
  have e : (fun h => xX9_readLine_B173 78 1936222576 h) = xX9_readLine_B238 78 := funext fun h => by rw [sk_173 (by decide), sk_185 (by decide), sk_211 (by decide)]
  unfold xX9_readLine_B24
  rw [is_78, gu_t, r_good hg, Option.bind_some]
  dsimp only
  rw [if_neg (by decide), is_78, gu_t, go, Option.bind_some, if_neg (by decide), sk_62 (by decide), sk_87 (by decide), sk_112 (by decide), sk_136 (by decide)]
  unfold xX9_readLine_B161
  rw [if_pos (by decide)]
  unfold rShp
  rw [is_78, gu_t]
  rw [← e]
def loJ (j : Nat) : Nat := [6, 1, 0, 1, 1, 0, 0].getD j 0
def hiJ (j : Nat) : Nat := [30, 99, 9, 4, 7, 100, 999].getD j 0
theorem j7 {j : Nat} (h : j < 7) : j = 0 ∨ j = 1 ∨ j = 2 ∨ j = 3 ∨ j = 4 ∨ j = 5 ∨ j = 6 := by omega
theorem la_1 (σ : ZS) {j : Nat} (h : j < 7) : z_aI (mkH σ) 1 (nI j) = some (nI (loJ j)) ∧ z_aI (mkH σ) 2 (nI j) = some (nI (hiJ j)) := by
  rcases j7 h with rfl | rfl | rfl | rfl | rfl | rfl | rfl <;> exact ⟨rfl, rfl⟩
theorem c_settle {σ : ZS} {j : Nat} {v : Int32} (h : j < 7) : xX3_settle 10 (nI j) v (mkH σ) = some (mkH (setI σ 11 j v)) := by
  unfold xX3_settle
  rcases j7 h with rfl | rfl | rfl | rfl | rfl | rfl | rfl
  · rw [if_pos (by decide), rR_10_0, Option.bind_some, wI_11_0, Option.bind_some]
  · rw [if_neg (by decide), if_pos (by decide), rR_10_0, Option.bind_some, wI_11_1, Option.bind_some]
  · rw [if_neg (by decide), if_neg (by decide), if_pos (by decide), rR_10_0, Option.bind_some, wI_11_2, Option.bind_some]
  · rw [if_neg (by decide), if_neg (by decide), if_neg (by decide), if_pos (by decide), rR_10_0, Option.bind_some, wI_11_3, Option.bind_some]
  · rw [if_neg (by decide), if_neg (by decide), if_neg (by decide), if_neg (by decide), if_pos (by decide), rR_10_0, Option.bind_some, wI_11_4, Option.bind_some]
  · rw [if_neg (by decide), if_neg (by decide), if_neg (by decide), if_neg (by decide), if_neg (by decide), if_pos (by decide), rR_10_0, Option.bind_some, wI_11_5, Option.bind_some]
  · rw [if_neg (by decide), if_neg (by decide), if_neg (by decide), if_neg (by decide), if_neg (by decide), if_neg (by decide), if_pos (by decide), rR_10_0, Option.bind_some, wI_11_6, Option.bind_some]
noncomputable def cNm (j : Int32) (h106 : ZH) : Option (Int32 × ZH) := ((z_aI h106 1 j).bind fun x144 => ((z_aI h106 2 j).bind fun x149 => (z_gu (z_is h106 10 3) ((xX3_takeNumber 10 x144 x149 h106).bind fun r150 => (if r150.1 = 0 then some ((0 : Int32), r150.2) else ((z_gI r150.2 10 3 10).bind fun x161 => (z_gu (z_is r150.2 10 3) ((xX3_settle 10 j x161 r150.2).bind fun h164 => (z_gu (z_is h164 10 3) ((xX3_takeSign 10 (59 : Int32) h164).bind fun r170 => z_zr r170.1 r170.2))))))))))
def nlT (j a k : Nat) : Prop := cF a k ∨ (a = 11 ∧ k = j)
def nlG (row rb a k : Nat) : Prop := (a = row ∨ a = 90) ∧ k = rb
theorem two_nl {σ ρ : ZS} {u : Nat → Nat} {n rb j fld row b : Nat} {t : ZT} {td : Int32} (L : LK σ ρ u n t) (hrb : rb < 2) (hj : j < 7) (hR : ∀ σ, z_gR (mkH σ) 78 9 fld = some row) (hW : ∀ σ v, z_uI (mkH σ) row (nI rb) v = some (mkH (setF σ row rb v))) (hr80 : row ≠ 80) (hr90 : row ≠ 90) (r35 : sI ρ 78 35 = nI rb) (r90 : sF ρ 90 rb = td) : (∃ (τ υ : ZS) (t' : ZT) (x : Nat), (loJ j ≤ x ∧ x ≤ hiJ j) ∧ (cNm (nI j) (mkH σ) = some (1, mkH τ) ∧ rNum fld (nI b) (nI (loJ j)) (nI (hiJ j)) (mkH ρ) = some (mkH υ)) ∧ LK τ υ u n t' ∧ t.1 < t'.1 ∧ (sI τ 11 j = nI x ∧ sF υ row rb = nI x ∧ sF υ 90 rb = sb td (nI b)) ∧ FG fe (nlT j) fj σ τ ∧ FG (nlG row rb) rF fj ρ υ) ∨ (∃ (τ υ : ZS), (cNm (nI j) (mkH σ) = some (0, mkH τ) ∧ rNum fld (nI b) (nI (loJ j)) (nI (hiJ j)) (mkH ρ) = some (mkH υ)) ∧ BAD τ υ ∧ FG fe (nlT j) fj σ τ ∧ FG (nlG row rb) rF fj ρ υ) := by
  have hlo : loJ j < 2 ^ 31 ∧ hiJ j < 2 ^ 31 := by rcases j7 hj with rfl | rfl | rfl | rfl | rfl | rfl | rfl <;> decide
  have L0 : LK σ (setF ρ 90 rb (sb td (nI b))) u n t := LK_rF (by omega) L
  have hF0 : FG (nlG row rb) rF fj ρ (setF ρ 90 rb (sb td (nI b))) := FG_F (by unfold nlG; omega)
  have hon : ∀ x υ, xX9_numeral 78 (nI (loJ j)) (nI (hiJ j)) (mkH (setF ρ 90 rb (sb td (nI b)))) = some (x, mkH υ) → rNum fld (nI b) (nI (loJ j)) (nI (hiJ j)) (mkH ρ) = xX9_readLine_B238 78 (mkH (setF υ row rb x)) := fun x υ hx => by
    unfold rNum
    rw [hR, Option.bind_some, rI_78_35, Option.bind_some, r35, is_78, gu_t]
    unfold xX9_once
    rw [rR_78_20, Option.bind_some, rI_78_35, Option.bind_some, r35, ra_90 _ hrb, Option.bind_some, r90, wa_90 _ _ hrb, Option.bind_some, is_78, gu_t]
    unfold sb at hx
    rw [hx, Option.bind_some]
    dsimp only
    rw [Option.bind_some]
    dsimp only
    rw [hW, Option.bind_some]
  obtain ⟨hl1, hl2⟩ := la_1 σ hj
  rcases two_num L0 hlo.1 hlo.2 with ⟨τ1, υ1, n1, n2, n3, n4, n5, n6, n7, n8, n9⟩ | ⟨τ1, υ1, n1, n2, n3, n4, n5⟩
  · have hru := hon _ _ n2
    have L1 : LK (setI τ1 11 j (nI t.2.2.2)) (setF υ1 row rb (nI t.2.2.2)) u n (nx (gu0 u n) n t) := LK_cI (by omega) (LK_rF hr80 n7)
    have hFc : FG fe (nlT j) fj σ (setI τ1 11 j (nI t.2.2.2)) := FG_t (FG_f n8 (fun a k z => Or.inl z)) (FG_I (Or.inr ⟨rfl, rfl⟩))
    have hFr : FG (nlG row rb) rF fj ρ (setF υ1 row rb (nI t.2.2.2)) := FG_t hF0 (FG_t (FG_n n9 (fun a k z => z)) (FG_F ⟨Or.inl rfl, rfl⟩))
    have y1 : sI (setI τ1 11 j (nI t.2.2.2)) 11 j = nI t.2.2.2 := sI_eq
    have y2 : sF (setF υ1 row rb (nI t.2.2.2)) row rb = nI t.2.2.2 := sF_eq
    have y3 : sF (setF υ1 row rb (nI t.2.2.2)) 90 rb = sb td (nI b) := by rw [sF_ne (by omega), n9.1 90 (fun z => z), sF_eq]
    have hcl : ∀ v, xX3_takeSign 10 (59 : Int32) (mkH (setI τ1 11 j (nI t.2.2.2))) = some v → cNm (nI j) (mkH σ) = z_zr v.1 v.2 := fun v hv => by
      unfold cNm
      rw [hl1, Option.bind_some, hl2, Option.bind_some, is_10, gu_t, n1, Option.bind_some]
      dsimp only
      rw [if_neg (by decide), rI_10_10, Option.bind_some, n3, is_10, gu_t, c_settle hj, Option.bind_some, is_10, gu_t, hv, Option.bind_some]
    generalize setI τ1 11 j (nI t.2.2.2) = τ2 at *
    generalize setF υ1 row rb (nI t.2.2.2) = υ2 at *
    rcases two_sign L1 (w := 59) (by omega) with ⟨τ4, υ4, s1, s2, s3, s4, s5, s6⟩ | ⟨τ4, υ4, s1, s2, s3, s4, s5⟩
    · left
      refine ⟨τ4, υ4, _, t.2.2.2, ⟨n4, n5⟩, ⟨?_, ?_⟩, s4, by omega, ⟨?_, ?_, ?_⟩, FG_t hFc (FG_f s5 (fun a k z => Or.inl z)), FG_t hFr (FG_n s6 (fun a k z => z))⟩
      · rw [hcl _ s1]; exact zr1
      · rw [hru, r_238 L1]; exact s2
      · rw [s5.2.1 11 j (by unfold cF; omega)]; exact y1
      · rw [s6.1 row (fun z => z)]; exact y2
      · rw [s6.1 90 (fun z => z)]; exact y3
    · right
      refine ⟨τ4, υ4, ⟨?_, ?_⟩, s3, FG_t hFc (FG_f s4 (fun a k z => Or.inl z)), FG_t hFr (FG_n s5 (fun a k z => z))⟩
      · rw [hcl _ s1]; exact zr0
      · rw [hru, r_238 L1]; exact s2
  · right
    have hru := hon _ _ n2
    have hFr : FG (nlG row rb) rF fj ρ (setF υ1 row rb (nI (loJ j))) := FG_t hF0 (FG_t (FG_n n5 (fun a k z => z)) (FG_F ⟨Or.inl rfl, rfl⟩))
    have hb3 : BAD τ1 (setF υ1 row rb (nI (loJ j))) := n3
    refine ⟨τ1, _, ⟨?_, ?_⟩, hb3, FG_f n4 (fun a k z => Or.inl z), hFr⟩
    · unfold cNm
      rw [hl1, Option.bind_some, hl2, Option.bind_some, is_10, gu_t, n1, Option.bind_some]
      dsimp only
      rw [if_pos rfl]
    · rw [hru]
      exact ng_238 hb3 (TR_g hFr (fun k => by unfold nlG; omega) (by unfold rF; omega) L.2.1)
/-- which line it is, on the reference's side -/
def srt (t : ZT) : Int32 := if wB t 0 then 0 else if wB t 1 then 1 else if wB t 2 then 2 else if wB t 3 then 3 else if wB t 4 then 4 else if wB t 7 then 5 else if wB t 5 then 6 else if wB t 6 then 7 else -1
theorem bz {b : Bool} {α : Type} {x y : α} : (if (if b = true then (1 : Int32) else 0) = 0 then x else y) = if b = true then y else x := by
  cases b
  · rw [if_neg (show ¬ false = true by decide), if_pos rfl, if_neg (by decide)]
  · rw [if_pos rfl, if_neg (by decide), if_pos rfl]
theorem r_sort {σ ρ : ZS} {u : Nat → Nat} {n : Nat} {t : ZT} (L : LK σ ρ u n t) : xX9_sortHere 78 (mkH ρ) = some (srt t, mkH ρ) := by
  unfold xX9_sortHere srt
  rw [is_78, gu_t, r_isW L (w := 0) (by omega) kc_0, Option.bind_some]
  dsimp only
  rw [bz]
  by_cases h0 : wB t 0 = true
  · rw [if_pos h0, if_pos h0]
  rw [if_neg h0, if_neg h0, is_78, gu_t, r_isW L (w := 1) (by omega) kc_1, Option.bind_some]
  dsimp only
  rw [bz]
  by_cases h1 : wB t 1 = true
  · rw [if_pos h1, if_pos h1]
  rw [if_neg h1, if_neg h1, is_78, gu_t, r_isW L (w := 2) (by omega) kc_2, Option.bind_some]
  dsimp only
  rw [bz]
  by_cases h2 : wB t 2 = true
  · rw [if_pos h2, if_pos h2]
  rw [if_neg h2, if_neg h2, is_78, gu_t, r_isW L (w := 3) (by omega) kc_3, Option.bind_some]
  dsimp only
  rw [bz]
  by_cases h3 : wB t 3 = true
  · rw [if_pos h3, if_pos h3]
  rw [if_neg h3, if_neg h3, is_78, gu_t, r_isW L (w := 4) (by omega) kc_4, Option.bind_some]
  dsimp only
  rw [bz]
  by_cases h4 : wB t 4 = true
  · rw [if_pos h4, if_pos h4]
  rw [if_neg h4, if_neg h4, is_78, gu_t, r_isW L (w := 7) (by omega) kc_7, Option.bind_some]
  dsimp only
  rw [bz]
  by_cases h7 : wB t 7 = true
  · rw [if_pos h7, if_pos h7]
  rw [if_neg h7, if_neg h7, is_78, gu_t, r_isW L (w := 5) (by omega) kc_5, Option.bind_some]
  dsimp only
  rw [bz]
  by_cases h5 : wB t 5 = true
  · rw [if_pos h5, if_pos h5]
  rw [if_neg h5, if_neg h5, is_78, gu_t, r_isW L (w := 6) (by omega) kc_6, Option.bind_some]
  dsimp only
  rw [bz]
  by_cases h6 : wB t 6 = true
  · rw [if_pos h6, if_pos h6]
  rw [if_neg h6, if_neg h6]
def rbJ (j : Nat) : Nat := if j ≤ 4 then j else if j = 7 then 5 else j + 1
theorem srt_w {t : ZT} {j : Nat} (h1 : t.2.2.1 = 1) (h2 : t.2.2.2 = j) (hj : j < 8) : srt t = nI (rbJ j) := by
  unfold srt wB
  rw [h1, h2]
  have h : j = 0 ∨ j = 1 ∨ j = 2 ∨ j = 3 ∨ j = 4 ∨ j = 5 ∨ j = 6 ∨ j = 7 := by omega
  rcases h with rfl | rfl | rfl | rfl | rfl | rfl | rfl | rfl <;> decide
theorem srt_n {t : ZT} (h : ¬ (t.2.2.1 = 1 ∧ t.2.2.2 ≤ 8)) : srt t = -1 := by
  have hw : ∀ w, w ≤ 8 → ¬ wB t w = true := fun w hw z => h ⟨(wB_y z).1, by have := (wB_y z).2; omega⟩
  unfold srt
  rw [if_neg (hw 0 (by omega)), if_neg (hw 1 (by omega)), if_neg (hw 2 (by omega)), if_neg (hw 3 (by omega)), if_neg (hw 4 (by omega)), if_neg (hw 7 (by omega)), if_neg (hw 5 (by omega)), if_neg (hw 6 (by omega))]
/-- is there no room for such a line -/
theorem r_fullS {σ ρ : ZS} {u : Nat → Nat} {n rb ns : Nat} {t : ZT} (L : LK σ ρ u n t) (hrb : rb < 2) (r35 : sI ρ 78 35 = nI rb) (r81 : sF ρ 81 rb = nI ns) (hns : ns ≤ 6) (h : wB t 8 = true) : xX9_isFull 78 (mkH ρ) = some (if ns = 6 then 1 else 0, mkH ρ) := by
  unfold xX9_isFull
  rw [is_78, gu_t, r_isW L (w := 8) (by omega) kc_8, Option.bind_some]
  dsimp only
  rw [bz, if_pos h, rR_78_11, Option.bind_some, rI_78_35, Option.bind_some, r35, ra_81 _ hrb, Option.bind_some, r81]
  by_cases h6 : ns = 6
  · rw [if_pos h6, if_pos (show nI ns = (6 : Int32) from by rw [h6]; rfl)]
  · rw [if_neg h6, if_neg (show ¬ nI ns = (6 : Int32) from nq (b := 6) (by omega) (by omega) h6)]
theorem r_fullW {σ ρ : ZS} {u : Nat → Nat} {n rb j tr : Nat} {t : ZT} (L : LK σ ρ u n t) (hrb : rb < 2) (r35 : sI ρ 78 35 = nI rb) (r90 : sF ρ 90 rb = nI tr) (htr : tr < 256) (h1 : t.2.2.1 = 1) (h2 : t.2.2.2 = j) (hj : j < 8) : xX9_isFull 78 (mkH ρ) = some (if tr.testBit (rbJ j) = true then 1 else 0, mkH ρ) := by
  have hb : rbJ j < 8 := by unfold rbJ; split; omega; split <;> omega
  unfold xX9_isFull
  rw [is_78, gu_t, r_isW L (w := 8) (by omega) kc_8, Option.bind_some]
  dsimp only
  rw [bz, if_neg (fun z => by have := (wB_y z).2; omega), is_78, gu_t, r_sort L, Option.bind_some]
  dsimp only
  rw [srt_w h1 h2 hj, if_neg (show ¬ nI (rbJ j) < 0 from fun z => by rw [nl_0] at z; have := (nI_ltI (by omega) (by omega)).mp z; omega), rR_78_20, Option.bind_some, rI_78_35, Option.bind_some, r35, ra_90 _ hrb, Option.bind_some, r90, is_78, gu_t, r_sort L, Option.bind_some]
  dsimp only
  rw [r_bit, Option.bind_some, srt_w h1 h2 hj, bitB_n (by omega) (by omega)]
  dsimp only
  rw [bz]
  by_cases hc : tr.testBit (rbJ j) = true
  · rw [if_pos hc, if_pos hc]
  · rw [if_neg hc, if_neg hc]
theorem r_fullN {σ ρ : ZS} {u : Nat → Nat} {n : Nat} {t : ZT} (L : LK σ ρ u n t) (h : ¬ (t.2.2.1 = 1 ∧ t.2.2.2 ≤ 8)) : xX9_isFull 78 (mkH ρ) = some (1, mkH ρ) := by
  unfold xX9_isFull
  rw [is_78, gu_t, r_isW L (w := 8) (by omega) kc_8, Option.bind_some]
  dsimp only
  rw [bz, if_neg (fun z => h ⟨(wB_y z).1, by have := (wB_y z).2; omega⟩), is_78, gu_t, r_sort L, Option.bind_some]
  dsimp only
  rw [srt_n h, if_pos (by decide)]
