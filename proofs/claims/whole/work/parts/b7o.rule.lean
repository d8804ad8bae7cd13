/-! the rule: the formula's line behind its word, in step -/
theorem ng_sg {ρ : ZS} {u : Nat → Nat} {n a : Nat} {c : Int32} (T : TR ρ u n) (h6 : sI ρ 78 6 = nI a) (ha : a ≤ 1600) : ∃ b, xX9_isSignHere 78 c (mkH ρ) = some (b, mkH ρ) := by
  unfold xX9_isSignHere
  rw [rI_78_8, Option.bind_some]
  by_cases h : sI ρ 78 8 = (5 : Int32)
  · rw [if_pos h, rI_78_6, Option.bind_some, is_78, gu_t, h6, r_sign T (by omega), Option.bind_some]
    dsimp only
    by_cases hc : nI (gu0 u n a) = c
    · rw [if_pos hc]; exact ⟨_, rfl⟩
    · rw [if_neg hc]; exact ⟨_, rfl⟩
  · rw [if_neg h]; exact ⟨_, rfl⟩
theorem ng_238 {σ ρ : ZS} {u : Nat → Nat} {n : Nat} (b : BAD σ ρ) (T : TR ρ u n) : xX9_readLine_B238 78 (mkH ρ) = some (mkH ρ) := by
  have hn := BAD_n b
  obtain ⟨f, a, b1, b2, b3, b4, b5, b6, b7, b8⟩ := b
  obtain ⟨v, hv⟩ := ng_sg (c := 59) T b8 b3
  unfold xX9_readLine_B238
  rw [is_78, gu_t, hv, Option.bind_some]
  dsimp only
  rw [is_78, gu_t, ng_must hn, Option.bind_some]
theorem r_238 {σ ρ : ZS} {u : Nat → Nat} {n : Nat} {t : ZT} (L : LK σ ρ u n t) : xX9_readLine_B238 78 (mkH ρ) = xX9_must 78 (if sB t 59 then 1 else 0) (mkH ρ) := by
  unfold xX9_readLine_B238
  rw [is_78, gu_t, show (59 : Int32) = nI 59 from rfl, r_isSg L (by omega), Option.bind_some]
  dsimp only
  rw [is_78, gu_t]
  cases xX9_must 78 (if sB t 59 = true then 1 else 0) (mkH ρ) <;> rfl
theorem TR_g {G T : Nat → Nat → Prop} {J : Nat → Prop} {ρ υ : ZS} {u : Nat → Nat} {n : Nat} (h : FG G T J ρ υ) (hG : ∀ k, ¬ G 80 k) (hT : ¬ T 78 3) (t : TR ρ u n) : TR υ u n := by
  obtain ⟨t1, t2, t3⟩ := t
  refine ⟨by rw [h.2.1 78 3 hT]; exact t1, t2, fun i hi => ⟨(t3 i hi).1, by rw [h.1 80 i (hG i)]; exact (t3 i hi).2⟩⟩
def eI (ρ : ZS) : ZS := setI (setF (setF (setI (setI ρ 78 38 (nI 0)) 78 37 (nI 0)) 101 0 (nI 8)) 102 0 (nI 0)) 78 38 (nI 1)
theorem r_e {ρ : ZS} : xX9_e 78 (mkH ρ) = xX9_e_L19 zFU 78 1 (mkH (eI ρ)) := by
  have hp : xX9_pushE 78 (nI 8) (nI 0) (mkH (setI (setI ρ 78 38 (nI 0)) 78 37 (nI 0))) = some (mkH (eI ρ)) := r_push (d := 0) (by rw [sI_ne (by omega), sI_eq]) (by omega)
  generalize hnl : xX9_e_L19 zFU = nl
  unfold xX9_e
  rw [show (0 : Int32) = nI 0 from rfl, show (8 : Int32) = nI 8 from rfl, wI_78_38, Option.bind_some, wI_78_37, Option.bind_some, is_78, gu_t, hp, Option.bind_some, hnl]
/-- the end: all that hangs falls off, and the bottom too -/
theorem two_end {σ ρ : ZS} {u : Nat → Nat} {n rb p len wi un : Nat} {t : ZT} {K G : Nat → Nat} {fo : Nat → Int32} (L : LK σ ρ u n t) (hrb : rb < 2) (hdp : 1 + p ≤ 90) (hlp : len + p ≤ 280) (Q : RQ ρ rb fo len (1 + p) (wi + cntN K 1 p) un) (S : SK ρ (1 + p) K G) (h0 : K 0 = 8) (hc : ∀ i, i < p → cdR (fo (len + i)) (nI (G (1 + p - 1 - i))) 0) (hk : ∀ i, i < p → K (1 + i) ≤ 6) (hr : rkT t = 0) : ∃ υ, (∀ f, xX9_e_L19 (f + 1 + 1) 78 0 (mkH ρ) = some (mkH υ)) ∧ LK σ υ u n t ∧ (sI υ 78 36 = nI (560 * rb + (len + p)) ∧ sF υ 87 rb = nI un ∧ sI υ 78 35 = nI rb) ∧ (∀ i, i < len + p → cdR (fo i) (sF υ 99 (560 * rb + i)) (sF υ 100 (560 * rb + i))) ∧ FG (fG rb) fT fj ρ υ := by
  have hdd : 1 + p = p + 1 := by omega
  have q5' : sI ρ 78 38 = nI (p + 1) := by rw [← hdd]; exact Q.2.2.2.2.1
  have S' : SK ρ (p + 1) K G := by rw [← hdd]; exact S
  obtain ⟨w, hw⟩ := zfu p (by omega)
  obtain ⟨υ1, v1, v2, v3, v4⟩ := r_pop (r := 0) (d0 := 1) hrb (by omega) (by omega) (Or.inl (by show 6 < K 0; rw [h0]; omega)) p len w ρ hdp hlp Q S hc (fun i hi => ⟨by omega, hk i hi⟩)
  obtain ⟨w1, w2, w3, w4, w5, w6, w7⟩ := v2
  have L1 : LK σ υ1 u n t := LK_g v3 v4 (fun k => by unfold pG; omega) (fun k h1 h2 => by unfold pT; omega) L
  have hs : sF υ1 101 0 = nI 8 := by rw [v3.1 101 0 (by unfold pG; omega), (S 0 (by omega)).1, h0]
  have hbu : xX9_behindUnit 78 (mkH ρ) = some (0, mkH (setI υ1 78 38 (nI 0))) := by
    rw [r_bu L q5' (by omega) S' h0 (by rw [hr]; omega), hr, hw, v1]
    exact r_104z w5 (by omega) hs (by omega) (by omega)
  have L2 : LK σ (setI υ1 78 38 (nI 0)) u n t := LK_rI (by omega) L1
  refine ⟨setI υ1 78 38 (nI 0), fun f => ?_, L2, ⟨?_, w2, ?_⟩, w7, FG_t (FG_m v3 (fun a k z => by unfold pG at z; unfold fG; omega) (fun a k z => by unfold pT at z; unfold fT; omega) (fun _ z => z)) (FG_I (by unfold fT; omega))⟩
  · rw [e_b L.2.2.2.2.2.1 q5' (by omega) hbu (f + 1)]
    exact e_z L2.2.2.2.2.2.1 sI_eq f
  · rw [sI_ne (by omega)]; exact w4
  · rw [sI_ne (by omega)]; exact w1
noncomputable def cRu (h : ZH) : Option (Int32 × ZH) := ((xX3_readLevel 10 (0 : Int32) (0 : Int32) h).bind fun r118 => (if r118.1 = 0 then some ((0 : Int32), r118.2) else (z_gu (z_is r118.2 10 3) ((xX3_takeSign 10 (59 : Int32) r118.2).bind fun r127 => (if r127.1 = 0 then some ((0 : Int32), r127.2) else some ((1 : Int32), r127.2))))))
noncomputable def rRu (h : ZH) : Option ZH := (xX9_readRule 78 h).bind fun h182 => xX9_readLine_B238 78 h182
def ruG (rb a k : Nat) : Prop := fG rb a k ∨ ((a = 90 ∨ a = 96 ∨ a = 97) ∧ k = rb)
theorem r_rule {ρ υ : ZS} {rb : Nat} {td : Int32} (hrb : rb < 2) (r35 : sI ρ 78 35 = nI rb) (r90 : sF ρ 90 rb = td) (r36 : sI ρ 78 36 = nI (560 * rb)) (he : xX9_e_L19 zFU 78 1 (mkH (eI (setF (setI (setF ρ 90 rb (td ||| 32)) 78 39 (nI 0)) 96 rb (nI (560 * rb))))) = some (mkH υ)) (h35 : sI υ 78 35 = nI rb) : xX9_readRule 78 (mkH ρ) = some (mkH (setF υ 97 rb (sI υ 78 36))) := by
  have g35 : sI (setI (setF ρ 90 rb (td ||| 32)) 78 39 (nI 0)) 78 35 = nI rb := by rw [sI_ne (by omega)]; exact r35
  have g36 : sI (setI (setF ρ 90 rb (td ||| 32)) 78 39 (nI 0)) 78 36 = nI (560 * rb) := by rw [sI_ne (by omega)]; exact r36
  rw [← r_e] at he
  unfold xX9_readRule
  rw [rR_78_20, Option.bind_some, rI_78_35, Option.bind_some, r35, ra_90 _ hrb, Option.bind_some, r90, wa_90 _ _ hrb, Option.bind_some, show (0 : Int32) = nI 0 from rfl, wI_78_39, Option.bind_some, rR_78_26, Option.bind_some, rI_78_35, Option.bind_some, rI_78_36, Option.bind_some, g35, g36, wa_96 _ _ hrb, Option.bind_some, is_78, gu_t, he, Option.bind_some, rR_78_27, Option.bind_some, rI_78_35, Option.bind_some, rI_78_36, Option.bind_some, h35, wa_97 _ _ hrb, Option.bind_some]
theorem two_rule {σ ρ : ZS} {u : Nat → Nat} {n rb : Nat} {t : ZT} {fo : Nat → Int32} {td : Int32} (L : LK σ ρ u n t) (hrb : rb < 2) (C : CQ σ fo 0 0) (r35 : sI ρ 78 35 = nI rb) (r87 : sF ρ 87 rb = nI 0) (r36 : sI ρ 78 36 = nI (560 * rb)) (r90 : sF ρ 90 rb = td) : (∃ (τ υ : ZS) (t' : ZT) (fo' : Nat → Int32) (len un : Nat), (0 < len ∧ un ≤ 30) ∧ (cRu (mkH σ) = some (1, mkH τ) ∧ rRu (mkH ρ) = some (mkH υ)) ∧ LK τ υ u n t' ∧ t.1 < t'.1 ∧ CQ τ fo' len un ∧ WFo fo' len ∧ (sF υ 87 rb = nI un ∧ sF υ 90 rb = td ||| 32 ∧ sF υ 96 rb = nI (560 * rb) ∧ sF υ 97 rb = nI (560 * rb + len)) ∧ (∀ i, i < len → cdR (fo' i) (sF υ 99 (560 * rb + i)) (sF υ 100 (560 * rb + i))) ∧ FG flG flT fj σ τ ∧ FG (ruG rb) fT fj ρ υ) ∨ (∃ (τ υ : ZS), (cRu (mkH σ) = some (0, mkH τ) ∧ rRu (mkH ρ) = some (mkH υ)) ∧ BAD τ υ ∧ FG flG flT fj σ τ ∧ FG (ruG rb) fT fj ρ υ) := by
  have hR := fun υ => r_rule (υ := υ) hrb r35 r90 r36
  have hF0 : FG (ruG rb) fT fj ρ (eI (setF (setI (setF ρ 90 rb (td ||| 32)) 78 39 (nI 0)) 96 rb (nI (560 * rb)))) := by
    unfold eI
    exact FG_t (FG_F (by unfold ruG; omega)) (FG_t (FG_I (by unfold fT; omega)) (FG_t (FG_F (by unfold ruG; omega)) (FG_t (FG_I (by unfold fT; omega)) (FG_t (FG_I (by unfold fT; omega)) (FG_t (FG_F (by unfold ruG fG; omega)) (FG_t (FG_F (by unfold ruG fG; omega)) (FG_I (by unfold fT; omega))))))))
  have L0 : LK σ (eI (setF (setI (setF ρ 90 rb (td ||| 32)) 78 39 (nI 0)) 96 rb (nI (560 * rb)))) u n t := by
    unfold eI
    exact LK_rI (by omega) (LK_rF (by omega) (LK_rF (by omega) (LK_rI (by omega) (LK_rI (by omega) (LK_rF (by omega) (LK_rI (by omega) (LK_rF (by omega) L)))))))
  have Q0 : RQ (eI (setF (setI (setF ρ 90 rb (td ||| 32)) 78 39 (nI 0)) 96 rb (nI (560 * rb)))) rb fo 0 1 0 0 := by
    unfold eI
    refine ⟨?_, ?_, ?_, ?_, sI_eq, ?_, fun i hi => absurd hi (by omega)⟩
    · rw [sI_ne (by omega)]
      show sI (setI (setI (setF (setI (setF ρ 90 rb (td ||| 32)) 78 39 (nI 0)) 96 rb (nI (560 * rb))) 78 38 (nI 0)) 78 37 (nI 0)) 78 35 = _
      rw [sI_ne (by omega), sI_ne (by omega)]
      show sI (setI (setF ρ 90 rb (td ||| 32)) 78 39 (nI 0)) 78 35 = _
      rw [sI_ne (by omega)]; exact r35
    · show sF (setF (setF (setI (setI (setF (setI (setF ρ 90 rb (td ||| 32)) 78 39 (nI 0)) 96 rb (nI (560 * rb))) 78 38 (nI 0)) 78 37 (nI 0)) 101 0 (nI 8)) 102 0 (nI 0)) 87 rb = _
      rw [sF_ne (by omega), sF_ne (by omega)]
      show sF (setF (setI (setF ρ 90 rb (td ||| 32)) 78 39 (nI 0)) 96 rb (nI (560 * rb))) 87 rb = _
      rw [sF_ne (by omega)]
      show sF (setF ρ 90 rb (td ||| 32)) 87 rb = _
      rw [sF_ne (by omega)]; exact r87
    · rw [sI_ne (by omega)]
      show sI (setI (setI (setF (setI (setF ρ 90 rb (td ||| 32)) 78 39 (nI 0)) 96 rb (nI (560 * rb))) 78 38 (nI 0)) 78 37 (nI 0)) 78 39 = _
      rw [sI_ne (by omega), sI_ne (by omega)]
      exact sI_eq (σ := setF ρ 90 rb (td ||| 32)) (a := 78) (k := 39) (v := nI 0)
    · rw [sI_ne (by omega)]
      show sI (setI (setI (setF (setI (setF ρ 90 rb (td ||| 32)) 78 39 (nI 0)) 96 rb (nI (560 * rb))) 78 38 (nI 0)) 78 37 (nI 0)) 78 36 = _
      rw [sI_ne (by omega), sI_ne (by omega)]
      show sI (setI (setF ρ 90 rb (td ||| 32)) 78 39 (nI 0)) 78 36 = _
      rw [sI_ne (by omega)]; exact r36
    · rw [sI_ne (by omega)]
      exact sI_eq (σ := setI (setF (setI (setF ρ 90 rb (td ||| 32)) 78 39 (nI 0)) 96 rb (nI (560 * rb))) 78 38 (nI 0)) (a := 78) (k := 37) (v := nI 0)
  have S0 : SK (eI (setF (setI (setF ρ 90 rb (td ||| 32)) 78 39 (nI 0)) 96 rb (nI (560 * rb)))) 1 (fun _ => 8) (fun _ => 0) := by
    intro i hi
    obtain rfl : i = 0 := by omega
    unfold eI
    refine ⟨?_, ?_, by decide, by decide⟩
    · show sF (setF (setF (setI (setI (setF (setI (setF ρ 90 rb (td ||| 32)) 78 39 (nI 0)) 96 rb (nI (560 * rb))) 78 38 (nI 0)) 78 37 (nI 0)) 101 0 (nI 8)) 102 0 (nI 0)) 101 0 = _
      rw [sF_ne (by omega), sF_eq]
    · show sF (setF (setF (setI (setI (setF (setI (setF ρ 90 rb (td ||| 32)) 78 39 (nI 0)) 96 rb (nI (560 * rb))) 78 38 (nI 0)) 78 37 (nI 0)) 101 0 (nI 8)) 102 0 (nI 0)) 102 0 = _
      rw [sF_eq]
  have F90 : sF (eI (setF (setI (setF ρ 90 rb (td ||| 32)) 78 39 (nI 0)) 96 rb (nI (560 * rb)))) 90 rb = td ||| 32 := by
    unfold eI
    show sF (setF (setF (setI (setI (setF (setI (setF ρ 90 rb (td ||| 32)) 78 39 (nI 0)) 96 rb (nI (560 * rb))) 78 38 (nI 0)) 78 37 (nI 0)) 101 0 (nI 8)) 102 0 (nI 0)) 90 rb = _
    rw [sF_ne (by omega), sF_ne (by omega)]
    show sF (setF (setI (setF ρ 90 rb (td ||| 32)) 78 39 (nI 0)) 96 rb (nI (560 * rb))) 90 rb = _
    rw [sF_ne (by omega)]
    exact sF_eq
  have F96 : sF (eI (setF (setI (setF ρ 90 rb (td ||| 32)) 78 39 (nI 0)) 96 rb (nI (560 * rb)))) 96 rb = nI (560 * rb) := by
    unfold eI
    show sF (setF (setF (setI (setI (setF (setI (setF ρ 90 rb (td ||| 32)) 78 39 (nI 0)) 96 rb (nI (560 * rb))) 78 38 (nI 0)) 78 37 (nI 0)) 101 0 (nI 8)) 102 0 (nI 0)) 96 rb = _
    rw [sF_ne (by omega), sF_ne (by omega)]
    exact sF_eq
  generalize eI (setF (setI (setF ρ 90 rb (td ||| 32)) 78 39 (nI 0)) 96 rb (nI (560 * rb))) = ρ1 at *
  have hn := L.2.1.2.1
  have hres := (rd_all (rb := rb) (u := u) (n := n) hrb 300).1 0 0 (by omega) (by omega) (by omega) σ ρ1 t fo 0 0 1 (fun _ => 8) (fun _ => 0) ⟨L0, C, Q0, S0, rfl, ⟨by omega, by omega, by omega, by omega, by omega⟩, ⟨by omega, fun i hi => absurd hi (by omega)⟩, Nat.le_refl _, Or.inl (show 6 < 8 by omega), fun z => absurd z (by omega)⟩
  have hc : ∀ h, cRu h = ((xRD 300).1 10 (nI 0) (nI 0) h).bind fun r118 => (if r118.1 = 0 then some ((0 : Int32), r118.2) else (z_gu (z_is r118.2 10 3) ((xX3_takeSign 10 (59 : Int32) r118.2).bind fun r127 => (if r127.1 = 0 then some ((0 : Int32), r127.2) else some ((1 : Int32), r127.2))))) := fun h => rfl
  generalize (xRD 300).1 = fL at *
  rcases hres with ⟨τ, υ, t', fo', len, un, p, j, K, G, c1, A, c2, c3⟩ | ⟨τ, υ, j, c1, c2, c3, c4, c5, c6⟩
  · obtain ⟨a1, a2, a3, a4, a5, a6, a7, a8, ⟨b1, b2, b3, b4⟩, a10, a11, a12, a13⟩ := A
    have hK0 : K 0 = 8 := (a6 0 (by omega)).1
    have ht' := TK_n a2.2.2.2.2.1
    obtain ⟨f, hf⟩ : ∃ f, zFU = f + 1 + 1 + j := ⟨zFU - 2 - j, by unfold zFU; omega⟩
    by_cases hr : rkT t' = 0
    · obtain ⟨υ2, k1, k2, ⟨k3, k4, k5⟩, k6, k7⟩ := two_end (rb := rb) (p := p) (len := len) (wi := 0) (un := un) (K := K) (G := G) (fo := fo') a2 hrb (by omega) (by omega) a4 a5 hK0 a7 (fun q hq => (a8 q hq).2) hr
      have hru := hR υ2 (by rw [hf, a1, k1]) k5
      rw [k3] at hru
      have L3 : LK τ (setF υ2 97 rb (nI (560 * rb + (len + p)))) u n t' := LK_rF (by omega) k2
      have hF3 : FG (ruG rb) fT fj ρ (setF υ2 97 rb (nI (560 * rb + (len + p)))) := FG_t hF0 (FG_t (FG_m (FG_t a13 k7) (fun a k z => Or.inl z) (fun a k z => z) (fun _ z => z)) (FG_F (by unfold ruG; omega)))
      have hlen : 0 < len + p := by
        by_cases hz : len + p = 0
        · rw [hz] at a11
          exact absurd a11 (by show ¬ (0 = 0 + 1); omega)
        · omega
      have y87 : sF (setF υ2 97 rb (nI (560 * rb + (len + p)))) 87 rb = nI un := by rw [sF_ne (by omega)]; exact k4
      have y90 : sF (setF υ2 97 rb (nI (560 * rb + (len + p)))) 90 rb = td ||| 32 := by rw [sF_ne (by omega), k7.1 90 rb (by unfold fG; omega), a13.1 90 rb (by unfold fG; omega)]; exact F90
      have y96 : sF (setF υ2 97 rb (nI (560 * rb + (len + p)))) 96 rb = nI (560 * rb) := by rw [sF_ne (by omega), k7.1 96 rb (by unfold fG; omega), a13.1 96 rb (by unfold fG; omega)]; exact F96
      have y97 : sF (setF υ2 97 rb (nI (560 * rb + (len + p)))) 97 rb = nI (560 * rb + (len + p)) := sF_eq
      have yC : ∀ i, i < len + p → cdR (fo' i) (sF (setF υ2 97 rb (nI (560 * rb + (len + p)))) 99 (560 * rb + i)) (sF (setF υ2 97 rb (nI (560 * rb + (len + p)))) 100 (560 * rb + i)) := fun i hi => by
        rw [sF_ne (by omega), sF_ne (by omega)]; exact k6 i hi
      generalize setF υ2 97 rb (nI (560 * rb + (len + p))) = υ3 at *
      rcases two_sign L3 (w := 59) (by omega) with ⟨τ4, υ4, s1, s2, s3, s4, s5, s6⟩ | ⟨τ4, υ4, s1, s2, s3, s4, s5⟩
      · left
        refine ⟨τ4, υ4, _, fo', len + p, un, ⟨hlen, b2⟩, ⟨?_, ?_⟩, s4, by omega, CQ_f s5 (by unfold cF; omega) (by unfold cF; omega) a3, a10, ⟨?_, ?_, ?_, ?_⟩, fun i hi => ?_, FG_t a12 (FG_cF s5), FG_t hF3 (FG_n s6 (fun a k z => Or.inl z))⟩
        · rw [hc, c1, Option.bind_some]
          dsimp only
          rw [if_neg (by decide), is_10, gu_t, show (59 : Int32) = nI 59 from rfl, s1, Option.bind_some]
          dsimp only
          rw [if_neg (by decide)]
        · unfold rRu
          rw [hru, Option.bind_some, r_238 L3]
          exact s2
        · rw [s6.1 87 (fun z => z)]; exact y87
        · rw [s6.1 90 (fun z => z)]; exact y90
        · rw [s6.1 96 (fun z => z)]; exact y96
        · rw [s6.1 97 (fun z => z)]; exact y97
        · rw [s6.1 99 (fun z => z), s6.1 100 (fun z => z)]; exact yC i hi
      · right
        refine ⟨τ4, υ4, ⟨?_, ?_⟩, s3, FG_t a12 (FG_cF s4), FG_t hF3 (FG_n s5 (fun a k z => Or.inl z))⟩
        · rw [hc, c1, Option.bind_some]
          dsimp only
          rw [if_neg (by decide), is_10, gu_t, show (59 : Int32) = nI 59 from rfl, s1, Option.bind_some]
          dsimp only
          rw [if_pos rfl]
        · unfold rRu
          rw [hru, Option.bind_some, r_238 L3]
          exact s2
    · right
      rcases c3 with c3 | ⟨h4, -, hcm⟩
      · exact absurd (show rkT t' < 1 from c3) (by omega)
      · have h38 : sI υ 78 38 = nI (p + 1) := by rw [Nat.add_comm p 1]; exact a4.2.2.2.2.1
        have hS : SK υ (p + 1) K G := by rw [Nat.add_comm p 1]; exact a5
        obtain ⟨τ3, υ3, k1, k2, k3, k4, k5⟩ := two_cmp (rb := rb) a2 h38 hS (by omega) hK0 h4 (by rw [Nat.add_comm p 1]; exact hcm)
        have h35 : sI υ3 78 35 = nI rb := by rw [k5.2.1 78 35 (by unfold fT rF; omega)]; exact a4.1
        have hru := hR υ3 (by rw [hf, a1, k2]) h35
        have hF3 : FG (ruG rb) fT fj ρ (setF υ3 97 rb (sI υ3 78 36)) := FG_t hF0 (FG_t (FG_m (FG_t a13 k5) (fun a k z => Or.inl z) (fun a k z => z) (fun _ z => z)) (FG_F (by unfold ruG; omega)))
        have hb3 : BAD τ3 (setF υ3 97 rb (sI υ3 78 36)) := k3
        refine ⟨τ3, _, ⟨?_, ?_⟩, hb3, FG_t a12 (FG_cF k4), hF3⟩
        · rw [hc, c1, Option.bind_some]
          dsimp only
          rw [if_neg (by decide), is_10, gu_t]
          unfold xX3_takeSign
          rw [is_10, gu_t, show (59 : Int32) = nI 59 from rfl, c_isS a2 (by omega), Option.bind_some, rk_41 hr (Or.inr rfl)]
          dsimp only
          rw [if_neg (show ¬ false = true by decide), if_pos rfl, is_10, gu_t, k1, Option.bind_some]
          dsimp only
          rw [zr0, Option.bind_some]
          dsimp only
          rw [if_pos rfl]
        · unfold rRu
          rw [hru, Option.bind_some]
          exact ng_238 hb3 (TR_g hF3 (fun k => by unfold ruG fG; omega) (by unfold fT rF; omega) L.2.1)
  · right
    have htn := TK_n L.2.2.2.2.1
    obtain ⟨f, hf⟩ : ∃ f, zFU = f + j := ⟨zFU - j, by unfold zFU; omega⟩
    have h35 : sI υ 78 35 = nI rb := by rw [c6.2.1 78 35 (by unfold fT rF; omega)]; exact Q0.1
    have hru := hR υ (by rw [hf, c2]) h35
    have hF3 : FG (ruG rb) fT fj ρ (setF υ 97 rb (sI υ 78 36)) := FG_t hF0 (FG_t (FG_m c6 (fun a k z => Or.inl z) (fun a k z => z) (fun _ z => z)) (FG_F (by unfold ruG; omega)))
    have hb3 : BAD τ (setF υ 97 rb (sI υ 78 36)) := c3
    refine ⟨τ, _, ⟨?_, ?_⟩, hb3, c5, hF3⟩
    · rw [hc, c1, Option.bind_some]
      dsimp only
      rw [if_pos rfl]
    · unfold rRu
      rw [hru, Option.bind_some]
      exact ng_238 hb3 (TR_g hF3 (fun k => by unfold ruG fG; omega) (by unfold fT rF; omega) L.2.1)
