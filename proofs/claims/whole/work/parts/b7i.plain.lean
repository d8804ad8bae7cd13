/-! a plain unit, in step -/
theorem two_plain {σ ρ : ZS} {u : Nat → Nat} {n rb d wi un len : Nat} {t : ZT} {K G : Nat → Nat} {fo : Nat → Int32} (L : LK σ ρ u n t) (hrb : rb < 2) (C : CQ σ fo len un) (Q : RQ ρ rb fo len (d + 1) wi un) (S : SK ρ (d + 1) K G) (hd : d < 90) (hun : un < 30) (hwi : wi ≤ 7) (hl : len < 280) (hnt : ntB (K d) t = false) (hb : sB t 40 = false) (hp : isP t) : ∃ τ υ, (∀ fL fU ar, xX3_readUnit_b fL fU 10 ar (mkH σ) = some (1, mkH τ)) ∧ (∀ f, xX9_e_L19 (f + 1) 78 1 (mkH ρ) = xX9_e_L19 f 78 0 (mkH υ)) ∧ LK τ υ u n (nx (gu0 u n) n t) ∧ CQ τ (upf fo len (unC t)) (len + 1) (un + 1) ∧ RQ υ rb (upf fo len (unC t)) (len + 1) (d + 1) wi (un + 1) ∧ SK υ (d + 1) K G ∧ FG (fun a k => a = 17) (fun a k => cF a k ∨ (a = 11 ∧ (k = 8 ∨ k = 15))) fj σ τ ∧ FG (fG rb) fT fj ρ υ := by
  have K0 := L.2.2.2.2.1
  have l4 := L.2.2.2.1
  obtain ⟨hR, -⟩ := unC_R K0 hp
  have hwb := whT_b t
  have L1 : LK (setI (setI (setF σ 17 len (unC t)) 11 15 (nI (len + 1))) 11 8 (nI (un + 1))) (setI (setF ρ 87 rb (nI (un + 1))) 78 39 (nI (un + 1))) u n t := LK_cI (by omega) (LK_cI (by omega) (LK_cF (by omega) (LK_rI (by omega) (LK_rF (by omega) L))))
  obtain ⟨τ, υ1, s1, s2, s3, s4, s5⟩ := LK_s L1
  obtain ⟨q1, q2, q3, q4, q5, q6, q7⟩ := Q
  have g36 : sI υ1 78 36 = nI (560 * rb + len) := by rw [s5.2.1 78 36 (by unfold eT; omega), sI_ne (by omega)]; exact q4
  have hrf : rfu (K d) t un wi = false := by
    unfold rfu
    rw [hnt, hb, decide_eq_false (show ¬ un = 30 by omega)]
    rcases hp with h | ⟨h, h1, h2⟩
    · rw [decide_eq_true h]; simp
    · have hw : ¬ whT t = 0 := by
        unfold whT
        have hx : t.2.2.2 = 15 ∨ t.2.2.2 = 16 ∨ t.2.2.2 = 17 ∨ t.2.2.2 = 18 := by omega
        unfold wB
        rw [h]
        generalize t.2.2.2 = x at *
        rcases hx with rfl | rfl | rfl | rfl <;> decide
      rw [decide_eq_false hw]; simp
  have hnum : (if whT t = 0 then sI ρ 78 9 else 0) = (if whT t = 0 then nI t.2.2.2 else 0) := by
    by_cases hw : whT t = 0
    · rw [if_pos hw, if_pos hw]
      rcases hp with h | ⟨h, h1, h2⟩
      · exact l4.2.2.2.2 h
      · exfalso
        revert hw
        unfold whT
        have hx : t.2.2.2 = 15 ∨ t.2.2.2 = 16 ∨ t.2.2.2 = 17 ∨ t.2.2.2 = 18 := by omega
        unfold wB
        rw [h]
        generalize t.2.2.2 = x at *
        rcases hx with rfl | rfl | rfl | rfl <;> decide
    · rw [if_neg hw, if_neg hw]
  have hu : xX9_unit 78 (mkH ρ) = some (0, mkH (setI (setF (setF υ1 99 (560 * rb + len) (if whT t = 0 then 110 else nI (whT t))) 100 (560 * rb + len) (if whT t = 0 then nI t.2.2.2 else 0)) 78 36 (nI (560 * rb + len + 1)))) := by
    rw [r_uni L hrb ⟨q1, q2, q3, q4, q5, q6, q7⟩ S hd (by omega) hwi, hrf, if_neg (by decide), hnt, hb, r_147 (nt := false) (br := false) L.2.2.2.2.2.1 hrb q1 q2 q3 (show whT t < 2 ^ 31 by omega), hnum]
    exact r_208u s2 g36 (by omega) (by omega)
  have kI : ∀ k, ¬ eT 78 k → k ≠ 36 → k ≠ 39 → sI (setI (setF (setF υ1 99 (560 * rb + len) (if whT t = 0 then 110 else nI (whT t))) 100 (560 * rb + len) (if whT t = 0 then nI t.2.2.2 else 0)) 78 36 (nI (560 * rb + len + 1))) 78 k = sI ρ 78 k := fun k h1 h2 h3 => by
    rw [sI_ne (by omega)]
    show sI υ1 78 k = _
    rw [s5.2.1 78 k h1, sI_ne (by omega)]
    rfl
  have kF : ∀ a i, a ≠ 99 → a ≠ 100 → a ≠ 87 → sF (setI (setF (setF υ1 99 (560 * rb + len) (if whT t = 0 then 110 else nI (whT t))) 100 (560 * rb + len) (if whT t = 0 then nI t.2.2.2 else 0)) 78 36 (nI (560 * rb + len + 1))) a i = sF ρ a i := fun a i h1 h2 h3 => by
    show sF (setF (setF υ1 99 (560 * rb + len) (if whT t = 0 then 110 else nI (whT t))) 100 (560 * rb + len) (if whT t = 0 then nI t.2.2.2 else 0)) a i = _
    rw [sF_ne (by omega), sF_ne (by omega), s5.1 a (fun z => z)]
    show sF (setF ρ 87 rb (nI (un + 1))) a i = _
    rw [sF_ne (by omega)]
  have hFr : FG (fG rb) fT fj ρ (setI (setF (setF υ1 99 (560 * rb + len) (if whT t = 0 then 110 else nI (whT t))) 100 (560 * rb + len) (if whT t = 0 then nI t.2.2.2 else 0)) 78 36 (nI (560 * rb + len + 1))) := FG_t (FG_F (by unfold fG; omega)) (FG_t (FG_I (k := 39) (by unfold fT; omega)) (FG_t (FG_n s5 (fun a k z => Or.inl (eT_rF z))) (FG_t (FG_F (by unfold fG; omega)) (FG_t (FG_F (by unfold fG; omega)) (FG_I (by unfold fT; omega))))))
  refine ⟨τ, _, fun fL fU ar => c_plain L C hl hun (by rw [hb]; decide) hp s1, fun f => e_u L.2.2.2.2.2.1 q5 hd hu f, LK_rI (by omega) (LK_rF (by omega) (LK_rF (by omega) s3)), ⟨?_, ?_, fun i hi => ?_⟩, ⟨?_, ?_, ?_, sI_eq, ?_, ?_, fun i hi => ?_⟩, fun i hi => ?_, ?_, hFr⟩
  · rw [s4.2.1 11 8 (by unfold dT; omega), sI_eq]
  · rw [s4.2.1 11 15 (by unfold dT; omega), sI_ne (by omega), sI_eq]
  · rw [s4.1 17 (fun z => z)]
    show sF (setF σ 17 len (unC t)) 17 i = upf fo len (unC t) i
    unfold upf
    by_cases hil : i = len
    · subst hil; rw [sF_eq, if_pos rfl]
    · rw [sF_ne (by omega), if_neg hil]; exact C.2.2 i (by omega)
  · rw [kI 35 (by unfold eT; omega) (by omega) (by omega)]; exact q1
  · show sF (setF (setF υ1 99 (560 * rb + len) (if whT t = 0 then 110 else nI (whT t))) 100 (560 * rb + len) (if whT t = 0 then nI t.2.2.2 else 0)) 87 rb = _
    rw [sF_ne (by omega), sF_ne (by omega), s5.1 87 (fun z => z)]
    exact sF_eq
  · rw [sI_ne (by omega)]
    show sI υ1 78 39 = _
    rw [s5.2.1 78 39 (by unfold eT; omega), sI_eq]
  · rw [kI 38 (by unfold eT; omega) (by omega) (by omega)]; exact q5
  · rw [kI 37 (by unfold eT; omega) (by omega) (by omega)]; exact q6
  · show cdR (upf fo len (unC t) i) (sF (setF (setF υ1 99 (560 * rb + len) (if whT t = 0 then 110 else nI (whT t))) 100 (560 * rb + len) (if whT t = 0 then nI t.2.2.2 else 0)) 99 (560 * rb + i)) (sF (setF (setF υ1 99 (560 * rb + len) (if whT t = 0 then 110 else nI (whT t))) 100 (560 * rb + len) (if whT t = 0 then nI t.2.2.2 else 0)) 100 (560 * rb + i))
    unfold upf
    by_cases hil : i = len
    · subst hil
      rw [if_pos rfl, sF_ne (by omega), sF_eq, sF_eq]
      exact hR
    · rw [if_neg hil, sF_ne (by omega), sF_ne (by omega), sF_ne (by omega), sF_ne (by omega), s5.1 99 (fun z => z), s5.1 100 (fun z => z)]
      show cdR (fo i) (sF (setF ρ 87 rb (nI (un + 1))) 99 (560 * rb + i)) (sF (setF ρ 87 rb (nI (un + 1))) 100 (560 * rb + i))
      rw [sF_ne (by omega), sF_ne (by omega)]
      exact q7 i (by omega)
  · rw [kF 101 i (by omega) (by omega) (by omega), kF 102 i (by omega) (by omega) (by omega)]
    exact S i hi
  · exact FG_t (FG_F (a := 17) (k := len) rfl) (FG_t (FG_I (Or.inr ⟨rfl, Or.inr rfl⟩)) (FG_t (FG_I (Or.inr ⟨rfl, Or.inl rfl⟩)) (FG_f s4 (fun a k z => Or.inl (dT_cF z)))))
