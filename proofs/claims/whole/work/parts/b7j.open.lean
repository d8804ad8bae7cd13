/-! a bracket or a not, opened; a unit refused: the reference -/
/-- the reference takes a bracket or a not -/
theorem r_open {σ ρ : ZS} {u : Nat → Nat} {n rb d wi un len : Nat} {t : ZT} {K G : Nat → Nat} {fo : Nat → Int32} {nt : Bool} (L : LK σ ρ u n t) (hrb : rb < 2) (Q : RQ ρ rb fo len (d + 1) wi un) (S : SK ρ (d + 1) K G) (hd : d + 1 < 90) (hun : un ≤ 30) (hwi : wi < 7) (hnt : ntB (K d) t = nt) (h : nt = true ∨ (sB t 40 = true ∧ un < 30)) : ∃ υ, (∀ f, xX9_e_L19 (f + 1) 78 1 (mkH ρ) = xX9_e_L19 f 78 1 (mkH υ)) ∧ (∀ τ, LK τ ρ u n t → ∃ τ', xX3_advance 10 (mkH τ) = some (mkH τ') ∧ LK τ' υ u n (nx (gu0 u n) n t) ∧ FR (fun _ => False) dT τ τ') ∧ RQ υ rb fo len (d + 2) (wi + 1) (un + if nt then 0 else 1) ∧ SK υ (d + 2) (fun i => if i = d + 1 then (if nt then 3 else 7) else K i) (fun i => if i = d + 1 then 126 else G i) ∧ FG (fG rb) fT fj ρ υ := by
  have hwb := whT_b t
  have L1 : LK σ (setI (setF ρ 87 rb (nI (un + if nt then 0 else 1))) 78 39 (nI (un + if nt then 0 else 1))) u n t := LK_rI (by omega) (LK_rF (by omega) L)
  obtain ⟨τ, υ1, s1, s2, s3, s4, s5⟩ := LK_s L1
  obtain ⟨q1, q2, q3, q4, q5, q6, q7⟩ := Q
  have g38 : sI υ1 78 38 = nI (d + 1) := by rw [s5.2.1 78 38 (by unfold eT; omega), sI_ne (by omega)]; exact q5
  have g37 : sI υ1 78 37 = nI wi := by rw [s5.2.1 78 37 (by unfold eT; omega), sI_ne (by omega)]; exact q6
  have hor : (nt || sB t 40) = true := by
    rcases h with h | ⟨h, -⟩
    · rw [h]; rfl
    · rw [h]; simp
  have hrf : rfu (K d) t un wi = false := by
    unfold rfu
    rw [hnt, decide_eq_false (show ¬ wi = 7 by omega)]
    rcases h with h | ⟨h, h2⟩
    · rw [h]; simp
    · rw [h, decide_eq_false (show ¬ un = 30 by omega)]; simp
  have hu : xX9_unit 78 (mkH ρ) = some (1, mkH (setI (setI (setF (setF υ1 101 (d + 1) (nI (if nt then 3 else 7))) 102 (d + 1) (nI 126)) 78 38 (nI (d + 1 + 1))) 78 37 (nI (wi + 1)))) := by
    rw [r_uni L hrb ⟨q1, q2, q3, q4, q5, q6, q7⟩ S (by omega) hun (by omega), hrf, if_neg (by decide), hnt, r_147 (nt := nt) (br := sB t 40) L.2.2.2.2.2.1 hrb q1 q2 q3 (show whT t < 2 ^ 31 by omega)]
    exact r_208b hor s2 g38 (by omega) g37
  have kI : ∀ k, ¬ eT 78 k → k ≠ 37 → k ≠ 38 → k ≠ 39 → sI (setI (setI (setF (setF υ1 101 (d + 1) (nI (if nt then 3 else 7))) 102 (d + 1) (nI 126)) 78 38 (nI (d + 1 + 1))) 78 37 (nI (wi + 1))) 78 k = sI ρ 78 k := fun k h1 h2 h3 h4 => by
    rw [sI_ne (by omega), sI_ne (by omega)]
    show sI υ1 78 k = _
    rw [s5.2.1 78 k h1, sI_ne (by omega)]
    rfl
  have kF : ∀ a i, a ≠ 101 → a ≠ 102 → a ≠ 87 → sF (setI (setI (setF (setF υ1 101 (d + 1) (nI (if nt then 3 else 7))) 102 (d + 1) (nI 126)) 78 38 (nI (d + 1 + 1))) 78 37 (nI (wi + 1))) a i = sF ρ a i := fun a i h1 h2 h3 => by
    show sF (setF (setF υ1 101 (d + 1) (nI (if nt then 3 else 7))) 102 (d + 1) (nI 126)) a i = _
    rw [sF_ne (by omega), sF_ne (by omega), s5.1 a (fun z => z)]
    show sF (setF ρ 87 rb (nI (un + if nt then 0 else 1))) a i = _
    rw [sF_ne (by omega)]
  have hFr : FG (fG rb) fT fj ρ (setI (setI (setF (setF υ1 101 (d + 1) (nI (if nt then 3 else 7))) 102 (d + 1) (nI 126)) 78 38 (nI (d + 1 + 1))) 78 37 (nI (wi + 1))) := FG_t (FG_F (by unfold fG; omega)) (FG_t (FG_I (k := 39) (by unfold fT; omega)) (FG_t (FG_n s5 (fun a k z => Or.inl (eT_rF z))) (FG_t (FG_F (by unfold fG; omega)) (FG_t (FG_F (by unfold fG; omega)) (FG_t (FG_I (by unfold fT; omega)) (FG_I (by unfold fT; omega)))))))
  refine ⟨_, fun f => e_u L.2.2.2.2.2.1 q5 (by omega) hu f, fun τ0 Lt => ?_, ⟨?_, ?_, ?_, ?_, ?_, sI_eq, fun i hi => ?_⟩, fun i hi => ?_, hFr⟩
  · obtain ⟨τ', υ', a1, a2, a3, a4, a5⟩ := LK_s (LK_rI (a := 78) (k := 39) (v := nI (un + if nt then 0 else 1)) (by omega) (LK_rF (a := 87) (k := rb) (v := nI (un + if nt then 0 else 1)) (by omega) Lt))
    have he : mkH υ' = mkH υ1 := Option.some.inj (a2.symm.trans s2)
    refine ⟨τ', a1, ?_, a4⟩
    have L3 : LK τ' υ1 u n (nx (gu0 u n) n t) := ⟨a3.1, s3.2.1, a3.2.2.1, s3.2.2.2.1, s3.2.2.2.2.1, s3.2.2.2.2.2.1, a3.2.2.2.2.2.2.1, a3.2.2.2.2.2.2.2.1, s3.2.2.2.2.2.2.2.2⟩
    exact LK_rI (by omega) (LK_rI (by omega) (LK_rF (by omega) (LK_rF (by omega) L3)))
  · rw [kI 35 (by unfold eT; omega) (by omega) (by omega) (by omega)]; exact q1
  · show sF (setF (setF υ1 101 (d + 1) (nI (if nt then 3 else 7))) 102 (d + 1) (nI 126)) 87 rb = _
    rw [sF_ne (by omega), sF_ne (by omega), s5.1 87 (fun z => z)]
    exact sF_eq
  · rw [sI_ne (by omega), sI_ne (by omega)]
    show sI υ1 78 39 = _
    rw [s5.2.1 78 39 (by unfold eT; omega), sI_eq]
  · rw [kI 36 (by unfold eT; omega) (by omega) (by omega) (by omega)]; exact q4
  · rw [sI_ne (by omega), sI_eq]
  · rw [kF 99 _ (by omega) (by omega) (by omega), kF 100 _ (by omega) (by omega) (by omega)]
    exact q7 i hi
  · dsimp only
    show sF (setF (setF υ1 101 (d + 1) (nI (if nt then 3 else 7))) 102 (d + 1) (nI 126)) 101 i = _ ∧ sF (setF (setF υ1 101 (d + 1) (nI (if nt then 3 else 7))) 102 (d + 1) (nI 126)) 102 i = _ ∧ _
    by_cases hid : i = d + 1
    · subst hid
      rw [if_pos rfl, if_pos rfl, sF_ne (by omega), sF_eq, sF_eq]
      exact ⟨rfl, rfl, by split <;> omega, by split <;> omega⟩
    · rw [if_neg hid, if_neg hid, sF_ne (by omega), sF_ne (by omega), sF_ne (by omega), sF_ne (by omega), s5.1 101 (fun z => z), s5.1 102 (fun z => z)]
      exact S i (by omega)
