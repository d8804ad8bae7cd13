/-! undo -/
theorem q_undo : QOK (xX8_undo 8) (xX9_undo 78) := by
  rintro σ ⟨bk, P, on, fo, len, X, I⟩
  obtain ⟨-, -, -, V, L, PR, ⟨dn, un, d1, d2, d3, d4, hle, hrow⟩, -⟩ := id I
  rcases Nat.eq_zero_or_pos dn with h0 | h0
  · subst h0
    refine ⟨0, σ, σ, ?_, ?_, ⟨rfl, rfl⟩, bk, P, on, fo, len, X, I⟩
    · simp only [xX8_undo, rR_8_11, Option.bind_some, rI_66_2, d1]
      rw [if_pos nI_0]
    · simp only [xX9_undo, rI_78_48, Option.bind_some, d3]
      rw [if_pos nI_0]
  · obtain ⟨i, rfl⟩ : ∃ i, dn = i + 1 := ⟨dn - 1, by omega⟩
    obtain ⟨p, hp, -, -⟩ := hrow i (by omega)
    have em : nI (i + 1) - (1 : Int32) = nI i := nI_pred i
    have hne : ¬ nI (i + 1) = 0 := nI_ne0 (by omega) (by omega)
    have r3 : sI (setI σ 66 2 (nI i)) 66 3 = nI un := by rw [sI_ne (by omega)]; exact d2
    have r2 : sI (setI (setI σ 66 2 (nI i)) 66 3 (nI (un + 1))) 66 2 = nI i := by rw [sI_ne (by omega), sI_eq]
    have hF : FR (fun _ => False) (fun a _ => a = 66) σ (setI (setI σ 66 2 (nI i)) 66 3 (nI (un + 1))) := FR_t (FR_I rfl) (FR_I rfl)
    have P2 : PTR (setI (setI σ 66 2 (nI i)) 66 3 (nI (un + 1))) := PTR_o (U := fun _ _ => False) (GF_f hF) rfl (fun _ _ z => z) PR
    have hx := c_exch (σ := setI (setI σ 66 2 (nI i)) 66 3 (nI (un + 1))) P2 (show i < 40 by omega) hp
    have g1 : GF xS xT xU σ (setNow (setQ (setI (setI σ 66 2 (nI i)) 66 3 (nI (un + 1))) 67 i (some (sNow σ))) p) := GF_t (GF_t (GF_m (GF_f (U := xU) hF) (fun _ z => z.elim) (fun a k z => Or.inl z) (fun _ _ z => z)) (GF_q rfl)) GF_now
    have s48 : sI (setNow (setQ (setI (setI σ 66 2 (nI i)) 66 3 (nI (un + 1))) 67 i (some (sNow σ))) p) 78 48 = nI (i + 1) := by
      show sI (setI (setI σ 66 2 (nI i)) 66 3 (nI (un + 1))) 78 48 = _
      rw [sI_ne (by omega), sI_ne (by omega)]; exact d3
    have s49 : sI (setNow (setQ (setI (setI σ 66 2 (nI i)) 66 3 (nI (un + 1))) 67 i (some (sNow σ))) p) 78 49 = nI un := by
      show sI (setI (setI σ 66 2 (nI i)) 66 3 (nI (un + 1))) 78 49 = _
      rw [sI_ne (by omega), sI_ne (by omega)]; exact d4
    have a1 : sI (setNow (setQ (setI (setI σ 66 2 (nI i)) 66 3 (nI (un + 1))) 67 i (some (sNow σ))) p) 66 2 = nI i := r2
    have a2 : sI (setNow (setQ (setI (setI σ 66 2 (nI i)) 66 3 (nI (un + 1))) 67 i (some (sNow σ))) p) 66 3 = nI (un + 1) := by
      show sI (setI (setI σ 66 2 (nI i)) 66 3 (nI (un + 1))) 66 3 = _
      exact sI_eq
    have aF : ∀ a, sF (setNow (setQ (setI (setI σ 66 2 (nI i)) 66 3 (nI (un + 1))) 67 i (some (sNow σ))) p) a = sF σ a := fun _ => rfl
    have aN : sNow (setNow (setQ (setI (setI σ 66 2 (nI i)) 66 3 (nI (un + 1))) 67 i (some (sNow σ))) p) = p := rfl
    have aK : sK (setNow (setQ (setI (setI σ 66 2 (nI i)) 66 3 (nI (un + 1))) 67 i (some (sNow σ))) p) = sK σ := rfl
    have aQ : ∀ k, sQ (setNow (setQ (setI (setI σ 66 2 (nI i)) 66 3 (nI (un + 1))) 67 i (some (sNow σ))) p) 67 k = if k = i then some (sNow σ) else sQ σ 67 k := fun k => by
      show sQ (setQ (setI (setI σ 66 2 (nI i)) 66 3 (nI (un + 1))) 67 i (some (sNow σ))) 67 k = _
      by_cases h : k = i
      · rw [if_pos h, h, sQ_eq]
      · rw [if_neg h, sQ_ne (by omega)]
        rfl
    have hc : xX8_undo 8 (mkH σ) = some (1, mkH (setNow (setQ (setI (setI σ 66 2 (nI i)) 66 3 (nI (un + 1))) 67 i (some (sNow σ))) p)) := by
      simp only [xX8_undo, xX1_takeBack, rR_8_11, Option.bind_some, rI_66_2, d1, if_neg hne, rNow, is_66, gu_t, em, wI_66_2, rI_66_3, r3, nI_s, wI_66_3, r2]
      have hx2 : xX1_exchange 66 (nI i) (sNow σ) (mkH (setI (setI σ 66 2 (nI i)) 66 3 (nI (un + 1)))) = some (p, mkH (setQ (setI (setI σ 66 2 (nI i)) 66 3 (nI (un + 1))) 67 i (some (sNow σ)))) := hx
      rw [hx2, Option.bind_some, Option.bind_some, wNow, Option.bind_some]
    generalize setNow (setQ (setI (setI σ 66 2 (nI i)) 66 3 (nI (un + 1))) 67 i (some (sNow σ))) p = τ at *
    have q48 : sI (setI (setI τ 78 48 (nI i)) 78 49 (nI (un + 1))) 78 48 = nI i := by rw [sI_ne (by omega), sI_eq]
    have q49 : sI (setI τ 78 48 (nI i)) 78 49 = nI un := by rw [sI_ne (by omega)]; exact s49
    obtain ⟨υ, u1, u2, u3, u4⟩ := r_swap (σ := setI (setI τ 78 48 (nI i)) 78 49 (nI (un + 1))) (ac := i) (by omega) q48
    have gT : FR xS xT τ (setI (setI τ 78 48 (nI i)) 78 49 (nI (un + 1))) := FR_t (FR_I (Or.inr ⟨rfl, Or.inl rfl⟩)) (FR_I (Or.inr ⟨rfl, Or.inr rfl⟩))
    have gU : FR xS xT τ υ := FR_t gT (FR_m u4 (fun _ z => z) (fun _ _ z => z.elim))
    have hQ : ∀ k, sQ υ 67 k = sQ τ 67 k := fun k => by show υ.2.2.2.2.2.2.1 67 k = _; rw [gU.2.2]
    refine ⟨1, τ, υ, hc, ?_, ⟨g1.2.2.2.2.2.2.1, (FR_X gU).trans g1.2.2.2.2.2.2.1⟩, bk, P, on, fo, len, X, IV_x (i := i) (p := p) (dn := i + 1) (un := un) (d2 := i) (u2 := un + 1) I (by omega) hle (by omega) hrow hp (GF_t g1 (GF_f gU)) (by rw [FR_K gU, aK]) (by rw [FR_now gU, aN]) (fun k => by rw [hQ, aQ]) ?_ ?_ ?_ ?_ (fun j hj => ?_) (fun k hk => ?_)⟩
    · simp only [xX9_undo, rI_78_48, Option.bind_some, s48, if_neg hne, em, wI_78_48, rI_78_49, q49, nI_s, wI_78_49, is_78, gu_t, u1]
    · rw [u4.2.1 66 2 (fun z => z), sI_ne (by omega), sI_ne (by omega)]; exact a1
    · rw [u4.2.1 66 3 (fun z => z), sI_ne (by omega), sI_ne (by omega)]; exact a2
    · rw [u4.2.1 78 48 (fun z => z)]; exact q48
    · rw [u4.2.1 78 49 (fun z => z), sI_eq]
    · have := u2 j hj
      refine ⟨this.1.trans ?_, this.2.trans ?_⟩
      · show sF τ 109 _ = _; rw [aF]
      · show sF τ 104 j = _; rw [aF]
    · refine (u3 k hk).trans ?_
      show sF τ 109 k = _; rw [aF]
