/-! the reference's step: reports -/
section RG
variable {σ : ZS} {bk len : Nat} {P : Nat → Nat} {on fo : Nat → Int32}
theorem up1_c {A B : Nat → Int32} {k : Nat} {v : Int32} (h : A = B) : up1 A k v = up1 B k v := by rw [h]
theorem r_due {s n : Nat} (hs : s < 6) (hn : n ≤ 3) (ho : sF σ 104 (24 + s) = nI n) : xX9_dueOf 78 (nI s) (sF σ 104 518) (mkH σ) = some ((match duA (sF σ 104) s n 0 with | none => -1 | some i => nI i), mkH σ) := by
  have key : ∀ f i e, i + f = n → xX9_dueOf_L2 (e + f + 1) 78 (nI s) (sF σ 104 518) (nI i) (mkH σ) = some ((match duA (sF σ 104) s f i with | none => -1 | some i => nI i), mkH σ) := by
    intro f
    induction f with
    | zero =>
      intro i e hi
      show xX9_dueOf_B2 (xX9_dueOf_L2 (e + 0)) 78 (nI s) (sF σ 104 518) (nI i) (mkH σ) = _
      simp only [xX9_dueOf_B2, rR_78_41, Option.bind_some, nl_24, nI_add, ra_104 σ (show 24 + s < 521 by omega), ho]
      rw [if_pos ((nI_leI (by omega) (by omega)).mpr (by omega))]
      rfl
    | succ f ih =>
      intro i e hi
      show xX9_dueOf_B2 (xX9_dueOf_L2 (e + (f + 1))) 78 (nI s) (sF σ 104 518) (nI i) (mkH σ) = _
      simp only [xX9_dueOf_B2, rR_78_41, Option.bind_some, nl_24, nI_add, ra_104 σ (show 24 + s < 521 by omega), ho]
      rw [if_neg (fun z => by have := (nI_leI (by omega) (by omega)).mp z; omega)]
      simp only [nl_30, nl_66, nl_3, nl_517, pk_mul, nI_add, ra_104 σ (show 30 + 3 * s + i < 521 by omega), ra_104 σ (show 66 + 3 * s + i < 521 by omega), ra_104 σ (show 517 < 521 by omega), Option.bind_some, nI_s]
      rw [duA, show e + (f + 1) = e + f + 1 by omega]
      by_cases h1 : sF σ 104 (30 + 3 * s + i) = sF σ 104 518
      · rw [if_pos h1]
        by_cases h2 : sF σ 104 517 < sF σ 104 (66 + 3 * s + i)
        · rw [if_pos h2, if_neg (fun z => absurd z.2 (Int32.not_le.mpr h2))]
          exact ih (i + 1) e (by omega)
        · rw [if_neg h2, if_pos ⟨h1, Int32.not_lt.mp h2⟩]
      · rw [if_neg h1, if_neg (fun z => h1 z.1)]
        exact ih (i + 1) e (by omega)
  obtain ⟨e, he⟩ := zfu n (by omega)
  unfold xX9_dueOf
  rw [he]
  exact key n 0 e (by omega)
theorem r_rep115 {s i : Nat} (R : RP σ bk P) (W : PW P) (hs : s < 6) (hi : i < 3) : ∃ τ, xX9_report_B115 78 (nI s) (nI (3 * s + i)) (mkH σ) = some (if m100 (seedS (sF σ 104 519)) < nI (P 6) then 1 else 0, mkH τ) ∧ sF τ 104 = drA (sF σ 104) ∧ sF τ 107 = up1 (sF σ 107) s (sF σ 104 (48 + 3 * s + i) + 1) ∧ sF τ 108 = sF σ 108 ∧ FR rS rT σ τ := by
  have hF1 : FR rS rT σ (setF σ 107 s (sF σ 104 (48 + 3 * s + i) + 1)) := FR_F (by unfold rS; omega)
  have hF2 := FR_t hF1 (FR_4 (σ := setF σ 107 s (sF σ 104 (48 + 3 * s + i) + 1)) (k := 519) (v := seedS (sF σ 104 519)))
  have R2 := RP_r hF2 R
  refine ⟨setF (setF σ 107 s (sF σ 104 (48 + 3 * s + i) + 1)) 104 519 (seedS (sF σ 104 519)), ?_, ?_, ?_, ?_, hF2⟩
  · have rd := r_draw (σ := setF σ 107 s (sF σ 104 (48 + 3 * s + i) + 1))
    rw [show sF (setF σ 107 s (sF σ 104 (48 + 3 * s + i) + 1)) 104 519 = sF σ 104 519 from sF_ne (by omega)] at rd
    simp only [xX9_report_B115, rR_78_45, rR_78_41, Option.bind_some, nl_48, nI_add, ← Nat.add_assoc, ra_104 σ (show 48 + 3 * s + i < 521 by omega), wa_107 σ _ hs, is_78, gu_t, rd, rR_78_18, rI_78_34, R2.1, ra_88 _ R2.2.1, R2.2.2.2.2.2.2.2.2.1]
    show (if nI (P 6) ≤ m100 (seedS (sF σ 104 519)) then _ else _) = _
    by_cases h : nI (P 6) ≤ m100 (seedS (sF σ 104 519))
    · rw [if_pos h, if_neg (Int32.not_lt.mpr h)]
    · rw [if_neg h, if_pos (Int32.not_le.mp h)]
  · rw [sF_up]
    have : sF (setF σ 107 s (sF σ 104 (48 + 3 * s + i) + 1)) 104 = sF σ 104 := by funext j; exact sF_ne (by omega)
    rw [this]
    rfl
  · have : ∀ j, sF (setF (setF σ 107 s (sF σ 104 (48 + 3 * s + i) + 1)) 104 519 (seedS (sF σ 104 519))) 107 j = sF (setF σ 107 s (sF σ 104 (48 + 3 * s + i) + 1)) 107 j := fun j => sF_ne (by omega)
    funext j
    rw [this, sF_up]
  · funext j
    rw [sF_ne (by omega), sF_ne (by omega)]
theorem up1_dr {A : Nat → Int32} {k : Nat} {v w : Int32} (h : k ≠ 519) : up1 (drA (up1 A k v)) k w = up1 (drA A) k w := by
  funext j
  by_cases hj : j = k
  · rw [hj, up1_e, up1_e]
  · rw [up1_n hj, up1_n hj]
    unfold drA
    by_cases h9 : j = 519
    · rw [h9, up1_e, up1_e, up1_n (Ne.symm h)]
    · rw [up1_n h9, up1_n h9, up1_n hj]
theorem drA_9 {A B : Nat → Int32} (h : A 519 = B 519) : drA A 519 = drA B 519 := by
  unfold drA
  rw [up1_e, up1_e, h]
theorem owA_dr {A : Nat → Int32} {s i : Nat} {v t l f : Int32} (hs : s < 6) (hi : i < 3) : owA (drA (drA (up1 A (48 + 3 * s + i) v))) s i t l f = owA (drA (drA A)) s i t l f := by
  funext j
  by_cases h1 : j = 30 + 3 * s + i
  · rw [h1, owA_1 hs hi, owA_1 hs hi]
  · by_cases h2 : j = 48 + 3 * s + i
    · rw [h2, owA_2 hs hi, owA_2 hs hi]
    · by_cases h3 : j = 66 + 3 * s + i
      · rw [h3, owA_3, owA_3]
      · rw [owA_n h1 h2 h3, owA_n h1 h2 h3]
        by_cases h9 : j = 519
        · subst h9
          exact drA_9 (drA_9 (up1_n (by omega)))
        · rw [drA_n h9, drA_n h9, drA_n h9, drA_n h9, up1_n h2]
theorem WF_0l {P : Nat → Nat} {A : Nat → Int32} (V : WF 1 (P 0) (P 1) A) {s i : Nat} (hs : s < 6) (hi : i < tn (A (24 + s))) : WF 0 (P 0) (P 1) (up1 A (48 + 3 * s + i) (A (48 + 3 * s + i) - 1)) := by
  have h3 := (WF_own V hs).2
  obtain ⟨-, l, l1, l2, l3⟩ := V.2.1 s i hs (by omega) hi
  rw [l3, nl_1, pk_sub l1]
  exact WF_le (WF_01 V) hs (by omega) ⟨Nat.zero_le _, by omega⟩
theorem r_report {s i : Nat} (E : RE σ bk P on fo len) (W : PW P) (V : WF 1 (P 0) (P 1) (sF σ 104)) (hs : s < 6) (hi : i < tn (sF σ 104 (24 + s))) (hd : sF σ 104 (30 + 3 * s + i) = sF σ 104 518) : ∃ τ, xX9_report 78 (nI s) (nI i) (mkH σ) = some (if m100 (seedS (rpA P s i (sF σ 104) 519)) < nI (P 6) then 1 else 0, mkH τ) ∧ sF τ 104 = drA (rpA P s i (sF σ 104)) ∧ sF τ 107 = up1 (sF σ 107) s (rpA P s i (sF σ 104) (48 + 3 * s + i) + 1) ∧ sF τ 108 = up1 (sF σ 108) s (rpA P s i (sF σ 104) (30 + 3 * s + i)) ∧ FR rS rT σ τ := by
  have h3 := (WF_own V hs).2
  have hm2 := W.2.2.1
  obtain ⟨t0, ht0, e0⟩ := V.2.2.2.1
  have hi3 : i < 3 := by omega
  -- the heap behind the two first writes
  have hF1 : FR rS rT σ (setF σ 104 (48 + 3 * s + i) (sF σ 104 (48 + 3 * s + i) - 1)) := FR_4
  have hF2 : FR rS rT σ (setF (setF σ 104 (48 + 3 * s + i) (sF σ 104 (48 + 3 * s + i) - 1)) 108 s (sF σ 104 518)) := FR_t hF1 (FR_F (by unfold rS; omega))
  have hA2 : sF (setF (setF σ 104 (48 + 3 * s + i) (sF σ 104 (48 + 3 * s + i) - 1)) 108 s (sF σ 104 518)) 104 = up1 (sF σ 104) (48 + 3 * s + i) (sF σ 104 (48 + 3 * s + i) - 1) := by
    rw [← sF_up (σ := σ)]
    funext j
    exact sF_ne (by omega)
  have h107 : sF (setF (setF σ 104 (48 + 3 * s + i) (sF σ 104 (48 + 3 * s + i) - 1)) 108 s (sF σ 104 518)) 107 = sF σ 107 := by
    funext j
    rw [sF_ne (by omega), sF_ne (by omega)]
  have h108 : sF (setF (setF σ 104 (48 + 3 * s + i) (sF σ 104 (48 + 3 * s + i) - 1)) 108 s (sF σ 104 518)) 108 = up1 (sF σ 108) s (sF σ 104 518) := by
    rw [sF_up]
    refine up1_c ?_
    funext j
    exact sF_ne (by omega)
  simp only [xX9_report, rR_78_41, rR_78_46, Option.bind_some, nl_48, nl_3, nl_518, pk_mul, nI_add, ← Nat.add_assoc, ra_104 σ (show 518 < 521 by omega), ra_104 σ (show 48 + 3 * s + i < 521 by omega), wa_104 σ _ (show 48 + 3 * s + i < 521 by omega), wa_108 (setF σ 104 (48 + 3 * s + i) (sF σ 104 (48 + 3 * s + i) - 1)) _ hs]
  generalize hσ2 : setF (setF σ 104 (48 + 3 * s + i) (sF σ 104 (48 + 3 * s + i) - 1)) 108 s (sF σ 104 518) = σ2 at *
  have E2 := RE_r hF2 E
  have e46 : sF σ2 104 (48 + 3 * s + i) = sF σ 104 (48 + 3 * s + i) - 1 := by rw [hA2, up1_e]
  simp only [ra_104 σ2 (show 48 + 3 * s + i < 521 by omega), Option.bind_some, e46]
  unfold rpA
  by_cases h0 : sF σ 104 (48 + 3 * s + i) - 1 = 0
  · rw [if_pos h0]
    simp only [if_pos h0]
    obtain ⟨τ, c1, c2, c3⟩ := r_choose (slot := t0) E2.1 W (by rw [hA2]; exact WF_0l V hs hi) hs (by omega) E2.2.2.2
    have hF3 : FR rS rT σ2 τ := FR_m c3 (fun a z => by unfold rS; omega) (fun _ _ z => z.elim)
    have k107 : sF τ 107 = sF σ 107 := by rw [c3.1 107 (by decide), h107]
    have k108 : sF τ 108 = up1 (sF σ 108) s (sF σ 104 518) := by rw [c3.1 108 (by decide), h108]
    rw [hA2] at c1 c2
    have ec : ckA P (up1 (sF σ 104) (48 + 3 * s + i) (sF σ 104 (48 + 3 * s + i) - 1)) s (tn (sF σ 104 518)) = chS (up1 (sF σ 104) (48 + 3 * s + i) (sF σ 104 (48 + 3 * s + i) - 1)) s (wP (P 1) (P 3) t0) (wN (P 1) (P 3)) (P 4) := by
      unfold ckA
      rw [e0, tn_n (by omega)]
    simp only [is_78, gu_t, e0, c1, Option.bind_some]
    rw [e0] at ec
    rw [ec]
    have E3 := RE_r hF3 E2
    cases hc : chS (up1 (sF σ 104) (48 + 3 * s + i) (sF σ 104 (48 + 3 * s + i) - 1)) s (wP (P 1) (P 3) t0) (wN (P 1) (P 3)) (P 4) with
    | none =>
      rw [hc] at c2
      replace c2 : sF τ 104 = up1 (sF σ 104) (48 + 3 * s + i) (sF σ 104 (48 + 3 * s + i) - 1) := c2
      simp only
      rw [if_neg (by decide)]
      have e9 : sF τ 104 519 = sF σ 104 519 := by rw [c2]; exact up1_n (by omega)
      have rl := r_left E3.1 W (by rw [e9]; exact V.2.2.2.2)
      have el : lfS (sF τ 104) (P 5) = lfS (sF σ 104) (P 5) := by unfold lfS; rw [e9]
      simp only [rR_78_41, is_78, gu_t, rl, Option.bind_some, el, wa_104 (setF τ 104 519 (seedS (sF τ 104 519))) _ (show 48 + 3 * s + i < 521 by omega)]
      simp only [xX9_report_B102]
      rw [if_pos (by decide)]
      have hF4 : FR rS rT τ (setF (setF τ 104 519 (seedS (sF τ 104 519))) 104 (48 + 3 * s + i) (nI (lfS (sF σ 104) (P 5)))) := FR_t FR_4 FR_4
      have hA4 : sF (setF (setF τ 104 519 (seedS (sF τ 104 519))) 104 (48 + 3 * s + i) (nI (lfS (sF σ 104) (P 5)))) 104 = up1 (drA (sF σ 104)) (48 + 3 * s + i) (nI (lfS (sF σ 104) (P 5))) := by
        rw [sF_up, sF_dr, c2]
        exact up1_dr (by omega)
      obtain ⟨υ, u1, u2, u3, u4, u5⟩ := r_rep115 (s := s) (i := i) (RP_r hF4 E3.1) W hs hi3
      rw [hA4] at u1 u2 u3
      refine ⟨υ, u1, u2, ?_, ?_, FR_t hF2 (FR_t hF3 (FR_t hF4 u5))⟩
      · rw [u3]
        refine up1_c ?_
        funext j
        rw [sF_ne (by omega), sF_ne (by omega), k107]
      · rw [u4]
        show sF (setF (setF τ 104 519 _) 104 _ _) 108 = _
        rw [up1_n (show 30 + 3 * s + i ≠ 48 + 3 * s + i by omega), drA_n (by omega), hd, e0, ← e0, ← k108]
        funext j
        rw [sF_ne (by omega), sF_ne (by omega)]
    | some t =>
      rw [hc] at c2
      replace c2 : sF τ 104 = drA (up1 (sF σ 104) (48 + 3 * s + i) (sF σ 104 (48 + 3 * s + i) - 1)) := c2
      have ht : t < P 1 := by
        have : ckA P (up1 (sF σ 104) (48 + 3 * s + i) (sF σ 104 (48 + 3 * s + i) - 1)) s t0 = some t := hc
        exact ck_lt W this
      simp only
      rw [if_pos (nI_pos' (by omega))]
      have V3 : ∃ z, z < 1000 ∧ sF τ 104 519 = nI z := by rw [c2]; exact (WF_dr (WF_0l V hs hi)).2.2.2.2
      have rl := r_left E3.1 W V3
      have el : lfS (sF τ 104) (P 5) = lfS (drA (sF σ 104)) (P 5) := by
        unfold lfS
        rw [c2, drA_9 (B := sF σ 104) (up1_n (by omega))]
      have e17 : sF (setF τ 104 519 (seedS (sF τ 104 519))) 104 517 = sF σ 104 517 := by
        rw [sF_ne (by omega), c2, drA_n (by omega), up1_n (by omega)]
      simp only [is_78, gu_t, rl, Option.bind_some, el, rR_78_41, nl_517, ra_104 (setF τ 104 519 (seedS (sF τ 104 519))) (show 517 < 521 by omega), e17]
      obtain ⟨υ, u1, u2, u3⟩ := r_own1 (σ := setF τ 104 519 (seedS (sF τ 104 519))) (s := s) (i := i) (t := nI t) (l := nI (lfS (drA (sF σ 104)) (P 5))) (f := sF σ 104 517 + 1) hs hi3
      have hA4 : sF υ 104 = owA (drA (drA (sF σ 104))) s i (nI t) (nI (lfS (drA (sF σ 104)) (P 5))) (sF σ 104 517 + 1) := by
        rw [u2, sF_dr, c2]
        exact owA_dr hs hi3
      simp only [u1, Option.bind_some, xX9_report_B102]
      rw [if_neg (nI_pos (by omega))]
      simp only [rR_78_46, Option.bind_some, wa_108 υ _ hs]
      have hF5 : FR rS rT τ (setF υ 108 s (nI t)) := FR_t FR_4 (FR_t (FR_104 u3) (FR_F (by unfold rS; omega)))
      obtain ⟨ω, w1, w2, w3, w4, w5⟩ := r_rep115 (s := s) (i := i) (RP_r hF5 E3.1) W hs hi3
      have hA5 : sF (setF υ 108 s (nI t)) 104 = sF υ 104 := by funext j; exact sF_ne (by omega)
      rw [hA5, hA4] at w1 w2 w3
      have x107 : sF (setF υ 108 s (nI t)) 107 = sF σ 107 := by
        rw [← k107]
        funext j
        rw [sF_ne (by omega), u3.1 107 (by decide), sF_ne (by omega)]
      have x108 : sF υ 108 = up1 (sF σ 108) s (sF σ 104 518) := by
        rw [← k108]
        funext j
        rw [u3.1 108 (by decide), sF_ne (by omega)]
      refine ⟨ω, w1, w2, ?_, ?_, FR_t hF2 (FR_t hF3 (FR_t hF5 w5))⟩
      · rw [w3, x107]
      · rw [w4, sF_up, x108, owA_1 hs hi3]
        funext j
        by_cases hj : j = s
        · rw [hj, up1_e, up1_e]
        · rw [up1_n hj, up1_n hj, up1_n hj]
  · rw [if_neg h0]
    simp only [if_neg h0]
    obtain ⟨υ, u1, u2, u3, u4, u5⟩ := r_rep115 (σ := σ2) (s := s) (i := i) E2.1 W hs hi3
    rw [hA2] at u1 u2 u3
    refine ⟨υ, u1, u2, ?_, ?_, FR_t hF2 u5⟩
    · rw [u3, h107]
    · rw [u4, h108, up1_n (show 30 + 3 * s + i ≠ 48 + 3 * s + i by omega), hd]
end RG
