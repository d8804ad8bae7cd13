/-! the reference's step: reports, hearing, the whole step -/
section RG
variable {σ : ZS} {bk len : Nat} {P : Nat → Nat} {on fo : Nat → Int32}
theorem r_due {s n : Nat} (hs : s < 6) (hn : n ≤ 3) (ho : sF σ 104 (24 + s) = nI n) : xX9_dueOf 78 (nI s) (sF σ 104 518) (mkH σ) = some ((match duA (sF σ 104) s n 0 with | none => -1 | some i => nI i), mkH σ) := by
  have key : ∀ f i e, i + f = n → xX9_dueOf_L2 (e + f + 1) 78 (nI s) (sF σ 104 518) (nI i) (mkH σ) = some ((match duA (sF σ 104) s f i with | none => -1 | some i => nI i), mkH σ) := by
    intro f
    induction f with
    | zero =>
      intro i e hi
      show xX9_dueOf_B2 (xX9_dueOf_L2 (e + 0)) 78 (nI s) (sF σ 104 518) (nI i) (mkH σ) = _
      simp only [xX9_dueOf_B2, rR_78_41, Option.bind_some, nl_24, nI_add, ra_104 σ (show 24 + s < 521 by omega), ho]
      rw [if_pos ((nI_leI (by omega) (by omega)).mpr (by omega))]
      rfl
    | succ f ih =>
      intro i e hi
      show xX9_dueOf_B2 (xX9_dueOf_L2 (e + (f + 1))) 78 (nI s) (sF σ 104 518) (nI i) (mkH σ) = _
      simp only [xX9_dueOf_B2, rR_78_41, Option.bind_some, nl_24, nI_add, ra_104 σ (show 24 + s < 521 by omega), ho]
      rw [if_neg (fun z => by have := (nI_leI (by omega) (by omega)).mp z; omega)]
      simp only [nl_30, nl_66, nl_3, nl_517, pk_mul, nI_add, ra_104 σ (show 30 + 3 * s + i < 521 by omega), ra_104 σ (show 66 + 3 * s + i < 521 by omega), ra_104 σ (show 517 < 521 by omega), Option.bind_some, nI_s]
      rw [duA, show e + (f + 1) = e + f + 1 by omega]
      by_cases h1 : sF σ 104 (30 + 3 * s + i) = sF σ 104 518
      · rw [if_pos h1]
        by_cases h2 : sF σ 104 517 < sF σ 104 (66 + 3 * s + i)
        · rw [if_pos h2, if_neg (fun z => absurd z.2 (Int32.not_le.mpr h2))]
          exact ih (i + 1) e (by omega)
        · rw [if_neg h2, if_pos ⟨h1, Int32.not_lt.mp h2⟩]
      · rw [if_neg h1, if_neg (fun z => h1 z.1)]
        exact ih (i + 1) e (by omega)
  obtain ⟨e, he⟩ := zfu n (by omega)
  unfold xX9_dueOf
  rw [he]
  exact key n 0 e (by omega)
theorem r_rep115 {s i : Nat} (R : RP σ bk P) (W : PW P) (hs : s < 6) (hi : i < 3) : ∃ τ, xX9_report_B115 78 (nI s) (nI (3 * s + i)) (mkH σ) = some (if m100 (seedS (sF σ 104 519)) < nI (P 6) then 1 else 0, mkH τ) ∧ sF τ 104 = drA (sF σ 104) ∧ sF τ 107 = up1 (sF σ 107) s (sF σ 104 (48 + 3 * s + i) + 1) ∧ sF τ 108 = sF σ 108 ∧ FR rS rT σ τ := by
  have hF1 : FR rS rT σ (setF σ 107 s (sF σ 104 (48 + 3 * s + i) + 1)) := FR_F (by unfold rS; omega)
  have hF2 := FR_t hF1 (FR_4 (σ := setF σ 107 s (sF σ 104 (48 + 3 * s + i) + 1)) (k := 519) (v := seedS (sF σ 104 519)))
  have R2 := RP_r hF2 R
  refine ⟨setF (setF σ 107 s (sF σ 104 (48 + 3 * s + i) + 1)) 104 519 (seedS (sF σ 104 519)), ?_, ?_, ?_, ?_, hF2⟩
  · have rd := r_draw (σ := setF σ 107 s (sF σ 104 (48 + 3 * s + i) + 1))
    rw [show sF (setF σ 107 s (sF σ 104 (48 + 3 * s + i) + 1)) 104 519 = sF σ 104 519 from sF_ne (by omega)] at rd
    simp only [xX9_report_B115, rR_78_45, rR_78_41, Option.bind_some, nl_48, nI_add, ← Nat.add_assoc, ra_104 σ (show 48 + 3 * s + i < 521 by omega), wa_107 σ _ hs, is_78, gu_t, rd, rR_78_18, rI_78_34, R2.1, ra_88 _ R2.2.1, R2.2.2.2.2.2.2.2.2.1]
    show (if nI (P 6) ≤ m100 (seedS (sF σ 104 519)) then _ else _) = _
    by_cases h : nI (P 6) ≤ m100 (seedS (sF σ 104 519))
    · rw [if_pos h, if_neg (Int32.not_lt.mpr h)]
    · rw [if_neg h, if_pos (Int32.not_le.mp h)]
  · rw [sF_up]
    have : sF (setF σ 107 s (sF σ 104 (48 + 3 * s + i) + 1)) 104 = sF σ 104 := by funext j; exact sF_ne (by omega)
    rw [this]
    rfl
  · have : ∀ j, sF (setF (setF σ 107 s (sF σ 104 (48 + 3 * s + i) + 1)) 104 519 (seedS (sF σ 104 519))) 107 j = sF (setF σ 107 s (sF σ 104 (48 + 3 * s + i) + 1)) 107 j := fun j => sF_ne (by omega)
    funext j
    rw [this, sF_up]
  · funext j
    rw [sF_ne (by omega), sF_ne (by omega)]
theorem up1_dr {A : Nat → Int32} {k : Nat} {v w : Int32} (h : k ≠ 519) : up1 (drA (up1 A k v)) k w = up1 (drA A) k w := by
  funext j
  by_cases hj : j = k
  · rw [hj, up1_e, up1_e]
  · rw [up1_n hj, up1_n hj]
    unfold drA
    by_cases h9 : j = 519
    · rw [h9, up1_e, up1_e, up1_n (Ne.symm h)]
    · rw [up1_n h9, up1_n h9, up1_n hj]
theorem drA_9 {A B : Nat → Int32} (h : A 519 = B 519) : drA A 519 = drA B 519 := by
  unfold drA
  rw [up1_e, up1_e, h]
theorem owA_dr {A : Nat → Int32} {s i : Nat} {v t l f : Int32} (hs : s < 6) (hi : i < 3) : owA (drA (drA (up1 A (48 + 3 * s + i) v))) s i t l f = owA (drA (drA A)) s i t l f := by
  funext j
  by_cases h1 : j = 30 + 3 * s + i
  · rw [h1, owA_1 hs hi, owA_1 hs hi]
  · by_cases h2 : j = 48 + 3 * s + i
    · rw [h2, owA_2 hs hi, owA_2 hs hi]
    · by_cases h3 : j = 66 + 3 * s + i
      · rw [h3, owA_3, owA_3]
      · rw [owA_n h1 h2 h3, owA_n h1 h2 h3]
        by_cases h9 : j = 519
        · subst h9
          exact drA_9 (drA_9 (up1_n (by omega)))
        · rw [drA_n h9, drA_n h9, drA_n h9, drA_n h9, up1_n h2]
theorem WF_0l {P : Nat → Nat} {A : Nat → Int32} (V : WF 1 (P 0) (P 1) A) {s i : Nat} (hs : s < 6) (hi : i < tn (A (24 + s))) : WF 0 (P 0) (P 1) (up1 A (48 + 3 * s + i) (A (48 + 3 * s + i) - 1)) := by
  have h3 := (WF_own V hs).2
  obtain ⟨-, l, l1, l2, l3⟩ := V.2.1 s i hs (by omega) hi
  rw [l3, nl_1, pk_sub l1]
  exact WF_le (WF_01 V) hs (by omega) ⟨Nat.zero_le _, by omega⟩
theorem r_report {s i : Nat} (E : RE σ bk P on fo len) (W : PW P) (V : WF 1 (P 0) (P 1) (sF σ 104)) (hs : s < 6) (hi : i < tn (sF σ 104 (24 + s))) (hd : sF σ 104 (30 + 3 * s + i) = sF σ 104 518) : ∃ τ, xX9_report 78 (nI s) (nI i) (mkH σ) = some (if m100 (seedS (rpA P s i (sF σ 104) 519)) < nI (P 6) then 1 else 0, mkH τ) ∧ sF τ 104 = drA (rpA P s i (sF σ 104)) ∧ sF τ 107 = up1 (sF σ 107) s (rpA P s i (sF σ 104) (48 + 3 * s + i) + 1) ∧ sF τ 108 = up1 (sF σ 108) s (rpA P s i (sF σ 104) (30 + 3 * s + i)) ∧ FR rS rT σ τ := by
  have h3 := (WF_own V hs).2
  have hm2 := W.2.2.1
  obtain ⟨t0, ht0, e0⟩ := V.2.2.2.1
  have hi3 : i < 3 := by omega
  -- the heap behind the two first writes
  have hF1 : FR rS rT σ (setF σ 104 (48 + 3 * s + i) (sF σ 104 (48 + 3 * s + i) - 1)) := FR_4
  have hF2 : FR rS rT σ (setF (setF σ 104 (48 + 3 * s + i) (sF σ 104 (48 + 3 * s + i) - 1)) 108 s (sF σ 104 518)) := FR_t hF1 (FR_F (by unfold rS; omega))
  have hA2 : sF (setF (setF σ 104 (48 + 3 * s + i) (sF σ 104 (48 + 3 * s + i) - 1)) 108 s (sF σ 104 518)) 104 = up1 (sF σ 104) (48 + 3 * s + i) (sF σ 104 (48 + 3 * s + i) - 1) := by
    rw [← sF_up (σ := σ)]
    funext j
    exact sF_ne (by omega)
  have h107 : sF (setF (setF σ 104 (48 + 3 * s + i) (sF σ 104 (48 + 3 * s + i) - 1)) 108 s (sF σ 104 518)) 107 = sF σ 107 := by
    funext j
    rw [sF_ne (by omega), sF_ne (by omega)]
  have h108 : sF (setF (setF σ 104 (48 + 3 * s + i) (sF σ 104 (48 + 3 * s + i) - 1)) 108 s (sF σ 104 518)) 108 = up1 (sF σ 108) s (sF σ 104 518) := by
    rw [sF_up]
    congr 1
    funext j
    exact sF_ne (by omega)
  simp only [xX9_report, rR_78_41, rR_78_46, Option.bind_some, nl_48, nl_3, nl_518, pk_mul, nI_add, ← Nat.add_assoc, ra_104 σ (show 518 < 521 by omega), ra_104 σ (show 48 + 3 * s + i < 521 by omega), wa_104 σ _ (show 48 + 3 * s + i < 521 by omega), wa_108 (setF σ 104 (48 + 3 * s + i) (sF σ 104 (48 + 3 * s + i) - 1)) _ hs]
  generalize hσ2 : setF (setF σ 104 (48 + 3 * s + i) (sF σ 104 (48 + 3 * s + i) - 1)) 108 s (sF σ 104 518) = σ2 at *
  have E2 := RE_r hF2 E
  have e46 : sF σ2 104 (48 + 3 * s + i) = sF σ 104 (48 + 3 * s + i) - 1 := by rw [hA2, up1_e]
  simp only [ra_104 σ2 (show 48 + 3 * s + i < 521 by omega), Option.bind_some, e46]
  unfold rpA
  by_cases h0 : sF σ 104 (48 + 3 * s + i) - 1 = 0
  · rw [if_pos h0]
    simp only [if_pos h0]
    obtain ⟨τ, c1, c2, c3⟩ := r_choose (slot := t0) E2.1 W (by rw [hA2]; exact WF_0l V hs hi) hs (by omega) E2.2.2.2
    have hF3 : FR rS rT σ2 τ := FR_m c3 (fun a z => by unfold rS; omega) (fun _ _ z => z.elim)
    have k107 : sF τ 107 = sF σ 107 := by rw [c3.1 107 (by decide), h107]
    have k108 : sF τ 108 = up1 (sF σ 108) s (sF σ 104 518) := by rw [c3.1 108 (by decide), h108]
    rw [hA2] at c1 c2
    have ec : ckA P (up1 (sF σ 104) (48 + 3 * s + i) (sF σ 104 (48 + 3 * s + i) - 1)) s (tn (sF σ 104 518)) = chS (up1 (sF σ 104) (48 + 3 * s + i) (sF σ 104 (48 + 3 * s + i) - 1)) s (wP (P 1) (P 3) t0) (wN (P 1) (P 3)) (P 4) := by
      unfold ckA
      rw [e0, tn_n (by omega)]
    simp only [is_78, gu_t, e0, c1, Option.bind_some]
    rw [e0] at ec
    rw [ec]
    have E3 := RE_r hF3 E2
    cases hc : chS (up1 (sF σ 104) (48 + 3 * s + i) (sF σ 104 (48 + 3 * s + i) - 1)) s (wP (P 1) (P 3) t0) (wN (P 1) (P 3)) (P 4) with
    | none =>
      rw [hc] at c2
      simp only
      rw [if_neg (by decide)]
      have e9 : sF τ 104 519 = sF σ 104 519 := by rw [c2]; exact up1_n (by omega)
      have rl := r_left E3.1 W (by rw [e9]; exact V.2.2.2.2)
      have el : lfS (sF τ 104) (P 5) = lfS (sF σ 104) (P 5) := by unfold lfS; rw [e9]
      simp only [rR_78_41, is_78, gu_t, rl, Option.bind_some, el, wa_104 (setF τ 104 519 (seedS (sF τ 104 519))) _ (show 48 + 3 * s + i < 521 by omega)]
      simp only [xX9_report_B102]
      rw [if_pos (by decide)]
      have hF4 : FR rS rT τ (setF (setF τ 104 519 (seedS (sF τ 104 519))) 104 (48 + 3 * s + i) (nI (lfS (sF σ 104) (P 5)))) := FR_t FR_4 FR_4
      have hA4 : sF (setF (setF τ 104 519 (seedS (sF τ 104 519))) 104 (48 + 3 * s + i) (nI (lfS (sF σ 104) (P 5)))) 104 = up1 (drA (sF σ 104)) (48 + 3 * s + i) (nI (lfS (sF σ 104) (P 5))) := by
        rw [sF_up, sF_dr, c2]
        exact up1_dr (by omega)
      obtain ⟨υ, u1, u2, u3, u4, u5⟩ := r_rep115 (s := s) (i := i) (RP_r hF4 E3.1) W hs hi3
      rw [hA4] at u1 u2 u3
      refine ⟨υ, u1, u2, ?_, ?_, FR_t hF2 (FR_t hF3 (FR_t hF4 u5))⟩
      · rw [u3]
        congr 1
        funext j
        rw [sF_ne (by omega), sF_ne (by omega), k107]
      · rw [u4]
        show sF (setF (setF τ 104 519 _) 104 _ _) 108 = _
        rw [up1_n (show 30 + 3 * s + i ≠ 48 + 3 * s + i by omega), drA_n (by omega), hd, e0, ← e0, ← k108]
        funext j
        rw [sF_ne (by omega), sF_ne (by omega)]
    | some t =>
      rw [hc] at c2
      have ht : t < P 1 := by
        have : ckA P (up1 (sF σ 104) (48 + 3 * s + i) (sF σ 104 (48 + 3 * s + i) - 1)) s t0 = some t := hc
        exact ck_lt W this
      simp only
      rw [if_pos (nI_pos' (by omega))]
      have V3 : ∃ z, z < 1000 ∧ sF τ 104 519 = nI z := by rw [c2]; exact (WF_dr (WF_0l V hs hi)).2.2.2.2
      have rl := r_left E3.1 W V3
      have el : lfS (sF τ 104) (P 5) = lfS (drA (sF σ 104)) (P 5) := by
        unfold lfS
        rw [c2, drA_9 (B := sF σ 104) (up1_n (by omega))]
      have e17 : sF (setF τ 104 519 (seedS (sF τ 104 519))) 104 517 = sF σ 104 517 := by
        rw [sF_ne (by omega), c2, drA_n (by omega), up1_n (by omega)]
      simp only [is_78, gu_t, rl, Option.bind_some, el, rR_78_41, nl_517, ra_104 (setF τ 104 519 (seedS (sF τ 104 519))) (show 517 < 521 by omega), e17]
      obtain ⟨υ, u1, u2, u3⟩ := r_own1 (σ := setF τ 104 519 (seedS (sF τ 104 519))) (s := s) (i := i) (t := nI t) (l := nI (lfS (drA (sF σ 104)) (P 5))) (f := sF σ 104 517 + 1) hs hi3
      have hA4 : sF υ 104 = owA (drA (drA (sF σ 104))) s i (nI t) (nI (lfS (drA (sF σ 104)) (P 5))) (sF σ 104 517 + 1) := by
        rw [u2, sF_dr, c2]
        exact owA_dr hs hi3
      simp only [u1, Option.bind_some, xX9_report_B102]
      rw [if_neg (nI_pos (by omega))]
      simp only [rR_78_46, Option.bind_some, wa_108 υ _ hs]
      have hF5 : FR rS rT τ (setF υ 108 s (nI t)) := FR_t FR_4 (FR_t (FR_104 u3) (FR_F (by unfold rS; omega)))
      obtain ⟨ω, w1, w2, w3, w4, w5⟩ := r_rep115 (s := s) (i := i) (RP_r hF5 E3.1) W hs hi3
      have hA5 : sF (setF υ 108 s (nI t)) 104 = sF υ 104 := by funext j; exact sF_ne (by omega)
      rw [hA5, hA4] at w1 w2 w3
      have x107 : sF (setF υ 108 s (nI t)) 107 = sF σ 107 := by
        rw [← k107]
        funext j
        rw [sF_ne (by omega), u3.1 107 (by decide), sF_ne (by omega)]
      have x108 : sF υ 108 = up1 (sF σ 108) s (sF σ 104 518) := by
        rw [← k108]
        funext j
        rw [u3.1 108 (by decide), sF_ne (by omega)]
      refine ⟨ω, w1, w2, ?_, ?_, FR_t hF2 (FR_t hF3 (FR_t hF5 w5))⟩
      · rw [w3, x107]
      · rw [w4, sF_up, x108, owA_1 hs hi3]
        funext j
        by_cases hj : j = s
        · rw [hj, up1_e, up1_e]
        · rw [up1_n hj, up1_n hj, up1_n hj]
  · rw [if_neg h0]
    simp only [if_neg h0]
    obtain ⟨υ, u1, u2, u3, u4, u5⟩ := r_rep115 (σ := σ2) (s := s) (i := i) E2.1 W hs hi3
    rw [hA2] at u1 u2 u3
    refine ⟨υ, u1, u2, ?_, ?_, FR_t hF2 u5⟩
    · rw [u3, h107]
    · rw [u4, h108, up1_n (show 30 + 3 * s + i ≠ 48 + 3 * s + i by omega), hd]
theorem r_holds {s t : Nat} {u v : Int32} (hs : s < 6) (ht : t < 30) : ∃ τ, xX9_holds 78 (nI s) (nI t) u v (mkH σ) = some (mkH τ) ∧ sF τ 104 = up1 (up1 (sF σ 104) (84 + 30 * s + t) u) (264 + 30 * s + t) v ∧ FR (fun a => a = 104) (fun _ _ => False) σ τ := by
  refine ⟨setF (setF σ 104 (84 + 30 * s + t) u) 104 (264 + 30 * s + t) v, ?_, by rw [sF_up, sF_up], FR_t (FR_F rfl) (FR_F rfl)⟩
  simp only [xX9_holds, rR_78_41, Option.bind_some, nl_84, nl_30, nl_264, pk_mul, nI_add, wa_104 _ _ (show 84 + 30 * s + t < 521 by omega), wa_104 _ _ (show 264 + 30 * s + t < 521 by omega)]
theorem r_hear {s o t l nsl : Nat} (hs : s < 6) (ho : o < 6) (hn : nsl ≤ 30) (ht : t < nsl) (h8 : sF σ 108 o = nI t) (h7 : sF σ 107 o = nI l + 1) (ha : ∃ t, t < nsl ∧ sF σ 104 518 = nI t) : ∃ τ, xX9_hear 78 (nI s) (nI o) (mkH σ) = some (mkH τ) ∧ sF τ 104 = hrA s o (nI t) (nI l) (sF σ 104) ∧ FR (fun a => a = 104) (fun _ _ => False) σ τ := by
  obtain ⟨t0, ht0, e0⟩ := ha
  have kB : ∀ υ : ZS, FR (fun a => a = 104) (fun _ _ => False) σ υ → ∃ τ, xX9_hear_B32 78 (nI s) (nI o) (mkH υ) = some (mkH τ) ∧ sF τ 104 = up1 (up1 (up1 (up1 (sF υ 104) (84 + 30 * s + t) (nI o)) (264 + 30 * s + t) (nI l + 1)) (444 + 6 * s + o) (sF υ 104 o)) (480 + 6 * s + o) (sF υ 104 (6 + o)) ∧ FR (fun a => a = 104) (fun _ _ => False) υ τ := by
    intro υ hF
    have r8 : sF υ 108 o = nI t := by rw [hF.1 108 (by decide)]; exact h8
    have r7 : sF υ 107 o = nI l + 1 := by rw [hF.1 107 (by decide)]; exact h7
    obtain ⟨τ, t1, t2, t3⟩ := r_holds (σ := υ) (s := s) (t := t) (u := nI o) (v := nI l + 1) hs (by omega)
    have e1 : sF τ 104 o = sF υ 104 o := by rw [t2, up1_n (by omega), up1_n (by omega)]
    have e2 : sF (setF τ 104 (444 + 6 * s + o) (sF υ 104 o)) 104 (6 + o) = sF υ 104 (6 + o) := by rw [sF_ne (by omega), t2, up1_n (by omega), up1_n (by omega)]
    refine ⟨setF (setF τ 104 (444 + 6 * s + o) (sF υ 104 o)) 104 (480 + 6 * s + o) (sF υ 104 (6 + o)), ?_, ?_, FR_t t3 (FR_t (FR_F rfl) (FR_F rfl))⟩
    · simp only [xX9_hear_B32, rR_78_46, rR_78_45, Option.bind_some, ra_108 υ ho, ra_107 υ ho, r8, r7, is_78, gu_t, t1, rR_78_41, nl_0, nl_444, nl_480, nl_6, pk_mul, nI_add, Nat.zero_add, ra_104 τ (show o < 521 by omega), e1, wa_104 τ _ (show 444 + 6 * s + o < 521 by omega), ra_104 (setF τ 104 (444 + 6 * s + o) (sF υ 104 o)) (show 6 + o < 521 by omega), e2, wa_104 (setF τ 104 (444 + 6 * s + o) (sF υ 104 o)) _ (show 480 + 6 * s + o < 521 by omega)]
    · rw [sF_up, sF_up, t2]
  simp only [xX9_hear, rR_78_46, rR_78_41, Option.bind_some, ra_108 σ ho, h8, nl_518, ra_104 σ (show 518 < 521 by omega), e0]
  unfold hrA
  rw [e0, tn_n (by omega), tn_n (by omega)]
  by_cases hc : nI t = nI t0
  · rw [if_pos hc]
    have htt : t = t0 := (nI_eq (by omega) (by omega)).mp hc
    subst htt
    obtain ⟨τ, t1, t2, t3⟩ := kB σ FR_r
    refine ⟨τ, t1, ?_, t3⟩
    rw [t2]
    congr 2
    funext j
    by_cases h2 : j = 264 + 30 * s + t
    · rw [h2, up1_e, up1_e]
    · rw [up1_n h2, up1_n h2]
      by_cases h1 : j = 84 + 30 * s + t
      · rw [h1, up1_e, up1_e]
      · rw [up1_n h1, up1_n h1, up1_n h2, up1_n h1]
  · rw [if_neg hc]
    obtain ⟨υ, u1, u2, u3⟩ := r_holds (σ := σ) (s := s) (t := t0) (u := -1) (v := 0) hs (by omega)
    simp only [is_78, gu_t, u1, Option.bind_some]
    obtain ⟨τ, t1, t2, t3⟩ := kB υ u3
    refine ⟨τ, t1, ?_, FR_t u3 t3⟩
    rw [t2, u2]
    rw [up1_n (show o ≠ 264 + 30 * s + t0 by omega), up1_n (show o ≠ 84 + 30 * s + t0 by omega), up1_n (show 6 + o ≠ 264 + 30 * s + t0 by omega), up1_n (show 6 + o ≠ 84 + 30 * s + t0 by omega)]
/-- who is heard, as a set, and as a count with the last of them -/
def hsA (P : Nat → Nat) (A : Nat → Int32) (s rep : Nat) : Nat := zf (fun o a => if rep.testBit o ∧ farS A s o ≤ nI (P 2) then a ||| 2 ^ o else a) 0 (P 0) 0
theorem hs_hd {A : Nat → Int32} {s rep : Nat} (hn : P 0 ≤ 6) : pc 32 (hsA P A s rep) = (hdA P A s rep).1 ∧ hsA P A s rep < 2 ^ P 0 ∧ ((hdA P A s rep).1 = 1 → hsA P A s rep = 2 ^ (hdA P A s rep).2) := by
  have h := zf_2 (f := fun o (a : Nat) => if rep.testBit o ∧ farS A s o ≤ nI (P 2) then a ||| 2 ^ o else a) (g := fun o (r : Nat × Nat) => if rep.testBit o ∧ farS A s o ≤ nI (P 2) then (r.1 + 1, o) else r) (fun k a r => pc 32 a = r.1 ∧ a < 2 ^ k ∧ (r.1 = 1 → a = 2 ^ r.2) ∧ (r.1 = 0 → a = 0)) (P 0) ?_ (P 0) 0 0 (0, 0) (by omega) ⟨pc_0 32, by decide, fun z => by cases z, fun _ => rfl⟩
  · exact ⟨h.1, h.2.1, h.2.2.1⟩
  · rintro k a r hk ⟨h1, h2, h3, h4⟩
    have hp : (2 : Nat) ^ k ≤ 2 ^ (k + 1) := Nat.pow_le_pow_right (by decide) (by omega)
    by_cases hc : rep.testBit k = true ∧ farS A s k ≤ nI (P 2)
    · rw [if_pos hc, if_pos hc]
      refine ⟨?_, or_lt (Nat.lt_of_lt_of_le h2 hp) (pow_lt (by omega)), fun z => ?_, fun z => by cases z⟩
      · rw [pc_set 32 a k (by omega) (Nat.testBit_lt_two_pow h2), h1]
      · have z' : r.1 + 1 = 1 := z
        have : a = 0 := h4 (by omega)
        rw [this, Nat.zero_or]
    · rw [if_neg hc, if_neg hc]
      exact ⟨h1, Nat.lt_of_lt_of_le h2 hp, h3, h4⟩
theorem r_listen {s rep fad : Nat} {ns le : Nat → Int32} (E : RE σ bk P on fo len) (W : PW P) (V : WF 1 (P 0) (P 1) (sF σ 104)) (hs : s < P 0) (hrl : rep < 2 ^ 6) (hfl : fad < 2 ^ 6) (hr : ∀ s, rep.testBit s = true → (∃ t, t < P 1 ∧ ns s = nI t) ∧ ∃ l, 1 ≤ l ∧ l ≤ 7 ∧ le s = nI l) (h8 : ∀ o, rep.testBit o = true → sF σ 108 o = ns o ∧ sF σ 107 o = le o + 1) : ∃ τ, xX9_listen 78 (nI s) (nI rep) (nI fad) (mkH σ) = some (mkH τ) ∧ sF τ 104 = (if 1 < (hdA P (sF σ 104) s rep).1 then up1 (sF σ 104) 520 (sF σ 104 520 + 1) else if (hdA P (sF σ 104) s rep).1 = 1 ∧ fad.testBit (hdA P (sF σ 104) s rep).2 = false then hrA s (hdA P (sF σ 104) s rep).2 (ns (hdA P (sF σ 104) s rep).2) (le (hdA P (sF σ 104) s rep).2) (sF σ 104) else sF σ 104) ∧ FR (fun a => a = 104) (fun _ _ => False) σ τ := by
  have w0 := W.1
  have w1 := W.2.2.1
  have B := RP_B E.1 W
  obtain ⟨g1, g2, g3⟩ := hs_hd (P := P) (A := sF σ 104) (s := s) (rep := rep) w0
  have g4 := hd_in (P := P) (A := sF σ 104) (s := s) (rep := rep)
  have hset : hsA P (sF σ 104) s rep < 2 ^ 30 := Nat.lt_of_lt_of_le g2 (Nat.pow_le_pow_right (by decide) (by omega))
  have hpl := pc_le 32 (hsA P (sF σ 104) s rep)
  -- behind the first loop
  have kT : ∃ τ, xX9_listen_B49 78 (nI s) (nI fad) (nI (hsA P (sF σ 104) s rep)) (mkH σ) = some (mkH τ) ∧ sF τ 104 = (if 1 < (hdA P (sF σ 104) s rep).1 then up1 (sF σ 104) 520 (sF σ 104 520 + 1) else if (hdA P (sF σ 104) s rep).1 = 1 ∧ fad.testBit (hdA P (sF σ 104) s rep).2 = false then hrA s (hdA P (sF σ 104) s rep).2 (ns (hdA P (sF σ 104) s rep).2) (le (hdA P (sF σ 104) s rep).2) (sF σ 104) else sF σ 104) ∧ FR (fun a => a = 104) (fun _ _ => False) σ τ := by
    generalize hsA P (sF σ 104) s rep = x at *
    generalize hdA P (sF σ 104) s rep = cl at *
    simp only [xX9_listen_B49, r_bitsOf (show x < 2 ^ 31 by omega), Option.bind_some, g1]
    by_cases h1 : 1 < cl.1
    · rw [if_neg (fun z => by rw [nl_1] at z; have := (nI_leI (by omega) (by omega)).mp z; omega), if_pos h1]
      simp only [rR_78_41, Option.bind_some, nl_520, ra_104 σ (show 520 < 521 by omega), wa_104 σ _ (show 520 < 521 by omega), xX9_listen_B70, r_bitsOf (show x < 2 ^ 31 by omega), g1]
      rw [if_neg (fun z => by rw [nl_1] at z; have := (nI_eq (by omega) (by omega)).mp z; omega)]
      exact ⟨_, rfl, sF_up, FR_F rfl⟩
    · rw [if_pos (by rw [nl_1]; exact (nI_leI (by omega) (by omega)).mpr (by omega)), if_neg h1]
      simp only [xX9_listen_B70, r_bitsOf (show x < 2 ^ 31 by omega), Option.bind_some, g1]
      by_cases h2 : cl.1 = 1
      · rw [if_pos (by rw [h2]; rfl)]
        obtain ⟨o1, o2⟩ := g4 (by omega)
        have hx := g3 h2
        have hand : nI x &&& nI fad = if fad.testBit cl.2 then nI (2 ^ cl.2) else 0 := by
          rw [nx_and, hx, Nat.and_comm, and_pow]
          cases fad.testBit cl.2 <;> rfl
        rw [hand]
        cases hfb : fad.testBit cl.2
        · simp only [Bool.false_eq_true, if_false, if_true]
          rw [if_pos ⟨h2, trivial⟩]
          obtain ⟨⟨t, ht, et⟩, l, l1, l2, el⟩ := hr _ o2
          obtain ⟨e, he⟩ := zfu (P 0) (by omega)
          have key := lpI (fun e k (τ : ZS) => xX9_listen_L90 e 78 (nI s) (nI x) (nI k) (mkH τ)) (P 0) (fun k τ => FR (fun a => a = 104) (fun _ _ => False) σ τ ∧ sF τ 104 = if cl.2 < k then hrA s cl.2 (ns cl.2) (le cl.2) (sF σ 104) else sF σ 104) (fun v => ∃ τ, v = mkH τ ∧ sF τ 104 = hrA s cl.2 (ns cl.2) (le cl.2) (sF σ 104) ∧ FR (fun a => a = 104) (fun _ _ => False) σ τ) ?_ ?_ (P 0) 0 σ e (by omega) ⟨FR_r, by rw [if_neg (by omega)]⟩
          · obtain ⟨v, hv, τ, hv2, t2, t3⟩ := key
            refine ⟨τ, ?_, t2, t3⟩
            rw [he, ← hv2]
            exact hv
          · rintro e k τ hk ⟨hF, hA⟩
            right
            have E' := RE_r (FR_104 hF) E
            have B' := RP_B E'.1 W
            have hB : xX9_listen_L90 (e + 1) 78 (nI s) (nI x) (nI k) (mkH τ) = xX9_listen_B90 (xX9_listen_L90 e) 78 (nI s) (nI x) (nI k) (mkH τ) := rfl
            simp only [hB, xX9_listen_B90, is_78, gu_t, r_lots B', Option.bind_some]
            rw [if_neg (fun z => by have := (nI_leI (by omega) (by omega)).mp z; omega)]
            simp only [r_bit, bitB_n (show x < 2 ^ 31 by omega) (show k < 32 by omega), hx, Nat.testBit_two_pow, Option.bind_some, nI_s]
            by_cases hk2 : cl.2 = k
            · subst hk2
              rw [if_neg (Nat.lt_irrefl _)] at hA
              simp only [decide_true, if_true]
              rw [if_neg (by decide)]
              obtain ⟨υ, u1, u2, u3⟩ := r_hear (σ := τ) (s := s) (o := cl.2) (t := t) (l := l) (nsl := P 1) (by omega) (by omega) w1 ht (by rw [hF.1 108 (by decide), (h8 _ o2).1, et]) (by rw [hF.1 107 (by decide), (h8 _ o2).2, el]) (by rw [hA]; exact V.2.2.2.1)
              simp only [is_78, gu_t, u1, Option.bind_some]
              refine ⟨υ, rfl, FR_t hF u3, ?_⟩
              rw [if_pos (Nat.lt_succ_self _), u2, hA, et, el]
            · simp only [decide_eq_false hk2, Bool.false_eq_true, if_false]
              rw [if_pos rfl]
              refine ⟨τ, rfl, hF, ?_⟩
              rw [hA]
              by_cases hk3 : cl.2 < k
              · rw [if_pos hk3, if_pos (by omega)]
              · rw [if_neg hk3, if_neg (by omega)]
          · rintro e τ ⟨hF, hA⟩
            have E' := RE_r (FR_104 hF) E
            have B' := RP_B E'.1 W
            refine ⟨mkH τ, ?_, τ, rfl, ?_, hF⟩
            · show xX9_listen_B90 (xX9_listen_L90 e) 78 (nI s) (nI x) (nI (P 0)) (mkH τ) = _
              simp only [xX9_listen_B90, is_78, gu_t, r_lots B', Option.bind_some]
              rw [if_pos ((nI_leI (by omega) (by omega)).mpr (Nat.le_refl _))]
            · rw [hA, if_pos o1]
        · simp only [if_true]
          rw [if_neg (nI_ne0 (Nat.two_pow_pos _) (Nat.lt_of_lt_of_le (pow_lt (show cl.2 < 6 by omega)) (by decide)))]
          rw [if_neg (fun z => by cases z.2)]
          exact ⟨σ, rfl, rfl, FR_r⟩
      · rw [if_neg (fun z => by rw [nl_1] at z; exact h2 ((nI_eq (by omega) (by omega)).mp z)), if_neg (fun z => h2 z.1)]
        exact ⟨σ, rfl, rfl, FR_r⟩
  obtain ⟨τ, t1, t2, t3⟩ := kT
  refine ⟨τ, ?_, t2, t3⟩
  obtain ⟨e, he⟩ := zfu (P 0) (by omega)
  have key := lp (fun e k (a : Nat) => xX9_listen_L6 e 78 (nI s) (nI rep) (nI fad) (nI a) (nI k) (mkH σ)) (fun o a => if rep.testBit o ∧ farS (sF σ 104) s o ≤ nI (P 2) then a ||| 2 ^ o else a) (P 0) (fun k a => a = zf (fun o a => if rep.testBit o ∧ farS (sF σ 104) s o ≤ nI (P 2) then a ||| 2 ^ o else a) 0 k 0) (fun _ => mkH τ) ?_ ?_ (P 0) 0 0 e (by omega) rfl
  · unfold xX9_listen
    rw [he]
    exact key.1
  · intro e k a hk ha
    refine ⟨?_, by rw [ha, zf_l, Nat.zero_add]⟩
    show xX9_listen_B6 (xX9_listen_L6 e) 78 (nI s) (nI rep) (nI fad) (nI a) (nI k) (mkH σ) = _
    simp only [xX9_listen_B6, is_78, gu_t, r_lots B, Option.bind_some]
    rw [if_neg (fun z => by have := (nI_leI (by omega) (by omega)).mp z; omega)]
    simp only [r_bit, bitB_n (show rep < 2 ^ 31 by omega) (show k < 32 by omega), Option.bind_some, is_78, gu_t, r_doHear B (show s < 6 by omega) (show k < 6 by omega), E.1.2.2.2.2.1, nI_s, one_shl (show k < 32 by omega), nx_or]
    cases hb : rep.testBit k
    · simp
    · by_cases hf : farS (sF σ 104) s k ≤ nI (P 2)
      · simp [hf]
      · simp [hf]
  · intro e a ha
    show xX9_listen_B6 (xX9_listen_L6 e) 78 (nI s) (nI rep) (nI fad) (nI a) (nI (P 0)) (mkH σ) = _
    simp only [xX9_listen_B6, is_78, gu_t, r_lots B, Option.bind_some]
    rw [if_pos ((nI_leI (by omega) (by omega)).mpr (Nat.le_refl _)), ha]
    exact t1
theorem r_go (E : RE σ bk P on fo len) (W : PW P) (F : WFo fo len) (V : WF 1 (P 0) (P 1) (sF σ 104)) : ∃ τ, xX9_goStep 78 (mkH σ) = some (nI (goA P on fo len (sF σ 104)).2, mkH τ) ∧ sF τ 104 = (goA P on fo len (sF σ 104)).1 ∧ FR rS rT σ τ := by
  have w0 := W.1
  have w6 := W.2.1
  have w1 := W.2.2.1
  have HR := RI_rs (on := on) (fo := fo) (len := len) W V
  have hp6 : (2 : Nat) ^ P 0 ≤ 2 ^ 6 := Nat.pow_le_pow_right (by decide) w0
  -- the last lines
  have k3 : ∀ (υ : ZS) (rep : Nat), RE υ bk P on fo len → WF 1 (P 0) (P 1) (sF υ 104) → ∃ τ, xX9_goStep_B131 78 (nI rep) (mkH υ) = some (nI rep, mkH τ) ∧ sF τ 104 = noA P (sF υ 104) ∧ FR rS rT υ τ := by
    intro υ rep E' V'
    obtain ⟨t0, ht0, e0⟩ := V'.2.2.2.1
    have R' := RP_r (FR_4 (σ := υ) (k := 518) (v := nI (t0 + 1))) E'.1
    have e8 : sF (setF υ 104 518 (nI (t0 + 1))) 104 518 = nI (t0 + 1) := sF_eq
    simp only [xX9_goStep_B131, rR_78_41, Option.bind_some, nl_518, ra_104 υ (show 518 < 521 by omega), e0, nI_s, wa_104 υ _ (show 518 < 521 by omega), ra_104 (setF υ 104 518 (nI (t0 + 1))) (show 518 < 521 by omega), e8, is_78, gu_t, r_round (RP_B R' W)]
    unfold noA
    rw [e0, tn_n (by omega)]
    by_cases h : t0 + 1 = P 1
    · rw [if_pos (by rw [h]), if_pos h]
      have e7 : sF (setF (setF υ 104 518 (nI (t0 + 1))) 104 518 0) 104 517 = sF υ 104 517 := by rw [sF_ne (by omega), sF_ne (by omega)]
      simp only [wa_104 (setF υ 104 518 (nI (t0 + 1))) _ (show 518 < 521 by omega), Option.bind_some, nl_517, ra_104 (setF (setF υ 104 518 (nI (t0 + 1))) 104 518 0) (show 517 < 521 by omega), e7, wa_104 (setF (setF υ 104 518 (nI (t0 + 1))) 104 518 0) _ (show 517 < 521 by omega)]
      refine ⟨_, rfl, ?_, FR_t FR_4 (FR_t FR_4 FR_4)⟩
      rw [sF_up, sF_up, sF_up]
      funext j
      by_cases j1 : j = 517
      · rw [j1, up1_e, up1_e]
      · rw [up1_n j1, up1_n j1]
        by_cases j2 : j = 518
        · rw [j2, up1_e, up1_e]
        · rw [up1_n j2, up1_n j2, up1_n j2]
    · rw [if_neg (fun z => h ((nI_eq (by omega) (by omega)).mp z)), if_neg h]
      exact ⟨_, rfl, sF_up, FR_4⟩
  -- hearing
  have k2 : ∀ (υ : ZS) (r : ZR), RE υ bk P on fo len → sF υ 104 = r.1 → RI P (P 0) r → (∀ o, r.2.1.testBit o = true → sF υ 108 o = r.2.2.2.1 o ∧ sF υ 107 o = r.2.2.2.2 o + 1) → ∃ τ, xX9_goStep_L94 zFU 78 (nI r.2.1) (nI r.2.2.1) (0 : Int32) (mkH υ) = some (nI r.2.1, mkH τ) ∧ sF τ 104 = noA P (zf (liA P on r.2.1 r.2.2.1 r.2.2.2.1 r.2.2.2.2) 0 (P 0) r.1) ∧ FR rS rT υ τ := by
    intro υ r E' hA0 HI h8
    have hrl : r.2.1 < 2 ^ 6 := Nat.lt_of_lt_of_le HI.2.1 hp6
    have hfl : r.2.2.1 < 2 ^ 6 := Nat.lt_of_lt_of_le HI.2.2.1 hp6
    obtain ⟨e, he⟩ := zfu (P 0) (by omega)
    have key := lpI (fun e k (τ : ZS) => xX9_goStep_L94 e 78 (nI r.2.1) (nI r.2.2.1) (nI k) (mkH τ)) (P 0) (fun k τ => FR (fun a => a = 104) (fun _ _ => False) υ τ ∧ sF τ 104 = zf (liA P on r.2.1 r.2.2.1 r.2.2.2.1 r.2.2.2.2) 0 k r.1 ∧ WF 1 (P 0) (P 1) (sF τ 104)) (fun v => ∃ τ, v = (nI r.2.1, mkH τ) ∧ sF τ 104 = noA P (zf (liA P on r.2.1 r.2.2.1 r.2.2.2.1 r.2.2.2.2) 0 (P 0) r.1) ∧ FR rS rT υ τ) ?_ ?_ (P 0) 0 υ e (by omega) ⟨FR_r, hA0, by rw [hA0]; exact HI.1⟩
    · obtain ⟨v, hv, τ, hv2, t2, t3⟩ := key
      refine ⟨τ, ?_, t2, t3⟩
      rw [he, ← hv2]
      exact hv
    · rintro e k τ hk ⟨hF, hA, V'⟩
      right
      have E2 := RE_r (FR_104 hF) E'
      have B2 := RP_B E2.1 W
      have hB : xX9_goStep_L94 (e + 1) 78 (nI r.2.1) (nI r.2.2.1) (nI k) (mkH τ) = xX9_goStep_B94 (xX9_goStep_L94 e) 78 (nI r.2.1) (nI r.2.2.1) (nI k) (mkH τ) := rfl
      simp only [hB, xX9_goStep_B94, is_78, gu_t, r_lots B2, Option.bind_some]
      rw [if_neg (fun z => by have := (nI_leI (by omega) (by omega)).mp z; omega)]
      simp only [r_on E2 W hk, Option.bind_some, r_bit, bitB_n (show r.2.1 < 2 ^ 31 by omega) (show k < 32 by omega), nI_s, zf_l, Nat.zero_add, ← hA]
      unfold liA
      by_cases ho : onA (sF τ 104) on k = true
      · rw [ho]
        simp only [if_true]
        rw [if_neg (by decide)]
        cases hb : r.2.1.testBit k
        · simp only [Bool.false_eq_true, if_false, if_true]
          obtain ⟨ω, w1', w2', w3'⟩ := r_listen (σ := τ) (s := k) (rep := r.2.1) (fad := r.2.2.1) (ns := r.2.2.2.1) (le := r.2.2.2.2) E2 W V' hk hrl hfl HI.2.2.2 (fun o ho => by rw [hF.1 108 (by decide), hF.1 107 (by decide)]; exact h8 o ho)
          simp only [is_78, gu_t, w1', Option.bind_some]
          refine ⟨ω, rfl, FR_t hF w3', ?_, ?_⟩
          · rw [if_pos ⟨trivial, trivial⟩]; exact w2'
          · have := WF_li (on := on) (fad := r.2.2.1) W V' (show k < 6 by omega) HI.2.2.2
            unfold liA at this
            rw [if_pos ⟨ho, hb⟩] at this
            rw [w2']; exact this
        · simp only [if_true]
          rw [if_neg (by decide)]
          refine ⟨τ, rfl, hF, ?_, V'⟩
          rw [if_neg (fun z => by cases z.2)]
      · rw [show onA (sF τ 104) on k = false by simpa using ho]
        simp only [Bool.false_eq_true, if_false, if_true]
        refine ⟨τ, rfl, hF, ?_, V'⟩
        rw [if_neg (fun z => z.1)]
    · rintro e τ ⟨hF, hA, V'⟩
      have E2 := RE_r (FR_104 hF) E'
      have B2 := RP_B E2.1 W
      obtain ⟨ω, w1', w2', w3'⟩ := k3 τ r.2.1 E2 V'
      refine ⟨(nI r.2.1, mkH ω), ?_, ω, rfl, ?_, FR_t (FR_104 hF) w3'⟩
      · show xX9_goStep_B94 (xX9_goStep_L94 e) 78 (nI r.2.1) (nI r.2.2.1) (nI (P 0)) (mkH τ) = _
        simp only [xX9_goStep_B94, is_78, gu_t, r_lots B2, Option.bind_some]
        rw [if_pos ((nI_leI (by omega) (by omega)).mpr (Nat.le_refl _))]
        exact w1'
      · rw [w2', hA]
  -- reports
  have k1 : ∀ (υ : ZS), RE υ bk P on fo len → FR rS rT σ υ → sF υ 104 = (if sF σ 104 518 = 0 then bgA P on fo len (sF σ 104) else sF σ 104) → ∃ τ, xX9_goStep_L21 zFU 78 (0 : Int32) (0 : Int32) (0 : Int32) (mkH υ) = some (nI (goA P on fo len (sF σ 104)).2, mkH τ) ∧ sF τ 104 = (goA P on fo len (sF σ 104)).1 ∧ FR rS rT σ τ := by
    intro υ E' hFu hA0
    obtain ⟨e, he⟩ := zfu (P 0) (by omega)
    have H0 := RI_0 (on := on) (fo := fo) (len := len) W V
    have key := lpI (fun e k (x : ZS × Nat × Nat) => xX9_goStep_L21 e 78 (nI x.2.1) (nI x.2.2) (nI k) (mkH x.1)) (P 0) (fun k x => FR rS rT σ x.1 ∧ ∃ r, r = zf (raA P on) 0 k ((if sF σ 104 518 = 0 then bgA P on fo len (sF σ 104) else sF σ 104), 0, 0, (fun _ => 0), (fun _ => 0)) ∧ RI P k r ∧ sF x.1 104 = r.1 ∧ x.2.1 = r.2.1 ∧ x.2.2 = r.2.2.1 ∧ ∀ o, r.2.1.testBit o = true → sF x.1 108 o = r.2.2.2.1 o ∧ sF x.1 107 o = r.2.2.2.2 o + 1) (fun v => ∃ τ, v = (nI (goA P on fo len (sF σ 104)).2, mkH τ) ∧ sF τ 104 = (goA P on fo len (sF σ 104)).1 ∧ FR rS rT σ τ) ?_ ?_ (P 0) 0 (υ, 0, 0) e (by omega) ⟨hFu, _, rfl, H0, hA0, rfl, rfl, fun o ho => absurd ho (by simp)⟩
    · obtain ⟨v, hv, τ, hv2, t2, t3⟩ := key
      refine ⟨τ, ?_, t2, t3⟩
      rw [he, ← hv2]
      exact hv
    · rintro e k ⟨τ, rep, fad⟩ hk ⟨hF, r, hr, HI, hA, hrep, hfad, h8⟩
      right
      replace hrep : rep = r.2.1 := hrep
      replace hfad : fad = r.2.2.1 := hfad
      replace hA : sF τ 104 = r.1 := hA
      subst hrep hfad
      have hrl : r.2.1 < 2 ^ 6 := Nat.lt_of_lt_of_le HI.2.1 (Nat.pow_le_pow_right (by decide) (by omega))
      have E2 := RE_r hF E
      have B2 := RP_B E2.1 W
      have V' : WF 1 (P 0) (P 1) (sF τ 104) := by rw [hA]; exact HI.1
      have HN := RI_s (on := on) W (show k < 6 by omega) HI
      have hB : xX9_goStep_L21 (e + 1) 78 (nI r.2.1) (nI r.2.2.1) (nI k) (mkH τ) = xX9_goStep_B21 (xX9_goStep_L21 e) 78 (nI r.2.1) (nI r.2.2.1) (nI k) (mkH τ) := rfl
      have oc := WF_own V' (show k < 6 by omega)
      show ∃ s' : ZS × Nat × Nat, xX9_goStep_L21 (e + 1) 78 (nI r.2.1) (nI r.2.2.1) (nI k) (mkH τ) = _ ∧ _
      simp only [hB, xX9_goStep_B21, is_78, gu_t, r_lots B2, Option.bind_some]
      rw [if_neg (fun z => by have := (nI_leI (by omega) (by omega)).mp z; omega)]
      simp only [r_on E2 W hk, Option.bind_some]
      by_cases ho : onA (sF τ 104) on k = true
      · have ho2 : onA r.1 on k = true := by rw [← hA]; exact ho
        rw [ho]
        simp only [if_true]
        rw [if_neg (by decide)]
        simp only [rR_78_41, Option.bind_some, nl_518, ra_104 τ (show 518 < 521 by omega), is_78, gu_t, r_due (show k < 6 by omega) oc.2 oc.1]
        rw [hA] at oc ⊢
        cases hd : duA r.1 k (tn (r.1 (24 + k))) 0 with
        | none =>
          simp only [xX9_goStep_B54, nI_s]
          rw [if_neg (by decide)]
          have er : raA P on k r = r := by unfold raA; rw [if_pos ho2, hd]
          rw [er] at HN
          exact ⟨(τ, r.2.1, r.2.2.1), rfl, hF, r, by rw [zf_l, Nat.zero_add, ← hr, er], HN, hA, rfl, rfl, h8⟩
        | some i =>
          obtain ⟨-, d2, d3, -⟩ := du_in _ _ _ hd
          rw [Nat.zero_add] at d2
          obtain ⟨ω, w1', w2', w3', w4', w5'⟩ := r_report (σ := τ) (s := k) (i := i) E2 W V' (by omega) (by rw [hA]; exact d2) (by rw [hA]; exact d3)
          rw [hA] at w1' w2' w3' w4'
          have er : raA P on k r = (drA (rpA P k i r.1), r.2.1 ||| 2 ^ k, (if m100 (seedS (rpA P k i r.1 519)) < nI (P 6) then r.2.2.1 ||| 2 ^ k else r.2.2.1), up1 r.2.2.2.1 k (rpA P k i r.1 (30 + 3 * k + i)), up1 r.2.2.2.2 k (rpA P k i r.1 (48 + 3 * k + i))) := by unfold raA; rw [if_pos ho2, hd]
          simp only [xX9_goStep_B54, is_78, gu_t, w1', Option.bind_some, one_shl (show k < 32 by omega), nx_or, nI_s]
          rw [if_pos (nI_pos' (by omega))]
          refine ⟨(ω, r.2.1 ||| 2 ^ k, (if m100 (seedS (rpA P k i r.1 519)) < nI (P 6) then r.2.2.1 ||| 2 ^ k else r.2.2.1)), ?_, FR_t hF w5', raA P on k r, by rw [zf_l, Nat.zero_add, ← hr], HN, ?_, ?_, ?_, ?_⟩
          · by_cases hm : m100 (seedS (rpA P k i r.1 519)) < nI (P 6)
            · rw [if_pos hm, if_neg (by decide), if_pos hm]
            · rw [if_neg hm, if_pos rfl, if_neg hm]
          · rw [er]; exact w2'
          · rw [er]
          · rw [er]
          · rw [er]
            intro o hob
            show sF ω 108 o = up1 r.2.2.2.1 k _ o ∧ sF ω 107 o = up1 r.2.2.2.2 k _ o + 1
            rw [w3', w4']
            by_cases hok : o = k
            · rw [hok, up1_e, up1_e, up1_e, up1_e]
              exact ⟨rfl, rfl⟩
            · rw [up1_n hok, up1_n hok, up1_n hok, up1_n hok]
              apply h8
              have hs2 : (r.2.1 ||| 2 ^ k).testBit o = true := hob
              rw [Nat.testBit_or, Nat.testBit_two_pow, show decide (k = o) = false from decide_eq_false (fun z => hok z.symm), Bool.or_false] at hs2
              exact hs2
      · have ho2 : ¬ onA r.1 on k = true := by rw [← hA]; exact ho
        rw [show onA (sF τ 104) on k = false by simpa using ho]
        simp only [Bool.false_eq_true, if_false, if_true]
        simp only [xX9_goStep_B54, nI_s]
        rw [if_neg (by decide)]
        have er : raA P on k r = r := by unfold raA; rw [if_neg ho2]
        rw [er] at HN
        exact ⟨(τ, r.2.1, r.2.2.1), rfl, hF, r, by rw [zf_l, Nat.zero_add, ← hr, er], HN, hA, rfl, rfl, h8⟩
    · rintro e ⟨τ, rep, fad⟩ ⟨hF, r, hr, HI, hA, hrep, hfad, h8⟩
      replace hrep : rep = r.2.1 := hrep
      replace hfad : fad = r.2.2.1 := hfad
      replace hA : sF τ 104 = r.1 := hA
      subst hrep hfad
      have E2 := RE_r hF E
      have B2 := RP_B E2.1 W
      obtain ⟨ω, w1', w2', w3'⟩ := k2 τ r E2 hA HI h8
      have er : r = rsA P on fo len (sF σ 104) := hr
      refine ⟨(nI (goA P on fo len (sF σ 104)).2, mkH ω), ?_, ω, rfl, ?_, FR_t hF w3'⟩
      · show xX9_goStep_B21 (xX9_goStep_L21 e) 78 (nI r.2.1) (nI r.2.2.1) (nI (P 0)) (mkH τ) = _
        simp only [xX9_goStep_B21, is_78, gu_t, r_lots B2, Option.bind_some]
        rw [if_pos ((nI_leI (by omega) (by omega)).mpr (Nat.le_refl _))]
        rw [w1', er]
        rfl
      · rw [w2', er]
        rfl
  simp only [xX9_goStep, rR_78_41, Option.bind_some, nl_518, ra_104 σ (show 518 < 521 by omega)]
  by_cases h : sF σ 104 518 = 0
  · rw [if_pos h]
    obtain ⟨υ, u1, u2, u3⟩ := r_begin E W F V
    simp only [is_78, gu_t, u1, Option.bind_some]
    exact k1 υ (RE_r u3 E) u3 (by rw [if_pos h]; exact u2)
  · rw [if_neg h]
    exact k1 σ E FR_r (by rw [if_neg h])
end RG
