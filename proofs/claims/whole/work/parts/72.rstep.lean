/-! the reference's step -/
def RE (σ : ZS) (bk : Nat) (P : Nat → Nat) (on fo : Nat → Int32) (len : Nat) : Prop := RP σ bk P ∧ (∀ s, s < P 0 → sF σ 95 (6 * bk + s) = on s) ∧ RFm σ bk fo len ∧ sI σ 78 43 < 0
theorem RE_r {σ τ : ZS} {bk : Nat} {P : Nat → Nat} {on fo : Nat → Int32} {len : Nat} (h : FR rS rT σ τ) (E : RE σ bk P on fo len) : RE τ bk P on fo len := by
  have hc : ∀ a, 81 ≤ a → a ≤ 100 → sF τ a = sF σ a := fun a h1 h2 => h.1 a (fun z => by unfold rS at z; omega)
  refine ⟨RP_r h E.1, ?_, ?_, ?_⟩
  · rw [hc 95 (by omega) (by omega)]; exact E.2.1
  · unfold RFm
    rw [hc 90 (by omega) (by omega), hc 96 (by omega) (by omega), hc 97 (by omega) (by omega), hc 99 (by omega) (by omega), hc 100 (by omega) (by omega)]
    exact E.2.2.1
  · rw [h.2.1 78 43 (fun z => by unfold rT at z; omega)]; exact E.2.2.2
theorem FR_104 {σ τ : ZS} (h : FR (fun a => a = 104) (fun _ _ => False) σ τ) : FR rS rT σ τ := FR_m h (fun a z => by unfold rS; omega) (fun _ _ z => z.elim)
theorem FR_4 {σ : ZS} {k : Nat} {v : Int32} : FR rS rT σ (setF σ 104 k v) := FR_F (by unfold rS; omega)
section RS
variable {σ : ZS} {bk len : Nat} {P : Nat → Nat} {on fo : Nat → Int32}
theorem r_own1 {s i : Nat} {t l f : Int32} (hs : s < 6) (hi : i < 3) : ∃ τ, xX9_own1 78 (nI s) (nI i) t l f (mkH σ) = some (mkH τ) ∧ sF τ 104 = owA (sF σ 104) s i t l f ∧ FR (fun a => a = 104) (fun _ _ => False) σ τ := by
  refine ⟨setF (setF (setF σ 104 (30 + 3 * s + i) t) 104 (48 + 3 * s + i) l) 104 (66 + 3 * s + i) f, ?_, ?_, FR_t (FR_t (FR_F rfl) (FR_F rfl)) (FR_F rfl)⟩
  · simp only [xX9_own1, rR_78_41, Option.bind_some, nl_30, nl_48, nl_66, nl_3, pk_mul, nI_add, wa_104 _ _ (show 30 + 3 * s + i < 521 by omega), wa_104 _ _ (show 48 + 3 * s + i < 521 by omega), wa_104 _ _ (show 66 + 3 * s + i < 521 by omega)]
  · rw [sF_up, sF_up, sF_up]
    rfl
theorem r_fillB {s rt n base : Nat} (E : RE σ bk P on fo len) (W : PW P) (V : WF 1 (P 0) (P 1) (sF σ 104)) (hs : s < 6) (hn : sF σ 104 (24 + s) = nI n) (hn3 : n < 3) (hb : base < 30) (r31 : Nat → Int32 → Int32 → Int32 → ZH → Option ZH) : ∃ τ, xX9_seekSlots_B102 r31 78 (nI s) (nI rt) (nI n) (nI base) (mkH σ) = (match ckA P (sF σ 104) s base with | none => r31 78 (nI s) (nI rt) 0 (mkH τ) | some _ => r31 78 (nI s) (nI rt) 1 (mkH τ)) ∧ sF τ 104 = (match ckA P (sF σ 104) s base with | none => sF σ 104 | some t => up1 (owA (drA (drA (sF σ 104))) s n (nI t) (nI (lfS (drA (sF σ 104)) (P 5))) (sF σ 104 517)) (24 + s) (nI (n + 1))) ∧ FR rS rT σ τ := by
  obtain ⟨τ, h1, h2, h3⟩ := r_choose (slot := base) E.1 W V hs hb E.2.2.2
  have hF : FR rS rT σ τ := FR_m h3 (fun a z => by unfold rS; omega) (fun _ _ z => z.elim)
  simp only [xX9_seekSlots_B102, is_78, gu_t, h1, Option.bind_some]
  change sF τ 104 = (match ckA P (sF σ 104) s base with | none => sF σ 104 | some _ => drA (sF σ 104)) at h2
  change ∃ τ', (if (match ckA P (sF σ 104) s base with | none => (-1 : Int32) | some t => nI t) < 0 then _ else _) = _ ∧ _
  cases hc : ckA P (sF σ 104) s base with
  | none =>
    rw [hc] at h2
    refine ⟨τ, ?_, h2, hF⟩
    have hh : chS (sF σ 104) s (wP (P 1) (P 3) base) (wN (P 1) (P 3)) (P 4) = none := hc
    simp only [hh]
    rw [if_pos (by decide)]
    simp only [xX9_seekSlots_B123, xX9_seekSlots_B149, if_true]
  | some t =>
    rw [hc] at h2
    replace h2 : sF τ 104 = drA (sF σ 104) := h2
    have hh : chS (sF σ 104) s (wP (P 1) (P 3) base) (wN (P 1) (P 3)) (P 4) = some t := hc
    have ht := ck_lt W hc
    have hm := W.2.2.1
    simp only [hh]
    rw [if_neg (nI_pos (by omega))]
    have R1 := RP_r hF E.1
    have V1 : WF 1 (P 0) (P 1) (sF τ 104) := by rw [h2]; exact WF_dr V
    have rl := r_left R1 W V1.2.2.2.2
    obtain ⟨υ, u1, u2, u3⟩ := r_own1 (σ := setF τ 104 519 (seedS (sF τ 104 519))) (s := s) (i := n) (t := nI t) (l := nI (lfS (sF τ 104) (P 5))) (f := sF τ 104 517) hs hn3
    have eA : sF (setF τ 104 519 (seedS (sF τ 104 519))) 104 = drA (drA (sF σ 104)) := by rw [sF_dr, h2]
    have e5 : sF (setF τ 104 519 (seedS (sF τ 104 519))) 104 517 = sF τ 104 517 := by rw [sF_ne (by omega)]
    have e24 : sF υ 104 (24 + s) = nI n := by rw [u2, owA_n (by omega) (by omega) (by omega), eA, drA_n (by omega), drA_n (by omega), hn]
    refine ⟨setF υ 104 (24 + s) (nI (n + 1)), ?_, ?_, FR_t hF (FR_t FR_4 (FR_t (FR_104 u3) FR_4))⟩
    · simp only [xX9_seekSlots_B123, xX9_seekSlots_B149]
      rw [if_neg (by decide)]
      simp only [is_78, gu_t, rl, Option.bind_some, rR_78_41, nl_517, ra_104 (setF τ 104 519 (seedS (sF τ 104 519))) (show 517 < 521 by omega), e5, u1]
      rw [if_neg (by decide)]
      simp only [nl_24, nI_add, ra_104 υ (show 24 + s < 521 by omega), Option.bind_some, e24, nI_s, wa_104 υ _ (show 24 + s < 521 by omega)]
    · rw [sF_up, u2, eA, h2]
      unfold lfS
      rw [drA_n (show 517 ≠ 519 by decide)]
theorem r_fill {s rt : Nat} (W : PW P) (hs : s < 6) (hr : rt ≤ 3) (hr0 : 1 ≤ rt) : ∀ (f : Nat) (σ : ZS) (e : Nat), RE σ bk P on fo len → WF 1 (P 0) (P 1) (sF σ 104) → rt ≤ tn (sF σ 104 (24 + s)) + f → ∃ τ, xX9_seekSlots_L31 (e + f + 2) 78 (nI s) (nI rt) 1 (mkH σ) = some (mkH τ) ∧ sF τ 104 = flA P s rt f (sF σ 104) ∧ FR rS rT σ τ := by
  have hm := W.2.1
  have hm2 := W.2.2.1
  intro f
  induction f with
  | zero =>
    intro σ e E V hf
    have oc := WF_own V hs
    refine ⟨σ, ?_, rfl, FR_r⟩
    show xX9_seekSlots_B31 (xX9_seekSlots_L31 (e + 0 + 1)) 78 (nI s) (nI rt) 1 (mkH σ) = _
    simp only [xX9_seekSlots_B31]
    rw [if_neg (by decide)]
    simp only [rR_78_41, Option.bind_some, nl_24, nI_add, ra_104 σ (show 24 + s < 521 by omega)]
    rw [oc.1, if_pos ((nI_leI (by omega) (by omega)).mpr (by omega))]
  | succ f ih =>
    intro σ e E V hf
    have oc := WF_own V hs
    have B := RP_B E.1 W
    rw [flA]
    by_cases h1 : rt ≤ tn (sF σ 104 (24 + s))
    · rw [if_pos h1]
      refine ⟨σ, ?_, rfl, FR_r⟩
      show xX9_seekSlots_B31 (xX9_seekSlots_L31 (e + (f + 1) + 1)) 78 (nI s) (nI rt) 1 (mkH σ) = _
      simp only [xX9_seekSlots_B31]
      rw [if_neg (by decide)]
      simp only [rR_78_41, Option.bind_some, nl_24, nI_add, ra_104 σ (show 24 + s < 521 by omega)]
      rw [oc.1, if_pos ((nI_leI (by omega) (by omega)).mpr h1)]
    · rw [if_neg h1]
      obtain ⟨z, hz, ez⟩ := V.2.2.2.2
      -- the state and the place round which there is a choice
      have hmid : ∃ υ base, xX9_seekSlots_B31 (xX9_seekSlots_L31 (e + f + 2)) 78 (nI s) (nI rt) 1 (mkH σ) = xX9_seekSlots_B102 (xX9_seekSlots_L31 (e + f + 2)) 78 (nI s) (nI rt) (nI (tn (sF σ 104 (24 + s)))) (nI base) (mkH υ) ∧ sF υ 104 = (if tn (sF σ 104 (24 + s)) = 0 then drA (sF σ 104) else sF σ 104) ∧ base = (if tn (sF σ 104 (24 + s)) = 0 then tn (seedS (sF σ 104 519)) % P 1 else (tn (sF σ 104 (30 + 3 * s)) + tn (sF σ 104 (24 + s)) * (P 1 / rt)) % P 1) ∧ base < 30 ∧ FR rS rT σ υ := by
        simp only [xX9_seekSlots_B31]
        rw [if_neg (by decide)]
        simp only [rR_78_41, Option.bind_some, nl_24, nI_add, ra_104 σ (show 24 + s < 521 by omega)]
        rw [if_neg (fun q => h1 (by rw [oc.1] at q; exact (nI_leI (by omega) (by omega)).mp q))]
        by_cases h0 : tn (sF σ 104 (24 + s)) = 0
        · rw [if_pos (show sF σ 104 (24 + s) = 0 by rw [oc.1, h0]; rfl), if_pos h0, if_pos h0]
          have R1 : RP (setF σ 104 519 (seedS (sF σ 104 519))) bk P := RP_r FR_4 E.1
          simp only [is_78, gu_t, r_draw, Option.bind_some, r_round (RP_B R1 W)]
          rw [if_neg (nI_ne0 (by omega) (by omega))]
          refine ⟨setF σ 104 519 (seedS (sF σ 104 519)), tn (seedS (sF σ 104 519)) % P 1, ?_, sF_dr, rfl, Nat.lt_of_lt_of_le (Nat.mod_lt _ (by omega)) hm2, FR_4⟩
          rw [h0, show sF σ 104 (24 + s) = nI 0 by rw [oc.1, h0], ez, seed_n hz, pk_rem (by omega) (by omega) (by omega), tn_n (by omega)]
        · rw [if_neg (show ¬ sF σ 104 (24 + s) = 0 from fun q => h0 (by rw [q]; rfl)), if_neg h0, if_neg h0]
          obtain ⟨⟨t, ht, et⟩, -⟩ := V.2.1 s 0 hs (by omega) (by omega)
          rw [Nat.add_zero] at et
          have hq : tn (sF σ 104 (24 + s)) * (P 1 / rt) ≤ 90 := by
            have h5 : P 1 / rt ≤ 30 := Nat.le_trans (Nat.div_le_self _ _) hm2
            exact Nat.le_trans (Nat.mul_le_mul oc.2 h5) (by decide)
          simp only [nl_30, nl_3, pk_mul, nI_add, ra_104 σ (show 30 + 3 * s < 521 by omega), Option.bind_some, is_78, gu_t, r_round B]
          rw [if_neg (nI_ne0 (by omega) (by omega)), if_neg (nI_ne0 (by omega) (by omega))]
          refine ⟨σ, (tn (sF σ 104 (30 + 3 * s)) + tn (sF σ 104 (24 + s)) * (P 1 / rt)) % P 1, ?_, rfl, rfl, Nat.lt_of_lt_of_le (Nat.mod_lt _ (by omega)) hm2, FR_r⟩
          rw [pk_div (by omega) (by omega) (by omega), et, tn_n (by omega)]
          conv => lhs; rw [oc.1]
          rw [pk_mul, nI_add, pk_rem (by omega) (by omega) (by omega)]
      obtain ⟨υ, base, u1, u2, u3, u4, u5⟩ := hmid
      have E1 := RE_r u5 E
      have V1 : WF 1 (P 0) (P 1) (sF υ 104) := by
        rw [u2]
        by_cases h0 : tn (sF σ 104 (24 + s)) = 0
        · rw [if_pos h0]; exact WF_dr V
        · rw [if_neg h0]; exact V
      have e24 : sF υ 104 (24 + s) = nI (tn (sF σ 104 (24 + s))) := by
        rw [u2, ← oc.1]
        by_cases h0 : tn (sF σ 104 (24 + s)) = 0
        · rw [if_pos h0, drA_n (by omega)]
        · rw [if_neg h0]
      have e17 : sF υ 104 517 = sF σ 104 517 := by
        rw [u2]
        by_cases h0 : tn (sF σ 104 (24 + s)) = 0
        · rw [if_pos h0, drA_n (by omega)]
        · rw [if_neg h0]
      obtain ⟨τ, t1, t2, t3⟩ := r_fillB (rt := rt) E1 W V1 hs e24 (by omega) u4 (xX9_seekSlots_L31 (e + f + 2))
      rw [← u2, ← u3]
      show ∃ τ, xX9_seekSlots_B31 (xX9_seekSlots_L31 (e + (f + 1) + 1)) 78 (nI s) (nI rt) 1 (mkH σ) = _ ∧ _
      rw [show e + (f + 1) + 1 = e + f + 2 by omega, u1, t1]
      cases hc : ckA P (sF υ 104) s base with
      | none =>
        rw [hc] at t2
        refine ⟨τ, ?_, t2, FR_t u5 t3⟩
        show xX9_seekSlots_B31 (xX9_seekSlots_L31 (e + f + 1)) 78 (nI s) (nI rt) 0 (mkH τ) = _
        simp only [xX9_seekSlots_B31, if_true]
      | some t =>
        rw [hc] at t2
        have E2 := RE_r t3 E1
        have w5 : 1 ≤ P 5 ∧ P 5 ≤ 7 := ⟨W.2.2.2.2.2.2.2.1, W.2.2.2.2.2.2.2.2.1⟩
        have V2 : WF 1 (P 0) (P 1) (sF τ 104) := by
          rw [t2]
          have e1 : drA (drA (sF υ 104)) (24 + s) = nI (tn (sF σ 104 (24 + s))) := by rw [drA_n (by omega), drA_n (by omega), e24]
          have e2 : tn (drA (drA (sF υ 104)) (24 + s)) = tn (sF σ 104 (24 + s)) := by rw [e1, tn_n (by omega)]
          have := WF_add (t := t) (l := lfS (drA (sF υ 104)) (P 5)) (f := sF υ 104 517) (WF_dr (WF_dr V1)) hs (by rw [e2]; omega) (ck_lt W hc) (lfS_le w5.1 w5.2)
          rw [e2] at this
          exact this
        have e3 : tn (sF τ 104 (24 + s)) = tn (sF σ 104 (24 + s)) + 1 := by
          rw [t2]
          show tn (up1 _ (24 + s) _ (24 + s)) = _
          rw [up1_e, tn_n (by omega)]
        obtain ⟨ω, w1, w2, w3⟩ := ih τ e E2 V2 (by omega)
        refine ⟨ω, w1, ?_, FR_t u5 (FR_t t3 w3)⟩
        rw [w2, t2]
        show flA P s rt f (up1 (owA _ _ _ _ _ (sF υ 104 517)) _ _) = _
        rw [e17]
theorem r_seek {s : Nat} (E : RE σ bk P on fo len) (W : PW P) (F : WFo fo len) (V : WF 1 (P 0) (P 1) (sF σ 104)) (hs : s < 6) : ∃ τ, xX9_seekSlots 78 (nI s) (mkH σ) = some (mkH τ) ∧ sF τ 104 = skA P fo len s (sF σ 104) ∧ FR rS rT σ τ := by
  obtain ⟨υ, u1, u2⟩ := r_rate E.1 W V F E.2.2.1 hs
  have hA : sF υ 104 = sF σ 104 := u2.1 104 (by decide)
  have hF : FR rS rT σ υ := FR_m u2 (fun a z => by unfold rS; omega) (fun _ _ z => z)
  have hr := rtS_le (A := sF σ 104) (s := s) (m := P 1) (fo := fo) (len := len)
  have oc := WF_own V hs
  obtain ⟨e, he⟩ := zfu 4 (by omega)
  simp only [xX9_seekSlots, is_78, gu_t, u1, Option.bind_some, rR_78_41, nl_24, nI_add, ra_104 υ (show 24 + s < 521 by omega), hA]
  unfold skA
  generalize rtS (sF σ 104) s (P 1) fo len = rt at *
  by_cases h : rt < tn (sF σ 104 (24 + s))
  · rw [if_neg (fun q => by rw [oc.1] at q; have := (nI_leI (by omega) (by omega)).mp q; omega), if_pos h]
    simp only [wa_104 υ _ (show 24 + s < 521 by omega), Option.bind_some]
    have hF2 : FR rS rT σ (setF υ 104 (24 + s) (nI rt)) := FR_t hF FR_4
    have hA2 : sF (setF υ 104 (24 + s) (nI rt)) 104 = up1 (sF σ 104) (24 + s) (nI rt) := by rw [sF_up, hA]
    obtain ⟨τ, t1, t2, t3⟩ := r_fill (s := s) (rt := rt) W hs hr.2 hr.1 3 (setF υ 104 (24 + s) (nI rt)) e (RE_r hF2 E) (by rw [hA2]; exact WF_cut V hs (by omega)) (by omega)
    rw [he]
    exact ⟨τ, t1, by rw [t2, hA2], FR_t hF2 t3⟩
  · rw [if_pos (by rw [oc.1]; exact (nI_leI (by omega) (by omega)).mpr (by omega)), if_neg h]
    obtain ⟨τ, t1, t2, t3⟩ := r_fill (s := s) (rt := rt) W hs hr.2 hr.1 3 υ e (RE_r hF E) (by rw [hA]; exact V) (by omega)
    rw [he]
    exact ⟨τ, t1, by rw [t2, hA], FR_t hF t3⟩
theorem r_on {s : Nat} (E : RE σ bk P on fo len) (W : PW P) (hs : s < P 0) : xX9_isOn 78 (nI s) (mkH σ) = some (if onA (sF σ 104) on s then 1 else 0, mkH σ) := by
  rw [r_isOn (RP_B E.1 W) (Nat.lt_of_lt_of_le hs W.1), E.2.1 s hs]
  rfl
theorem r_age {k : Nat} (hk : k < 180) : ∃ τ, xX9_ageEntry 78 (nI k) (mkH σ) = some (mkH τ) ∧ FR rS rT σ τ ∧ sF τ 104 = (if sF σ 104 (264 + k) = 0 then sF σ 104 else if sF σ 104 (264 + k) - 1 = 0 then up1 (up1 (sF σ 104) (264 + k) (sF σ 104 (264 + k) - 1)) (84 + k) (-1) else up1 (sF σ 104) (264 + k) (sF σ 104 (264 + k) - 1)) := by
  simp only [xX9_ageEntry, rR_78_41, Option.bind_some, nl_264, nl_84, nI_add, ra_104 σ (show 264 + k < 521 by omega)]
  by_cases h0 : sF σ 104 (264 + k) = 0
  · rw [if_pos h0, if_pos h0]
    exact ⟨σ, rfl, FR_r, rfl⟩
  · rw [if_neg h0, if_neg h0]
    simp only [rR_78_41, wa_104 σ _ (show 264 + k < 521 by omega), Option.bind_some, ra_104 (setF σ 104 (264 + k) (sF σ 104 (264 + k) - 1)) (show 264 + k < 521 by omega), sF_eq]
    by_cases h1 : sF σ 104 (264 + k) - 1 = 0
    · rw [if_pos h1, if_pos h1]
      simp only [rR_78_41, wa_104 (setF σ 104 (264 + k) (sF σ 104 (264 + k) - 1)) _ (show 84 + k < 521 by omega), Option.bind_some]
      exact ⟨_, rfl, FR_t FR_4 FR_4, by rw [sF_up, sF_up]⟩
    · rw [if_neg h1, if_neg h1]
      exact ⟨_, rfl, FR_4, sF_up⟩
/-- ageing one entry more -/
theorem ag_s {n m : Nat} {A : Nat → Int32} (V : WF 1 n m A) {k : Nat} (hk : k < 180) (hn : n ≤ 6) : (if agA k A (264 + k) = 0 then agA k A else if agA k A (264 + k) - 1 = 0 then up1 (up1 (agA k A) (264 + k) (agA k A (264 + k) - 1)) (84 + k) (-1) else up1 (agA k A) (264 + k) (agA k A (264 + k) - 1)) = agA (k + 1) A := by
  have e : agA k A (264 + k) = A (264 + k) := by
    unfold agA
    rw [if_neg (by omega), if_neg (by omega)]
  have e2 : agA k A (84 + k) = A (84 + k) := by
    unfold agA
    rw [if_neg (by omega), if_neg (by omega)]
  have hy : A (264 + k) = 0 ∨ ∃ y, 1 ≤ y ∧ y ≤ 8 ∧ A (264 + k) = nI y := by
    rcases V.2.2.1 (k / 30) (k % 30) (by omega) (by omega) with ⟨-, h⟩ | ⟨o, y, -, -, h1, h2, -, h⟩
    · left; rw [← h]; congr 1; omega
    · right; exact ⟨y, h1, h2, by rw [← h]; congr 1; omega⟩
  rw [e]
  have hrest : ∀ j, j ≠ 84 + k → j ≠ 264 + k → agA (k + 1) A j = agA k A j := by
    intro j h1 h2
    unfold agA
    by_cases c1 : 84 ≤ j ∧ j < 84 + k
    · rw [if_pos c1, if_pos (by omega)]
    · rw [if_neg c1, if_neg (by omega)]
      by_cases c2 : 264 ≤ j ∧ j < 264 + k
      · rw [if_pos c2, if_pos (by omega)]
      · rw [if_neg c2, if_neg (by omega)]
  have f1 : agA (k + 1) A (84 + k) = if A (264 + k) = 1 then -1 else A (84 + k) := by
    unfold agA
    rw [if_pos (by omega), show 180 + (84 + k) = 264 + k by omega]
  have f2 : agA (k + 1) A (264 + k) = if A (264 + k) = 0 then 0 else A (264 + k) - 1 := by
    unfold agA
    rw [if_neg (by omega), if_pos (by omega)]
  funext j
  rcases hy with h | ⟨y, y1, y2, h⟩
  · rw [if_pos h]
    by_cases j1 : j = 84 + k
    · rw [j1, f1, e2, h, if_neg (by decide)]
    · by_cases j2 : j = 264 + k
      · rw [j2, f2, e, if_pos h, h]
      · rw [hrest j j1 j2]
  · have hne : ¬ A (264 + k) = 0 := by rw [h]; exact nI_ne0 (by omega) (by omega)
    have hs1 : A (264 + k) - 1 = nI (y - 1) := by rw [h, nl_1, pk_sub y1]
    rw [if_neg hne]
    rw [if_neg hne] at f2
    by_cases hy1 : y = 1
    · have h11 : A (264 + k) = 1 := by rw [h, hy1]; rfl
      rw [if_pos (show A (264 + k) - 1 = 0 by rw [hs1, hy1]; rfl)]
      rw [if_pos h11] at f1
      by_cases j1 : j = 84 + k
      · rw [j1, f1, up1_e]
      · rw [up1_n j1]
        by_cases j2 : j = 264 + k
        · rw [j2, up1_e, f2]
        · rw [up1_n j2, hrest j j1 j2]
    · rw [if_neg (show ¬ A (264 + k) - 1 = 0 by rw [hs1]; exact nI_ne0 (by omega) (by omega))]
      rw [if_neg (show ¬ A (264 + k) = 1 by rw [h]; exact nI_n1 hy1 (by omega))] at f1
      by_cases j2 : j = 264 + k
      · rw [j2, up1_e, f2]
      · rw [up1_n j2]
        by_cases j1 : j = 84 + k
        · rw [j1, f1, e2]
        · rw [hrest j j1 j2]
/-- moving one ship more -/
theorem mv_s {A : Nat → Int32} {k : Nat} (hk : k < 6) : up1 (up1 (mvA k A) k (m100 (mvA k A k + mvA k A (12 + k)))) (6 + k) (m100 (mvA k A (6 + k) + mvA k A (18 + k))) = mvA (k + 1) A := by
  have g : ∀ j, ¬ (j < k ∨ (6 ≤ j ∧ j < 6 + k)) → mvA k A j = A j := fun j h => by unfold mvA; rw [if_neg h]
  rw [g k (by omega), g (12 + k) (by omega), g (6 + k) (by omega), g (18 + k) (by omega)]
  funext j
  by_cases j2 : j = 6 + k
  · subst j2
    rw [up1_e]
    unfold mvA
    rw [if_pos (by omega), show 12 + (6 + k) = 18 + k by omega]
  · rw [up1_n j2]
    by_cases j1 : j = k
    · subst j1
      rw [up1_e]
      unfold mvA
      rw [if_pos (by omega)]
    · rw [up1_n j1]
      unfold mvA
      by_cases c : j < k ∨ (6 ≤ j ∧ j < 6 + k)
      · rw [if_pos c, if_pos (by omega)]
      · rw [if_neg c, if_neg (by omega)]
theorem r_bgL (E : RE σ bk P on fo len) (W : PW P) (F : WFo fo len) (V : WF 1 (P 0) (P 1) (sF σ 104)) : ∃ τ, xX9_beginFrame_L109 zFU 78 (0 : Int32) (mkH σ) = some (mkH τ) ∧ sF τ 104 = zf (fun s A => if onA A on s ∧ on s < A 517 then skA P fo len s A else A) 0 (P 0) (sF σ 104) ∧ FR rS rT σ τ := by
  have w0 := W.1
  obtain ⟨e, he⟩ := zfu (P 0) (by omega)
  have key := lpI (fun e k (τ : ZS) => xX9_beginFrame_L109 e 78 (nI k) (mkH τ)) (P 0) (fun k τ => FR rS rT σ τ ∧ sF τ 104 = zf (fun s A => if onA A on s ∧ on s < A 517 then skA P fo len s A else A) 0 k (sF σ 104) ∧ WF 1 (P 0) (P 1) (sF τ 104)) (fun v => ∃ τ, v = mkH τ ∧ sF τ 104 = zf (fun s A => if onA A on s ∧ on s < A 517 then skA P fo len s A else A) 0 (P 0) (sF σ 104) ∧ FR rS rT σ τ) ?_ ?_ (P 0) 0 σ e (by omega) ⟨FR_r, rfl, V⟩
  · obtain ⟨v, hv, τ, hv2, t2, t3⟩ := key
    refine ⟨τ, ?_, t2, t3⟩
    rw [he, ← hv2]
    exact hv
  · rintro e k τ hk ⟨hF, hA, V'⟩
    right
    have E' := RE_r hF E
    have B' := RP_B E'.1 W
    have hB : xX9_beginFrame_L109 (e + 1) 78 (nI k) (mkH τ) = xX9_beginFrame_B109 (xX9_beginFrame_L109 e) 78 (nI k) (mkH τ) := rfl
    have hb2 := E'.1.2.1
    simp only [hB, xX9_beginFrame_B109, is_78, gu_t, r_lots B', Option.bind_some]
    rw [if_neg (fun z => by have := (nI_leI (by omega) (by omega)).mp z; omega)]
    simp only [r_on E' W hk, Option.bind_some, rR_78_25, rI_78_34, E'.1.1, nl_6, pk_mul, nI_add, ra_95 τ (show 6 * bk + k < 12 by omega), E'.2.1 k hk, rR_78_41, nl_517, ra_104 τ (show 517 < 521 by omega), nI_s, zf_l, Nat.zero_add, ← hA]
    by_cases ho : onA (sF τ 104) on k = true
    · rw [ho]
      simp only [if_true]
      rw [if_neg (by decide)]
      by_cases hf : on k < sF τ 104 517
      · rw [if_neg (Int32.not_le.mpr hf)]
        obtain ⟨υ, u1, u2, u3⟩ := r_seek E' W F V' (show k < 6 by omega)
        simp only [is_78, gu_t, u1, Option.bind_some]
        refine ⟨υ, rfl, FR_t hF u3, ?_, ?_⟩
        · rw [if_pos ⟨trivial, hf⟩]; exact u2
        · rw [u2]; exact WF_sk W (by omega) V'
      · rw [if_pos (Int32.not_lt.mp hf)]
        refine ⟨τ, rfl, hF, ?_, V'⟩
        rw [if_neg (fun z => hf z.2)]
    · rw [show onA (sF τ 104) on k = false by simpa using ho]
      simp only [Bool.false_eq_true, if_false, if_true]
      refine ⟨τ, rfl, hF, ?_, V'⟩
      rw [if_neg (fun z => z.1)]
  · rintro e τ ⟨hF, hA, V'⟩
    have E' := RE_r hF E
    have B' := RP_B E'.1 W
    refine ⟨mkH τ, ?_, τ, rfl, hA, hF⟩
    show xX9_beginFrame_B109 (xX9_beginFrame_L109 e) 78 (nI (P 0)) (mkH τ) = _
    simp only [xX9_beginFrame_B109, is_78, gu_t, r_lots B', Option.bind_some]
    rw [if_pos ((nI_leI (by omega) (by omega)).mpr (Nat.le_refl _))]
theorem r_agL (E : RE σ bk P on fo len) (W : PW P) (F : WFo fo len) (V : WF 1 (P 0) (P 1) (sF σ 104)) : ∃ τ, xX9_beginFrame_L89 zFU 78 (0 : Int32) (mkH σ) = some (mkH τ) ∧ sF τ 104 = zf (fun s A => if onA A on s ∧ on s < A 517 then skA P fo len s A else A) 0 (P 0) (agA 180 (sF σ 104)) ∧ FR rS rT σ τ := by
  obtain ⟨e, he⟩ := zfu 180 (by omega)
  have h0 : agA 0 (sF σ 104) = sF σ 104 := by
    funext j
    unfold agA
    rw [if_neg (by omega), if_neg (by omega)]
  have key := lpI (fun e k (τ : ZS) => xX9_beginFrame_L89 e 78 (nI k) (mkH τ)) 180 (fun k τ => FR rS rT σ τ ∧ sF τ 104 = agA k (sF σ 104)) (fun v => ∃ τ, v = mkH τ ∧ sF τ 104 = zf (fun s A => if onA A on s ∧ on s < A 517 then skA P fo len s A else A) 0 (P 0) (agA 180 (sF σ 104)) ∧ FR rS rT σ τ) ?_ ?_ 180 0 σ e (by omega) ⟨FR_r, h0.symm⟩
  · obtain ⟨v, hv, τ, hv2, t2, t3⟩ := key
    refine ⟨τ, ?_, t2, t3⟩
    rw [he, ← hv2]
    exact hv
  · rintro e k τ hk ⟨hF, hA⟩
    right
    have hB : xX9_beginFrame_L89 (e + 1) 78 (nI k) (mkH τ) = xX9_beginFrame_B89 (xX9_beginFrame_L89 e) 78 (nI k) (mkH τ) := rfl
    obtain ⟨υ, u1, u2, u3⟩ := r_age (σ := τ) hk
    simp only [hB, xX9_beginFrame_B89, is_78, gu_t, u1, Option.bind_some, nI_s]
    rw [if_neg (fun z => by rw [nl_180] at z; have := (nI_leI (by omega) (by omega)).mp z; omega)]
    refine ⟨υ, rfl, FR_t hF u2, ?_⟩
    rw [u3, hA]
    exact ag_s V hk W.1
  · rintro e τ ⟨hF, hA⟩
    have E' := RE_r hF E
    obtain ⟨υ, u1, u2, u3⟩ := r_bgL E' W F (by rw [hA]; exact WF_ag V W.1)
    refine ⟨mkH υ, ?_, υ, rfl, ?_, FR_t hF u3⟩
    · show xX9_beginFrame_B89 (xX9_beginFrame_L89 e) 78 (nI 180) (mkH τ) = _
      simp only [xX9_beginFrame_B89]
      rw [if_pos (by rw [nl_180]; exact (nI_leI (by omega) (by omega)).mpr (Nat.le_refl _))]
      exact u1
    · rw [u2, hA]
theorem r_begin (E : RE σ bk P on fo len) (W : PW P) (F : WFo fo len) (V : WF 1 (P 0) (P 1) (sF σ 104)) : ∃ τ, xX9_beginFrame 78 (mkH σ) = some (mkH τ) ∧ sF τ 104 = bgA P on fo len (sF σ 104) ∧ FR rS rT σ τ := by
  have w0 := W.1
  simp only [xX9_beginFrame, rR_78_41, Option.bind_some, nl_517, ra_104 σ (show 517 < 521 by omega)]
  unfold bgA
  by_cases h : 0 < sF σ 104 517
  · rw [if_neg (Int32.not_le.mpr h), if_pos h]
    obtain ⟨e, he⟩ := zfu (P 0) (by omega)
    have h0 : mvA 0 (sF σ 104) = sF σ 104 := by
      funext j
      unfold mvA
      rw [if_neg (by omega)]
    have key := lpI (fun e k (τ : ZS) => xX9_beginFrame_L13 e 78 (nI k) (mkH τ)) (P 0) (fun k τ => FR rS rT σ τ ∧ sF τ 104 = mvA k (sF σ 104)) (fun v => ∃ τ, v = mkH τ ∧ sF τ 104 = zf (fun s A => if onA A on s ∧ on s < A 517 then skA P fo len s A else A) 0 (P 0) (agA 180 (mvA (P 0) (sF σ 104))) ∧ FR rS rT σ τ) ?_ ?_ (P 0) 0 σ e (by omega) ⟨FR_r, h0.symm⟩
    · obtain ⟨v, hv, τ, hv2, t2, t3⟩ := key
      refine ⟨τ, ?_, t2, t3⟩
      rw [he, ← hv2]
      exact hv
    · rintro e k τ hk ⟨hF, hA⟩
      right
      have E' := RE_r hF E
      have B' := RP_B E'.1 W
      have hB : xX9_beginFrame_L13 (e + 1) 78 (nI k) (mkH τ) = xX9_beginFrame_B13 (xX9_beginFrame_L13 e) 78 (nI k) (mkH τ) := rfl
      simp only [hB, xX9_beginFrame_B13, is_78, gu_t, r_lots B', Option.bind_some]
      rw [if_neg (fun z => by have := (nI_leI (by omega) (by omega)).mp z; omega)]
      have s6 : ∀ v, sF (setF τ 104 k v) 104 (6 + k) = sF τ 104 (6 + k) := fun v => sF_ne (by omega)
      have s18 : ∀ v, sF (setF τ 104 k v) 104 (18 + k) = sF τ 104 (18 + k) := fun v => sF_ne (by omega)
      simp only [rR_78_41, Option.bind_some, nl_0, nl_12, nl_6, nl_18, nI_add, Nat.zero_add, ra_104 τ (show k < 521 by omega), ra_104 τ (show 12 + k < 521 by omega), wa_104 τ _ (show k < 521 by omega), ra_104 (setF τ 104 k _) (show 6 + k < 521 by omega), ra_104 (setF τ 104 k _) (show 18 + k < 521 by omega), s6, s18, wa_104 (setF τ 104 k _) _ (show 6 + k < 521 by omega), nI_s]
      refine ⟨_, rfl, FR_t hF (FR_t FR_4 FR_4), ?_⟩
      rw [sF_up, sF_up, hA]
      exact mv_s (by omega)
    · rintro e τ ⟨hF, hA⟩
      have E' := RE_r hF E
      have B' := RP_B E'.1 W
      obtain ⟨υ, u1, u2, u3⟩ := r_agL E' W F (by rw [hA]; exact WF_mv W.1 V)
      refine ⟨mkH υ, ?_, υ, rfl, ?_, FR_t hF u3⟩
      · show xX9_beginFrame_B13 (xX9_beginFrame_L13 e) 78 (nI (P 0)) (mkH τ) = _
        simp only [xX9_beginFrame_B13, is_78, gu_t, r_lots B', Option.bind_some]
        rw [if_pos ((nI_leI (by omega) (by omega)).mpr (Nat.le_refl _))]
        exact u1
      · rw [u2, hA]
  · rw [if_pos (Int32.not_lt.mp h), if_neg h]
    exact r_bgL E W F V
end RS
