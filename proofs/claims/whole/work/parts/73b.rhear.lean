/-! the reference's step: hearing -/
section RG
variable {σ : ZS} {bk len : Nat} {P : Nat → Nat} {on fo : Nat → Int32}
theorem r_holds {s t : Nat} {u v : Int32} (hs : s < 6) (ht : t < 30) : ∃ τ, xX9_holds 78 (nI s) (nI t) u v (mkH σ) = some (mkH τ) ∧ sF τ 104 = up1 (up1 (sF σ 104) (84 + 30 * s + t) u) (264 + 30 * s + t) v ∧ FR (fun a => a = 104) (fun _ _ => False) σ τ := by
  refine ⟨setF (setF σ 104 (84 + 30 * s + t) u) 104 (264 + 30 * s + t) v, ?_, by rw [sF_up, sF_up], FR_t (FR_F rfl) (FR_F rfl)⟩
  simp only [xX9_holds, rR_78_41, Option.bind_some, nl_84, nl_30, nl_264, pk_mul, nI_add, wa_104 _ _ (show 84 + 30 * s + t < 521 by omega), wa_104 _ _ (show 264 + 30 * s + t < 521 by omega)]
theorem r_hear {s o t l nsl : Nat} (hs : s < 6) (ho : o < 6) (hn : nsl ≤ 30) (ht : t < nsl) (h8 : sF σ 108 o = nI t) (h7 : sF σ 107 o = nI l + 1) (ha : ∃ t, t < nsl ∧ sF σ 104 518 = nI t) : ∃ τ, xX9_hear 78 (nI s) (nI o) (mkH σ) = some (mkH τ) ∧ sF τ 104 = hrA s o (nI t) (nI l) (sF σ 104) ∧ FR (fun a => a = 104) (fun _ _ => False) σ τ := by
  obtain ⟨t0, ht0, e0⟩ := ha
  have kB : ∀ υ : ZS, FR (fun a => a = 104) (fun _ _ => False) σ υ → ∃ τ, xX9_hear_B32 78 (nI s) (nI o) (mkH υ) = some (mkH τ) ∧ sF τ 104 = up1 (up1 (up1 (up1 (sF υ 104) (84 + 30 * s + t) (nI o)) (264 + 30 * s + t) (nI l + 1)) (444 + 6 * s + o) (sF υ 104 o)) (480 + 6 * s + o) (sF υ 104 (6 + o)) ∧ FR (fun a => a = 104) (fun _ _ => False) υ τ := by
    intro υ hF
    have r8 : sF υ 108 o = nI t := by rw [hF.1 108 (by decide)]; exact h8
    have r7 : sF υ 107 o = nI l + 1 := by rw [hF.1 107 (by decide)]; exact h7
    obtain ⟨τ, t1, t2, t3⟩ := r_holds (σ := υ) (s := s) (t := t) (u := nI o) (v := nI l + 1) hs (by omega)
    have e1 : sF τ 104 o = sF υ 104 o := by rw [t2, up1_n (by omega), up1_n (by omega)]
    have e2 : sF (setF τ 104 (444 + 6 * s + o) (sF υ 104 o)) 104 (6 + o) = sF υ 104 (6 + o) := by rw [sF_ne (by omega), t2, up1_n (by omega), up1_n (by omega)]
    refine ⟨setF (setF τ 104 (444 + 6 * s + o) (sF υ 104 o)) 104 (480 + 6 * s + o) (sF υ 104 (6 + o)), ?_, ?_, FR_t t3 (FR_t (FR_F rfl) (FR_F rfl))⟩
    · simp only [xX9_hear_B32, rR_78_46, rR_78_45, Option.bind_some, ra_108 υ ho, ra_107 υ ho, r8, r7, is_78, gu_t, t1, rR_78_41, nl_0, nl_444, nl_480, nl_6, pk_mul, nI_add, Nat.zero_add, ra_104 τ (show o < 521 by omega), e1, wa_104 τ _ (show 444 + 6 * s + o < 521 by omega), ra_104 (setF τ 104 (444 + 6 * s + o) (sF υ 104 o)) (show 6 + o < 521 by omega), e2, wa_104 (setF τ 104 (444 + 6 * s + o) (sF υ 104 o)) _ (show 480 + 6 * s + o < 521 by omega)]
    · rw [sF_up, sF_up, t2]
  simp only [xX9_hear, rR_78_46, rR_78_41, Option.bind_some, ra_108 σ ho, h8, nl_518, ra_104 σ (show 518 < 521 by omega), e0]
  unfold hrA
  rw [e0, tn_n (by omega), tn_n (by omega)]
  by_cases hc : nI t = nI t0
  · rw [if_pos hc]
    have htt : t = t0 := (nI_eq (by omega) (by omega)).mp hc
    subst htt
    obtain ⟨τ, t1, t2, t3⟩ := kB σ FR_r
    refine ⟨τ, t1, ?_, t3⟩
    rw [t2]
    refine up1_c (up1_c ?_)
    funext j
    by_cases h2 : j = 264 + 30 * s + t
    · rw [h2, up1_e, up1_e]
    · rw [up1_n h2, up1_n h2]
      by_cases h1 : j = 84 + 30 * s + t
      · rw [h1, up1_e, up1_e]
      · rw [up1_n h1, up1_n h1, up1_n h2, up1_n h1]
  · rw [if_neg hc]
    obtain ⟨υ, u1, u2, u3⟩ := r_holds (σ := σ) (s := s) (t := t0) (u := -1) (v := 0) hs (by omega)
    simp only [is_78, gu_t, u1, Option.bind_some]
    obtain ⟨τ, t1, t2, t3⟩ := kB υ u3
    refine ⟨τ, t1, ?_, FR_t u3 t3⟩
    rw [t2, u2]
    rw [up1_n (show o ≠ 264 + 30 * s + t0 by omega), up1_n (show o ≠ 84 + 30 * s + t0 by omega), up1_n (show 6 + o ≠ 264 + 30 * s + t0 by omega), up1_n (show 6 + o ≠ 84 + 30 * s + t0 by omega)]
/-- who is heard, as a set, and as a count with the last of them -/
def hsA (P : Nat → Nat) (A : Nat → Int32) (s rep : Nat) : Nat := zf (fun o a => if rep.testBit o ∧ farS A s o ≤ nI (P 2) then a ||| 2 ^ o else a) 0 (P 0) 0
theorem hs_hd {A : Nat → Int32} {s rep : Nat} (hn : P 0 ≤ 6) : pc 32 (hsA P A s rep) = (hdA P A s rep).1 ∧ hsA P A s rep < 2 ^ P 0 ∧ ((hdA P A s rep).1 = 1 → hsA P A s rep = 2 ^ (hdA P A s rep).2) := by
  have h := zf_2 (f := fun o (a : Nat) => if rep.testBit o ∧ farS A s o ≤ nI (P 2) then a ||| 2 ^ o else a) (g := fun o (r : Nat × Nat) => if rep.testBit o ∧ farS A s o ≤ nI (P 2) then (r.1 + 1, o) else r) (fun k a r => pc 32 a = r.1 ∧ a < 2 ^ k ∧ (r.1 = 1 → a = 2 ^ r.2) ∧ (r.1 = 0 → a = 0)) (P 0) ?_ (P 0) 0 0 (0, 0) (by omega) ⟨pc_0 32, (by decide), (fun z => absurd z (by decide)), fun _ => rfl⟩
  · exact ⟨h.1, h.2.1, h.2.2.1⟩
  · rintro k a r hk ⟨h1, h2, h3, h4⟩
    have hp : (2 : Nat) ^ k ≤ 2 ^ (k + 1) := Nat.pow_le_pow_right (by decide) (by omega)
    by_cases hc : rep.testBit k = true ∧ farS A s k ≤ nI (P 2)
    · rw [if_pos hc, if_pos hc]
      refine ⟨?_, or_lt (Nat.lt_of_lt_of_le h2 hp) (pow_lt (by omega)), fun z => ?_, fun z => by cases z⟩
      · rw [pc_set 32 a k (by omega) (Nat.testBit_lt_two_pow h2), h1]
      · have z' : r.1 + 1 = 1 := z
        have : a = 0 := h4 (by omega)
        rw [this, Nat.zero_or]
    · rw [if_neg hc, if_neg hc]
      exact ⟨h1, Nat.lt_of_lt_of_le h2 hp, h3, h4⟩
theorem r_listen {s rep fad : Nat} {ns le : Nat → Int32} (E : RE σ bk P on fo len) (W : PW P) (V : WF 1 (P 0) (P 1) (sF σ 104)) (hs : s < P 0) (hrl : rep < 2 ^ 6) (hfl : fad < 2 ^ 6) (hr : ∀ s, rep.testBit s = true → (∃ t, t < P 1 ∧ ns s = nI t) ∧ ∃ l, 1 ≤ l ∧ l ≤ 7 ∧ le s = nI l) (h8 : ∀ o, rep.testBit o = true → sF σ 108 o = ns o ∧ sF σ 107 o = le o + 1) : ∃ τ, xX9_listen 78 (nI s) (nI rep) (nI fad) (mkH σ) = some (mkH τ) ∧ sF τ 104 = (if 1 < (hdA P (sF σ 104) s rep).1 then up1 (sF σ 104) 520 (sF σ 104 520 + 1) else if (hdA P (sF σ 104) s rep).1 = 1 ∧ fad.testBit (hdA P (sF σ 104) s rep).2 = false then hrA s (hdA P (sF σ 104) s rep).2 (ns (hdA P (sF σ 104) s rep).2) (le (hdA P (sF σ 104) s rep).2) (sF σ 104) else sF σ 104) ∧ FR (fun a => a = 104) (fun _ _ => False) σ τ := by
  have w0 := W.1
  have w1 := W.2.2.1
  have B := RP_B E.1 W
  obtain ⟨g1, g2, g3⟩ := hs_hd (P := P) (A := sF σ 104) (s := s) (rep := rep) w0
  have g4 := hd_in (P := P) (A := sF σ 104) (s := s) (rep := rep)
  have hset : hsA P (sF σ 104) s rep < 2 ^ 30 := Nat.lt_of_lt_of_le g2 (Nat.pow_le_pow_right (by decide) (by omega))
  have hpl := pc_le 32 (hsA P (sF σ 104) s rep)
  -- behind the first loop
  have kT : ∃ τ, xX9_listen_B49 78 (nI s) (nI fad) (nI (hsA P (sF σ 104) s rep)) (mkH σ) = some (mkH τ) ∧ sF τ 104 = (if 1 < (hdA P (sF σ 104) s rep).1 then up1 (sF σ 104) 520 (sF σ 104 520 + 1) else if (hdA P (sF σ 104) s rep).1 = 1 ∧ fad.testBit (hdA P (sF σ 104) s rep).2 = false then hrA s (hdA P (sF σ 104) s rep).2 (ns (hdA P (sF σ 104) s rep).2) (le (hdA P (sF σ 104) s rep).2) (sF σ 104) else sF σ 104) ∧ FR (fun a => a = 104) (fun _ _ => False) σ τ := by
    generalize hsA P (sF σ 104) s rep = x at *
    generalize hdA P (sF σ 104) s rep = cl at *
    simp only [xX9_listen_B49, r_bitsOf (show x < 2 ^ 31 by omega), Option.bind_some, g1]
    by_cases h1 : 1 < cl.1
    · rw [if_neg (fun z => by rw [nl_1] at z; have := (nI_leI (by omega) (by omega)).mp z; omega), if_pos h1]
      simp only [rR_78_41, Option.bind_some, nl_520, ra_104 σ (show 520 < 521 by omega), wa_104 σ _ (show 520 < 521 by omega), xX9_listen_B70, r_bitsOf (show x < 2 ^ 31 by omega), g1]
      rw [if_neg (fun z => by rw [nl_1] at z; have := (nI_eq (by omega) (by omega)).mp z; omega)]
      exact ⟨_, rfl, sF_up, FR_F rfl⟩
    · rw [if_pos (by rw [nl_1]; exact (nI_leI (by omega) (by omega)).mpr (by omega)), if_neg h1]
      simp only [xX9_listen_B70, r_bitsOf (show x < 2 ^ 31 by omega), Option.bind_some, g1]
      by_cases h2 : cl.1 = 1
      · rw [if_pos (by rw [h2]; rfl)]
        obtain ⟨o1, o2⟩ := g4 (by omega)
        have hx := g3 h2
        have hand : nI x &&& nI fad = if fad.testBit cl.2 then nI (2 ^ cl.2) else 0 := by
          rw [nx_and, hx, Nat.and_comm, and_pow]
          cases fad.testBit cl.2 <;> rfl
        rw [hand]
        cases hfb : fad.testBit cl.2
        · simp only [Bool.false_eq_true, if_false, if_true]
          rw [if_pos ⟨h2, trivial⟩]
          obtain ⟨⟨t, ht, et⟩, l, l1, l2, el⟩ := hr _ o2
          obtain ⟨e, he⟩ := zfu (P 0) (by omega)
          have key := lpI (fun e k (τ : ZS) => xX9_listen_L90 e 78 (nI s) (nI x) (nI k) (mkH τ)) (P 0) (fun k τ => FR (fun a => a = 104) (fun _ _ => False) σ τ ∧ sF τ 104 = if cl.2 < k then hrA s cl.2 (ns cl.2) (le cl.2) (sF σ 104) else sF σ 104) (fun v => ∃ τ, v = mkH τ ∧ sF τ 104 = hrA s cl.2 (ns cl.2) (le cl.2) (sF σ 104) ∧ FR (fun a => a = 104) (fun _ _ => False) σ τ) ?_ ?_ (P 0) 0 σ e (by omega) ⟨FR_r, by rw [if_neg (by omega)]⟩
          · obtain ⟨v, hv, τ, hv2, t2, t3⟩ := key
            refine ⟨τ, ?_, t2, t3⟩
            rw [he, ← hv2]
            exact hv
          · rintro e k τ hk ⟨hF, hA⟩
            right
            have E' := RE_r (FR_104 hF) E
            have B' := RP_B E'.1 W
            have hB : xX9_listen_L90 (e + 1) 78 (nI s) (nI x) (nI k) (mkH τ) = xX9_listen_B90 (xX9_listen_L90 e) 78 (nI s) (nI x) (nI k) (mkH τ) := rfl
            simp only [hB, xX9_listen_B90, is_78, gu_t, r_lots B', Option.bind_some]
            rw [if_neg (fun z => by have := (nI_leI (by omega) (by omega)).mp z; omega)]
            have hbit : bitB (nI x) (nI k) = decide (cl.2 = k) := by rw [bitB_n (show x < 2 ^ 31 by omega) (show k < 32 by omega), hx, Nat.testBit_two_pow]
            simp only [r_bit, hbit, Option.bind_some, nI_s]
            by_cases hk2 : cl.2 = k
            · subst hk2
              rw [if_neg (Nat.lt_irrefl _)] at hA
              rw [if_neg (show ¬ (if decide (cl.2 = cl.2) = true then (1 : Int32) else 0) = 0 by simp)]
              obtain ⟨υ, u1, u2, u3⟩ := r_hear (σ := τ) (s := s) (o := cl.2) (t := t) (l := l) (nsl := P 1) (by omega) (by omega) w1 ht (by rw [hF.1 108 (by decide), (h8 _ o2).1, et]) (by rw [hF.1 107 (by decide), (h8 _ o2).2, el]) (by rw [hA]; exact V.2.2.2.1)
              simp only [is_78, gu_t, u1, Option.bind_some]
              refine ⟨υ, rfl, FR_t hF u3, ?_⟩
              rw [if_pos (Nat.lt_succ_self _), u2, hA, et, el]
            · rw [if_pos (show (if decide (cl.2 = k) = true then (1 : Int32) else 0) = 0 by simp [hk2])]
              refine ⟨τ, rfl, hF, ?_⟩
              rw [hA]
              by_cases hk3 : cl.2 < k
              · rw [if_pos hk3, if_pos (by omega)]
              · rw [if_neg hk3, if_neg (by omega)]
          · rintro e τ ⟨hF, hA⟩
            have E' := RE_r (FR_104 hF) E
            have B' := RP_B E'.1 W
            refine ⟨mkH τ, ?_, τ, rfl, ?_, hF⟩
            · show xX9_listen_B90 (xX9_listen_L90 e) 78 (nI s) (nI x) (nI (P 0)) (mkH τ) = _
              simp only [xX9_listen_B90, is_78, gu_t, r_lots B', Option.bind_some]
              rw [if_pos ((nI_leI (by omega) (by omega)).mpr (Nat.le_refl _))]
            · rw [hA, if_pos o1]
        · simp only [if_true]
          rw [if_neg (nI_ne0 (Nat.two_pow_pos _) (Nat.lt_of_lt_of_le (pow_lt (show cl.2 < 6 by omega)) (by decide)))]
          rw [if_neg (fun z => by cases z.2)]
          exact ⟨σ, rfl, rfl, FR_r⟩
      · rw [if_neg (fun z => by rw [nl_1] at z; exact h2 ((nI_eq (by omega) (by omega)).mp z)), if_neg (fun z => h2 z.1)]
        exact ⟨σ, rfl, rfl, FR_r⟩
  obtain ⟨τ, t1, t2, t3⟩ := kT
  refine ⟨τ, ?_, t2, t3⟩
  obtain ⟨e, he⟩ := zfu (P 0) (by omega)
  have key := lp (fun e k (a : Nat) => xX9_listen_L6 e 78 (nI s) (nI rep) (nI fad) (nI a) (nI k) (mkH σ)) (fun o a => if rep.testBit o ∧ farS (sF σ 104) s o ≤ nI (P 2) then a ||| 2 ^ o else a) (P 0) (fun k a => a = zf (fun o a => if rep.testBit o ∧ farS (sF σ 104) s o ≤ nI (P 2) then a ||| 2 ^ o else a) 0 k 0) (fun _ => mkH τ) ?_ ?_ (P 0) 0 0 e (by omega) rfl
  · unfold xX9_listen
    rw [he]
    exact key.1
  · intro e k a hk ha
    refine ⟨?_, by rw [ha, zf_l, Nat.zero_add]⟩
    show xX9_listen_B6 (xX9_listen_L6 e) 78 (nI s) (nI rep) (nI fad) (nI a) (nI k) (mkH σ) = _
    simp only [xX9_listen_B6, is_78, gu_t, r_lots B, Option.bind_some]
    rw [if_neg (fun z => by have := (nI_leI (by omega) (by omega)).mp z; omega)]
    simp only [r_bit, bitB_n (show rep < 2 ^ 31 by omega) (show k < 32 by omega), Option.bind_some, is_78, gu_t, r_doHear B (show s < 6 by omega) (show k < 6 by omega), E.1.2.2.2.2.1, nI_s, one_shl (show k < 32 by omega), nx_or]
    cases hb : rep.testBit k
    · simp
    · by_cases hf : farS (sF σ 104) s k ≤ nI (P 2)
      · simp [hf]
      · simp [hf]
  · intro e a ha
    show xX9_listen_B6 (xX9_listen_L6 e) 78 (nI s) (nI rep) (nI fad) (nI a) (nI (P 0)) (mkH σ) = _
    simp only [xX9_listen_B6, is_78, gu_t, r_lots B, Option.bind_some]
    rw [if_pos ((nI_leI (by omega) (by omega)).mpr (Nat.le_refl _)), ha]
    exact t1
end RG
