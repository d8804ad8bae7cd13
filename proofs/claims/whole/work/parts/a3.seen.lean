/-! what was seen: seen, untell -/
theorem nb0 : vp_nar .boolean 0 = 0 := rfl
theorem nb1 : vp_nar .boolean 1 = 1 := rfl
def sS (a : Nat) : Prop := (69 ≤ a ∧ a ≤ 74) ∨ (111 ≤ a ∧ a ≤ 115)
def sT (a k : Nat) : Prop := a = 68 ∨ (a = 78 ∧ k = 57)
/-- what was seen changed alone -/
theorem IV_s {σ τ : ZS} {bk : Nat} {P : Nat → Nat} {on fo : Nat → Int32} {len : Nat} {X : Nat → Nat → Int32} (hF : FR sS sT σ τ) (hM : IS τ P) (I : IV σ bk P on fo len X) : IV τ bk P on fo len X := by
  have h104 : sF τ 104 = sF σ 104 := hF.1 104 (fun z => by unfold sS at z; omega)
  obtain ⟨i1, i2, i3, i4, i5, i6, i7, i8⟩ := I
  have g : GF sS sT (fun _ _ => False) σ τ := GF_f hF
  have hN := FR_now hF
  have hst : ∀ p, isSt (sK σ) p → (∀ a, p ≤ a → a ≤ p + 12 → ¬ sS a) ∧ ∀ k, ¬ sT p k := fun p hp => by
    have h3 := st_in hp
    exact ⟨fun a h1 h2 z => by unfold sS at z; omega, fun k z => by unfold sT at z; omega⟩
  have hn0 := i6.1 0 (sNow σ) (by omega) (PT_0 σ)
  refine ⟨IP_o g (fun a h1 h2 z => by unfold sS at z; omega) (fun a h1 h2 z => by unfold sS at z; omega) (fun k z => by unfold sT at z; omega) (fun z => by unfold sT at z; omega) (fun z => by unfold sT at z; omega) i1, IM_o g ⟨fun z => by unfold sS at z; omega, fun z => by unfold sS at z; omega, fun z => by unfold sS at z; omega, fun z => by unfold sS at z; omega⟩ (fun k z => by unfold sT at z; omega) ⟨fun z => by unfold sT at z; omega, fun z => by unfold sT at z; omega, fun z => by unfold sT at z; omega, fun z => by unfold sT at z; omega, fun z => by unfold sT at z; omega⟩ i2, hM, by rw [h104]; exact i4, ?_, PTR_o g hN (fun _ _ z => z) i6, IH_o g i6 (fun z => by unfold sS at z; omega) ⟨fun z => by unfold sT at z; omega, fun z => by unfold sT at z; omega, fun z => by unfold sT at z; omega, fun z => by unfold sT at z; omega⟩ (fun _ z => z) (fun i p hi hp => hst p (i6.1 (i + 1) p (by omega) (by rw [PT_h hi]; exact hp)).1) i7, IB_o g i6 ⟨fun z => by unfold sS at z; omega, fun z => by unfold sS at z; omega, fun z => by unfold sS at z; omega⟩ (fun _ z => z) (fun i p hi hp => hst p (i6.1 (i + 41) p (by omega) (by rw [PT_b]; exact hp)).1) i8⟩
  rw [hN, cV_o hF (hst _ hn0.1).1 (hst _ hn0.1).2, h104]
  exact i5
/-- one thing seen, as it lies on both sides -/
def isE (P : Nat → Nat) (σ : ZS) (i : Nat) : Prop := (∃ f, f ≤ 40 ∧ sF σ 69 i = nI f ∧ sF σ 111 i = nI f) ∧ (∃ s, s + 1 < P 0 ∧ sF σ 70 i = nI s ∧ sF σ 112 i = nI s) ∧ (∃ w, w < 2 ∧ sF σ 71 i = nI w ∧ sF σ 113 i = nI w) ∧ (∃ t, t ≤ 100000 ∧ sF σ 72 i = nI t ∧ sF σ 114 i = nI t) ∧ ((sF σ 73 i = -1 ∧ sF σ 115 i = -1) ∨ ∃ t, t ≤ 100000 ∧ sF σ 73 i = nI t ∧ sF σ 115 i = nI t)
theorem lots2 {v : Int32} {n : Nat} (hn : n ≤ 6) : (0 ≤ v ∧ v ≤ nI n - 2) ↔ ((0 ≤ v ∧ v < nI n) ∧ ¬ v = nI n - 1) := by
  rcases Nat.lt_or_ge n 2 with h | h
  · rcases (show n = 0 ∨ n = 1 by omega) with rfl | rfl
    · constructor
      · intro z
        exact absurd (Int32.le_trans z.1 z.2) (by decide)
      · intro z
        exact absurd (Int32.lt_of_le_of_lt z.1.1 z.1.2) (by decide)
    · constructor
      · intro z
        exact absurd (Int32.le_trans z.1 z.2) (by decide)
      · intro z
        obtain ⟨j, hj, e⟩ := in_n (by omega) z.1
        have : j = 0 := by omega
        subst this
        exact absurd e z.2
  · have e1 : nI n - 2 = nI (n - 2) := by rw [nl_2, pk_sub h]
    have e2 : nI n - 1 = nI (n - 1) := by rw [nl_1, pk_sub (by omega)]
    rw [e1, e2]
    constructor
    · intro z
      obtain ⟨j, hj, rfl⟩ := nI_of2 (x := v) (M := nI (n - 2)) (n := n - 2) (nI_toInt (by omega)) (Int32.not_lt.mpr z.1) z.2
      exact ⟨⟨z.1, nI_lt (by omega) (by omega)⟩, fun y => by have := (nI_eq (by omega) (by omega)).mp y; omega⟩
    · rintro ⟨z1, z2⟩
      obtain ⟨j, hj, rfl⟩ := in_n (by omega) z1
      have : j ≠ n - 1 := fun y => z2 (by rw [y])
      exact ⟨z1.1, nI_le (by omega) (by omega)⟩
theorem c_seen1 {σ : ZS} {P : Nat → Nat} {f s c w t : Nat} (C : CP σ P) (W : PW P) (ha : 0 ≤ nI f ∧ nI f ≤ 40) (hb : (0 ≤ nI s ∧ nI s < nI (P 0)) ∧ ¬ nI s = nI (P 0) - 1) (h30 : c < 30) (hw : w < 2) (t1 : sI σ 8 17 = nI t) (c1 : sI σ 68 8 = nI c) : xX8_seen 8 (nI f) (nI s) (nI w) (mkH σ) = some (nI c, mkH (setI (setF (setF (setF (setF (setF σ 69 c (nI f)) 70 c (nI s)) 71 c (nI w)) 72 c (nI t)) 73 c (-1)) 68 8 (nI (c + 1)))) := by
  have CB' := CP_B C W
  have hnw : vp_nar .boolean (nI w) = nI w := by
    rcases (show w = 0 ∨ w = 1 by omega) with rfl | rfl <;> rfl
  have k1 : sI (setF σ 69 c (nI f)) 68 8 = nI c := c1
  have k2 : sI (setF (setF σ 69 c (nI f)) 70 c (nI s)) 68 8 = nI c := c1
  have k3 : sI (setF (setF (setF σ 69 c (nI f)) 70 c (nI s)) 71 c (nI w)) 68 8 = nI c := c1
  have k4 : sI (setF (setF (setF (setF σ 69 c (nI f)) 70 c (nI s)) 71 c (nI w)) 72 c (nI t)) 68 8 = nI c := c1
  have k5 : sI (setF (setF (setF (setF (setF σ 69 c (nI f)) 70 c (nI s)) 71 c (nI w)) 72 c (nI t)) 73 c (-1)) 68 8 = nI c := c1
  have em : nI (c + 1) - (1 : Int32) = nI c := nI_pred c
  simp only [xX8_seen, rR_8_12, rI_8_17, t1, Option.bind_some, is_68, gu_t, xX4_tell, if_neg (Int32.not_lt.mpr ha.1), if_neg (Int32.not_lt.mpr ha.2), rR_68_0, is_21, c_isShip CB', if_pos hb.1, t10, if_false, rI_21_7, C.1, if_neg hb.2, xX4_tell_B39, rI_68_8, c1, if_pos (show nI c < (30 : Int32) from by rw [nl_30]; exact nI_lt h30 (by omega)), rR_68_1, wa_69 σ (k := c) (nI f) h30, rR_68_2, k1, wa_70 _ (k := c) (nI s) h30, rR_68_3, k2, wa_71 _ (k := c) (nI w) h30, hnw, rR_68_4, k3, wa_72 _ (k := c) (nI t) h30, rR_68_5, k4, wa_73 _ (k := c) (-1) h30, k5, nI_s, wI_68_8, sI_eq, em]
theorem r_seen72 {σ : ZS} {c w t : Nat} (h30 : c < 30) (r57 : sI σ 78 57 = nI c) (r58 : sI σ 78 58 = nI t) : xX9_seen_B72 78 (nI w) (nI c) 113 (mkH σ) = some (nI c, mkH (setI (setF (setF (setF σ 113 c (nI w)) 114 c (nI t)) 115 c (-1)) 78 57 (nI (c + 1)))) := by
  have em : nI (c + 1) - (1 : Int32) = nI c := nI_pred c
  have l3 : sI (setF σ 113 c (nI w)) 78 57 = nI c := r57
  have l3t : sI (setF σ 113 c (nI w)) 78 58 = nI t := r58
  have l4 : sI (setF (setF σ 113 c (nI w)) 114 c (nI t)) 78 57 = nI c := r57
  have l5 : sI (setF (setF (setF σ 113 c (nI w)) 114 c (nI t)) 115 c (-1)) 78 57 = nI c := r57
  unfold xX9_seen_B72
  rw [wa_113 σ (k := c) (nI w) h30, Option.bind_some, rR_78_55, Option.bind_some, rI_78_57, Option.bind_some, l3, rI_78_58, Option.bind_some, l3t, wa_114 _ (k := c) (nI t) h30, Option.bind_some, rR_78_56, Option.bind_some, rI_78_57, Option.bind_some, l4, wa_115 _ (k := c) (-1) h30, Option.bind_some, rI_78_57, Option.bind_some, l5, nI_s, wI_78_57, Option.bind_some, rI_78_57, Option.bind_some, sI_eq, em]
theorem r_seen1 {τ : ZS} {bk : Nat} {P : Nat → Nat} {f s c w t : Nat} (R2 : RP τ bk P) (W : PW P) (ha : 0 ≤ nI f ∧ nI f ≤ 40) (hb : (0 ≤ nI s ∧ nI s < nI (P 0)) ∧ ¬ nI s = nI (P 0) - 1) (h30 : c < 30) (hw : w < 2) (r57 : sI τ 78 57 = nI c) (r58 : sI τ 78 58 = nI t) : xX9_seen 78 (nI f) (nI s) (nI w) (mkH τ) = some (nI c, mkH (setI (setF (setF (setF (setF (setF τ 111 c (nI f)) 112 c (nI s)) 113 c (nI w)) 114 c (nI t)) 115 c (-1)) 78 57 (nI (c + 1)))) := by
  have w0 := W.1
  have em : nI (c + 1) - (1 : Int32) = nI c := nI_pred c
  have l1 : sI (setF τ 111 c (nI f)) 78 57 = nI c := r57
  have l2 : sI (setF (setF τ 111 c (nI f)) 112 c (nI s)) 78 57 = nI c := r57
  have l3 : sI (setF (setF (setF τ 111 c (nI f)) 112 c (nI s)) 113 c (nI w)) 78 57 = nI c := r57
  have l3t : sI (setF (setF (setF τ 111 c (nI f)) 112 c (nI s)) 113 c (nI w)) 78 58 = nI t := r58
  have l4 : sI (setF (setF (setF (setF τ 111 c (nI f)) 112 c (nI s)) 113 c (nI w)) 114 c (nI t)) 78 57 = nI c := r57
  have l5 : sI (setF (setF (setF (setF (setF τ 111 c (nI f)) 112 c (nI s)) 113 c (nI w)) 114 c (nI t)) 115 c (-1)) 78 57 = nI c := r57
  have hw2 : ∀ (h : ZH), (if nI w = (0 : Int32) then xX9_seen_B72 78 (0 : Int32) (nI c) 113 h else xX9_seen_B72 78 (1 : Int32) (nI c) 113 h) = xX9_seen_B72 78 (nI w) (nI c) 113 h := by
    intro h
    rcases (show w = 0 ∨ w = 1 by omega) with rfl | rfl
    · rw [if_pos nI_0, nI_0]
    · rw [if_neg (nI_ne0 (by omega) (by omega)), ← nl_1]
  have n30 : ¬ nI c = (30 : Int32) := fun z => by rw [nl_30] at z; have := (nI_eq (by omega) (by omega)).mp z; omega
  simp only [xX9_seen, r_isIn, if_pos ha, Option.bind_some, t10, if_false, is_78, gu_t, r_lots (RP_B R2 W), if_pos ((lots2 w0).mpr hb), rI_78_57, r57, if_neg n30, rR_78_52, wa_111 τ (k := c) (nI f) h30, rR_78_53, l1, wa_112 _ (k := c) (nI s) h30, rR_78_54, l2]
  rw [hw2]
  exact r_seen72 h30 l2 (show sI (setF (setF τ 111 c (nI f)) 112 c (nI s)) 78 58 = nI t from r58)
theorem q_seen (a b : Int32) (w : Nat) (hw : w < 2) : QOK (xX8_seen 8 a b (nI w)) (xX9_seen 78 a b (nI w)) := by
  rintro σ ⟨bk, P, on, fo, len, X, I⟩
  obtain ⟨⟨W, F, E, C, -⟩, ⟨-, -, ⟨t, ht, t1, t2⟩, -⟩, ⟨c, hc, c1, c2, c3⟩, -⟩ := id I
  have w0 := W.1
  have CB' := CP_B C.1 W
  have B := RP_B E.1 W
  have hnw : vp_nar .boolean (nI w) = nI w := by
    rcases (show w = 0 ∨ w = 1 by omega) with rfl | rfl <;> rfl
  have no : ∀ (h1 : xX8_seen 8 a b (nI w) (mkH σ) = some (-1, mkH σ)) (h2 : xX9_seen 78 a b (nI w) (mkH σ) = some (-1, mkH σ)), ∃ v τ υ, xX8_seen 8 a b (nI w) (mkH σ) = some (v, mkH τ) ∧ xX9_seen 78 a b (nI w) (mkH τ) = some (v, mkH υ) ∧ (sX τ = sX σ ∧ sX υ = sX σ) ∧ INV υ := fun h1 h2 => ⟨-1, σ, σ, h1, h2, ⟨rfl, rfl⟩, bk, P, on, fo, len, X, I⟩
  by_cases ha : 0 ≤ a ∧ a ≤ 40
  · by_cases hb : (0 ≤ b ∧ b < nI (P 0)) ∧ ¬ b = nI (P 0) - 1
    · by_cases h30 : c < 30
      · obtain ⟨f, hf, rfl⟩ := nI_of2 (x := a) (M := 40) (n := 40) (by decide) (Int32.not_lt.mpr ha.1) ha.2
        obtain ⟨s, hs, rfl⟩ := in_n (by omega) hb.1
        have hs1 : s + 1 < P 0 := by
          rcases Nat.lt_or_ge (s + 1) (P 0) with h | h
          · exact h
          · exfalso
            apply hb.2
            rw [nl_1, pk_sub (by omega)]
            congr 1
            omega
        have em : nI (c + 1) - (1 : Int32) = nI c := nI_pred c
        have hC : xX8_seen 8 (nI f) (nI s) (nI w) (mkH σ) = some (nI c, mkH (setI (setF (setF (setF (setF (setF σ 69 c (nI f)) 70 c (nI s)) 71 c (nI w)) 72 c (nI t)) 73 c (-1)) 68 8 (nI (c + 1)))) := by
          exact c_seen1 C.1 W ha hb h30 hw t1 c1
        have hFt : FR (fun a => 69 ≤ a ∧ a ≤ 73) (fun a k => a = 68 ∧ k = 8) σ (setI (setF (setF (setF (setF (setF σ 69 c (nI f)) 70 c (nI s)) 71 c (nI w)) 72 c (nI t)) 73 c (-1)) 68 8 (nI (c + 1))) := FR_t (FR_t (FR_t (FR_t (FR_t (FR_F (by omega)) (FR_F (by omega))) (FR_F (by omega))) (FR_F (by omega))) (FR_F (by omega))) (FR_I ⟨rfl, rfl⟩)
        have v68 : sI (setI (setF (setF (setF (setF (setF σ 69 c (nI f)) 70 c (nI s)) 71 c (nI w)) 72 c (nI t)) 73 c (-1)) 68 8 (nI (c + 1))) 68 8 = nI (c + 1) := sI_eq
        have vF : ∀ a i, sF (setI (setF (setF (setF (setF (setF σ 69 c (nI f)) 70 c (nI s)) 71 c (nI w)) 72 c (nI t)) 73 c (-1)) 68 8 (nI (c + 1))) a i = if i = c ∧ 69 ≤ a ∧ a ≤ 73 then (if a = 69 then nI f else if a = 70 then nI s else if a = 71 then nI w else if a = 72 then nI t else -1) else sF σ a i := by
          intro a i
          show sF (setF (setF (setF (setF (setF σ 69 c (nI f)) 70 c (nI s)) 71 c (nI w)) 72 c (nI t)) 73 c (-1)) a i = _
          simp only [sF_setF]
          by_cases hi : i = c
          · simp only [hi, and_true, true_and]
            rcases (show a = 69 ∨ a = 70 ∨ a = 71 ∨ a = 72 ∨ a = 73 ∨ (a < 69 ∨ 73 < a) by omega) with rfl | rfl | rfl | rfl | rfl | h
            · simp
            · simp
            · simp
            · simp
            · simp
            · rw [if_neg (by omega), if_neg (by omega), if_neg (by omega), if_neg (by omega), if_neg (by omega), if_neg (by omega)]
          · simp only [hi, and_false, false_and, if_false]
        generalize setI (setF (setF (setF (setF (setF σ 69 c (nI f)) 70 c (nI s)) 71 c (nI w)) 72 c (nI t)) 73 c (-1)) 68 8 (nI (c + 1)) = τ at *
        have r57 : sI τ 78 57 = nI c := by rw [hFt.2.1 78 57 (by omega)]; exact c2
        have r58 : sI τ 78 58 = nI t := by rw [hFt.2.1 78 58 (by omega)]; exact t2
        have R2 : RP τ bk P := RP_f hFt (fun a h1 h2 z => by omega) (fun z => by omega) E.1
        have hR : xX9_seen 78 (nI f) (nI s) (nI w) (mkH τ) = some (nI c, mkH (setI (setF (setF (setF (setF (setF τ 111 c (nI f)) 112 c (nI s)) 113 c (nI w)) 114 c (nI t)) 115 c (-1)) 78 57 (nI (c + 1)))) := by
          exact r_seen1 R2 W ha hb h30 hw r57 r58
        have hFu : FR (fun a => 111 ≤ a ∧ a ≤ 115) (fun a k => a = 78 ∧ k = 57) τ (setI (setF (setF (setF (setF (setF τ 111 c (nI f)) 112 c (nI s)) 113 c (nI w)) 114 c (nI t)) 115 c (-1)) 78 57 (nI (c + 1))) := FR_t (FR_t (FR_t (FR_t (FR_t (FR_F (by omega)) (FR_F (by omega))) (FR_F (by omega))) (FR_F (by omega))) (FR_F (by omega))) (FR_I ⟨rfl, rfl⟩)
        have v57 : sI (setI (setF (setF (setF (setF (setF τ 111 c (nI f)) 112 c (nI s)) 113 c (nI w)) 114 c (nI t)) 115 c (-1)) 78 57 (nI (c + 1))) 78 57 = nI (c + 1) := sI_eq
        have vG : ∀ a i, sF (setI (setF (setF (setF (setF (setF τ 111 c (nI f)) 112 c (nI s)) 113 c (nI w)) 114 c (nI t)) 115 c (-1)) 78 57 (nI (c + 1))) a i = if i = c ∧ 111 ≤ a ∧ a ≤ 115 then (if a = 111 then nI f else if a = 112 then nI s else if a = 113 then nI w else if a = 114 then nI t else -1) else sF τ a i := by
          intro a i
          show sF (setF (setF (setF (setF (setF τ 111 c (nI f)) 112 c (nI s)) 113 c (nI w)) 114 c (nI t)) 115 c (-1)) a i = _
          simp only [sF_setF]
          by_cases hi : i = c
          · simp only [hi, and_true, true_and]
            rcases (show a = 111 ∨ a = 112 ∨ a = 113 ∨ a = 114 ∨ a = 115 ∨ (a < 111 ∨ 115 < a) by omega) with rfl | rfl | rfl | rfl | rfl | h
            · simp
            · simp
            · simp
            · simp
            · simp
            · rw [if_neg (by omega), if_neg (by omega), if_neg (by omega), if_neg (by omega), if_neg (by omega), if_neg (by omega)]
          · simp only [hi, and_false, false_and, if_false]
        generalize setI (setF (setF (setF (setF (setF τ 111 c (nI f)) 112 c (nI s)) 113 c (nI w)) 114 c (nI t)) 115 c (-1)) 78 57 (nI (c + 1)) = υ at *
        have hFF : FR sS sT σ υ := FR_t (FR_m hFt (fun a z => by unfold sS; omega) (fun a k z => by unfold sT; omega)) (FR_m hFu (fun a z => by unfold sS; omega) (fun a k z => by unfold sT; omega))
        refine ⟨nI c, τ, υ, hC, hR, ⟨FR_X hFt, (FR_X hFu).trans (FR_X hFt)⟩, bk, P, on, fo, len, X, IV_s hFF ⟨c + 1, by omega, ?_, v57, fun i hi => ?_⟩ I⟩
        · rw [hFu.2.1 68 8 (by omega)]; exact v68
        · by_cases hic : i = c
          · refine ⟨⟨f, hf, ?_, ?_⟩, ⟨s, hs1, ?_, ?_⟩, ⟨w, hw, ?_, ?_⟩, ⟨t, ht, ?_, ?_⟩, Or.inl ⟨?_, ?_⟩⟩ <;> (rw [vG]; try rw [vF]) <;> simp [hic]
          · have q1 : ∀ a, sF υ a i = sF σ a i := fun a => by rw [vG, if_neg (fun z => hic z.1), vF, if_neg (fun z => hic z.1)]
            simp only [q1]
            exact c3 i (by omega)
      · have c30 : c = 30 := by omega
        subst c30
        apply no
        · simp only [xX8_seen, rR_8_12, rI_8_17, t1, Option.bind_some, is_68, gu_t, xX4_tell, if_neg (Int32.not_lt.mpr ha.1), if_neg (Int32.not_lt.mpr ha.2), rR_68_0, is_21, c_isShip CB', if_pos hb.1, t10, if_false, rI_21_7, C.1.1, if_neg hb.2, xX4_tell_B39, rI_68_8, c1, if_neg (show ¬ nI 30 < (30 : Int32) by decide)]
        · simp only [xX9_seen, r_isIn, if_pos ha, Option.bind_some, t10, if_false, is_78, gu_t, r_lots B, if_pos ((lots2 w0).mpr hb), rI_78_57, c2, if_pos (show nI 30 = (30 : Int32) from rfl)]
    · apply no
      · simp only [xX8_seen, rR_8_12, rI_8_17, t1, Option.bind_some, is_68, gu_t, xX4_tell, if_neg (Int32.not_lt.mpr ha.1), if_neg (Int32.not_lt.mpr ha.2), rR_68_0, is_21, c_isShip CB', xX4_tell_B38, xX4_tell_B39, t00, if_true]
        by_cases hb1 : 0 ≤ b ∧ b < nI (P 0)
        · have hb2 : b = nI (P 0) - 1 := Classical.byContradiction fun z => hb ⟨hb1, z⟩
          simp only [if_pos hb1, t10, if_false, rI_21_7, C.1.1, Option.bind_some, if_pos hb2]
        · simp only [if_neg hb1, t00, if_true, Option.bind_some]
      · simp only [xX9_seen, r_isIn, if_pos ha, Option.bind_some, t10, if_false, is_78, gu_t, r_lots B, if_neg (fun z => hb ((lots2 w0).mp z)), t00, if_true]
  · apply no
    · simp only [xX8_seen, rR_8_12, rI_8_17, t1, Option.bind_some, is_68, gu_t, xX4_tell, xX4_tell_B38, xX4_tell_B39, t00, if_true]
      by_cases h1 : a < 0
      · simp only [if_pos h1, Option.bind_some]
      · have h2 : (40 : Int32) < a := Int32.not_le.mp (fun z => ha ⟨Int32.not_lt.mp h1, z⟩)
        simp only [if_neg h1, if_pos h2, Option.bind_some]
    · simp only [xX9_seen, r_isIn, if_neg ha, Option.bind_some, t00, if_true]
theorem z_01 {v : Int32} (h : v = 0 ∨ v = 1) (hh : ZH) : z_zr v hh = some (v, hh) := by
  unfold z_zr
  rw [if_pos h]
theorem q_untell (a : Int32) : QOK (xX8_untell 8 a) (xX9_untell 78 a) := by
  rintro σ ⟨bk, P, on, fo, len, X, I⟩
  obtain ⟨⟨W, F, E, C, -⟩, ⟨-, -, ⟨t, ht, t1, t2⟩, -⟩, ⟨c, hc, c1, c2, c3⟩, -⟩ := id I
  by_cases ha : 0 ≤ a ∧ a < nI c
  · obtain ⟨i, hi, rfl⟩ := in_n (by omega) ha
    have hin : 0 ≤ nI i ∧ nI i ≤ nI c - 1 := (int_pred (by omega)).mpr ha
    obtain ⟨e1, e2, e3, e4, e5⟩ := c3 i hi
    rcases e5 with ⟨u1, u2⟩ | ⟨u, hu, u1, u2⟩
    · have v115 : sF (setF σ 73 i (nI t)) 115 i = -1 := by rw [sF_ne (by omega)]; exact u2
      have hFF : FR sS sT σ (setF (setF σ 73 i (nI t)) 115 i (nI t)) := FR_t (FR_F (by unfold sS; omega)) (FR_F (by unfold sS; omega))
      refine ⟨1, setF σ 73 i (nI t), setF (setF σ 73 i (nI t)) 115 i (nI t), ?_, ?_, ⟨rfl, rfl⟩, bk, P, on, fo, len, X, IV_s hFF ⟨c, hc, c1, c2, fun k hk => ?_⟩ I⟩
      · simp only [xX8_untell, rR_8_12, rI_8_17, t1, Option.bind_some, is_68, gu_t, xX4_takeBack, if_neg (Int32.not_lt.mpr ha.1), rI_68_8, c1, if_neg (Int32.not_le.mpr ha.2), rR_68_5, ra_73 σ (show i < 30 by omega), u1, tmm, if_true, wa_73 σ (k := i) (nI t) (show i < 30 by omega)]
        exact z_01 (Or.inr rfl) _
      · have r57 : sI (setF σ 73 i (nI t)) 78 57 = nI c := c2
        have r58 : sI (setF σ 73 i (nI t)) 78 58 = nI t := t2
        simp only [xX9_untell, rI_78_57, r57, Option.bind_some, r_isIn, if_pos hin, t10, if_false, rR_78_56, ra_115 (setF σ 73 i (nI t)) (show i < 30 by omega), v115, tm1, if_true, rI_78_58, r58, wa_115 (setF σ 73 i (nI t)) (k := i) (nI t) (show i < 30 by omega)]
      · obtain ⟨d1, d2, d3, d4, d5⟩ := c3 k hk
        have q1 : ∀ a, a ≠ 73 → a ≠ 115 → sF (setF (setF σ 73 i (nI t)) 115 i (nI t)) a k = sF σ a k := fun a h1 h2 => by rw [sF_ne (by omega), sF_ne (by omega)]
        rw [q1 69 (by omega) (by omega), q1 70 (by omega) (by omega), q1 71 (by omega) (by omega), q1 72 (by omega) (by omega), q1 111 (by omega) (by omega), q1 112 (by omega) (by omega), q1 113 (by omega) (by omega), q1 114 (by omega) (by omega)]
        refine ⟨d1, d2, d3, d4, ?_⟩
        by_cases hki : k = i
        · subst hki
          right
          exact ⟨t, ht, by rw [sF_ne (by omega), sF_eq], by rw [sF_eq]⟩
        · rw [sF_ne (by omega), sF_ne (by omega), sF_ne (by omega), sF_ne (by omega)]
          exact d5
    · refine ⟨0, σ, σ, ?_, ?_, ⟨rfl, rfl⟩, bk, P, on, fo, len, X, I⟩
      · simp only [xX8_untell, rR_8_12, rI_8_17, t1, Option.bind_some, is_68, gu_t, xX4_takeBack, if_neg (Int32.not_lt.mpr ha.1), rI_68_8, c1, if_neg (Int32.not_le.mpr ha.2), rR_68_5, ra_73 σ (show i < 30 by omega), u1, if_neg (nI_m1 (show u < 2 ^ 31 by omega))]
        exact z_01 (Or.inl rfl) _
      · simp only [xX9_untell, rI_78_57, c2, Option.bind_some, r_isIn, if_pos hin, t10, if_false, rR_78_56, ra_115 σ (show i < 30 by omega), u2, if_neg (nI_pos (show u < 2 ^ 31 by omega))]
  · have hin : ¬ (0 ≤ a ∧ a ≤ nI c - 1) := fun z => ha ((int_pred (by omega)).mp z)
    refine ⟨0, σ, σ, ?_, ?_, ⟨rfl, rfl⟩, bk, P, on, fo, len, X, I⟩
    · simp only [xX8_untell, rR_8_12, rI_8_17, t1, Option.bind_some, is_68, gu_t, xX4_takeBack, rI_68_8, c1]
      by_cases h1 : a < 0
      · simp only [if_pos h1, Option.bind_some]
        exact z_01 (Or.inl rfl) _
      · have h2 : nI c ≤ a := Int32.not_lt.mp (fun z => ha ⟨Int32.not_lt.mp h1, z⟩)
        simp only [if_neg h1, if_pos h2, Option.bind_some]
        exact z_01 (Or.inl rfl) _
    · simp only [xX9_untell, rI_78_57, c2, Option.bind_some, r_isIn, if_neg hin, t00, if_true]
