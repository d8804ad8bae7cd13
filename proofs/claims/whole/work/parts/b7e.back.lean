/-! behind a unit: the reference pushes a sign, or closes -/
theorem r_104p {σ ρ υ : ZS} {u : Nat → Nat} {n d : Nat} {t : ZT} (L : LK σ ρ u n t) (hr : rkT t ≠ 0) (h38 : sI ρ 78 38 = nI d) (hd : d < 90) (hg : xX9_goOn 78 (mkH (setI (setF (setF ρ 101 d (nI (rkT t))) 102 d (nI (opS t))) 78 38 (nI (d + 1)))) = some (mkH υ)) : xX9_behindUnit_B104 78 (nI (rkT t)) (mkH ρ) = some (1, mkH υ) := by
  have hb := rkT_b t
  have hn := L.2.1.2.1
  have h138 : ∀ s0 : Int32, s0 = nI (opS t) → xX9_behindUnit_B138 78 s0 (nI (rkT t)) 78 (mkH ρ) = some (1, mkH υ) := by
    rintro s0 rfl
    unfold xX9_behindUnit_B138
    rw [is_78, gu_t, r_push h38 hd, Option.bind_some, is_78, gu_t, hg, Option.bind_some]
  have hr2 : rkT t = 2 ↔ wB t 13 = true := by
    constructor
    · intro z
      have := sgR_b (x := t.2.2.2)
      by_cases h13 : wB t 13 = true
      · exact h13
      · unfold rkT at z
        rw [if_neg h13] at z
        by_cases h12 : wB t 12 = true
        · rw [if_pos h12] at z; omega
        · rw [if_neg h12] at z
          by_cases h3 : t.2.2.1 = 3
          · rw [if_pos h3] at z; omega
          · rw [if_neg h3] at z; omega
    · intro z; unfold rkT; rw [if_pos z]
  have hr1 : ¬ rkT t = 2 → (rkT t = 1 ↔ wB t 12 = true) := by
    intro h2
    have h13 : ¬ wB t 13 = true := fun z => h2 (hr2.mpr z)
    constructor
    · intro z
      have := sgR_b (x := t.2.2.2)
      by_cases h12 : wB t 12 = true
      · exact h12
      · unfold rkT at z
        rw [if_neg h13, if_neg h12] at z
        by_cases h3 : t.2.2.1 = 3
        · rw [if_pos h3] at z; omega
        · rw [if_neg h3] at z; omega
    · intro z; unfold rkT; rw [if_neg h13, if_pos z]
  unfold xX9_behindUnit_B104
  rw [if_neg (show ¬ nI (rkT t) ≤ 0 from fun z => by rw [nl_0] at z; have := (nI_leI (by omega) (by omega)).mp z; omega)]
  by_cases h2 : rkT t = 2
  · rw [if_pos (show nI (rkT t) = (2 : Int32) from by rw [h2]; rfl)]
    exact h138 38 (by unfold opS; rw [if_pos (hr2.mp h2)]; rfl)
  · rw [if_neg (show ¬ nI (rkT t) = (2 : Int32) from nq (b := 2) (by omega) (by omega) h2)]
    have h13 : ¬ wB t 13 = true := fun z => h2 (hr2.mpr z)
    by_cases h1 : rkT t = 1
    · rw [if_pos (show nI (rkT t) = (1 : Int32) from by rw [h1]; rfl)]
      exact h138 124 (by unfold opS; rw [if_neg h13, if_pos ((hr1 h2).mp h1)]; rfl)
    · rw [if_neg (show ¬ nI (rkT t) = (1 : Int32) from nq (b := 1) (by omega) (by omega) h1)]
      have h12 : ¬ wB t 12 = true := fun z => h1 ((hr1 h2).mpr z)
      have h3 : t.2.2.1 = 3 := Classical.byContradiction (fun z => hr (by unfold rkT; rw [if_neg h13, if_neg h12, if_neg z]))
      have hv := ((TK_b L.2.2.2.2.1).2.2.2.1 h3).1
      have ha := LK_a L
      rw [rI_78_6, Option.bind_some, L.2.2.2.1.1, is_78, gu_t, r_sign L.2.1 (by omega), Option.bind_some]
      dsimp only
      exact h138 _ (by unfold opS; rw [if_neg h13, if_neg h12, hv])
theorem r_104z {ρ : ZS} {d k : Nat} (h38 : sI ρ 78 38 = nI (d + 1)) (hd : d < 90) (hs : sF ρ 101 d = nI k) (hk : k ≤ 8) (h7 : k ≠ 7) : xX9_behindUnit_B104 78 (nI 0) (mkH ρ) = some (0, mkH (setI ρ 78 38 (nI d))) := by
  have g38 : sI (setI ρ 78 38 (nI d)) 78 38 = nI d := sI_eq
  have g101 : sF (setI ρ 78 38 (nI d)) 101 d = nI k := hs
  unfold xX9_behindUnit_B104
  rw [if_pos (show nI 0 ≤ 0 from Int32.le_refl _), rI_78_38, Option.bind_some, h38, nI_d, wI_78_38, Option.bind_some, rR_78_31, Option.bind_some, rI_78_38, Option.bind_some, g38, ra_101 _ hd, Option.bind_some, g101, if_neg (show ¬ nI k = (7 : Int32) from nq (b := 7) (by omega) (by omega) h7)]
theorem r_104b {σ ρ : ZS} {u : Nat → Nat} {n d w : Nat} {t : ZT} (L : LK σ ρ u n t) (h38 : sI ρ 78 38 = nI (d + 1)) (hd : d < 90) (hs : sF ρ 101 d = nI 7) (h37 : sI ρ 78 37 = nI (w + 1)) : xX9_behindUnit_B104 78 (nI 0) (mkH ρ) = (xX9_must 78 (if sB t 41 then 1 else 0) (mkH (setI (setI ρ 78 38 (nI d)) 78 37 (nI w)))).bind fun h => some (0, h) := by
  have g38 : sI (setI ρ 78 38 (nI d)) 78 38 = nI d := sI_eq
  have g37 : sI (setI ρ 78 38 (nI d)) 78 37 = nI (w + 1) := by rw [sI_ne (by omega)]; exact h37
  have g101 : sF (setI ρ 78 38 (nI d)) 101 d = nI 7 := hs
  have L2 : LK σ (setI (setI ρ 78 38 (nI d)) 78 37 (nI w)) u n t := LK_rI (by omega) (LK_rI (by omega) L)
  unfold xX9_behindUnit_B104
  rw [if_pos (show nI 0 ≤ 0 from Int32.le_refl _), rI_78_38, Option.bind_some, h38, nI_d, wI_78_38, Option.bind_some, rR_78_31, Option.bind_some, rI_78_38, Option.bind_some, g38, ra_101 _ hd, Option.bind_some, g101, if_pos (show nI 7 = (7 : Int32) from rfl), rI_78_37, Option.bind_some, g37, nI_d, wI_78_37, Option.bind_some, is_78, gu_t, show (41 : Int32) = nI 41 from rfl, r_isSg L2 (w := 41) (by omega), Option.bind_some]
  dsimp only
  rw [is_78, gu_t]
