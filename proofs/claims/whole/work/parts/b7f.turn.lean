/-! a turn of the reference's formula loop -/
theorem e_u {ρ υ : ZS} {d : Nat} {w : Int32} (hg : sI ρ 78 4 = 0) (h38 : sI ρ 78 38 = nI (d + 1)) (hd : d < 90) (hu : xX9_unit 78 (mkH ρ) = some (w, mkH υ)) (f : Nat) : xX9_e_L19 (f + 1) 78 1 (mkH ρ) = xX9_e_L19 f 78 w (mkH υ) := by
  show xX9_e_B19 (xX9_e_L19 f) 78 1 (mkH ρ) = _
  generalize xX9_e_L19 f = nl
  unfold xX9_e_B19
  rw [is_78, gu_t, r_good hg, Option.bind_some]
  dsimp only
  rw [if_neg (show ¬ (1 : Int32) = 0 by decide), rI_78_38, Option.bind_some, h38, if_neg (show ¬ nI (d + 1) ≤ 0 from fun z => by rw [nl_0] at z; have := (nI_leI (by omega) (by omega)).mp z; omega), if_neg (show ¬ (1 : Int32) = 0 by decide), is_78, gu_t, hu, Option.bind_some]
theorem e_b {ρ υ : ZS} {d : Nat} {w : Int32} (hg : sI ρ 78 4 = 0) (h38 : sI ρ 78 38 = nI (d + 1)) (hd : d < 90) (hu : xX9_behindUnit 78 (mkH ρ) = some (w, mkH υ)) (f : Nat) : xX9_e_L19 (f + 1) 78 0 (mkH ρ) = xX9_e_L19 f 78 w (mkH υ) := by
  show xX9_e_B19 (xX9_e_L19 f) 78 0 (mkH ρ) = _
  generalize xX9_e_L19 f = nl
  unfold xX9_e_B19
  rw [is_78, gu_t, r_good hg, Option.bind_some]
  dsimp only
  rw [if_neg (show ¬ (1 : Int32) = 0 by decide), rI_78_38, Option.bind_some, h38, if_neg (show ¬ nI (d + 1) ≤ 0 from fun z => by rw [nl_0] at z; have := (nI_leI (by omega) (by omega)).mp z; omega), if_pos rfl, is_78, gu_t, hu, Option.bind_some]
theorem e_x {ρ : ZS} {w : Int32} (hg : ¬ sI ρ 78 4 = 0) (f : Nat) : xX9_e_L19 (f + 1) 78 w (mkH ρ) = some (mkH ρ) := by
  show xX9_e_B19 (xX9_e_L19 f) 78 w (mkH ρ) = _
  generalize xX9_e_L19 f = nl
  unfold xX9_e_B19
  rw [is_78, gu_t, r_bad hg, Option.bind_some]
  dsimp only
  rw [if_pos rfl]
theorem e_z {ρ : ZS} {w : Int32} (hg : sI ρ 78 4 = 0) (h38 : sI ρ 78 38 = nI 0) (f : Nat) : xX9_e_L19 (f + 1) 78 w (mkH ρ) = some (mkH ρ) := by
  show xX9_e_B19 (xX9_e_L19 f) 78 w (mkH ρ) = _
  generalize xX9_e_L19 f = nl
  unfold xX9_e_B19
  rw [is_78, gu_t, r_good hg, Option.bind_some]
  dsimp only
  rw [if_neg (show ¬ (1 : Int32) = 0 by decide), rI_78_38, Option.bind_some, h38, if_pos (show nI 0 ≤ 0 from Int32.le_refl _)]
/-- behind a unit: a second comparison is refused -/
theorem r_bu4 {σ ρ υ : ZS} {u : Nat → Nat} {n d : Nat} {t : ZT} {K G : Nat → Nat} (L : LK σ ρ u n t) (h38 : sI ρ 78 38 = nI (d + 1)) (hd : d < 90) (S : SK ρ (d + 1) K G) (h0 : K 0 = 8) (h4 : rkT t = 4) (hc : cmpK K (d + 1) = true) (hm : xX9_misplaced 78 (mkH ρ) = some (mkH υ)) : xX9_behindUnit 78 (mkH ρ) = some (1, mkH υ) := by
  unfold xX9_behindUnit
  generalize xX9_behindUnit_L23 zFU = nl
  rw [is_78, gu_t, r_rank L, Option.bind_some]
  dsimp only
  rw [if_pos (show nI (rkT t) = (4 : Int32) from by rw [h4]; rfl), is_78, gu_t, r_cmp h38 hd S h0, Option.bind_some]
  dsimp only
  rw [if_pos hc, if_neg (show ¬ (1 : Int32) = 0 by decide), is_78, gu_t, hm, Option.bind_some]
theorem r_bu {σ ρ : ZS} {u : Nat → Nat} {n d : Nat} {t : ZT} {K G : Nat → Nat} (L : LK σ ρ u n t) (h38 : sI ρ 78 38 = nI (d + 1)) (hd : d < 90) (S : SK ρ (d + 1) K G) (h0 : K 0 = 8) (h4 : ¬ (rkT t = 4 ∧ cmpK K (d + 1) = true)) : xX9_behindUnit 78 (mkH ρ) = xX9_behindUnit_L23 zFU 78 (nI (rkT t)) (mkH ρ) := by
  have hb := rkT_b t
  unfold xX9_behindUnit
  generalize xX9_behindUnit_L23 zFU = nl
  rw [is_78, gu_t, r_rank L, Option.bind_some]
  dsimp only
  by_cases hr : rkT t = 4
  · have hc : ¬ cmpK K (d + 1) = true := fun z => h4 ⟨hr, z⟩
    rw [if_pos (show nI (rkT t) = (4 : Int32) from by rw [hr]; rfl), is_78, gu_t, r_cmp h38 hd S h0, Option.bind_some]
    dsimp only
    rw [if_neg hc, if_pos rfl]
  · rw [if_neg (show ¬ nI (rkT t) = (4 : Int32) from nq (b := 4) (by omega) (by omega) hr)]
