/-! the beginning of a reading, on both sides -/
theorem sL_k {σ : ZS} {l : List Int32} (hl : l.length = 1600) (h : (mkH σ).1 9 = .inr (.inl (1, l))) : z_aL (mkH σ) 9 = some (nI 1600) := by
  unfold z_aL
  rw [h]
  show (if 1 < 3 ∨ 1 = 10 ∨ 1 = 11 then some (Int32.ofNat l.length) else none) = _
  rw [hl, if_pos (by decide)]
  rfl
theorem s9_L (σ : ZS) : z_aL (mkH σ) 9 = some (nI 1600) := sL_k (l := (List.range 1600).map (sF σ 9)) (by rw [List.length_map, List.length_range]) (mk_at (a := 9) (L := .inr (1, 1600)) (by decide) rfl)
def cR0 (σ : ZS) (n : Nat) : ZS := setI (setI (setI (setI (setI (setTx σ (.ref 9)) 10 4 (nI n)) 10 6 0) 10 9 0) 10 1 0) 10 2 (-1)
def cRd (σ : ZS) (n : Nat) : ZS := setI (setI (setI (setI (setI (setI (setI (setI (setI (setI (cR0 σ n) 11 0 12) 11 1 30) 11 2 2) 11 3 2) 11 4 3) 11 5 0) 11 6 0) 11 7 0) 11 8 0) 11 15 0
theorem c_clr {s : ZS} : xX2_clear 11 (mkH s) = some (mkH (setI (setI (setI (setI (setI (setI (setI (setI (setI (setI s 11 0 12) 11 1 30) 11 2 2) 11 3 2) 11 4 3) 11 5 0) 11 6 0) 11 7 0) 11 8 0) 11 15 0)) := by
  unfold xX2_clear
  rw [wI_11_0, Option.bind_some, wI_11_1, Option.bind_some, wI_11_2, Option.bind_some, wI_11_3, Option.bind_some, wI_11_4, Option.bind_some, wI_11_5, Option.bind_some, wI_11_6, Option.bind_some, wI_11_7, Option.bind_some, wI_11_8, Option.bind_some, wI_11_15, Option.bind_some]
theorem c_read0 {σ : ZS} {n : Nat} (hn : n ≤ 1600) : xX3_read 10 9 (nI n) (mkH σ) = (xX3_advance 10 (mkH (cRd σ n))).bind fun h55 => xX3_read_L60 zFU 10 0 h55 := by
  have hmin : ∀ h, xJ9_min_7cf53 (nI n) (nI 1600) h = some (nI n, h) := fun h => by
    unfold xJ9_min_7cf53
    rw [if_neg (fun z => by have := (nI_ltI (by omega) (by omega)).mp z; omega)]
  have hmax : ∀ h, xJ9_max_7cf53 (0 : Int32) (nI n) h = some (nI n, h) := fun h => by
    unfold xJ9_max_7cf53
    by_cases h0 : n = 0
    · rw [h0, if_neg (by decide)]; rfl
    · rw [if_pos (show (0 : Int32) < nI n from by rw [nl_0]; exact nI_lt (by omega) (by omega))]
  generalize hnl : xX3_read_L60 zFU = nl
  unfold xX3_read
  rw [wTx, Option.bind_some, s9_L, Option.bind_some, hmin, Option.bind_some]
  dsimp only
  rw [hmax, Option.bind_some]
  dsimp only
  unfold xX3_read_B24
  rw [wI_10_4, Option.bind_some, wI_10_6, Option.bind_some, wI_10_9, Option.bind_some, wI_10_1, Option.bind_some, wI_10_2, Option.bind_some, rR_10_0, Option.bind_some, is_11, gu_t, c_clr, Option.bind_some, is_10, gu_t, hnl]
  rfl
theorem cRd_I {σ : ZS} {n : Nat} : sI (cRd σ n) 10 4 = nI n ∧ sI (cRd σ n) 10 6 = 0 ∧ sI (cRd σ n) 10 9 = 0 ∧ sI (cRd σ n) 10 1 = 0 ∧ sI (cRd σ n) 10 2 = -1 ∧ sI (cRd σ n) 11 0 = 12 ∧ sI (cRd σ n) 11 1 = 30 ∧ sI (cRd σ n) 11 2 = 2 ∧ sI (cRd σ n) 11 3 = 2 ∧ sI (cRd σ n) 11 4 = 3 ∧ sI (cRd σ n) 11 5 = 0 ∧ sI (cRd σ n) 11 6 = 0 ∧ sI (cRd σ n) 11 7 = 0 ∧ sI (cRd σ n) 11 8 = 0 ∧ sI (cRd σ n) 11 15 = 0 := by
  unfold cRd cR0
  refine ⟨?_, ?_, ?_, ?_, ?_, ?_, ?_, ?_, ?_, ?_, ?_, ?_, ?_, ?_, ?_⟩ <;> simp [sI_setI]
def tU (a _k : Nat) : Prop := a = 10 ∨ a = 11
theorem cRd_F {σ : ZS} {n : Nat} : FG fe tU fj (setTx σ (.ref 9)) (cRd σ n) := by
  refine ⟨fun a k _ => rfl, fun a k h => ?_, fun j _ => rfl, rfl⟩
  unfold tU at h
  unfold cRd cR0
  rw [sI_ne (by omega), sI_ne (by omega), sI_ne (by omega), sI_ne (by omega), sI_ne (by omega), sI_ne (by omega), sI_ne (by omega), sI_ne (by omega), sI_ne (by omega), sI_ne (by omega), sI_ne (by omega), sI_ne (by omega), sI_ne (by omega), sI_ne (by omega), sI_ne (by omega)]
/-- the reference: the text is laid, the bank is cleared -/
theorem r_txt {n : Nat} (hn : n ≤ 1600) : ∀ (m k e : Nat) (ρ : ZS), k + m = n → sI ρ 78 3 = nI n → (∀ i, i < n → vp_nar .byte (sF ρ 79 i) = sF ρ 79 i) → (∀ i, i < k → sF ρ 80 i = sF ρ 79 i) → ∃ υ, xX9_fleet_L20 (e + m + 1) 78 (nI k) (mkH ρ) = xX9_fleet_B46 78 (mkH υ) ∧ (∀ i, i < n → sF υ 80 i = sF ρ 79 i) ∧ FG (fun a _ => a = 80) fe fj ρ υ := by
  intro m
  induction m with
  | zero =>
    intro k e ρ hk h3 hb h8
    refine ⟨ρ, ?_, fun i hi => h8 i (by omega), FG_r⟩
    have hB : xX9_fleet_L20 (e + 0 + 1) 78 (nI k) (mkH ρ) = xX9_fleet_B20 (xX9_fleet_L20 (e + 0)) 78 (nI k) (mkH ρ) := rfl
    rw [hB]
    generalize xX9_fleet_L20 (e + 0) = nl
    unfold xX9_fleet_B20
    rw [rI_78_3, Option.bind_some, h3, if_pos (show nI n ≤ nI k from (nI_leI (by omega) (by omega)).mpr (by omega))]
  | succ m ih =>
    intro k e ρ hk h3 hb h8
    obtain ⟨υ, v1, v2, v3⟩ := ih (k + 1) e (setF ρ 80 k (sF ρ 79 k)) (by omega) h3 (fun i hi => by rw [sF_ne (by omega)]; exact hb i hi) (fun i hi => by
      rw [show sF (setF ρ 80 k (sF ρ 79 k)) 79 i = sF ρ 79 i from sF_ne (by omega)]
      by_cases hik : i = k
      · subst hik; rw [sF_eq]
      · rw [sF_ne (by omega)]; exact h8 i (by omega))
    refine ⟨υ, ?_, fun i hi => by rw [v2 i hi, sF_ne (by omega)], FG_t (FG_F rfl) v3⟩
    have hB : xX9_fleet_L20 (e + (m + 1) + 1) 78 (nI k) (mkH ρ) = xX9_fleet_B20 (xX9_fleet_L20 (e + m + 1)) 78 (nI k) (mkH ρ) := rfl
    rw [hB, ← v1]
    generalize xX9_fleet_L20 (e + m + 1) = nl
    unfold xX9_fleet_B20
    rw [rI_78_3, Option.bind_some, h3, if_neg (show ¬ nI n ≤ nI k from fun z => by have := (nI_leI (by omega) (by omega)).mp z; omega), rR_78_1, Option.bind_some, rR_78_0, Option.bind_some, ra_79 _ (by omega), Option.bind_some, wa_80 _ _ (by omega), Option.bind_some, hb k (by omega), nI_s]
def clB (ρ : ZS) (rb : Nat) : ZS := setI (setF (setF (setF (setF (setF (setF (setF (setF (setF (setF ρ 81 rb 0) 82 rb 12) 83 rb 30) 84 rb 2) 85 rb 2) 86 rb 3) 87 rb 0) 88 rb 0) 89 rb 0) 90 rb 0) 78 36 (nI (560 * rb))
theorem r_clr {ρ : ZS} {rb : Nat} (h35 : sI ρ 78 35 = nI rb) (hrb : rb < 2) : xX9_clearBank 78 (mkH ρ) = some (mkH (clB ρ rb)) := by
  have h560 : (560 : Int32) * nI rb = nI (560 * rb) := by
    have h : rb = 0 ∨ rb = 1 := by omega
    rcases h with rfl | rfl <;> rfl
  have hF : ∀ (s : ZS) a k v, sI (setF s a k v) 78 35 = sI s 78 35 := fun s a k v => rfl
  unfold xX9_clearBank
  rw [rR_78_11, Option.bind_some, rI_78_35, Option.bind_some, h35, wa_81 _ _ hrb, Option.bind_some]
  rw [rR_78_12, Option.bind_some, rI_78_35, Option.bind_some, hF, h35, wa_82 _ _ hrb, Option.bind_some]
  rw [rR_78_13, Option.bind_some, rI_78_35, Option.bind_some, hF, hF, h35, wa_83 _ _ hrb, Option.bind_some]
  rw [rR_78_14, Option.bind_some, rI_78_35, Option.bind_some, hF, hF, hF, h35, wa_84 _ _ hrb, Option.bind_some]
  rw [rR_78_15, Option.bind_some, rI_78_35, Option.bind_some, hF, hF, hF, hF, h35, wa_85 _ _ hrb, Option.bind_some]
  rw [rR_78_16, Option.bind_some, rI_78_35, Option.bind_some, hF, hF, hF, hF, hF, h35, wa_86 _ _ hrb, Option.bind_some]
  rw [rR_78_17, Option.bind_some, rI_78_35, Option.bind_some, hF, hF, hF, hF, hF, hF, h35, wa_87 _ _ hrb, Option.bind_some]
  rw [rR_78_18, Option.bind_some, rI_78_35, Option.bind_some, hF, hF, hF, hF, hF, hF, hF, h35, wa_88 _ _ hrb, Option.bind_some]
  rw [rR_78_19, Option.bind_some, rI_78_35, Option.bind_some, hF, hF, hF, hF, hF, hF, hF, hF, h35, wa_89 _ _ hrb, Option.bind_some]
  rw [rR_78_20, Option.bind_some, rI_78_35, Option.bind_some, hF, hF, hF, hF, hF, hF, hF, hF, hF, h35, wa_90 _ _ hrb, Option.bind_some]
  rw [rI_78_35, Option.bind_some, hF, hF, hF, hF, hF, hF, hF, hF, hF, hF, h35, h560, wI_78_36, Option.bind_some]
  rfl
def clG (rb a k : Nat) : Prop := 81 ≤ a ∧ a ≤ 90 ∧ k = rb
def clT (a k : Nat) : Prop := a = 78 ∧ k = 36
theorem clB_F {ρ : ZS} {rb : Nat} : FG (clG rb) clT fj ρ (clB ρ rb) := by
  unfold clB
  exact FG_t (FG_F (by unfold clG; omega)) (FG_t (FG_F (by unfold clG; omega)) (FG_t (FG_F (by unfold clG; omega)) (FG_t (FG_F (by unfold clG; omega)) (FG_t (FG_F (by unfold clG; omega)) (FG_t (FG_F (by unfold clG; omega)) (FG_t (FG_F (by unfold clG; omega)) (FG_t (FG_F (by unfold clG; omega)) (FG_t (FG_F (by unfold clG; omega)) (FG_t (FG_F (by unfold clG; omega)) (FG_I ⟨rfl, rfl⟩))))))))))
theorem clB_V {ρ : ZS} {rb : Nat} : sF (clB ρ rb) 81 rb = 0 ∧ sF (clB ρ rb) 82 rb = 12 ∧ sF (clB ρ rb) 83 rb = 30 ∧ sF (clB ρ rb) 84 rb = 2 ∧ sF (clB ρ rb) 85 rb = 2 ∧ sF (clB ρ rb) 86 rb = 3 ∧ sF (clB ρ rb) 87 rb = 0 ∧ sF (clB ρ rb) 88 rb = 0 ∧ sF (clB ρ rb) 89 rb = 0 ∧ sF (clB ρ rb) 90 rb = 0 ∧ sI (clB ρ rb) 78 36 = nI (560 * rb) := by
  have hI : ∀ (s : ZS) v a k, sF (setI s 78 36 v) a k = sF s a k := fun s v a k => rfl
  unfold clB
  refine ⟨?_, ?_, ?_, ?_, ?_, ?_, ?_, ?_, ?_, ?_, sI_eq⟩ <;> rw [hI] <;> simp [sF_setF]
theorem r_46 {ρ : ZS} {bk : Nat} (h34 : sI ρ 78 34 = nI bk) (hbk : bk < 2) : xX9_fleet_B46 78 (mkH ρ) = (xX9_goOn 78 (mkH (clB (setI (setI (setI ρ 78 2 0) 78 7 0) 78 35 (nI (1 - bk))) (1 - bk)))).bind fun h71 => xX9_fleet_L74 zFU 78 h71 := by
  have h1 : (1 : Int32) - nI bk = nI (1 - bk) := by
    have h : bk = 0 ∨ bk = 1 := by omega
    rcases h with rfl | rfl <;> rfl
  have g34 : sI (setI (setI ρ 78 2 0) 78 7 0) 78 34 = nI bk := by rw [sI_ne (by omega), sI_ne (by omega)]; exact h34
  generalize hnl : xX9_fleet_L74 zFU = nl
  unfold xX9_fleet_B46
  rw [wI_78_2, Option.bind_some, wI_78_7, Option.bind_some, rI_78_34, Option.bind_some, g34, h1, wI_78_35, Option.bind_some, is_78, gu_t, r_clr sI_eq (by omega), Option.bind_some, is_78, gu_t, hnl]
theorem r_flt0 {κ : ZS} : xX9_fleet 78 (mkH κ) = xX9_fleet_L20 zFU 78 (nI 0) (mkH (setI (setI (setI κ 78 4 0) 78 5 (-1)) 78 3 (sI κ 78 2))) := by
  have g2 : sI (setI (setI κ 78 4 0) 78 5 (-1)) 78 2 = sI κ 78 2 := by rw [sI_ne (by omega), sI_ne (by omega)]
  generalize hnl : xX9_fleet_L20 zFU = nl
  unfold xX9_fleet
  rw [wI_78_4, Option.bind_some, wI_78_5, Option.bind_some, rI_78_2, Option.bind_some, g2, wI_78_3, Option.bind_some, hnl]
  rfl
