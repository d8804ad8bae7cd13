/-! a state copied, forgotten, begun (class) -/
theorem LV_5 {n : Nat} {B B' A A' : Nat → Int32} (hB : ∀ j, j < 521 → B' j = B j) (hA : ∀ j, j < 521 → A' j = A j) (hn : n ≤ 6) (L : LV n B A) : LV n B' A' := by
  obtain ⟨l1, l2, l3, l4⟩ := L
  refine ⟨fun s hs => ?_, fun s hs => ?_, fun s i hs hi ho => ?_, fun j h1 h2 => ?_⟩
  · rw [hB _ (by omega), hA _ (by omega), hB _ (by omega), hA _ (by omega), hB _ (by omega), hA _ (by omega), hB _ (by omega), hA _ (by omega)]
    exact l1 s hs
  · rw [hB _ (by omega), hA _ (by omega)]; exact l2 s hs
  · rw [hA _ (by omega)] at ho
    rw [hB _ (by omega), hA _ (by omega), hB _ (by omega), hA _ (by omega), hB _ (by omega), hA _ (by omega)]
    exact l3 s i hs hi ho
  · rw [hB _ h2, hA _ h2]; exact l4 j h1 h2
theorem WF_5 {lo n m : Nat} {A A' : Nat → Int32} (hA : ∀ j, j < 521 → A' j = A j) (V : WF lo n m A) : WF lo n m A' := WF_lo (fun k _ h => hA k (by omega)) V
theorem vO_lay {r : Nat} (hr : 1 ≤ r) (hr2 : r ≤ 12) : layT.getD r layJ = .inr (0, (vO r).2) := by
  rcases (show r = 1 ∨ r = 2 ∨ r = 3 ∨ r = 4 ∨ r = 5 ∨ r = 6 ∨ r = 7 ∨ r = 8 ∨ r = 9 ∨ r = 10 ∨ r = 11 ∨ r = 12 by omega) with rfl | rfl | rfl | rfl | rfl | rfl | rfl | rfl | rfl | rfl | rfl | rfl <;> rfl
theorem vO_2 {r : Nat} : (vO r).2 ≤ 180 := by
  unfold vO
  repeat' split
  all_goals decide
/-- only the state at q changed -/
def qS (q a : Nat) : Prop := q ≤ a ∧ a ≤ q + 12
def qT (q a k : Nat) : Prop := a = q ∧ 13 ≤ k
theorem cp_G {σ τ : ZS} {p q r : Nat} (hr : 1 ≤ r) (hr2 : r ≤ 12) (hp : isSt (sK σ) p) (hq : isSt (sK σ) q) (hpq : p ≠ q) (hF : FR (qS q) (qT q) σ τ) (hi : ∀ i, 1 ≤ i → i < r → sF τ (q + i) = sF σ (p + i)) : ∃ υ, z_cp (mkH τ) (p + r) (q + r) (nI (vO r).2) = some (mkH υ) ∧ FR (qS q) (qT q) σ υ ∧ ∀ i, 1 ≤ i → i < r + 1 → sF υ (q + i) = sF σ (p + i) := by
  have ha := st_ap hp hq hpq
  have hK := FR_K hF
  have hpt : isSt (sK τ) p := by rw [hK]; exact hp
  have hqt : isSt (sK τ) q := by rw [hK]; exact hq
  have l1 := (st_lay hpt).2 r (by omega)
  have l2 := (st_lay hqt).2 r (by omega)
  rw [vO_lay hr hr2] at l1 l2
  have hv := vO_2 (r := r)
  refine ⟨setRow τ (q + r) (sF τ (p + r)), mk_cp (m := (vO r).2) (by have := (st_lay hpt).1; omega) (by have := (st_lay hqt).1; omega) l1 l2 (by omega) (Nat.le_refl _), FR_t hF (FR_R (by unfold qS; omega)), fun i h1 h2 => ?_⟩
  show (fun j => if q + i = q + r then sF τ (p + r) j else sF τ (q + i) j) = _
  by_cases hir : i = r
  · subst hir
    funext j
    rw [if_pos rfl, hF.1 (p + i) (by unfold qS; omega)]
  · funext j
    rw [if_neg (by omega), hi i h1 (by omega)]
theorem c_copy {σ : ZS} {p q : Nat} (hp : isSt (sK σ) p) (hq : isSt (sK σ) q) (hpq : p ≠ q) : ∃ τ, xX5_copy q p (mkH σ) = some (mkH τ) ∧ cV τ q = cV σ p ∧ FR (qS q) (qT q) σ τ := by
  have ha := st_ap hp hq hpq
  have s0 : FR (qS q) (qT q) σ σ := FR_r
  have i0 : ∀ i, 1 ≤ i → i < 1 → sF σ (q + i) = sF σ (p + i) := fun i h1 h2 => by omega
  obtain ⟨t1, e1, s1, i1⟩ := cp_G (τ := σ) (r := 1) (by decide) (by decide) hp hq hpq s0 i0
  replace e1 : z_cp (mkH σ) (p + 1) (q + 1) (nI 6) = some (mkH t1) := e1
  have p1 : isSt (sK t1) p := by rw [FR_K s1]; exact hp
  have q1 : isSt (sK t1) q := by rw [FR_K s1]; exact hq
  obtain ⟨t2, e2, s2, i2⟩ := cp_G (τ := t1) (r := 2) (by decide) (by decide) hp hq hpq s1 i1
  replace e2 : z_cp (mkH t1) (p + 2) (q + 2) (nI 6) = some (mkH t2) := e2
  have p2 : isSt (sK t2) p := by rw [FR_K s2]; exact hp
  have q2 : isSt (sK t2) q := by rw [FR_K s2]; exact hq
  obtain ⟨t3, e3, s3, i3⟩ := cp_G (τ := t2) (r := 3) (by decide) (by decide) hp hq hpq s2 i2
  replace e3 : z_cp (mkH t2) (p + 3) (q + 3) (nI 6) = some (mkH t3) := e3
  have p3 : isSt (sK t3) p := by rw [FR_K s3]; exact hp
  have q3 : isSt (sK t3) q := by rw [FR_K s3]; exact hq
  obtain ⟨t4, e4, s4, i4⟩ := cp_G (τ := t3) (r := 4) (by decide) (by decide) hp hq hpq s3 i3
  replace e4 : z_cp (mkH t3) (p + 4) (q + 4) (nI 6) = some (mkH t4) := e4
  have p4 : isSt (sK t4) p := by rw [FR_K s4]; exact hp
  have q4 : isSt (sK t4) q := by rw [FR_K s4]; exact hq
  obtain ⟨t5, e5, s5, i5⟩ := cp_G (τ := t4) (r := 5) (by decide) (by decide) hp hq hpq s4 i4
  replace e5 : z_cp (mkH t4) (p + 5) (q + 5) (nI 6) = some (mkH t5) := e5
  have p5 : isSt (sK t5) p := by rw [FR_K s5]; exact hp
  have q5 : isSt (sK t5) q := by rw [FR_K s5]; exact hq
  obtain ⟨t6, e6, s6, i6⟩ := cp_G (τ := t5) (r := 6) (by decide) (by decide) hp hq hpq s5 i5
  replace e6 : z_cp (mkH t5) (p + 6) (q + 6) (nI 18) = some (mkH t6) := e6
  have p6 : isSt (sK t6) p := by rw [FR_K s6]; exact hp
  have q6 : isSt (sK t6) q := by rw [FR_K s6]; exact hq
  obtain ⟨t7, e7, s7, i7⟩ := cp_G (τ := t6) (r := 7) (by decide) (by decide) hp hq hpq s6 i6
  replace e7 : z_cp (mkH t6) (p + 7) (q + 7) (nI 18) = some (mkH t7) := e7
  have p7 : isSt (sK t7) p := by rw [FR_K s7]; exact hp
  have q7 : isSt (sK t7) q := by rw [FR_K s7]; exact hq
  obtain ⟨t8, e8, s8, i8⟩ := cp_G (τ := t7) (r := 8) (by decide) (by decide) hp hq hpq s7 i7
  replace e8 : z_cp (mkH t7) (p + 8) (q + 8) (nI 18) = some (mkH t8) := e8
  have p8 : isSt (sK t8) p := by rw [FR_K s8]; exact hp
  have q8 : isSt (sK t8) q := by rw [FR_K s8]; exact hq
  obtain ⟨t9, e9, s9, i9⟩ := cp_G (τ := t8) (r := 9) (by decide) (by decide) hp hq hpq s8 i8
  replace e9 : z_cp (mkH t8) (p + 9) (q + 9) (nI 180) = some (mkH t9) := e9
  have p9 : isSt (sK t9) p := by rw [FR_K s9]; exact hp
  have q9 : isSt (sK t9) q := by rw [FR_K s9]; exact hq
  obtain ⟨t10, e10, s10, i10⟩ := cp_G (τ := t9) (r := 10) (by decide) (by decide) hp hq hpq s9 i9
  replace e10 : z_cp (mkH t9) (p + 10) (q + 10) (nI 180) = some (mkH t10) := e10
  have p10 : isSt (sK t10) p := by rw [FR_K s10]; exact hp
  have q10 : isSt (sK t10) q := by rw [FR_K s10]; exact hq
  obtain ⟨t11, e11, s11, i11⟩ := cp_G (τ := t10) (r := 11) (by decide) (by decide) hp hq hpq s10 i10
  replace e11 : z_cp (mkH t10) (p + 11) (q + 11) (nI 36) = some (mkH t11) := e11
  have p11 : isSt (sK t11) p := by rw [FR_K s11]; exact hp
  have q11 : isSt (sK t11) q := by rw [FR_K s11]; exact hq
  obtain ⟨t12, e12, s12, i12⟩ := cp_G (τ := t11) (r := 12) (by decide) (by decide) hp hq hpq s11 i11
  replace e12 : z_cp (mkH t11) (p + 12) (q + 12) (nI 36) = some (mkH t12) := e12
  have p12 : isSt (sK t12) p := by rw [FR_K s12]; exact hp
  have q12 : isSt (sK t12) q := by rw [FR_K s12]; exact hq
  have v : ∀ k, sI t12 p k = sI σ p k := fun k => s12.2.1 p k (by unfold qT; omega)
  have w : ∀ (τ : ZS) (k : Nat) (u : Int32) (j : Nat), sI (setI τ q k u) p j = sI τ p j := fun τ k u j => sI_ne (by omega)
  have hF : FR (qS q) (qT q) σ (setI (setI (setI (setI (setI t12 q 13 (sI σ p 13)) q 14 (sI σ p 14)) q 15 (sI σ p 15)) q 16 (sI σ p 16)) q 17 (sI σ p 17)) := FR_t s12 (FR_t (FR_t (FR_t (FR_t (FR_I ⟨rfl, by omega⟩) (FR_I ⟨rfl, by omega⟩)) (FR_I ⟨rfl, by omega⟩)) (FR_I ⟨rfl, by omega⟩)) (FR_I ⟨rfl, by omega⟩))
  refine ⟨_, ?_, ?_, hF⟩
  · simp only [xX5_copy, Option.bind_some, nl_6, nl_18, nl_180, nl_36, rR_S1 hp, rR_S1 hq, e1, rR_S2 p1, rR_S2 q1, e2, rR_S3 p2, rR_S3 q2, e3, rR_S4 p3, rR_S4 q3, e4, rR_S5 p4, rR_S5 q4, e5, rR_S6 p5, rR_S6 q5, e6, rR_S7 p6, rR_S7 q6, e7, rR_S8 p7, rR_S8 q7, e8, rR_S9 p8, rR_S9 q8, e9, rR_S10 p9, rR_S10 q9, e10, rR_S11 p10, rR_S11 q10, e11, rR_S12 p11, rR_S12 q11, e12]
    simp only [rI_S13 (σ := t12) p12, Option.bind_some, w, v, wI_S13 (σ := t12) _ q12]
    simp only [rI_S14 (σ := setI (t12) q 13 (sI σ p 13)) p12, Option.bind_some, w, v, wI_S14 (σ := setI (t12) q 13 (sI σ p 13)) _ q12]
    simp only [rI_S15 (σ := setI (setI (t12) q 13 (sI σ p 13)) q 14 (sI σ p 14)) p12, Option.bind_some, w, v, wI_S15 (σ := setI (setI (t12) q 13 (sI σ p 13)) q 14 (sI σ p 14)) _ q12]
    simp only [rI_S16 (σ := setI (setI (setI (t12) q 13 (sI σ p 13)) q 14 (sI σ p 14)) q 15 (sI σ p 15)) p12, Option.bind_some, w, v, wI_S16 (σ := setI (setI (setI (t12) q 13 (sI σ p 13)) q 14 (sI σ p 14)) q 15 (sI σ p 15)) _ q12]
    simp only [rI_S17 (σ := setI (setI (setI (setI (t12) q 13 (sI σ p 13)) q 14 (sI σ p 14)) q 15 (sI σ p 15)) q 16 (sI σ p 16)) p12, Option.bind_some, w, v, wI_S17 (σ := setI (setI (setI (setI (t12) q 13 (sI σ p 13)) q 14 (sI σ p 14)) q 15 (sI σ p 15)) q 16 (sI σ p 16)) _ q12]
  · funext j
    by_cases hj : j < 516
    · obtain ⟨r, hr1, hr2, -, -, he⟩ := cV_row σ p j hj
      obtain ⟨r', hr1', hr2', g1, g2, he'⟩ := cV_row σ q j hj
      obtain ⟨r2, hr1, hr2, g3, g4, he⟩ := cV_row σ p j hj
      have : r' = r2 := vO_d hr1' hr2' hr1 hr2 g1 g2 g3 g4
      subst this
      rw [he', he]
      show sF t12 (q + r') _ = _
      rw [i12 r' hr1' (by omega)]
    · rw [cV_sc _ _ _ hj, cV_sc _ _ _ hj]
      rw [sI_eq, show ∀ (τ : ZS) (u : Int32), sI (setI τ q 17 u) q 16 = sI τ q 16 from fun τ u => sI_ne (by omega), sI_eq]
      simp only [show ∀ (τ : ZS) (u : Int32), sI (setI τ q 17 u) q 15 = sI τ q 15 from fun τ u => sI_ne (by omega), show ∀ (τ : ZS) (u : Int32), sI (setI τ q 16 u) q 15 = sI τ q 15 from fun τ u => sI_ne (by omega), show ∀ (τ : ZS) (u : Int32), sI (setI τ q 17 u) q 14 = sI τ q 14 from fun τ u => sI_ne (by omega), show ∀ (τ : ZS) (u : Int32), sI (setI τ q 16 u) q 14 = sI τ q 14 from fun τ u => sI_ne (by omega), show ∀ (τ : ZS) (u : Int32), sI (setI τ q 15 u) q 14 = sI τ q 14 from fun τ u => sI_ne (by omega), show ∀ (τ : ZS) (u : Int32), sI (setI τ q 17 u) q 13 = sI τ q 13 from fun τ u => sI_ne (by omega), show ∀ (τ : ZS) (u : Int32), sI (setI τ q 16 u) q 13 = sI τ q 13 from fun τ u => sI_ne (by omega), show ∀ (τ : ZS) (u : Int32), sI (setI τ q 15 u) q 13 = sI τ q 13 from fun τ u => sI_ne (by omega), show ∀ (τ : ZS) (u : Int32), sI (setI τ q 14 u) q 13 = sI τ q 13 from fun τ u => sI_ne (by omega), sI_eq]
/-- a ship owns nothing, its map is empty; up to k entries, up to k places known -/
def fgH (s k : Nat) (A : Nat → Int32) : Nat → Int32 := fun j => if 84 + 30 * s ≤ j ∧ j < 84 + 30 * s + k then -1 else if 264 + 30 * s ≤ j ∧ j < 264 + 30 * s + k then 0 else A j
def fgK (s k : Nat) (A : Nat → Int32) : Nat → Int32 := fun j => if 444 + 6 * s ≤ j ∧ j < 444 + 6 * s + k then -1 else if 480 + 6 * s ≤ j ∧ j < 480 + 6 * s + k then -1 else A j
def fgA (s : Nat) (A : Nat → Int32) : Nat → Int32 := fgK s 6 (fgH s 30 (up1 A (24 + s) 0))
theorem fgH_0 {s : Nat} {A : Nat → Int32} : fgH s 0 A = A := by
  funext j
  unfold fgH
  rw [if_neg (by omega), if_neg (by omega)]
theorem fgK_0 {s : Nat} {A : Nat → Int32} : fgK s 0 A = A := by
  funext j
  unfold fgK
  rw [if_neg (by omega), if_neg (by omega)]
theorem fgH_s {s k : Nat} {A : Nat → Int32} (hs : s < 6) (hk : k < 30) : up1 (up1 (fgH s k A) (84 + 30 * s + k) (-1)) (264 + 30 * s + k) 0 = fgH s (k + 1) A := by
  funext j
  by_cases h2 : j = 264 + 30 * s + k
  · rw [h2, up1_e]
    unfold fgH
    rw [if_neg (by omega), if_pos (by omega)]
  · rw [up1_n h2]
    by_cases h1 : j = 84 + 30 * s + k
    · rw [h1, up1_e]
      unfold fgH
      rw [if_pos (by omega)]
    · rw [up1_n h1]
      unfold fgH
      by_cases c1 : 84 + 30 * s ≤ j ∧ j < 84 + 30 * s + k
      · rw [if_pos c1, if_pos (by omega)]
      · rw [if_neg c1, if_neg (show ¬ (84 + 30 * s ≤ j ∧ j < 84 + 30 * s + (k + 1)) by omega)]
        by_cases c2 : 264 + 30 * s ≤ j ∧ j < 264 + 30 * s + k
        · rw [if_pos c2, if_pos (by omega)]
        · rw [if_neg c2, if_neg (by omega)]
theorem fgK_s {s k : Nat} {A : Nat → Int32} (hs : s < 6) (hk : k < 6) : up1 (up1 (fgK s k A) (444 + 6 * s + k) (-1)) (480 + 6 * s + k) (-1) = fgK s (k + 1) A := by
  funext j
  by_cases h2 : j = 480 + 6 * s + k
  · rw [h2, up1_e]
    unfold fgK
    rw [if_neg (by omega), if_pos (by omega)]
  · rw [up1_n h2]
    by_cases h1 : j = 444 + 6 * s + k
    · rw [h1, up1_e]
      unfold fgK
      rw [if_pos (by omega)]
    · rw [up1_n h1]
      unfold fgK
      by_cases c1 : 444 + 6 * s ≤ j ∧ j < 444 + 6 * s + k
      · rw [if_pos c1, if_pos (by omega)]
      · rw [if_neg c1, if_neg (show ¬ (444 + 6 * s ≤ j ∧ j < 444 + 6 * s + (k + 1)) by omega)]
        by_cases c2 : 480 + 6 * s ≤ j ∧ j < 480 + 6 * s + k
        · rw [if_pos c2, if_pos (by omega)]
        · rw [if_neg c2, if_neg (by omega)]
theorem c_fgK {σ : ZS} {p s : Nat} (hp : isSt (sK σ) p) (hs : s < 6) : ∃ τ, xX5_forgetAll_L31 zFU p (nI s) (0 : Int32) (mkH σ) = some (mkH τ) ∧ cV τ p = fgK s 6 (cV σ p) ∧ FR (qS p) (qT p) σ τ := by
  obtain ⟨e, he⟩ := zfu 6 (by omega)
  have key := lpI (fun e k (τ : ZS) => xX5_forgetAll_L31 e p (nI s) (nI k) (mkH τ)) 6 (fun k τ => FR (qS p) (qT p) σ τ ∧ cV τ p = fgK s k (cV σ p)) (fun v => ∃ τ, v = mkH τ ∧ cV τ p = fgK s 6 (cV σ p) ∧ FR (qS p) (qT p) σ τ) ?_ ?_ 6 0 σ e (by omega) ⟨FR_r, fgK_0.symm⟩
  · obtain ⟨v, hv, τ, hv2, t2, t3⟩ := key
    refine ⟨τ, ?_, t2, t3⟩
    rw [he, ← hv2]
    exact hv
  · rintro e k τ hk ⟨hF, hA⟩
    right
    have hpt : isSt (sK τ) p := by rw [FR_K hF]; exact hp
    have hB : xX5_forgetAll_L31 (e + 1) p (nI s) (nI k) (mkH τ) = xX5_forgetAll_B31 (xX5_forgetAll_L31 e) p (nI s) (nI k) (mkH τ) := rfl
    have hi : s * 6 + k < 36 := by omega
    simp only [hB, xX5_forgetAll_B31, rR_S11 hpt, Option.bind_some, nl_6, pk_mul, nI_add, wa_S11 _ hpt hi, rR_S12 (σ := setF τ (p + 11) (s * 6 + k) (-1)) hpt, wa_S12 (σ := setF τ (p + 11) (s * 6 + k) (-1)) _ hpt hi, nI_s]
    rw [if_neg (fun z => by have := (nI_leI (by omega) (by omega)).mp z; omega)]
    refine ⟨_, rfl, FR_t hF (FR_t (FR_F (by unfold qS; omega)) (FR_F (by unfold qS; omega))), ?_⟩
    rw [cw (r := 12) (j := 480 + 6 * s + k) (by decide) (by decide) hi (show 480 + (s * 6 + k) = 480 + 6 * s + k by omega), cw (r := 11) (j := 444 + 6 * s + k) (by decide) (by decide) hi (show 444 + (s * 6 + k) = 444 + 6 * s + k by omega), hA]
    exact fgK_s hs hk
  · rintro e τ ⟨hF, hA⟩
    refine ⟨mkH τ, ?_, τ, rfl, hA, hF⟩
    show xX5_forgetAll_B31 (xX5_forgetAll_L31 e) p (nI s) (nI 6) (mkH τ) = _
    simp only [xX5_forgetAll_B31]
    rw [if_pos (by rw [nl_6]; exact (nI_leI (by omega) (by omega)).mpr (Nat.le_refl _))]
theorem FR_q9 {σ τ : ZS} {p : Nat} (h : FR (fun a => a = p + 9 ∨ a = p + 10) (fun _ _ => False) σ τ) : FR (qS p) (qT p) σ τ := FR_m h (fun a z => by unfold qS; omega) (fun _ _ z => z.elim)
theorem c_forget {σ : ZS} {p s : Nat} (hp : isSt (sK σ) p) (hs : s < 6) : ∃ τ, xX5_forgetAll p (nI s) (mkH σ) = some (mkH τ) ∧ cV τ p = fgA s (cV σ p) ∧ FR (qS p) (qT p) σ τ := by
  obtain ⟨e, he⟩ := zfu 30 (by omega)
  have hF0 : FR (qS p) (qT p) σ (setF σ (p + 5) s 0) := FR_F (by unfold qS; omega)
  have hV0 : cV (setF σ (p + 5) s 0) p = up1 (cV σ p) (24 + s) 0 := cw (r := 5) (by decide) (by decide) hs rfl
  have key := lpI (fun e k (τ : ZS) => xX5_forgetAll_L9 e p (nI s) (nI k) (mkH τ)) 30 (fun k τ => FR (qS p) (qT p) σ τ ∧ cV τ p = fgH s k (up1 (cV σ p) (24 + s) 0)) (fun v => ∃ τ, v = mkH τ ∧ cV τ p = fgA s (cV σ p) ∧ FR (qS p) (qT p) σ τ) ?_ ?_ 30 0 (setF σ (p + 5) s 0) e (by omega) ⟨hF0, by rw [hV0, fgH_0]⟩
  · obtain ⟨v, hv, τ, hv2, t2, t3⟩ := key
    refine ⟨τ, ?_, t2, t3⟩
    simp only [xX5_forgetAll, rR_S5 hp, Option.bind_some, wa_S5 _ hp hs]
    rw [he, ← hv2]
    exact hv
  · rintro e k τ hk ⟨hF, hA⟩
    right
    have hpt : isSt (sK τ) p := by rw [FR_K hF]; exact hp
    have hB : xX5_forgetAll_L9 (e + 1) p (nI s) (nI k) (mkH τ) = xX5_forgetAll_B9 (xX5_forgetAll_L9 e) p (nI s) (nI k) (mkH τ) := rfl
    obtain ⟨υ, u1, u2, u3⟩ := c_setH (σ := τ) (s := s) (t := k) (u := -1) (v := 0) hpt hs hk
    simp only [hB, xX5_forgetAll_B9, is_S hpt, gu_t, u1, Option.bind_some, nI_s]
    rw [if_neg (fun z => by rw [nl_30] at z; have := (nI_leI (by omega) (by omega)).mp z; omega)]
    refine ⟨υ, rfl, FR_t hF (FR_q9 u3), ?_⟩
    rw [u2, hA]
    exact fgH_s hs hk
  · rintro e τ ⟨hF, hA⟩
    have hpt : isSt (sK τ) p := by rw [FR_K hF]; exact hp
    obtain ⟨υ, u1, u2, u3⟩ := c_fgK (s := s) hpt hs
    refine ⟨mkH υ, ?_, υ, rfl, ?_, FR_t hF u3⟩
    · show xX5_forgetAll_B9 (xX5_forgetAll_L9 e) p (nI s) (nI 30) (mkH τ) = _
      simp only [xX5_forgetAll_B9]
      rw [if_pos (by rw [nl_30]; exact (nI_leI (by omega) (by omega)).mpr (Nat.le_refl _))]
      exact u1
    · rw [u2, hA]
      rfl
