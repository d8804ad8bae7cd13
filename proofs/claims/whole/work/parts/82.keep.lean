/-! rows of the reference kept and brought back -/
theorem r_keepNow (σ : ZS) : ∃ τ, xX9_keepNow 78 (mkH σ) = some (mkH τ) ∧ (∀ j, j < 521 → sF τ 105 j = sF σ 104 j) ∧ FR (fun a => a = 105) (fun _ _ => False) σ τ := by
  obtain ⟨e, he⟩ := zfu 521 (by omega)
  have key := lpI (fun e k (τ : ZS) => xX9_keepNow_L2 e 78 (nI k) (mkH τ)) 521 (fun k τ => FR (fun a => a = 105) (fun _ _ => False) σ τ ∧ ∀ j, j < k → sF τ 105 j = sF σ 104 j) (fun v => ∃ τ, v = mkH τ ∧ (∀ j, j < 521 → sF τ 105 j = sF σ 104 j) ∧ FR (fun a => a = 105) (fun _ _ => False) σ τ) ?_ ?_ 521 0 σ e (by omega) ⟨FR_r, fun j hj => absurd hj (Nat.not_lt_zero j)⟩
  · obtain ⟨v, hv, τ, hv2, t2, t3⟩ := key
    refine ⟨τ, ?_, t2, t3⟩
    unfold xX9_keepNow
    rw [he, ← hv2]
    exact hv
  · rintro e k τ hk ⟨hF, hA⟩
    right
    have hB : xX9_keepNow_L2 (e + 1) 78 (nI k) (mkH τ) = xX9_keepNow_B2 (xX9_keepNow_L2 e) 78 (nI k) (mkH τ) := rfl
    have h4 : sF τ 104 k = sF σ 104 k := by rw [hF.1 104 (by omega)]
    simp only [hB, xX9_keepNow_B2, rR_78_42, rR_78_41, Option.bind_some, ra_104 τ hk, h4, wa_105 τ _ hk, nI_s]
    rw [if_neg (fun z => by rw [nl_521] at z; have := (nI_leI (by omega) (by omega)).mp z; omega)]
    refine ⟨_, rfl, FR_t hF (FR_F rfl), fun j hj => ?_⟩
    by_cases h : j = k
    · rw [h, sF_eq]
    · rw [sF_ne (by omega)]; exact hA j (by omega)
  · rintro e τ ⟨hF, hA⟩
    refine ⟨mkH τ, ?_, τ, rfl, hA, hF⟩
    show xX9_keepNow_B2 (xX9_keepNow_L2 e) 78 (nI 521) (mkH τ) = _
    simp only [xX9_keepNow_B2]
    rw [if_pos (by rw [nl_521]; exact (nI_leI (by omega) (by omega)).mpr (Nat.le_refl _))]
theorem r_bringBack (σ : ZS) : ∃ τ, xX9_bringBack 78 (mkH σ) = some (mkH τ) ∧ (∀ j, j < 521 → sF τ 104 j = sF σ 105 j) ∧ FR (fun a => a = 104) (fun _ _ => False) σ τ := by
  obtain ⟨e, he⟩ := zfu 521 (by omega)
  have key := lpI (fun e k (τ : ZS) => xX9_bringBack_L2 e 78 (nI k) (mkH τ)) 521 (fun k τ => FR (fun a => a = 104) (fun _ _ => False) σ τ ∧ ∀ j, j < k → sF τ 104 j = sF σ 105 j) (fun v => ∃ τ, v = mkH τ ∧ (∀ j, j < 521 → sF τ 104 j = sF σ 105 j) ∧ FR (fun a => a = 104) (fun _ _ => False) σ τ) ?_ ?_ 521 0 σ e (by omega) ⟨FR_r, fun j hj => absurd hj (Nat.not_lt_zero j)⟩
  · obtain ⟨v, hv, τ, hv2, t2, t3⟩ := key
    refine ⟨τ, ?_, t2, t3⟩
    unfold xX9_bringBack
    rw [he, ← hv2]
    exact hv
  · rintro e k τ hk ⟨hF, hA⟩
    right
    have hB : xX9_bringBack_L2 (e + 1) 78 (nI k) (mkH τ) = xX9_bringBack_B2 (xX9_bringBack_L2 e) 78 (nI k) (mkH τ) := rfl
    have h4 : sF τ 105 k = sF σ 105 k := by rw [hF.1 105 (by omega)]
    simp only [hB, xX9_bringBack_B2, rR_78_42, rR_78_41, Option.bind_some, ra_105 τ hk, h4, wa_104 τ _ hk, nI_s]
    rw [if_neg (fun z => by rw [nl_521] at z; have := (nI_leI (by omega) (by omega)).mp z; omega)]
    refine ⟨_, rfl, FR_t hF (FR_F rfl), fun j hj => ?_⟩
    by_cases h : j = k
    · rw [h, sF_eq]
    · rw [sF_ne (by omega)]; exact hA j (by omega)
  · rintro e τ ⟨hF, hA⟩
    refine ⟨mkH τ, ?_, τ, rfl, hA, hF⟩
    show xX9_bringBack_B2 (xX9_bringBack_L2 e) 78 (nI 521) (mkH τ) = _
    simp only [xX9_bringBack_B2]
    rw [if_pos (by rw [nl_521]; exact (nI_leI (by omega) (by omega)).mpr (Nat.le_refl _))]
/-- the acts kept: what changes -/
def hS (a : Nat) : Prop := a = 109
def hT (a k : Nat) : Prop := a = 78 ∧ (k = 48 ∨ k = 49)
theorem r_keep52 {σ : ZS} {ac : Nat} (ha : ac < 40) (h48 : sI σ 78 48 = nI ac) : ∃ τ, xX9_keepAct_L52 zFU 78 (0 : Int32) (mkH σ) = some (mkH τ) ∧ sI τ 78 48 = nI (ac + 1) ∧ sI τ 78 49 = 0 ∧ (∀ j, j < 521 → sF τ 109 (521 * ac + j) = sF σ 104 j) ∧ (∀ k, k < 521 * ac → sF τ 109 k = sF σ 109 k) ∧ FR hS hT σ τ := by
  obtain ⟨e, he⟩ := zfu 521 (by omega)
  have key := lpI (fun e k (τ : ZS) => xX9_keepAct_L52 e 78 (nI k) (mkH τ)) 521 (fun k τ => FR hS (fun _ _ => False) σ τ ∧ (∀ j, j < k → sF τ 109 (521 * ac + j) = sF σ 104 j) ∧ ∀ i, i < 521 * ac → sF τ 109 i = sF σ 109 i) (fun v => ∃ τ, v = mkH τ ∧ sI τ 78 48 = nI (ac + 1) ∧ sI τ 78 49 = 0 ∧ (∀ j, j < 521 → sF τ 109 (521 * ac + j) = sF σ 104 j) ∧ (∀ k, k < 521 * ac → sF τ 109 k = sF σ 109 k) ∧ FR hS hT σ τ) ?_ ?_ 521 0 σ e (by omega) ⟨FR_r, fun j hj => absurd hj (Nat.not_lt_zero j), fun _ _ => rfl⟩
  · obtain ⟨v, hv, τ, hv2, t⟩ := key
    refine ⟨τ, ?_, t⟩
    rw [he, ← hv2]
    exact hv
  · rintro e k τ hk ⟨hF, hA, hO⟩
    right
    have hB : xX9_keepAct_L52 (e + 1) 78 (nI k) (mkH τ) = xX9_keepAct_B52 (xX9_keepAct_L52 e) 78 (nI k) (mkH τ) := rfl
    have h4 : sF τ 104 k = sF σ 104 k := by rw [hF.1 104 (by unfold hS; omega)]
    have h8 : sI τ 78 48 = nI ac := by rw [hF.2.1 78 48 (fun z => z)]; exact h48
    simp only [hB, xX9_keepAct_B52, rR_78_47, rI_78_48, h8, rR_78_41, Option.bind_some, ra_104 τ hk, h4, nl_521, pk_mul, nI_add, wa_109 τ _ (show 521 * ac + k < 21361 by omega), nI_s]
    rw [if_neg (fun z => by have := (nI_leI (by omega) (by omega)).mp z; omega)]
    refine ⟨_, rfl, FR_t hF (FR_F rfl), fun j hj => ?_, fun i hi => ?_⟩
    · by_cases h : j = k
      · rw [h, sF_eq]
      · rw [sF_ne (by omega)]; exact hA j (by omega)
    · rw [sF_ne (by omega)]; exact hO i hi
  · rintro e τ ⟨hF, hA, hO⟩
    have h8 : sI τ 78 48 = nI ac := by rw [hF.2.1 78 48 (fun z => z)]; exact h48
    refine ⟨mkH (setI (setI τ 78 48 (nI (ac + 1))) 78 49 0), ?_, _, rfl, ?_, sI_eq, hA, hO, FR_t (FR_m hF (fun _ z => z) (fun _ _ z => z.elim)) (FR_t (FR_I ⟨rfl, Or.inl rfl⟩) (FR_I ⟨rfl, Or.inr rfl⟩))⟩
    · show xX9_keepAct_B52 (xX9_keepAct_L52 e) 78 (nI 521) (mkH τ) = _
      simp only [xX9_keepAct_B52]
      rw [if_pos (by rw [nl_521]; exact (nI_leI (by omega) (by omega)).mpr (Nat.le_refl _))]
      simp only [xX9_keepAct_B86, rI_78_48, h8, Option.bind_some, nI_s, wI_78_48, wI_78_49]
    · rw [sI_ne (by omega), sI_eq]
/-- a loop that goes over into something else -/
theorem lpC {S R : Type} (L : Nat → Nat → S → Option R) (C : S → Option R) (b : Nat) (I : Nat → S → Prop) (hs : ∀ e k s, k < b → I k s → ∃ s', L (e + 1) k s = L e (k + 1) s' ∧ I (k + 1) s') (he : ∀ e s, I b s → L (e + 1) b s = C s) : ∀ m k s e, k + m = b → I k s → ∃ s', L (e + m + 1) k s = C s' ∧ I b s' := by
  intro m
  induction m with
  | zero =>
    intro k s e hk hI
    have : k = b := by omega
    subst this
    exact ⟨s, he e s hI, hI⟩
  | succ m ih =>
    intro k s e hk hI
    obtain ⟨s', h1, h2⟩ := hs (e + (m + 1)) k s (by omega) hI
    rw [h1, show e + (m + 1) = e + m + 1 by omega]
    exact ih (k + 1) s' e (by omega) h2
theorem r_k11 {σ : ZS} {N : Nat} (hN : N < 20841) (hN2 : (20840 : Int32) = nI N) : ∃ τ, xX9_keepAct_L11 zFU 78 (0 : Int32) (mkH σ) = xX9_keepAct_B40 78 (mkH τ) ∧ FR hS (fun _ _ => False) σ τ ∧ (∀ i, i < N → sF τ 109 i = sF σ 109 (i + 521)) ∧ ∀ i, N ≤ i → sF τ 109 i = sF σ 109 i := by
  obtain ⟨e, he⟩ := zfu N (by omega)
  have key := lpC (fun e k (τ : ZS) => xX9_keepAct_L11 e 78 (nI k) (mkH τ)) (fun τ => xX9_keepAct_B40 78 (mkH τ)) N (fun k τ => FR hS (fun _ _ => False) σ τ ∧ (∀ i, i < k → sF τ 109 i = sF σ 109 (i + 521)) ∧ ∀ i, k ≤ i → sF τ 109 i = sF σ 109 i) ?_ ?_ N 0 σ e (by omega) ⟨FR_r, fun j hj => absurd hj (Nat.not_lt_zero j), fun _ _ => rfl⟩
  · obtain ⟨τ, hv, t⟩ := key
    refine ⟨τ, ?_, t⟩
    rw [he]
    exact hv
  · rintro e k τ hk ⟨hF, hA, hO⟩
    have hB : xX9_keepAct_L11 (e + 1) 78 (nI k) (mkH τ) = xX9_keepAct_B11 (xX9_keepAct_L11 e) 78 (nI k) (mkH τ) := rfl
    simp only [hB, xX9_keepAct_B11, hN2, rR_78_47, Option.bind_some, nl_521, nI_add, ra_109 τ (show k + 521 < 21361 by omega), hO (k + 521) (by omega), wa_109 τ _ (show k < 21361 by omega), nI_s]
    rw [if_neg (fun z => by have := (nI_leI (by omega) (by omega)).mp z; omega)]
    refine ⟨_, rfl, FR_t hF (FR_F rfl), fun j hj => ?_, fun i hi => ?_⟩
    · by_cases h : j = k
      · rw [h, sF_eq]
      · rw [sF_ne (by omega)]; exact hA j (by omega)
    · rw [sF_ne (by omega)]; exact hO i (by omega)
  · rintro e τ ⟨hF, hA, hO⟩
    show xX9_keepAct_B11 (xX9_keepAct_L11 e) 78 (nI N) (mkH τ) = _
    simp only [xX9_keepAct_B11, hN2]
    rw [if_pos ((nI_leI (by omega) (by omega)).mpr (Nat.le_refl _))]
theorem r_k40 {σ τ : ZS} {N c : Nat} (hc : c + 1 = 40) (hN : 521 * c ≤ N) (h48 : sI σ 78 48 = nI (c + 1)) (hF : FR hS (fun _ _ => False) σ τ) (hA : ∀ i, i < N → sF τ 109 i = sF σ 109 (i + 521)) : ∃ υ, xX9_keepAct_B40 78 (mkH τ) = some (mkH υ) ∧ sI υ 78 48 = nI (c + 1) ∧ sI υ 78 49 = 0 ∧ (∀ j, j < 521 → sF υ 109 (521 * c + j) = sF σ 104 j) ∧ (∀ k, k < 521 * c → sF υ 109 k = sF σ 109 (k + 521)) ∧ FR hS hT σ υ := by
  have h8 : sI τ 78 48 = nI (c + 1) := by rw [hF.2.1 78 48 (fun z => z)]; exact h48
  have e39 : nI (c + 1) - (1 : Int32) = nI c := nI_pred c
  obtain ⟨υ, u1, u2, u3, u4, u5, u6⟩ := r_keep52 (σ := setI τ 78 48 (nI c)) (ac := c) (by omega) sI_eq
  refine ⟨υ, ?_, u2, u3, fun j hj => ?_, fun k hk => ?_, FR_t (FR_m hF (fun _ z => z) (fun _ _ z => z.elim)) (FR_t (FR_I ⟨rfl, Or.inl rfl⟩) u6)⟩
  · simp only [xX9_keepAct_B40, rI_78_48, h8, Option.bind_some, e39, wI_78_48]
    exact u1
  · rw [u4 j hj]
    show sF τ 104 j = _
    rw [hF.1 104 (by unfold hS; omega)]
  · rw [u5 k hk]
    exact hA k (by omega)
theorem r_keepAct {σ : ZS} {ac : Nat} (ha : ac ≤ 40) (h48 : sI σ 78 48 = nI ac) : ∃ τ c, xX9_keepAct 78 (mkH σ) = some (mkH τ) ∧ ((ac = 40 ∧ c + 1 = 40) ∨ (ac < 40 ∧ c = ac)) ∧ sI τ 78 48 = nI (c + 1) ∧ sI τ 78 49 = 0 ∧ (∀ j, j < 521 → sF τ 109 (521 * c + j) = sF σ 104 j) ∧ (∀ k, k < 521 * c → sF τ 109 k = if ac = 40 then sF σ 109 (k + 521) else sF σ 109 k) ∧ FR hS hT σ τ := by
  simp only [xX9_keepAct, rI_78_48, h48, Option.bind_some]
  by_cases h40 : ac = 40
  · simp only [if_pos h40]
    rw [if_pos (by rw [h40]; rfl)]
    obtain ⟨c, hc⟩ : ∃ c : Nat, c + 1 = 40 := ⟨39, rfl⟩
    obtain ⟨N, hN⟩ : ∃ N : Nat, N = 20840 := ⟨_, rfl⟩
    obtain ⟨τ, t1, t2, t3, t4⟩ := r_k11 (σ := σ) (N := N) (by omega) (by rw [hN]; rfl)
    rw [t1]
    obtain ⟨υ, u1, u2, u3, u4, u5, u6⟩ := r_k40 (c := c) hc (N := N) (by omega) (by rw [h48, h40, hc]) t2 t3
    exact ⟨υ, c, u1, Or.inl ⟨h40, hc⟩, u2, u3, u4, u5, u6⟩
  · simp only [if_neg h40]
    rw [if_neg (show ¬ nI ac = 40 from fun z => h40 ((nI_eq (by omega) (show 40 < 2 ^ 31 by decide)).mp z))]
    obtain ⟨υ, u1, u2, u3, u4, u5, u6⟩ := r_keep52 (show ac < 40 by omega) h48
    exact ⟨υ, ac, u1, Or.inr ⟨by omega, rfl⟩, u2, u3, u4, u5, u6⟩
theorem r_swap {σ : ZS} {ac : Nat} (ha : ac ≤ 40) (h48 : sI σ 78 48 = nI ac) : ∃ τ, xX9_swapAll 78 (mkH σ) = some (mkH τ) ∧ (∀ j, j < 521 → sF τ 104 j = sF σ 109 (521 * ac + j) ∧ sF τ 109 (521 * ac + j) = sF σ 104 j) ∧ (∀ k, (k < 521 * ac ∨ 521 * ac + 521 ≤ k) → sF τ 109 k = sF σ 109 k) ∧ FR (fun a => a = 104 ∨ a = 109) (fun _ _ => False) σ τ := by
  obtain ⟨e, he⟩ := zfu 521 (by omega)
  have key := lpI (fun e k (τ : ZS) => xX9_swapAll_L2 e 78 (nI k) (mkH τ)) 521 (fun k τ => FR (fun a => a = 104 ∨ a = 109) (fun _ _ => False) σ τ ∧ (∀ j, j < k → sF τ 104 j = sF σ 109 (521 * ac + j) ∧ sF τ 109 (521 * ac + j) = sF σ 104 j) ∧ (∀ j, k ≤ j → sF τ 104 j = sF σ 104 j ∧ sF τ 109 (521 * ac + j) = sF σ 109 (521 * ac + j)) ∧ ∀ i, i < 521 * ac → sF τ 109 i = sF σ 109 i) (fun v => ∃ τ, v = mkH τ ∧ (∀ j, j < 521 → sF τ 104 j = sF σ 109 (521 * ac + j) ∧ sF τ 109 (521 * ac + j) = sF σ 104 j) ∧ (∀ k, (k < 521 * ac ∨ 521 * ac + 521 ≤ k) → sF τ 109 k = sF σ 109 k) ∧ FR (fun a => a = 104 ∨ a = 109) (fun _ _ => False) σ τ) ?_ ?_ 521 0 σ e (by omega) ⟨FR_r, fun j hj => absurd hj (Nat.not_lt_zero j), fun _ _ => ⟨rfl, rfl⟩, fun _ _ => rfl⟩
  · obtain ⟨v, hv, τ, hv2, t⟩ := key
    refine ⟨τ, ?_, t⟩
    unfold xX9_swapAll
    rw [he, ← hv2]
    exact hv
  · rintro e k τ hk ⟨hF, hA, hO, hU⟩
    right
    have hB : xX9_swapAll_L2 (e + 1) 78 (nI k) (mkH τ) = xX9_swapAll_B2 (xX9_swapAll_L2 e) 78 (nI k) (mkH τ) := rfl
    have h8 : sI τ 78 48 = nI ac := by rw [hF.2.1 78 48 (fun z => z)]; exact h48
    obtain ⟨q1, q2⟩ := hO k (Nat.le_refl _)
    simp only [hB, xX9_swapAll_B2, rR_78_47, rI_78_48, h8, rR_78_41, Option.bind_some, nl_521, pk_mul, nI_add, ra_109 τ (show 521 * ac + k < 21361 by omega), ra_104 τ hk, q1, q2, wa_109 τ _ (show 521 * ac + k < 21361 by omega), wa_104 (setF τ 109 (521 * ac + k) (sF σ 104 k)) _ hk, nI_s]
    rw [if_neg (fun z => by have := (nI_leI (by omega) (by omega)).mp z; omega)]
    refine ⟨_, rfl, FR_t hF (FR_t (FR_F (Or.inr rfl)) (FR_F (Or.inl rfl))), fun j hj => ?_, fun j hj => ?_, fun i hi => ?_⟩
    · by_cases h : j = k
      · rw [h, sF_eq, sF_ne (by omega), sF_eq]
        exact ⟨rfl, rfl⟩
      · rw [sF_ne (by omega), sF_ne (by omega), sF_ne (by omega), sF_ne (by omega)]; exact hA j (by omega)
    · rw [sF_ne (by omega), sF_ne (by omega), sF_ne (by omega), sF_ne (by omega)]; exact hO j (by omega)
    · rw [sF_ne (by omega), sF_ne (by omega)]; exact hU i hi
  · rintro e τ ⟨hF, hA, hO, hU⟩
    refine ⟨mkH τ, ?_, τ, rfl, hA, fun k hk => ?_, hF⟩
    · show xX9_swapAll_B2 (xX9_swapAll_L2 e) 78 (nI 521) (mkH τ) = _
      simp only [xX9_swapAll_B2]
      rw [if_pos (by rw [nl_521]; exact (nI_leI (by omega) (by omega)).mpr (Nat.le_refl _))]
    · rcases hk with h | h
      · exact hU k h
      · have := (hO (k - 521 * ac) (by omega)).2
        rw [show 521 * ac + (k - 521 * ac) = k by omega] at this
        exact this
