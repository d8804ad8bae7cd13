/-! the class's step -/
def CE (σ : ZS) (P : Nat → Nat) (on fo : Nat → Int32) (len : Nat) : Prop := CP σ P ∧ (∀ s, s < P 0 → sF σ 26 s = on s) ∧ CFm σ fo len
theorem CE_c {σ τ : ZS} {n p : Nat} {P : Nat → Nat} {on fo : Nat → Int32} {len : Nat} (hp : isSt n p) (h : FR (cS p) (cT p) σ τ) (E : CE σ P on fo len) : CE τ P on fo len := by
  have h3 := st_in hp
  refine ⟨CP_c hp h E.1, ?_, ?_⟩
  · rw [h.1 26 (fun z => by unfold cS at z; omega)]; exact E.2.1
  · unfold CFm
    rw [h.2.1 21 15 (fun z => by unfold cT at z; omega), h.1 27 (fun z => by unfold cS at z; omega)]
    exact E.2.2
theorem cw {σ : ZS} {p r k j : Nat} {v : Int32} (hr : 1 ≤ r) (hr2 : r ≤ 12) (hk : k < (vO r).2) (hj : (vO r).1 + k = j) : cV (setF σ (p + r) k v) p = up1 (cV σ p) j v := by rw [← hj]; exact cV_F hr hr2 hk
theorem FR_cF {σ : ZS} {p r k : Nat} {v : Int32} (hr2 : r ≤ 12) : FR (cS p) (cT p) σ (setF σ (p + r) k v) := FR_F (by unfold cS; omega)
theorem FR_cI {σ : ZS} {p k : Nat} {v : Int32} (hk : 13 ≤ k) : FR (cS p) (cT p) σ (setI σ p k v) := FR_I (by unfold cT; omega)
theorem LV_upg {n : Nat} {B A : Nat → Int32} {k : Nat} {v : Int32} (hk : ¬ (24 ≤ k ∧ k < 30)) (L : LV n B A) : LV n (up1 B k v) (up1 A k v) := by
  have g : ∀ j, B j = A j → up1 B k v j = up1 A k v j := by
    intro j hj
    by_cases h : j = k
    · rw [h, up1_e, up1_e]
    · rw [up1_n h, up1_n h, hj]
  obtain ⟨l1, l2, l3, l4⟩ := L
  refine ⟨fun s hs => ?_, fun s hs => g _ (l2 s hs), fun s i hs hi ho => ?_, fun j h1 h2 => g _ (l4 j h1 h2)⟩
  · obtain ⟨a1, a2, a3, a4⟩ := l1 s hs
    exact ⟨g _ a1, g _ a2, g _ a3, g _ a4⟩
  · rw [up1_n (show 24 + s ≠ k by omega)] at ho
    obtain ⟨a1, a2, a3⟩ := l3 s i hs hi ho
    exact ⟨g _ a1, g _ a2, g _ a3⟩
theorem LV_cut {n s r : Nat} {B A : Nat → Int32} (L : LV n B A) (hn : n ≤ 6) (hs : s < 6) (hr : r ≤ tn (A (24 + s))) (hr3 : r ≤ 3) : LV n (up1 B (24 + s) (nI r)) (up1 A (24 + s) (nI r)) := by
  have g : ∀ j, B j = A j → up1 B (24 + s) (nI r) j = up1 A (24 + s) (nI r) j := by
    intro j hj
    by_cases h : j = 24 + s
    · rw [h, up1_e, up1_e]
    · rw [up1_n h, up1_n h, hj]
  obtain ⟨l1, l2, l3, l4⟩ := L
  refine ⟨fun s' hs' => ?_, fun s' hs' => g _ (l2 s' hs'), fun s' i hs' hi ho => ?_, fun j h1 h2 => g _ (l4 j h1 h2)⟩
  · obtain ⟨a1, a2, a3, a4⟩ := l1 s' hs'
    exact ⟨g _ a1, g _ a2, g _ a3, g _ a4⟩
  · have ho2 : i < tn (A (24 + s')) := by
      by_cases h : s' = s
      · subst h
        rw [up1_e, tn_n (by omega)] at ho
        omega
      · rw [up1_n (by omega)] at ho
        exact ho
    obtain ⟨a1, a2, a3⟩ := l3 s' i hs' hi ho2
    exact ⟨g _ a1, g _ a2, g _ a3⟩
theorem LV_ow {n s i : Nat} {B A : Nat → Int32} {t l f : Int32} (L : LV n B A) (hs : s < 6) (hi : i < 3) : LV n (owA B s i t l f) (owA A s i t l f) := LV_upg (by omega) (LV_upg (by omega) (LV_upg (by omega) L))
theorem LV_add {n s i : Nat} {B A : Nat → Int32} {t l f : Int32} (L : LV n B A) (hn : n ≤ 6) (hs : s < 6) (hi : i < 3) (he : tn (A (24 + s)) = i) : LV n (up1 (owA B s i t l f) (24 + s) (nI (i + 1))) (up1 (owA A s i t l f) (24 + s) (nI (i + 1))) := by
  obtain ⟨l1, l2, l3, l4⟩ := LV_ow (i := i) (t := t) (l := l) (f := f) L hs hi
  have g : ∀ j, owA B s i t l f j = owA A s i t l f j → up1 (owA B s i t l f) (24 + s) (nI (i + 1)) j = up1 (owA A s i t l f) (24 + s) (nI (i + 1)) j := by
    intro j hj
    by_cases h : j = 24 + s
    · rw [h, up1_e, up1_e]
    · rw [up1_n h, up1_n h, hj]
  refine ⟨fun s' hs' => ?_, fun s' hs' => g _ (l2 s' hs'), fun s' i' hs' hi' ho => ?_, fun j h1 h2 => g _ (l4 j h1 h2)⟩
  · obtain ⟨a1, a2, a3, a4⟩ := l1 s' hs'
    exact ⟨g _ a1, g _ a2, g _ a3, g _ a4⟩
  · by_cases h : s' = s ∧ i' = i
    · obtain ⟨rfl, rfl⟩ := h
      refine ⟨g _ ?_, g _ ?_, g _ ?_⟩
      · rw [owA_1 hs hi, owA_1 hs hi]
      · rw [owA_2 hs hi, owA_2 hs hi]
      · rw [owA_3, owA_3]
    · have ho2 : i' < tn (owA A s i t l f (24 + s')) := by
        by_cases h2 : s' = s
        · subst h2
          rw [up1_e, tn_n (by omega)] at ho
          rw [owA_n (by omega) (by omega) (by omega), he]
          omega
        · rw [up1_n (by omega)] at ho
          exact ho
      obtain ⟨a1, a2, a3⟩ := l3 s' i' hs' hi' ho2
      exact ⟨g _ a1, g _ a2, g _ a3⟩
theorem LV_mv {n : Nat} {B A : Nat → Int32} (L : LV n B A) (hn : n ≤ 6) : LV n (mvA n B) (mvA n A) := by
  obtain ⟨l1, l2, l3, l4⟩ := L
  have hi : ∀ (X : Nat → Int32) j, ¬ (j < n ∨ (6 ≤ j ∧ j < 6 + n)) → mvA n X j = X j := fun X j h => by unfold mvA; rw [if_neg h]
  refine ⟨fun s hs => ?_, fun s hs => ?_, fun s i hs hi' ho => ?_, fun j h1 h2 => ?_⟩
  · obtain ⟨a1, a2, a3, a4⟩ := l1 s hs
    refine ⟨?_, ?_, ?_, ?_⟩
    · unfold mvA
      rw [if_pos (Or.inl hs), if_pos (Or.inl hs), a1, a3]
    · unfold mvA
      rw [if_pos (by omega), if_pos (by omega), show 12 + (6 + s) = 18 + s by omega, a2, a4]
    · rw [hi B _ (by omega), hi A _ (by omega), a3]
    · rw [hi B _ (by omega), hi A _ (by omega), a4]
  · rw [hi B _ (by omega), hi A _ (by omega)]; exact l2 s hs
  · rw [hi A _ (by omega)] at ho
    rw [hi B _ (by omega), hi A _ (by omega), hi B _ (by omega), hi A _ (by omega), hi B _ (by omega), hi A _ (by omega)]
    exact l3 s i hs hi' ho
  · rw [hi B _ (by omega), hi A _ (by omega)]; exact l4 j h1 h2
theorem LV_ag {n : Nat} {B A : Nat → Int32} (L : LV n B A) (hn : n ≤ 6) : LV n (agA 180 B) (agA 180 A) := by
  obtain ⟨l1, l2, l3, l4⟩ := L
  have hi : ∀ (X : Nat → Int32) j, ¬ (84 ≤ j ∧ j < 444) → agA 180 X j = X j := fun X j h => by unfold agA; rw [if_neg (by omega), if_neg (by omega)]
  refine ⟨fun s hs => ?_, fun s hs => ?_, fun s i hs hi' ho => ?_, fun j h1 h2 => ?_⟩
  · rw [hi B _ (by omega), hi A _ (by omega), hi B _ (by omega), hi A _ (by omega), hi B _ (by omega), hi A _ (by omega), hi B _ (by omega), hi A _ (by omega)]
    exact l1 s hs
  · rw [hi B _ (by omega), hi A _ (by omega)]; exact l2 s hs
  · rw [hi A _ (by omega)] at ho
    rw [hi B _ (by omega), hi A _ (by omega), hi B _ (by omega), hi A _ (by omega), hi B _ (by omega), hi A _ (by omega)]
    exact l3 s i hs hi' ho
  · unfold agA
    by_cases c1 : 84 ≤ j ∧ j < 84 + 180
    · rw [if_pos c1, if_pos c1, l4 (180 + j) (by omega) (by omega), l4 j h1 h2]
    · rw [if_neg c1, if_neg c1, l4 j h1 h2]
theorem WF_LV {lo n m : Nat} {B A : Nat → Int32} (L : LV n B A) (V : WF lo n m A) : WF lo n m B := by
  obtain ⟨l1, l2, l3, l4⟩ := L
  obtain ⟨v1, v2, v3, v4, v5⟩ := V
  refine ⟨fun s hs => ?_, fun s i hs hi ho => ?_, fun s j hs hj => ?_, ?_, ?_⟩
  · rw [l2 s hs]; exact v1 s hs
  · rw [l2 s hs] at ho
    obtain ⟨a1, a2, -⟩ := l3 s i hs hi ho
    rw [a1, a2]
    exact v2 s i hs hi ho
  · rw [l4 _ (by omega) (by omega), l4 _ (by omega) (by omega)]; exact v3 s j hs hj
  · rw [l4 _ (by omega) (by omega)]; exact v4
  · rw [l4 _ (by omega) (by omega)]; exact v5
section CSt
variable {σ : ZS} {p len : Nat} {P : Nat → Nat} {on fo A : Nat → Int32}
theorem c_move (hp : isSt (sK σ) p) (E : CE σ P on fo len) (W : PW P) : ∃ τ, xX5_moveAll p (mkH σ) = some (mkH τ) ∧ cV τ p = mvA (P 0) (cV σ p) ∧ FR (cS p) (cT p) σ τ := by
  have w0 := W.1
  obtain ⟨e, he⟩ := zfu (P 0) (by omega)
  have h0 : mvA 0 (cV σ p) = cV σ p := by
    funext j
    unfold mvA
    rw [if_neg (by omega)]
  have key := lpI (fun e k (τ : ZS) => xX5_moveAll_L2 e p (nI k) (mkH τ)) (P 0) (fun k τ => FR (cS p) (cT p) σ τ ∧ cV τ p = mvA k (cV σ p)) (fun v => ∃ τ, v = mkH τ ∧ cV τ p = mvA (P 0) (cV σ p) ∧ FR (cS p) (cT p) σ τ) ?_ ?_ (P 0) 0 σ e (by omega) ⟨FR_r, h0.symm⟩
  · obtain ⟨v, hv, τ, hv2, t2, t3⟩ := key
    refine ⟨τ, ?_, t2, t3⟩
    unfold xX5_moveAll
    rw [he, ← hv2]
    exact hv
  · rintro e k τ hk ⟨hF, hA⟩
    right
    have hpt : isSt (sK τ) p := by rw [FR_K hF]; exact hp
    have E' := CE_c hp hF E
    have hB : xX5_moveAll_L2 (e + 1) p (nI k) (mkH τ) = xX5_moveAll_B2 (xX5_moveAll_L2 e) p (nI k) (mkH τ) := rfl
    have k6 : k < 6 := by omega
    simp only [hB, xX5_moveAll_B2, rR_S0 hpt, rI_21_7, E'.1.1, Option.bind_some]
    rw [if_neg (fun z => by have := (nI_leI (by omega) (by omega)).mp z; omega)]
    have s2 : ∀ v, sF (setF τ (p + 1) k v) (p + 2) k = sF τ (p + 2) k := fun v => sF_ne (by omega)
    have s4 : ∀ v, sF (setF τ (p + 1) k v) (p + 4) k = sF τ (p + 4) k := fun v => sF_ne (by omega)
    simp only [rR_S1 hpt, rR_S3 hpt, ra_S1 hpt k6, ra_S3 hpt k6, xX5_placeAfter, Option.bind_some, Int32.mul_one, wa_S1 _ hpt k6, rR_S2 (σ := setF τ (p + 1) k _) hpt, rR_S4 (σ := setF τ (p + 1) k _) hpt, ra_S2 (σ := setF τ (p + 1) k _) hpt k6, ra_S4 (σ := setF τ (p + 1) k _) hpt k6, s2, s4, wa_S2 (σ := setF τ (p + 1) k _) _ hpt k6, nI_s]
    refine ⟨_, rfl, FR_t hF (FR_t (FR_cF (by omega)) (FR_cF (by omega))), ?_⟩
    rw [cw (r := 2) (j := 6 + k) (by decide) (by decide) k6 rfl, cw (r := 1) (j := k) (by decide) (by decide) k6 (Nat.zero_add k)]
    rw [← mv_s k6, ← hA, cV_2 τ p k6, cV_3 τ p k6, cV_4 τ p k6]
    have e1 : cV τ p k = sF τ (p + 1) k := by have := cV_1 τ p k6; rwa [Nat.zero_add] at this
    rw [e1]
    rfl
  · rintro e τ ⟨hF, hA⟩
    have hpt : isSt (sK τ) p := by rw [FR_K hF]; exact hp
    have E' := CE_c hp hF E
    refine ⟨mkH τ, ?_, τ, rfl, hA, hF⟩
    show xX5_moveAll_B2 (xX5_moveAll_L2 e) p (nI (P 0)) (mkH τ) = _
    simp only [xX5_moveAll_B2, rR_S0 hpt, rI_21_7, E'.1.1, Option.bind_some]
    rw [if_pos ((nI_leI (by omega) (by omega)).mpr (Nat.le_refl _))]
theorem up1_2 {A : Nat → Int32} {k : Nat} {u v : Int32} : up1 (up1 A k u) k v = up1 A k v := by
  funext j
  by_cases h : j = k
  · rw [h, up1_e, up1_e]
  · rw [up1_n h, up1_n h, up1_n h]
theorem c_age (hp : isSt (sK σ) p) (V : WF 1 (P 0) (P 1) (cV σ p)) (hn : P 0 ≤ 6) : ∃ τ, xX5_ageMaps p (mkH σ) = some (mkH τ) ∧ cV τ p = agA 180 (cV σ p) ∧ FR (cS p) (cT p) σ τ := by
  obtain ⟨e, he⟩ := zfu 180 (by omega)
  have h0 : agA 0 (cV σ p) = cV σ p := by
    funext j
    unfold agA
    rw [if_neg (by omega), if_neg (by omega)]
  have key := lpI (fun e k (τ : ZS) => xX5_ageMaps_L2 e p (nI k) (mkH τ)) 180 (fun k τ => FR (cS p) (cT p) σ τ ∧ cV τ p = agA k (cV σ p)) (fun v => ∃ τ, v = mkH τ ∧ cV τ p = agA 180 (cV σ p) ∧ FR (cS p) (cT p) σ τ) ?_ ?_ 180 0 σ e (by omega) ⟨FR_r, h0.symm⟩
  · obtain ⟨v, hv, τ, hv2, t2, t3⟩ := key
    refine ⟨τ, ?_, t2, t3⟩
    unfold xX5_ageMaps
    rw [he, ← hv2]
    exact hv
  · rintro e k τ hk ⟨hF, hA⟩
    right
    have hpt : isSt (sK τ) p := by rw [FR_K hF]; exact hp
    have hB : xX5_ageMaps_L2 (e + 1) p (nI k) (mkH τ) = xX5_ageMaps_B2 (xX5_ageMaps_L2 e) p (nI k) (mkH τ) := rfl
    have e9 : sF τ (p + 9) k = cV σ p (84 + k) := by
      rw [← cV_9 τ p hk, hA]
      unfold agA
      rw [if_neg (by omega), if_neg (by omega)]
    have e10 : sF τ (p + 10) k = cV σ p (264 + k) := by
      rw [← cV_10 τ p hk, hA]
      unfold agA
      rw [if_neg (by omega), if_neg (by omega)]
    have ea : agA k (cV σ p) (264 + k) = cV σ p (264 + k) := by
      unfold agA
      rw [if_neg (by omega), if_neg (by omega)]
    have hs := ag_s V hk hn
    rw [ea] at hs
    have hent : (cV σ p (84 + k) = -1 ∧ cV σ p (264 + k) = 0) ∨ ∃ o y, o < P 0 ∧ 1 ≤ y ∧ y ≤ 8 ∧ cV σ p (84 + k) = nI o ∧ cV σ p (264 + k) = nI y := by
      have i1 : 84 + 30 * (k / 30) + k % 30 = 84 + k := by omega
      have i2 : 264 + 30 * (k / 30) + k % 30 = 264 + k := by omega
      rcases V.2.2.1 (k / 30) (k % 30) (by omega) (by omega) with h | ⟨o, y, q1, -, q2, q3, q4, q5⟩
      · rw [i1, i2] at h; exact Or.inl h
      · rw [i1] at q4; rw [i2] at q5; exact Or.inr ⟨o, y, q1, q2, q3, q4, q5⟩
    simp only [hB, xX5_ageMaps_B2, rR_S9 hpt, ra_S9 hpt hk, Option.bind_some, e9, nI_s]
    rw [if_neg (fun z => by rw [nl_180] at z; have := (nI_leI (by omega) (by omega)).mp z; omega)]
    rcases hent with ⟨h1, h2⟩ | ⟨o, y, h1, h2, h3, h4, h5⟩
    · rw [h1, if_pos rfl]
      rw [if_pos h2] at hs
      exact ⟨τ, rfl, hF, by rw [hA, hs]⟩
    · have hm1 : cV σ p (264 + k) - 1 = nI (y - 1) := by rw [h5, nl_1, pk_sub h2]
      rw [h4, if_neg (nI_m1 (by omega))]
      rw [if_neg (show ¬ cV σ p (264 + k) = 0 by rw [h5]; exact nI_ne0 (by omega) (by omega)), hm1] at hs
      simp only [rR_S10 hpt, ra_S10 hpt hk, Option.bind_some, e10, hm1, wa_S10 _ hpt hk, rR_S10 (σ := setF τ (p + 10) k _) hpt, ra_S10 (σ := setF τ (p + 10) k _) hpt hk, sF_eq]
      by_cases hy : y = 1
      · rw [if_neg (show ¬ 0 < nI (y - 1) by rw [hy]; decide)]
        rw [if_pos (by rw [hy]; rfl)] at hs
        simp only [wa_S10 (σ := setF τ (p + 10) k _) _ hpt hk, Option.bind_some, rR_S9 (σ := setF (setF τ (p + 10) k _) (p + 10) k _) hpt, wa_S9 (σ := setF (setF τ (p + 10) k _) (p + 10) k _) _ hpt hk]
        refine ⟨_, rfl, FR_t hF (FR_t (FR_cF (by omega)) (FR_t (FR_cF (by omega)) (FR_cF (by omega)))), ?_⟩
        rw [cw (r := 9) (j := 84 + k) (by decide) (by decide) hk rfl, cw (r := 10) (j := 264 + k) (by decide) (by decide) hk rfl, cw (r := 10) (j := 264 + k) (by decide) (by decide) hk rfl, up1_2, hA, ← hs, hy]
        rfl
      · rw [if_pos (show 0 < nI (y - 1) by rw [nl_0]; exact nI_lt (by omega) (by omega))]
        rw [if_neg (nI_ne0 (by omega) (by omega))] at hs
        refine ⟨_, rfl, FR_t hF (FR_cF (by omega)), ?_⟩
        rw [cw (r := 10) (j := 264 + k) (by decide) (by decide) hk rfl, hA, ← hs]
  · rintro e τ ⟨hF, hA⟩
    refine ⟨mkH τ, ?_, τ, rfl, hA, hF⟩
    show xX5_ageMaps_B2 (xX5_ageMaps_L2 e) p (nI 180) (mkH τ) = _
    simp only [xX5_ageMaps_B2]
    rw [if_pos (by rw [nl_180]; exact (nI_leI (by omega) (by omega)).mpr (Nat.le_refl _))]
theorem FR_ch {σ τ : ZS} (h : FR (fun a => a = 58 + 1) (fun a k => a = 58 ∨ (a = p ∧ k = 17)) σ τ) : FR (cS p) (cT p) σ τ := FR_m h (fun a z => by unfold cS; omega) (fun a k z => by unfold cT; omega)
theorem c_fillB {s rt n base ap : Nat} {s0 : Int32} (hp : isSt (sK σ) p) (E : CE σ P on fo len) (W : PW P) (L : LV (P 0) (cV σ p) A) (V : WF 1 (P 0) (P 1) A) (hs : s < P 0) (hn : A (24 + s) = nI n) (hn3 : n < 3) (hb : base < 30) (hs0 : (s0 + (nI n * nI ap)) - (s0 + (nI n * nI ap)) / nI (P 1) * nI (P 1) = nI base) (r58 : Nat → Nat → Int32 → Int32 → Int32 → Int32 → Int32 → ZH → Option ZH) : ∃ τ, xX6_fillUp_B87 r58 57 p (nI s) (nI rt) (nI (P 1)) (nI ap) (nI n) s0 (mkH σ) = (match ckA P A s base with | none => some (mkH τ) | some _ => r58 57 p (nI s) (nI rt) (nI (P 1)) (nI ap) (nI (n + 1)) (mkH τ)) ∧ LV (P 0) (cV τ p) (match ckA P A s base with | none => A | some t => up1 (owA (drA (drA A)) s n (nI t) (nI (lfS (drA A) (P 5))) (A 517)) (24 + s) (nI (n + 1))) ∧ FR (cS p) (cT p) σ τ := by
  have w0 := W.1
  have w6 := W.2.1
  have w30 := W.2.2.1
  have hs6 : s < 6 := by omega
  have hp3 := st_in hp
  have hq : isCh 58 := Or.inr rfl
  obtain ⟨τ, h1, h2, h3⟩ := c_choose (slot := base) hp hq E.1 W L V hs hb
  have hF : FR (cS p) (cT p) σ τ := FR_ch h3
  have hpt : isSt (sK τ) p := by rw [FR_K hF]; exact hp
  simp only [xX6_fillUp_B87, rR_57_0, Option.bind_some, hs0]
  rw [if_neg (nI_ne0 (by omega) (by omega))]
  cases hc : ckA P A s base with
  | none =>
    obtain ⟨k1, k2⟩ := h2 hc
    refine ⟨τ, ?_, ?_, hF⟩
    · simp only [is_58, gu_t, k1, Option.bind_some, if_true]
    · show LV (P 0) (cV τ p) A
      rw [k2]; exact L
  | some t =>
    obtain ⟨k1, k2, k3, k4⟩ := h1 t hc
    have hi : s * 3 + n < 18 := by omega
    have f15 : sI τ p 15 = A 517 := by
      rw [← cV_517, k4, drA_n (by omega), drA_n (by omega)]
      exact L.2.2.2 517 (by omega) (by omega)
    refine ⟨setF (setF (setF (setF τ (p + 6) (s * 3 + n) (nI t)) (p + 7) (s * 3 + n) (nI (lfS (drA A) (P 5)))) (p + 8) (s * 3 + n) (A 517)) (p + 5) s (nI (n + 1)), ?_, ?_, FR_t hF (FR_t (FR_t (FR_t (FR_cF (by omega)) (FR_cF (by omega))) (FR_cF (by omega))) (FR_cF (by omega)))⟩
    · simp only [is_58, gu_t, k1, Option.bind_some]
      rw [if_neg (by decide)]
      simp only [rR_S6 hpt, rR_57_0, rI_58_1, k2, Option.bind_some, nl_3, pk_mul, nI_add, wa_S6 _ hpt hi]
      simp only [rR_S7 (σ := setF τ (p + 6) (s * 3 + n) (nI t)) hpt, rI_58_2, show sI (setF τ (p + 6) (s * 3 + n) (nI t)) 58 2 = nI (lfS (drA A) (P 5)) from k3, Option.bind_some, wa_S7 (σ := setF τ (p + 6) (s * 3 + n) (nI t)) _ hpt hi]
      simp only [rR_S8 (σ := setF (setF τ (p + 6) (s * 3 + n) (nI t)) (p + 7) (s * 3 + n) (nI (lfS (drA A) (P 5)))) hpt, rI_S15 (σ := setF (setF τ (p + 6) (s * 3 + n) (nI t)) (p + 7) (s * 3 + n) (nI (lfS (drA A) (P 5)))) hpt, show sI (setF (setF τ (p + 6) (s * 3 + n) (nI t)) (p + 7) (s * 3 + n) (nI (lfS (drA A) (P 5)))) p 15 = A 517 from f15, Option.bind_some, wa_S8 (σ := setF (setF τ (p + 6) (s * 3 + n) (nI t)) (p + 7) (s * 3 + n) (nI (lfS (drA A) (P 5)))) _ hpt hi]
      simp only [rR_S5 (σ := setF (setF (setF τ (p + 6) (s * 3 + n) (nI t)) (p + 7) (s * 3 + n) (nI (lfS (drA A) (P 5)))) (p + 8) (s * 3 + n) (A 517)) hpt, Option.bind_some, nI_s, wa_S5 (σ := setF (setF (setF τ (p + 6) (s * 3 + n) (nI t)) (p + 7) (s * 3 + n) (nI (lfS (drA A) (P 5)))) (p + 8) (s * 3 + n) (A 517)) _ hpt hs6]
    · rw [cw (r := 5) (j := 24 + s) (by decide) (by decide) hs6 rfl, cw (r := 8) (j := 66 + 3 * s + n) (by decide) (by decide) hi (show 66 + (s * 3 + n) = 66 + 3 * s + n by omega), cw (r := 7) (j := 48 + 3 * s + n) (by decide) (by decide) hi (show 48 + (s * 3 + n) = 48 + 3 * s + n by omega), cw (r := 6) (j := 30 + 3 * s + n) (by decide) (by decide) hi (show 30 + (s * 3 + n) = 30 + 3 * s + n by omega), k4]
      exact LV_add (LV_dr (LV_dr L w0) w0) w0 hs6 hn3 (by rw [drA_n (by omega), drA_n (by omega), hn, tn_n (by omega)])
theorem c_fill {s rt : Nat} (W : PW P) (hs : s < P 0) (hr : rt ≤ 3) (hr0 : 1 ≤ rt) : ∀ (f : Nat) (σ : ZS) (A : Nat → Int32) (e : Nat), isSt (sK σ) p → CE σ P on fo len → LV (P 0) (cV σ p) A → WF 1 (P 0) (P 1) A → rt ≤ tn (A (24 + s)) + f → ∃ τ, xX6_fillUp_L58 (e + f + 1) 57 p (nI s) (nI rt) (nI (P 1)) (nI (P 1 / rt)) (nI (tn (A (24 + s)))) (mkH σ) = some (mkH τ) ∧ LV (P 0) (cV τ p) (flA P s rt f A) ∧ FR (cS p) (cT p) σ τ := by
  have w0 := W.1
  have hm := W.2.1
  have hm2 := W.2.2.1
  have hs6 : s < 6 := by omega
  intro f
  induction f with
  | zero =>
    intro σ A e hp E L V hf
    have oc := WF_own V hs6
    refine ⟨σ, ?_, L, FR_r⟩
    show xX6_fillUp_B58 (xX6_fillUp_L58 (e + 0)) 57 p (nI s) (nI rt) (nI (P 1)) (nI (P 1 / rt)) (nI (tn (A (24 + s)))) (mkH σ) = _
    simp only [xX6_fillUp_B58]
    rw [if_pos ((nI_leI (by omega) (by omega)).mpr (by omega))]
  | succ f ih =>
    intro σ A e hp E L V hf
    have oc := WF_own V hs6
    rw [flA]
    by_cases h1 : rt ≤ tn (A (24 + s))
    · rw [if_pos h1]
      refine ⟨σ, ?_, L, FR_r⟩
      show xX6_fillUp_B58 (xX6_fillUp_L58 (e + (f + 1))) 57 p (nI s) (nI rt) (nI (P 1)) (nI (P 1 / rt)) (nI (tn (A (24 + s)))) (mkH σ) = _
      simp only [xX6_fillUp_B58]
      rw [if_pos ((nI_leI (by omega) (by omega)).mpr h1)]
    · rw [if_neg h1]
      obtain ⟨z, hz, ez⟩ := V.2.2.2.2
      have hdiv : P 1 / rt ≤ 30 := Nat.le_trans (Nat.div_le_self _ _) hm2
      have hq : tn (A (24 + s)) * (P 1 / rt) ≤ 90 := Nat.le_trans (Nat.mul_le_mul oc.2 hdiv) (by decide)
      have hmid : ∃ υ s0 base, xX6_fillUp_B58 (xX6_fillUp_L58 (e + f + 1)) 57 p (nI s) (nI rt) (nI (P 1)) (nI (P 1 / rt)) (nI (tn (A (24 + s)))) (mkH σ) = xX6_fillUp_B87 (xX6_fillUp_L58 (e + f + 1)) 57 p (nI s) (nI rt) (nI (P 1)) (nI (P 1 / rt)) (nI (tn (A (24 + s)))) s0 (mkH υ) ∧ LV (P 0) (cV υ p) (if tn (A (24 + s)) = 0 then drA A else A) ∧ base = (if tn (A (24 + s)) = 0 then tn (seedS (A 519)) % P 1 else (tn (A (30 + 3 * s)) + tn (A (24 + s)) * (P 1 / rt)) % P 1) ∧ base < 30 ∧ FR (cS p) (cT p) σ υ ∧ (s0 + (nI (tn (A (24 + s))) * nI (P 1 / rt))) - (s0 + (nI (tn (A (24 + s))) * nI (P 1 / rt))) / nI (P 1) * nI (P 1) = nI base := by
        simp only [xX6_fillUp_B58]
        rw [if_neg (fun q => h1 ((nI_leI (by omega) (by omega)).mp q))]
        by_cases h0 : tn (A (24 + s)) = 0
        · rw [h0, if_pos nI_0, if_pos rfl, if_pos rfl]
          have e9 : cV σ p 519 = nI z := by rw [L.2.2.2 519 (by omega) (by omega), ez]
          simp only [is_S hp, gu_t, c_draw hp, Option.bind_some]
          rw [if_neg (nI_ne0 (by omega) (by omega))]
          refine ⟨setI σ p 17 (seedS (cV σ p 519)), _, tn (seedS (A 519)) % P 1, rfl, ?_, rfl, Nat.lt_of_lt_of_le (Nat.mod_lt _ (by omega)) hm2, FR_cI (by omega), ?_⟩
          · rw [cV_dr]; exact LV_dr L w0
          · have hb2 : (137 * z + 71) % 1000 % P 1 < P 1 := Nat.mod_lt _ (by omega)
            rw [e9, ez, seed_n hz, pk_rem (by omega) (by omega) (by omega), tn_n (by omega), pk_mul, nI_add, Nat.zero_mul, Nat.add_zero, pk_rem (by omega) (by omega) (by omega), Nat.mod_mod]
        · rw [if_neg (nI_ne0 (by omega) (by omega)), if_neg h0, if_neg h0]
          obtain ⟨⟨t, ht, et⟩, -⟩ := V.2.1 s 0 hs6 (by omega) (by omega)
          rw [Nat.add_zero] at et
          have es : sF σ (p + 6) (s * 3) = nI t := by
            have := (L.2.2.1 s 0 hs6 (by omega) (by omega)).1
            rw [Nat.add_zero, et, show 30 + 3 * s = 30 + (s * 3) by omega, cV_6 σ p (by omega)] at this
            exact this
          simp only [rR_S6 hp, nl_3, pk_mul, ra_S6 hp (show s * 3 < 18 by omega), Option.bind_some, es]
          refine ⟨σ, _, (tn (A (30 + 3 * s)) + tn (A (24 + s)) * (P 1 / rt)) % P 1, rfl, L, rfl, Nat.lt_of_lt_of_le (Nat.mod_lt _ (by omega)) hm2, FR_r, ?_⟩
          rw [et, tn_n (by omega), nI_add, pk_rem (by omega) (by omega) (by omega)]
      obtain ⟨υ, s0, base, u1, u2, u3, u4, u5, u6⟩ := hmid
      have hpu : isSt (sK υ) p := by rw [FR_K u5]; exact hp
      have E1 := CE_c hp u5 E
      have V1 : WF 1 (P 0) (P 1) (if tn (A (24 + s)) = 0 then drA A else A) := by
        by_cases h0 : tn (A (24 + s)) = 0
        · rw [if_pos h0]; exact WF_dr V
        · rw [if_neg h0]; exact V
      have e24 : (if tn (A (24 + s)) = 0 then drA A else A) (24 + s) = nI (tn (A (24 + s))) := by
        rw [← oc.1]
        by_cases h0 : tn (A (24 + s)) = 0
        · rw [if_pos h0, drA_n (by omega)]
        · rw [if_neg h0]
      have e17 : (if tn (A (24 + s)) = 0 then drA A else A) 517 = A 517 := by
        by_cases h0 : tn (A (24 + s)) = 0
        · rw [if_pos h0, drA_n (by omega)]
        · rw [if_neg h0]
      rw [← u3]
      generalize (if tn (A (24 + s)) = 0 then drA A else A) = A1 at *
      obtain ⟨τ, t1, t2, t3⟩ := c_fillB (rt := rt) hpu E1 W u2 V1 hs e24 (by omega) u4 u6 (xX6_fillUp_L58 (e + f + 1))
      show ∃ τ, xX6_fillUp_B58 (xX6_fillUp_L58 (e + (f + 1))) 57 p (nI s) (nI rt) (nI (P 1)) (nI (P 1 / rt)) (nI (tn (A (24 + s)))) (mkH σ) = _ ∧ _
      rw [show e + (f + 1) = e + f + 1 by omega, u1, t1]
      cases hc : ckA P A1 s base with
      | none =>
        rw [hc] at t2
        exact ⟨τ, rfl, t2, FR_t u5 t3⟩
      | some t =>
        rw [hc] at t2
        have hpt : isSt (sK τ) p := by rw [FR_K t3]; exact hpu
        have E2 := CE_c hpu t3 E1
        have w5 : 1 ≤ P 5 ∧ P 5 ≤ 7 := ⟨W.2.2.2.2.2.2.2.1, W.2.2.2.2.2.2.2.2.1⟩
        have e2 : tn (drA (drA A1) (24 + s)) = tn (A (24 + s)) := by rw [drA_n (by omega), drA_n (by omega), e24, tn_n (by omega)]
        have V2 : WF 1 (P 0) (P 1) (up1 (owA (drA (drA A1)) s (tn (A (24 + s))) (nI t) (nI (lfS (drA A1) (P 5))) (A1 517)) (24 + s) (nI (tn (A (24 + s)) + 1))) := by
          have := WF_add (t := t) (l := lfS (drA A1) (P 5)) (f := A1 517) (WF_dr (WF_dr V1)) hs6 (by rw [e2]; omega) (ck_lt W hc) (lfS_le w5.1 w5.2)
          rw [e2] at this
          exact this
        have e3 : tn (up1 (owA (drA (drA A1)) s (tn (A (24 + s))) (nI t) (nI (lfS (drA A1) (P 5))) (A1 517)) (24 + s) (nI (tn (A (24 + s)) + 1)) (24 + s)) = tn (A (24 + s)) + 1 := by rw [up1_e, tn_n (by omega)]
        obtain ⟨ω, w1, w2, w3⟩ := ih τ _ e hpt E2 t2 V2 (by rw [e3]; omega)
        rw [e3] at w1
        refine ⟨ω, w1, ?_, FR_t u5 (FR_t t3 w3)⟩
        rw [e17] at w2
        exact w2
theorem c_seek {s : Nat} (hp : isSt (sK σ) p) (E : CE σ P on fo len) (W : PW P) (F : WFo fo len) (L : LV (P 0) (cV σ p) A) (V : WF 1 (P 0) (P 1) A) (hs : s < P 0) : ∃ τ, xX6_fillUp 57 p (nI s) (mkH σ) = some (mkH τ) ∧ LV (P 0) (cV τ p) (skA P fo len s A) ∧ FR (cS p) (cT p) σ τ := by
  have w0 := W.1
  have w6 := W.2.1
  have w30 := W.2.2.1
  have hs6 : s < 6 := by omega
  have hp3 := st_in hp
  obtain ⟨υ, u1, u2⟩ := c_rate hp E.1 W L V F E.2.2 hs
  have hF : FR (cS p) (cT p) σ υ := FR_m u2 (fun a z => by unfold cS; omega) (fun _ _ z => z.elim)
  have hpu : isSt (sK υ) p := by rw [FR_K hF]; exact hp
  have hA : cV υ p = cV σ p := cV_o u2 (fun a _ _ z => by omega) (fun k z => z)
  have E1 := CE_c hp hF E
  have L1 : LV (P 0) (cV υ p) A := by rw [hA]; exact L
  have hr := rtS_le (A := A) (s := s) (m := P 1) (fo := fo) (len := len)
  have oc := WF_own V hs6
  have e5 : sF υ (p + 5) s = nI (tn (A (24 + s))) := by rw [← cV_5 υ p hs6, L1.2.1 s hs6]; exact oc.1
  obtain ⟨e, he⟩ := zfu 3 (by omega)
  simp only [xX6_fillUp, is_S hp, gu_t, u1, Option.bind_some, rR_S0 hpu, rI_21_0, E1.1.2.1, rR_S5 hpu, ra_S5 hpu hs6, e5]
  unfold skA
  generalize rtS A s (P 1) fo len = rt at *
  rw [if_neg (show ¬ nI (P 1) < 1 by rw [nl_1]; exact fun z => by have := (nI_ltI (by omega) (by omega)).mp z; omega), if_pos (show (1 : Int32) ≤ nI rt by rw [nl_1]; exact nI_le (by omega) (by omega))]
  by_cases h : rt < tn (A (24 + s))
  · rw [if_neg (fun q => by have := (nI_leI (by omega) (by omega)).mp q; omega), if_pos h]
    simp only [wa_S5 _ hpu hs6, Option.bind_some, xX6_fillUp_B44]
    rw [if_neg (nI_ne0 (by omega) (by omega))]
    have hF2 : FR (cS p) (cT p) σ (setF υ (p + 5) s (nI rt)) := FR_t hF (FR_cF (by omega))
    have hV2 : cV (setF υ (p + 5) s (nI rt)) p = up1 (cV υ p) (24 + s) (nI rt) := cw (r := 5) (by decide) (by decide) hs6 rfl
    have L2 : LV (P 0) (cV (setF υ (p + 5) s (nI rt)) p) (up1 A (24 + s) (nI rt)) := by rw [hV2]; exact LV_cut L1 w0 hs6 (by omega) (by omega)
    have e6 : sF (setF υ (p + 5) s (nI rt)) (p + 5) s = nI rt := sF_eq
    simp only [rR_S5 (σ := setF υ (p + 5) s (nI rt)) hpu, ra_S5 (σ := setF υ (p + 5) s (nI rt)) hpu hs6, Option.bind_some, e6]
    obtain ⟨τ, t1, t2, t3⟩ := c_fill (p := p) (s := s) (rt := rt) W hs hr.2 hr.1 3 (setF υ (p + 5) s (nI rt)) _ e hpu (CE_c hp hF2 E) L2 (WF_cut V hs6 (by omega)) (by omega)
    rw [up1_e, tn_n (by omega)] at t1
    rw [he, pk_div (by omega) (by omega) (by omega)]
    exact ⟨τ, t1, t2, FR_t hF2 t3⟩
  · rw [if_pos ((nI_leI (by omega) (by omega)).mpr (by omega)), if_neg h]
    simp only [xX6_fillUp_B44]
    rw [if_neg (nI_ne0 (by omega) (by omega))]
    simp only [rR_S5 hpu, ra_S5 hpu hs6, Option.bind_some, e5]
    obtain ⟨τ, t1, t2, t3⟩ := c_fill (p := p) (s := s) (rt := rt) W hs hr.2 hr.1 3 υ A e hpu E1 L1 V (by omega)
    rw [he, pk_div (by omega) (by omega) (by omega)]
    exact ⟨τ, t1, t2, FR_t hF t3⟩
end CSt
