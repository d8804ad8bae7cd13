/-! feed -/
def byW (w : Int32) (j : Nat) : Int32 := (w >>> (nI (24 - 8 * j) &&& 31)).toInt8.toInt32
def shK (k : Nat) : Int32 := if k < 4 then nI (24 - 8 * k) else -8
theorem sh_s : ∀ k, k < 4 → nI (24 - 8 * k) + (-8 : Int32) = shK (k + 1) := by decide +kernel
theorem c_put {σ : ZS} {n : Nat} (w : Int32) (hn : n + 4 ≤ 1600) (h1 : sI σ 8 1 = nI n) : ∃ τ, xX8_putOnTape 8 w (mkH σ) = some (mkH τ) ∧ sI τ 8 1 = nI (n + 4) ∧ (∀ j, j < 4 → sF τ 9 (n + j) = byW w j) ∧ (∀ i, ¬ (n ≤ i ∧ i < n + 4) → sF τ 9 i = sF σ 9 i) ∧ FR (fun a => a = 9) (fun a k => a = 8 ∧ k = 1) σ τ := by
  obtain ⟨e, he⟩ := zfu 4 (by omega)
  have key := lpI (fun e k (τ : ZS) => xX8_putOnTape_L3 e 8 w (shK k) (mkH τ)) 4 (fun k τ => FR (fun a => a = 9) (fun a k => a = 8 ∧ k = 1) σ τ ∧ sI τ 8 1 = nI (n + k) ∧ (∀ j, j < k → sF τ 9 (n + j) = byW w j) ∧ ∀ i, ¬ (n ≤ i ∧ i < n + k) → sF τ 9 i = sF σ 9 i) (fun v => ∃ τ, v = mkH τ ∧ sI τ 8 1 = nI (n + 4) ∧ (∀ j, j < 4 → sF τ 9 (n + j) = byW w j) ∧ (∀ i, ¬ (n ≤ i ∧ i < n + 4) → sF τ 9 i = sF σ 9 i) ∧ FR (fun a => a = 9) (fun a k => a = 8 ∧ k = 1) σ τ) ?_ ?_ 4 0 σ e (by omega) ⟨FR_r, h1, fun j hj => absurd hj (Nat.not_lt_zero _), fun i _ => rfl⟩
  · obtain ⟨v, hv, τ, rfl, g1, g2, g3, g4⟩ := key
    refine ⟨τ, ?_, g1, g2, g3, g4⟩
    rw [← he] at hv
    unfold xX8_putOnTape
    exact hv
  · rintro e k τ hk ⟨hF, g1, g2, g3⟩
    right
    have hs : shK k = nI (24 - 8 * k) := if_pos hk
    have hw := wa_9 τ (k := n + k) ((w >>> (nI (24 - 8 * k) &&& 31)).toInt8.toInt32) (by omega)
    rw [pk_vb] at hw
    have h2 : sI (setF τ 9 (n + k) ((w >>> (nI (24 - 8 * k) &&& 31)).toInt8.toInt32)) 8 1 = nI (n + k) := g1
    refine ⟨setI (setF τ 9 (n + k) (byW w k)) 8 1 (nI (n + k + 1)), ?_, FR_t hF (FR_t (FR_F rfl) (FR_I ⟨rfl, rfl⟩)), sI_eq, fun j hj => ?_, fun i hi => ?_⟩
    · show xX8_putOnTape_B3 (xX8_putOnTape_L3 e) 8 w (shK k) (mkH τ) = xX8_putOnTape_L3 e 8 w (shK (k + 1)) _
      generalize xX8_putOnTape_L3 e = nl
      unfold xX8_putOnTape_B3
      rw [hs, if_neg (nI_pos (by omega)), rR_8_0, Option.bind_some, rI_8_1, Option.bind_some, g1, hw, Option.bind_some, rI_8_1, Option.bind_some, h2, nI_s, wI_8_1, Option.bind_some, sh_s k hk]
      rfl
    · show sF (setF τ 9 (n + k) (byW w k)) 9 (n + j) = _
      by_cases hjk : j = k
      · rw [hjk, sF_eq]
      · rw [sF_ne (by omega)]
        exact g2 j (by omega)
    · show sF (setF τ 9 (n + k) (byW w k)) 9 i = _
      rw [sF_ne (by omega)]
      exact g3 i (by omega)
  · rintro e τ ⟨hF, g1, g2, g3⟩
    refine ⟨mkH τ, ?_, τ, rfl, g1, g2, g3, hF⟩
    show xX8_putOnTape_B3 (xX8_putOnTape_L3 e) 8 w (shK 4) (mkH τ) = _
    unfold xX8_putOnTape_B3
    rw [if_pos (show shK 4 < 0 by decide)]
def wsel (a b c d e : Int32) (k : Nat) : Int32 := if k < 4 then a else if k < 8 then b else if k < 12 then c else if k < 16 then d else e
theorem c_feed {σ : ZS} {n : Nat} (a b c d e : Int32) (hn : n + 20 ≤ 1600) (h1 : sI σ 8 1 = nI n) : ∃ τ, xX8_feed 8 a b c d e (mkH σ) = some (nI (n + 20), mkH τ) ∧ sI τ 8 1 = nI (n + 20) ∧ (∀ j, j < 20 → sF τ 9 (n + j) = byW (wsel a b c d e j) (j % 4)) ∧ (∀ i, i < n → sF τ 9 i = sF σ 9 i) ∧ FR (fun a => a = 9) (fun a k => a = 8 ∧ k = 1) σ τ := by
  obtain ⟨τ1, a1, a2, a3, a4, a5⟩ := c_put (σ := σ) (n := n) a (by omega) h1
  obtain ⟨τ2, b1, b2, b3, b4, b5⟩ := c_put (σ := τ1) (n := n + 4) b (by omega) a2
  obtain ⟨τ3, c1, c2, c3, c4, c5⟩ := c_put (σ := τ2) (n := n + 4 + 4) c (by omega) b2
  obtain ⟨τ4, d1, d2, d3, d4, d5⟩ := c_put (σ := τ3) (n := n + 4 + 4 + 4) d (by omega) c2
  obtain ⟨τ5, e1, e2, e3, e4, e5⟩ := c_put (σ := τ4) (n := n + 4 + 4 + 4 + 4) e (by omega) d2
  refine ⟨τ5, ?_, by rw [e2], fun j hj => ?_, fun i hi => ?_, FR_t (FR_t (FR_t (FR_t a5 b5) c5) d5) e5⟩
  · unfold xX8_feed
    generalize xX8_putOnTape = pt at *
    rw [rI_8_1, Option.bind_some, h1, nl_20, nI_add, if_pos (show nI (n + 20) ≤ (1600 : Int32) from by rw [nl_1600]; exact nI_le hn (by omega)), is_8, gu_t, a1, Option.bind_some, is_8, gu_t, b1, Option.bind_some, is_8, gu_t, c1, Option.bind_some, is_8, gu_t, d1, Option.bind_some, is_8, gu_t, e1, Option.bind_some, rI_8_1, Option.bind_some, e2]
  · unfold wsel
    rcases (show j < 4 ∨ (4 ≤ j ∧ j < 8) ∨ (8 ≤ j ∧ j < 12) ∨ (12 ≤ j ∧ j < 16) ∨ 16 ≤ j by omega) with h | h | h | h | h
    · rw [e4 _ (by omega), d4 _ (by omega), c4 _ (by omega), b4 _ (by omega), a3 j h, if_pos h, Nat.mod_eq_of_lt h]
    · rw [e4 _ (by omega), d4 _ (by omega), c4 _ (by omega), show n + j = n + 4 + (j - 4) by omega, b3 (j - 4) (by omega), if_neg (by omega), if_pos (by omega), show j % 4 = j - 4 by omega]
    · rw [e4 _ (by omega), d4 _ (by omega), show n + j = n + 4 + 4 + (j - 8) by omega, c3 (j - 8) (by omega), if_neg (by omega), if_neg (by omega), if_pos (by omega), show j % 4 = j - 8 by omega]
    · rw [e4 _ (by omega), show n + j = n + 4 + 4 + 4 + (j - 12) by omega, d3 (j - 12) (by omega), if_neg (by omega), if_neg (by omega), if_neg (by omega), if_pos (by omega), show j % 4 = j - 12 by omega]
    · rw [show n + j = n + 4 + 4 + 4 + 4 + (j - 16) by omega, e3 (j - 16) (by omega), if_neg (by omega), if_neg (by omega), if_neg (by omega), if_neg (by omega), show j % 4 = j - 16 by omega]
  · rw [e4 i (by omega), d4 i (by omega), c4 i (by omega), b4 i (by omega), a4 i (by omega)]
theorem sh_r : ∀ k, k < 20 → (24 : Int32) - 8 * (nI k &&& 3) = nI (24 - 8 * (k % 4)) := by decide +kernel
theorem r_feed {σ : ZS} {n : Nat} (a b c d e : Int32) (hn : n + 20 ≤ 1600) (h1 : sI σ 78 2 = nI n) : ∃ τ, xX9_feed 78 a b c d e (mkH σ) = some (nI (n + 20), mkH τ) ∧ sI τ 78 2 = nI (n + 20) ∧ (∀ j, j < 20 → sF τ 79 (n + j) = byW (wsel a b c d e j) (j % 4)) ∧ (∀ i, i < n → sF τ 79 i = sF σ 79 i) ∧ FR (fun a => a = 79) (fun a k => a = 78 ∧ k = 2) σ τ := by
  obtain ⟨f, hf⟩ := zfu 20 (by omega)
  have key := lpI (fun f k (τ : ZS) => xX9_feed_L18 f 78 a b c d e (nI k) (mkH τ)) 20 (fun k τ => FR (fun a => a = 79) (fun a k => a = 78 ∧ k = 2) σ τ ∧ sI τ 78 2 = nI n ∧ (∀ j, j < k → sF τ 79 (n + j) = byW (wsel a b c d e j) (j % 4)) ∧ ∀ i, i < n → sF τ 79 i = sF σ 79 i) (fun v => ∃ τ, v = (nI (n + 20), mkH τ) ∧ sI τ 78 2 = nI (n + 20) ∧ (∀ j, j < 20 → sF τ 79 (n + j) = byW (wsel a b c d e j) (j % 4)) ∧ (∀ i, i < n → sF τ 79 i = sF σ 79 i) ∧ FR (fun a => a = 79) (fun a k => a = 78 ∧ k = 2) σ τ) ?_ ?_ 20 0 σ f (by omega) ⟨FR_r, h1, fun j hj => absurd hj (Nat.not_lt_zero _), fun i _ => rfl⟩
  · obtain ⟨v, hv, τ, rfl, g1, g2, g3, g4⟩ := key
    refine ⟨τ, ?_, g1, g2, g3, g4⟩
    rw [← hf, nI_0] at hv
    unfold xX9_feed
    generalize xX9_feed_L18 zFU = nl at *
    rw [rI_78_2, Option.bind_some, h1, nl_20, nI_add, if_pos (show nI (n + 20) ≤ (1600 : Int32) from by rw [nl_1600]; exact nI_le hn (by omega))]
    exact hv
  · rintro f k τ hk ⟨hF, g1, g2, g3⟩
    right
    have hw := wa_79 τ (k := n + k) (byW (wsel a b c d e k) (k % 4)) (by omega)
    have hv : vp_nar .byte (byW (wsel a b c d e k) (k % 4)) = byW (wsel a b c d e k) (k % 4) := pk_vb _
    rw [hv] at hw
    refine ⟨setF τ 79 (n + k) (byW (wsel a b c d e k) (k % 4)), ?_, FR_t hF (FR_F rfl), g1, fun j hj => ?_, fun i hi => ?_⟩
    · show xX9_feed_B18 (xX9_feed_L18 f) 78 a b c d e (nI k) (mkH τ) = xX9_feed_L18 f 78 a b c d e (nI (k + 1)) _
      generalize xX9_feed_L18 f = nl
      have h71 : ∀ w, w = wsel a b c d e k → xX9_feed_B71 nl 78 a b c d e (nI k) w (mkH τ) = nl 78 a b c d e (nI (k + 1)) (mkH (setF τ 79 (n + k) (byW (wsel a b c d e k) (k % 4)))) := by
        intro w hww
        unfold xX9_feed_B71
        rw [rR_78_0, Option.bind_some, rI_78_2, Option.bind_some, g1, nI_add, sh_r k hk, hww]
        show (z_uB (mkH τ) 79 (nI (n + k)) (byW (wsel a b c d e k) (k % 4))).bind _ = _
        rw [hw, Option.bind_some, nI_s]
      have hc : ∀ m, m < 2 ^ 31 → (nI m ≤ nI k) = (m ≤ k) := fun m hm => nI_le' hm (by omega)
      unfold xX9_feed_B18
      simp only [nl_20, nl_4, nl_8, nl_12, nl_16, hc 20 (by omega), hc 4 (by omega), hc 8 (by omega), hc 12 (by omega), hc 16 (by omega)]
      rw [if_neg (show ¬ 20 ≤ k by omega)]
      rcases (show k < 4 ∨ (4 ≤ k ∧ k < 8) ∨ (8 ≤ k ∧ k < 12) ∨ (12 ≤ k ∧ k < 16) ∨ 16 ≤ k by omega) with h | h | h | h | h
      · rw [if_neg (show ¬ 4 ≤ k by omega)]
        exact h71 a (by unfold wsel; rw [if_pos h])
      · rw [if_pos (show 4 ≤ k by omega), if_neg (show ¬ 8 ≤ k by omega)]
        exact h71 b (by unfold wsel; rw [if_neg (by omega), if_pos (by omega)])
      · rw [if_pos (show 4 ≤ k by omega), if_pos (show 8 ≤ k by omega), if_neg (show ¬ 12 ≤ k by omega)]
        exact h71 c (by unfold wsel; rw [if_neg (by omega), if_neg (by omega), if_pos (by omega)])
      · rw [if_pos (show 4 ≤ k by omega), if_pos (show 8 ≤ k by omega), if_pos (show 12 ≤ k by omega), if_neg (show ¬ 16 ≤ k by omega)]
        exact h71 d (by unfold wsel; rw [if_neg (by omega), if_neg (by omega), if_neg (by omega), if_pos (by omega)])
      · rw [if_pos (show 4 ≤ k by omega), if_pos (show 8 ≤ k by omega), if_pos (show 12 ≤ k by omega), if_pos (show 16 ≤ k by omega)]
        exact h71 e (by unfold wsel; rw [if_neg (by omega), if_neg (by omega), if_neg (by omega), if_neg (by omega)])
    · by_cases hjk : j = k
      · rw [hjk, sF_eq]
      · rw [sF_ne (by omega)]
        exact g2 j (by omega)
    · rw [sF_ne (by omega)]
      exact g3 i hi
  · rintro f τ ⟨hF, g1, g2, g3⟩
    refine ⟨_, ?_, setI τ 78 2 (nI (n + 20)), rfl, sI_eq, g2, g3, FR_t hF (FR_I ⟨rfl, rfl⟩)⟩
    show xX9_feed_B18 (xX9_feed_L18 f) 78 a b c d e (nI 20) (mkH τ) = _
    unfold xX9_feed_B18 xX9_feed_B105
    rw [if_pos (show (20 : Int32) ≤ nI 20 by decide), rI_78_2, Option.bind_some, g1, nl_20, nI_add, wI_78_2, Option.bind_some, rI_78_2, Option.bind_some, sI_eq]
theorem q_feed (a b c d e : Int32) : QOK (xX8_feed 8 a b c d e) (xX9_feed 78 a b c d e) := by
  rintro σ ⟨bk, P, on, fo, len, X, I⟩
  obtain ⟨-, ⟨⟨n, hn, m1, m2, m3⟩, f, t, l⟩, -⟩ := id I
  rcases Nat.lt_or_ge 1600 (n + 20) with h | h
  · have hgt : ¬ nI (n + 20) ≤ (1600 : Int32) := fun z => by rw [nl_1600] at z; have := (nI_leI (by omega) (by omega)).mp z; omega
    refine ⟨-1, σ, σ, ?_, ?_, ⟨rfl, rfl⟩, bk, P, on, fo, len, X, I⟩
    · unfold xX8_feed
      rw [rI_8_1, Option.bind_some, m1, nl_20, nI_add, if_neg hgt]
    · unfold xX9_feed
      rw [rI_78_2, Option.bind_some, m2, nl_20, nI_add, if_neg hgt]
  · obtain ⟨τ, t1, t2, t3, t4, t5⟩ := c_feed a b c d e h m1
    obtain ⟨υ, u1, u2, u3, u4, u5⟩ := r_feed (σ := τ) a b c d e h (by rw [t5.2.1 78 2 (by omega)]; exact m2)
    have hF : FR (fun a => a = 9 ∨ a = 79) (fun a k => (a = 8 ∧ k = 1) ∨ (a = 78 ∧ k = 2)) σ υ := FR_t (FR_m t5 (fun a z => Or.inl z) (fun a k z => Or.inl z)) (FR_m u5 (fun a z => Or.inr z) (fun a k z => Or.inr z))
    refine ⟨nI (n + 20), τ, υ, t1, u1, ⟨FR_X t5, (FR_X u5).trans (FR_X t5)⟩, bk, P, on, fo, len, X, IV_m (FR_m hF (fun a z => by unfold mS; omega) (fun a k z => by unfold mT; omega)) ⟨⟨n + 20, h, by rw [u5.2.1 8 1 (by omega)]; exact t2, u2, fun i hi => ?_⟩, ?_, ?_, ?_⟩ I⟩
    · rw [u5.1 9 (by omega)]
      rcases Nat.lt_or_ge i n with hin | hin
      · rw [t4 i hin, u4 i hin, t5.1 79 (by omega)]
        exact m3 i hin
      · have e1 := t3 (i - n) (by omega)
        have e2 := u3 (i - n) (by omega)
        rw [show n + (i - n) = i by omega] at e1 e2
        rw [e1, e2]
        exact ⟨rfl, pk_vb _⟩
    · rw [hF.2.1 8 2 (by omega), hF.2.1 8 3 (by omega), hF.2.1 78 4 (by omega), hF.2.1 78 5 (by omega)]; exact f
    · rw [hF.2.1 8 17 (by omega), hF.2.1 78 58 (by omega)]; exact t
    · rw [hF.2.1 8 16 (by omega), hF.2.1 78 51 (by omega), hF.1 77 (by omega), hF.1 110 (by omega)]; exact l
