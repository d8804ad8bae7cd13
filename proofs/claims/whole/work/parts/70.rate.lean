/-! how many are heard; the formula; how often a ship reports -/
def heardN (A : Nat → Int32) (s m : Nat) : Nat := zf (fun k a => if A (84 + 30 * s + k) < 0 then a else a ||| 2 ^ tn (A (84 + 30 * s + k))) 0 m 0
theorem nI_m1 {n : Nat} (h : n < 2 ^ 31) : ¬ nI n = -1 := fun z => by
  have := nI_pos h
  rw [z] at this
  exact this (by decide)
theorem r_heard {lo : Nat} {σ : ZS} {bk s nsh nsl : Nat} (B : RB σ bk nsh nsl) (V : WF lo nsh nsl (sF σ 104)) (hs : s < 6) : xX9_heardOf 78 (nI s) (mkH σ) = some (nI (pc 32 (heardN (sF σ 104) s nsl)), mkH σ) ∧ heardN (sF σ 104) s nsl < 2 ^ 30 := by
  have hb := B.2.2.2.2.2.2
  have hn := B.2.2.2.1
  obtain ⟨e, he⟩ := zfu nsl (by omega)
  have key := lp (fun e k (a : Nat) => xX9_heardOf_L4 e 78 (nI s) (nI a) (nI k) (mkH σ)) (fun k a => if sF σ 104 (84 + 30 * s + k) < 0 then a else a ||| 2 ^ tn (sF σ 104 (84 + 30 * s + k))) nsl (fun _ a => a < 2 ^ 30) (fun a => (nI (pc 32 a), mkH σ)) ?_ ?_ nsl 0 0 e (by omega) (by decide)
  · refine ⟨?_, key.2⟩
    unfold xX9_heardOf
    rw [he]
    exact key.1
  · intro e k a hk ha
    have h0 : xX9_heardOf_L4 (e + 1) 78 (nI s) (nI a) (nI k) (mkH σ) = xX9_heardOf_B4 (xX9_heardOf_L4 e) 78 (nI s) (nI a) (nI k) (mkH σ) := rfl
    simp only [h0, xX9_heardOf_B4, is_78, gu_t, r_round B, Option.bind_some]
    rw [if_neg (fun z => by have := (nI_leI (by omega) (by omega)).mp z; omega)]
    simp only [r_holderIn (σ := σ) hs (show k < 30 by omega), Option.bind_some, nI_s, is_78, gu_t]
    rcases V.2.2.1 s k hs (by omega) with h | ⟨o, v, h2, h3, -, -, h5, -⟩
    · rw [h.1, if_pos (by decide), if_pos (by decide)]
      exact ⟨rfl, ha⟩
    · rw [h5, if_neg (nI_pos (by omega)), if_neg (nI_pos (by omega)), if_neg (fun z => h3 ((nI_eq (by omega) (by omega)).mp z)), one_shl (by omega), nx_or, tn_n (by omega)]
      exact ⟨rfl, or_lt ha (pow_lt (by omega))⟩
  · intro e a ha
    show xX9_heardOf_B4 (xX9_heardOf_L4 e) 78 (nI s) (nI a) (nI nsl) (mkH σ) = _
    simp only [xX9_heardOf_B4, is_78, gu_t, r_round B, Option.bind_some]
    rw [if_pos ((nI_leI (by omega) (by omega)).mpr (Nat.le_refl _)), r_bitsOf (by omega)]
    rfl
theorem c_heardB {lo : Nat} {σ : ZS} {p s nsh nsl : Nat} {A : Nat → Int32} (hp : isSt (sK σ) p) (B : CB σ nsh nsl) (L : LV nsh (cV σ p) A) (V : WF lo nsh nsl A) (hs : s < 6) : xX5_heardBits p (nI s) (mkH σ) = some (nI (heardN A s nsl), mkH σ) ∧ heardN A s nsl < 2 ^ 30 := by
  obtain ⟨b1, hn, b2, -, hb⟩ := B
  obtain ⟨e, he⟩ := zfu nsl (by omega)
  have key := lp (fun e k (a : Nat) => xX5_heardBits_L4 e p (nI s) (nI a) (nI k) (mkH σ)) (fun k a => if A (84 + 30 * s + k) < 0 then a else a ||| 2 ^ tn (A (84 + 30 * s + k))) nsl (fun _ a => a < 2 ^ 30) (fun a => (nI a, mkH σ)) ?_ ?_ nsl 0 0 e (by omega) (by decide)
  · refine ⟨?_, key.2⟩
    unfold xX5_heardBits
    rw [he]
    exact key.1
  · intro e k a hk ha
    have h0 : xX5_heardBits_L4 (e + 1) p (nI s) (nI a) (nI k) (mkH σ) = xX5_heardBits_B4 (xX5_heardBits_L4 e) p (nI s) (nI a) (nI k) (mkH σ) := rfl
    simp only [h0, xX5_heardBits_B4, rR_S0 hp, rI_21_0, b2, Option.bind_some]
    rw [if_neg (fun z => by have := (nI_leI (by omega) (by omega)).mp z; omega)]
    simp only [is_S hp, gu_t, c_holder hp hs (show k < 30 by omega), Option.bind_some, nI_s, L.2.2.2 (84 + 30 * s + k) (by omega) (by omega)]
    rcases V.2.2.1 s k hs (by omega) with h | ⟨o, v, h2, h3, -, -, h5, -⟩
    · rw [h.1, if_pos rfl, if_pos (by decide)]
      exact ⟨rfl, ha⟩
    · rw [h5, if_neg (nI_m1 (by omega)), if_neg (nI_pos (by omega)), if_neg (fun z => h3 ((nI_eq (by omega) (by omega)).mp z)), one_shl (by omega), nx_or, tn_n (by omega)]
      exact ⟨rfl, or_lt ha (pow_lt (by omega))⟩
  · intro e a ha
    show xX5_heardBits_B4 (xX5_heardBits_L4 e) p (nI s) (nI a) (nI nsl) (mkH σ) = _
    simp only [xX5_heardBits_B4, rR_S0 hp, rI_21_0, b2, Option.bind_some]
    rw [if_pos ((nI_leI (by omega) (by omega)).mpr (Nat.le_refl _))]
theorem c_heard {lo : Nat} {σ : ZS} {p s nsh nsl : Nat} {A : Nat → Int32} (hp : isSt (sK σ) p) (B : CB σ nsh nsl) (L : LV nsh (cV σ p) A) (V : WF lo nsh nsl A) (hs : s < 6) : xX5_othersHeard p (nI s) (mkH σ) = some (nI (pc 32 (heardN A s nsl)), mkH σ) := by
  have h := c_heardB hp B L V hs
  simp only [xX5_othersHeard, is_S hp, gu_t, h.1, Option.bind_some, c_bitCount (show heardN A s nsl < 2 ^ 32 by have := h.2; omega)]
/-- kinds of a formula's codes: 0 a value, 1 not, 2 of two -/
def kd (c : Int32) : Nat := if 0 ≤ c then 0 else if -12 < c then (if c = -3 then 1 else 2) else 0
def dpt (fo : Nat → Int32) : Nat → Nat
  | 0 => 0
  | i + 1 => if kd (fo i) = 0 then dpt fo i + 1 else if kd (fo i) = 1 then dpt fo i else dpt fo i - 1
/-- a formula that can be worked out -/
def WFo (fo : Nat → Int32) (len : Nat) : Prop := len ≤ 280 ∧ ∀ i, i < len → (kd (fo i) = 0 → dpt fo i < 30) ∧ (kd (fo i) = 1 → 1 ≤ dpt fo i) ∧ (kd (fo i) = 2 → 2 ≤ dpt fo i)
theorem dpt_le {fo : Nat → Int32} {len : Nat} (F : WFo fo len) : ∀ i, i ≤ len → dpt fo i ≤ 30 ∧ (0 < i → 1 ≤ dpt fo i) := by
  intro i
  induction i with
  | zero => intro _; exact ⟨Nat.zero_le _, fun h => absurd h (Nat.lt_irrefl 0)⟩
  | succ i ih =>
    intro hi
    have h1 := ih (by omega)
    have h2 := F.2 i (by omega)
    rw [dpt]
    by_cases k0 : kd (fo i) = 0
    · rw [if_pos k0]
      have := h2.1 k0
      omega
    · rw [if_neg k0]
      by_cases k1 : kd (fo i) = 1
      · rw [if_pos k1]
        have := h2.2.1 k1
        omega
      · rw [if_neg k1]
        have hk : kd (fo i) = 2 := by
          unfold kd at k0 k1 ⊢
          by_cases a1 : 0 ≤ fo i
          · rw [if_pos a1] at k0; exact absurd rfl k0
          · rw [if_neg a1] at k0 k1 ⊢
            by_cases a2 : -12 < fo i
            · rw [if_pos a2] at k0 k1 ⊢
              by_cases a3 : fo i = -3
              · rw [if_pos a3] at k1; exact absurd rfl k1
              · rw [if_neg a3]
            · rw [if_neg a2] at k0; exact absurd rfl k0
        have := h2.2.2 hk
        omega
def vlF (c sp he nu fr : Int32) : Int32 := if c < 0 then (if c = -14 then nu else if c = -13 then he else if c = -12 then sp else fr) else c
def opF (c a b : Int32) : Int32 := if c = -10 then (if b = 0 then 0 else a / b) else if c = -9 then a * b else if c = -8 then a - b else if c = -7 then a + b else if c = -6 then (if a = b then 1 else 0) else if c = -5 then (if a ≤ b then 0 else 1) else if c = -4 then (if b ≤ a then 0 else 1) else if c = -2 then (if a = 0 then 0 else if b = 0 then 0 else 1) else if c = -1 then (if a = 0 then (if b = 0 then 0 else 1) else 1) else (if b = 0 then 0 else a - a / b * b)
def stE (fo : Nat → Int32) (sp he nu fr : Int32) (i : Nat) (st : Nat → Int32) : Nat → Int32 := if kd (fo i) = 0 then up1 st (dpt fo i) (vlF (fo i) sp he nu fr) else if kd (fo i) = 1 then up1 st (dpt fo i - 1) (if st (dpt fo i - 1) = 0 then 1 else 0) else up1 st (dpt fo i - 2) (opF (fo i) (st (dpt fo i - 2)) (st (dpt fo i - 1)))
def evF (fo : Nat → Int32) (len : Nat) (sp he nu fr : Int32) : Int32 := zf (stE fo sp he nu fr) 0 len (fun _ => 0) 0
theorem kd_3 (c : Int32) : kd c = 0 ∨ kd c = 1 ∨ kd c = 2 := by
  unfold kd
  repeat' split
  all_goals simp
theorem dpt_0 {fo : Nat → Int32} {k : Nat} (h : kd (fo k) = 0) : dpt fo (k + 1) = dpt fo k + 1 := by rw [dpt, if_pos h]
theorem dpt_1 {fo : Nat → Int32} {k : Nat} (h : kd (fo k) = 1) : dpt fo (k + 1) = dpt fo k := by rw [dpt, if_neg (show ¬ kd (fo k) = 0 by omega), if_pos h]
theorem dpt_2 {fo : Nat → Int32} {k : Nat} (h : kd (fo k) = 2) : dpt fo (k + 1) = dpt fo k - 1 := by rw [dpt, if_neg (show ¬ kd (fo k) = 0 by omega), if_neg (show ¬ kd (fo k) = 1 by omega)]
theorem stE_0 {fo : Nat → Int32} {sp he nu fr : Int32} {k : Nat} {st : Nat → Int32} (h : kd (fo k) = 0) : stE fo sp he nu fr k st = up1 st (dpt fo k) (vlF (fo k) sp he nu fr) := by unfold stE; rw [if_pos h]
theorem stE_1 {fo : Nat → Int32} {sp he nu fr : Int32} {k : Nat} {st : Nat → Int32} (h : kd (fo k) = 1) : stE fo sp he nu fr k st = up1 st (dpt fo k - 1) (if st (dpt fo k - 1) = 0 then 1 else 0) := by unfold stE; rw [if_neg (show ¬ kd (fo k) = 0 by omega), if_pos h]
theorem stE_2 {fo : Nat → Int32} {sp he nu fr : Int32} {k : Nat} {st : Nat → Int32} (h : kd (fo k) = 2) : stE fo sp he nu fr k st = up1 st (dpt fo k - 2) (opF (fo k) (st (dpt fo k - 2)) (st (dpt fo k - 1))) := by unfold stE; rw [if_neg (show ¬ kd (fo k) = 0 by omega), if_neg (show ¬ kd (fo k) = 1 by omega)]
theorem c_join {c a b : Int32} (hc : ¬ c = -3) (h : ZH) : xX2_join c a b h = some (opF c a b, h) := by
  have t1 : ∀ h, xX2_truth 1 h = some (1, h) := fun h => by unfold xX2_truth; rw [if_neg (by decide)]
  have t0 : ∀ h, xX2_truth 0 h = some (0, h) := fun h => by unfold xX2_truth; rw [if_pos rfl]
  unfold xX2_join opF
  simp only [t1, t0, Option.bind_some, if_neg hc]
  by_cases b0 : b = 0
  · simp only [if_pos b0]
    repeat' split
    all_goals rfl
  · simp only [if_neg b0]
    repeat' split
    all_goals rfl
theorem c_work {σ : ZS} {len : Nat} {fo : Nat → Int32} (F : WFo fo len) (h0 : 0 < len) (hl : sI σ 21 15 = nI len) (hf : ∀ i, i < len → sF σ 27 i = fo i) (sp he nu fr : Int32) : ∃ τ, xX2_workOut 21 sp he nu fr (mkH σ) = some (evF fo len sp he nu fr, mkH τ) ∧ FR (fun a => a = 28) (fun _ _ => False) σ τ := by
  obtain ⟨e, hz⟩ := zfu len (by have := F.1; omega)
  have hl2 := F.1
  have key := lpI (fun e k (τ : ZS) => xX2_workOut_L6 e 21 sp he nu fr (nI (dpt fo k)) (nI k) (mkH τ)) len (fun k τ => FR (fun a => a = 28) (fun _ _ => False) σ τ ∧ ∀ j, j < dpt fo k → sF τ 28 j = zf (stE fo sp he nu fr) 0 k (fun _ => 0) j) (fun v => ∃ τ, v = (evF fo len sp he nu fr, mkH τ) ∧ FR (fun a => a = 28) (fun _ _ => False) σ τ) ?_ ?_ len 0 σ e (by omega) ⟨FR_r, fun j hj => absurd hj (Nat.not_lt_zero j)⟩
  · obtain ⟨v, hv, τ, hv2, hF⟩ := key
    refine ⟨τ, ?_, hF⟩
    unfold xX2_workOut
    rw [hz, ← hv2]
    exact hv
  · rintro e k τ hk ⟨hF, hS⟩
    right
    have hd := dpt_le F k (by omega)
    have hc := F.2 k hk
    have r1 : sI τ 21 15 = nI len := by rw [hF.2.1 21 15 (fun z => z)]; exact hl
    have r2 : sF τ 27 k = fo k := by rw [hF.1 27 (by decide)]; exact hf k hk
    have hB : xX2_workOut_L6 (e + 1) 21 sp he nu fr (nI (dpt fo k)) (nI k) (mkH τ) = xX2_workOut_B6 (xX2_workOut_L6 e) 21 sp he nu fr (nI (dpt fo k)) (nI k) (mkH τ) := rfl
    have hstep : ∀ (i : Nat) (u : Int32), (∀ j, j < dpt fo (k + 1) → (if j = i then u else sF τ 28 j) = zf (stE fo sp he nu fr) 0 (k + 1) (fun _ => 0) j) → FR (fun a => a = 28) (fun _ _ => False) σ (setF τ 28 i u) ∧ ∀ j, j < dpt fo (k + 1) → sF (setF τ 28 i u) 28 j = zf (stE fo sp he nu fr) 0 (k + 1) (fun _ => 0) j := by
      intro i u hu
      refine ⟨FR_t hF (FR_F rfl), fun j hj => ?_⟩
      rw [sF_up]
      exact hu j hj
    have hkd : kd (fo k) = 0 ∨ kd (fo k) = 1 ∨ kd (fo k) = 2 := by
      unfold kd
      repeat' split
      all_goals simp
    simp only [hB, xX2_workOut_B6, rI_21_15, r1, Option.bind_some, rR_21_14, ra_27 τ (show k < 280 by omega), r2]
    rw [if_neg (fun z => by have := (nI_leI (by omega) (by omega)).mp z; omega)]
    have hval : ∀ (hk0 : kd (fo k) = 0), ∃ s', xX2_workOut_B36 (xX2_workOut_L6 e) 21 sp he nu fr (nI (dpt fo k)) (nI k) (fo k) (mkH τ) = xX2_workOut_L6 e 21 sp he nu fr (nI (dpt fo (k + 1))) (nI (k + 1)) (mkH s') ∧ FR (fun a => a = 28) (fun _ _ => False) σ s' ∧ ∀ j, j < dpt fo (k + 1) → sF s' 28 j = zf (stE fo sp he nu fr) 0 (k + 1) (fun _ => 0) j := by
      intro hk0
      have hd2 := hc.1 hk0
      refine ⟨setF τ 28 (dpt fo k) (vlF (fo k) sp he nu fr), ?_, ?_⟩
      · rw [dpt_0 hk0]
        simp only [xX2_workOut_B36, rR_21_16, Option.bind_some, xX2_pick]
        rw [if_pos (by rw [nl_32]; exact nI_lt (by omega) (by omega))]
        unfold vlF
        by_cases n0 : fo k < 0
        · rw [if_pos n0, if_pos n0]
          by_cases n1 : fo k = -14
          · rw [if_pos n1, if_pos n1]
            simp only [Option.bind_some, wa_28 τ _ (show dpt fo k < 32 by omega), nI_s]
          · rw [if_neg n1, if_neg n1]
            by_cases n2 : fo k = -13
            · rw [if_pos n2, if_pos n2]
              simp only [Option.bind_some, wa_28 τ _ (show dpt fo k < 32 by omega), nI_s]
            · rw [if_neg n2, if_neg n2]
              by_cases n3 : fo k = -12
              · rw [if_pos n3, if_pos n3]
                simp only [Option.bind_some, wa_28 τ _ (show dpt fo k < 32 by omega), nI_s]
              · rw [if_neg n3, if_neg n3]
                simp only [Option.bind_some, wa_28 τ _ (show dpt fo k < 32 by omega), nI_s]
        · rw [if_neg n0, if_neg n0]
          simp only [Option.bind_some, wa_28 τ _ (show dpt fo k < 32 by omega), nI_s]
      · apply hstep
        intro j hj
        rw [dpt_0 hk0] at hj
        rw [zf_l, Nat.zero_add, stE_0 hk0]
        show (if j = dpt fo k then _ else sF τ 28 j) = (if j = dpt fo k then _ else _)
        by_cases hjk : j = dpt fo k
        · rw [if_pos hjk, if_pos hjk]
        · rw [if_neg hjk, if_neg hjk]
          exact hS j (by omega)
    by_cases n0 : 0 ≤ fo k
    · rw [if_pos n0]
      exact hval (by unfold kd; rw [if_pos n0])
    · rw [if_neg n0]
      by_cases n1 : -12 < fo k
      · rw [if_pos n1]
        by_cases n2 : fo k = -3
        · have hk1 : kd (fo k) = 1 := by unfold kd; rw [if_neg n0, if_pos n1, if_pos n2]
          have hd2 := hc.2.1 hk1
          rw [if_pos n2, if_pos (by rw [nl_1]; exact nI_le (by omega) (by omega))]
          have e1 : nI (dpt fo k) - (1 : Int32) = nI (dpt fo k - 1) := by rw [nl_1, pk_sub hd2]
          have e2 := hS (dpt fo k - 1) (by omega)
          have t1 : ∀ h, xX2_truth 1 h = some (1, h) := fun h => by unfold xX2_truth; rw [if_neg (by decide)]
          have t0 : ∀ h, xX2_truth 0 h = some (0, h) := fun h => by unfold xX2_truth; rw [if_pos rfl]
          simp only [rR_21_16, Option.bind_some, e1, ra_28 τ (show dpt fo k - 1 < 32 by omega), t1, t0, wa_28 τ _ (show dpt fo k - 1 < 32 by omega), nI_s]
          refine ⟨setF τ 28 (dpt fo k - 1) (if sF τ 28 (dpt fo k - 1) = 0 then 1 else 0), ?_, ?_⟩
          · rw [dpt_1 hk1]
            by_cases hz : sF τ 28 (dpt fo k - 1) = 0
            · rw [if_pos hz, if_pos hz]
            · rw [if_neg hz, if_neg hz]
          · apply hstep
            intro j hj
            rw [dpt_1 hk1] at hj
            rw [zf_l, Nat.zero_add, stE_1 hk1]
            show (if j = dpt fo k - 1 then _ else sF τ 28 j) = (if j = dpt fo k - 1 then _ else _)
            by_cases hjk : j = dpt fo k - 1
            · rw [if_pos hjk, if_pos hjk, e2]
            · rw [if_neg hjk, if_neg hjk]
              exact hS j (by omega)
        · have hk1 : kd (fo k) = 2 := by unfold kd; rw [if_neg n0, if_pos n1, if_neg n2]
          have hd2 := hc.2.2 hk1
          rw [if_neg n2, if_pos (by rw [nl_2]; exact nI_le (by omega) (by omega))]
          have e0 : nI (dpt fo k) + (-1 : Int32) = nI (dpt fo k - 1) := by
            have := pk_m1 (dpt fo k - 1)
            rwa [show dpt fo k - 1 + 1 = dpt fo k by omega] at this
          have e1 : nI (dpt fo k - 1) - (1 : Int32) = nI (dpt fo k - 2) := by rw [nl_1, pk_sub (by omega), show dpt fo k - 1 - 1 = dpt fo k - 2 by omega]
          have e2 := hS (dpt fo k - 1) (by omega)
          have e3 := hS (dpt fo k - 2) (by omega)
          simp only [rR_21_16, Option.bind_some, e0, e1, ra_28 τ (show dpt fo k - 1 < 32 by omega), ra_28 τ (show dpt fo k - 2 < 32 by omega), c_join n2, wa_28 τ _ (show dpt fo k - 2 < 32 by omega), nI_s]
          refine ⟨setF τ 28 (dpt fo k - 2) (opF (fo k) (sF τ 28 (dpt fo k - 2)) (sF τ 28 (dpt fo k - 1))), ?_, ?_⟩
          · rw [dpt_2 hk1]
          · apply hstep
            intro j hj
            rw [dpt_2 hk1] at hj
            rw [zf_l, Nat.zero_add, stE_2 hk1]
            show (if j = dpt fo k - 2 then _ else sF τ 28 j) = (if j = dpt fo k - 2 then _ else _)
            by_cases hjk : j = dpt fo k - 2
            · rw [if_pos hjk, if_pos hjk, e2, e3]
            · rw [if_neg hjk, if_neg hjk]
              exact hS j (by omega)
      · rw [if_neg n1]
        exact hval (by unfold kd; rw [if_neg n0, if_neg n1])
  · rintro e τ ⟨hF, hS⟩
    have r1 : sI τ 21 15 = nI len := by rw [hF.2.1 21 15 (fun z => z)]; exact hl
    have hd := dpt_le F len (Nat.le_refl _)
    refine ⟨(evF fo len sp he nu fr, mkH τ), ?_, τ, rfl, hF⟩
    show xX2_workOut_B6 (xX2_workOut_L6 e) 21 sp he nu fr (nI (dpt fo len)) (nI len) (mkH τ) = _
    simp only [xX2_workOut_B6, rI_21_15, r1, Option.bind_some]
    rw [if_pos ((nI_leI (by omega) (by omega)).mpr (Nat.le_refl _))]
    have e0 := hS 0 (by have := hd.2 h0; omega)
    simp only [rR_21_16, Option.bind_some, nl_0, ra_28 τ (show 0 < 32 by omega), e0]
    rfl
/-- a code of the class, and the reference's code and number for it -/
def cdR (c rc rn : Int32) : Prop := (0 ≤ c ∧ rc = 110 ∧ rn = c) ∨ (c = -12 ∧ rc = 115) ∨ (c = -13 ∧ rc = 101) ∨ (c = -14 ∧ rc = 117) ∨ (c = -15 ∧ rc = 102) ∨ (c = -3 ∧ rc = 126) ∨ (c = -1 ∧ rc = 124) ∨ (c = -2 ∧ rc = 38) ∨ (c = -4 ∧ rc = 60) ∨ (c = -5 ∧ rc = 62) ∨ (c = -6 ∧ rc = 61) ∨ (c = -7 ∧ rc = 43) ∨ (c = -8 ∧ rc = 45) ∨ (c = -9 ∧ rc = 42) ∨ (c = -10 ∧ rc = 47) ∨ (c = -11 ∧ rc = 37)
theorem r_two {c rc rn : Int32} (h : cdR c rc rn) (h2 : kd c = 2) (a b : Int32) (hh : ZH) : xX9_two rc a b hh = some (opF c a b, hh) ∧ ¬ rc = 126 ∧ xX9_isLetter rc hh = some (0, hh) := by
  rcases h with ⟨h, -⟩ | ⟨h, -⟩ | ⟨h, -⟩ | ⟨h, -⟩ | ⟨h, -⟩ | ⟨h, -⟩ | ⟨rfl, rfl⟩ | ⟨rfl, rfl⟩ | ⟨rfl, rfl⟩ | ⟨rfl, rfl⟩ | ⟨rfl, rfl⟩ | ⟨rfl, rfl⟩ | ⟨rfl, rfl⟩ | ⟨rfl, rfl⟩ | ⟨rfl, rfl⟩ | ⟨rfl, rfl⟩
  · unfold kd at h2; rw [if_pos h] at h2; cases h2
  · subst h; exact absurd h2 (by decide)
  · subst h; exact absurd h2 (by decide)
  · subst h; exact absurd h2 (by decide)
  · subst h; exact absurd h2 (by decide)
  · subst h; exact absurd h2 (by decide)
  all_goals
    refine ⟨?_, by decide, by unfold xX9_isLetter; first | rw [if_pos (by decide)] | rw [if_neg (by decide), if_pos (by decide)]⟩
    unfold xX9_two opF
    simp (decide := true) only [if_true, if_false]
    repeat' split
    all_goals rfl
/-- what a value of the formula is in the reference -/
theorem r_asked {lo : Nat} {σ : ZS} {bk s nsh nsl : Nat} (B : RB σ bk nsh nsl) (V : WF lo nsh nsl (sF σ 104)) (hs : s < 6) (hq : sI σ 78 40 = nI s) {c rc rn : Int32} (h : cdR c rc rn) (h2 : kd c = 0) : xX9_asked 78 rc rn (mkH σ) = some (vlF c (speedS (sF σ 104) s) (nI (pc 32 (heardN (sF σ 104) s nsl))) (nI s) (sF σ 104 517), mkH σ) ∧ ¬ rc = 126 ∧ xX9_isLetter rc (mkH σ) = some (1, mkH σ) := by
  rcases h with ⟨h, rfl, rfl⟩ | ⟨rfl, rfl⟩ | ⟨rfl, rfl⟩ | ⟨rfl, rfl⟩ | ⟨rfl, rfl⟩ | ⟨h, -⟩ | ⟨h, -⟩ | ⟨h, -⟩ | ⟨h, -⟩ | ⟨h, -⟩ | ⟨h, -⟩ | ⟨h, -⟩ | ⟨h, -⟩ | ⟨h, -⟩ | ⟨h, -⟩ | ⟨h, -⟩
  · refine ⟨?_, by decide, by unfold xX9_isLetter; rw [if_neg (by decide), if_neg (by decide)]⟩
    unfold xX9_asked vlF
    rw [if_neg (by decide), if_neg (by decide), if_neg (by decide), if_neg (by decide), if_neg (Int32.not_lt.mpr h)]
  · refine ⟨?_, by decide, by unfold xX9_isLetter; rw [if_neg (by decide), if_neg (by decide)]⟩
    unfold xX9_asked vlF
    rw [if_neg (by decide), if_neg (by decide), if_pos rfl, if_pos (by decide), if_neg (by decide), if_neg (by decide), if_pos rfl]
    simp only [rI_78_40, Option.bind_some, hq, is_78, gu_t, r_speed hs]
  · refine ⟨?_, by decide, by unfold xX9_isLetter; rw [if_neg (by decide), if_neg (by decide)]⟩
    unfold xX9_asked vlF
    rw [if_pos rfl, if_pos (by decide), if_neg (by decide), if_pos rfl]
    simp only [rI_78_40, Option.bind_some, hq, is_78, gu_t, (r_heard B V hs).1]
  · refine ⟨?_, by decide, by unfold xX9_isLetter; rw [if_neg (by decide), if_neg (by decide)]⟩
    unfold xX9_asked vlF
    rw [if_neg (by decide), if_neg (by decide), if_neg (by decide), if_pos rfl, if_pos (by decide), if_pos rfl]
    simp only [rI_78_40, Option.bind_some, hq]
  · refine ⟨?_, by decide, by unfold xX9_isLetter; rw [if_neg (by decide), if_neg (by decide)]⟩
    unfold xX9_asked vlF
    rw [if_neg (by decide), if_pos rfl, if_pos (by decide), if_neg (by decide), if_neg (by decide), if_neg (by decide)]
    simp only [rR_78_41, Option.bind_some, nl_517, ra_104 σ (show 517 < 521 by omega)]
  all_goals (subst h; exact absurd h2 (by decide))
theorem cdR_not {c rc rn : Int32} (h : cdR c rc rn) (h2 : kd c = 1) : rc = 126 := by
  rcases h with ⟨h, -⟩ | ⟨h, -⟩ | ⟨h, -⟩ | ⟨h, -⟩ | ⟨h, -⟩ | ⟨-, h⟩ | ⟨h, -⟩ | ⟨h, -⟩ | ⟨h, -⟩ | ⟨h, -⟩ | ⟨h, -⟩ | ⟨h, -⟩ | ⟨h, -⟩ | ⟨h, -⟩ | ⟨h, -⟩ | ⟨h, -⟩
  · unfold kd at h2; rw [if_pos h] at h2; cases h2
  all_goals first | exact h | (subst h; exact absurd h2 (by decide))
def RFm (σ : ZS) (bk : Nat) (fo : Nat → Int32) (len : Nat) : Prop := ∃ td r0, sF σ 90 bk = nI td ∧ td < 256 ∧ td.testBit 5 = decide (0 < len) ∧ (0 < len → sF σ 96 bk = nI r0 ∧ sF σ 97 bk = nI (r0 + len) ∧ r0 = 560 * bk ∧ ∀ i, i < len → cdR (fo i) (sF σ 99 (r0 + i)) (sF σ 100 (r0 + i)))
def CFm (σ : ZS) (fo : Nat → Int32) (len : Nat) : Prop := sI σ 21 15 = nI len ∧ ∀ i, i < len → sF σ 27 i = fo i
section RC
variable {σ : ZS} {bk d m to : Nat} (r12 : Nat → Int32 → Int32 → ZH → Option (Int32 × ZH))
theorem r_cs0 {v rc rn : Int32} (h1 : sI σ 78 34 = nI bk) (h2 : bk < 2) (h3 : sF σ 97 bk = nI to) (hm : m < to) (ht : to ≤ 1120) (h4 : sF σ 99 m = rc) (h5 : sF σ 100 m = rn) (h6 : ¬ rc = 126) (h7 : xX9_isLetter rc (mkH σ) = some (1, mkH σ)) (h8 : xX9_asked 78 rc rn (mkH σ) = some (v, mkH σ)) (hd : d < 60) : xX9_comes_B12 r12 78 (nI d) (nI m) (mkH σ) = r12 78 (nI (d + 1)) (nI (m + 1)) (mkH (setF σ 103 d v)) := by
  unfold xX9_comes_B12
  generalize xX9_two = tw at *
  generalize xX9_asked = asx at *
  generalize xX9_isLetter = ilx at *
  simp only [rR_78_27, rI_78_34, h1, Option.bind_some, ra_97 σ h2, h3, rR_78_29, ra_99 σ (show m < 1120 by omega), h4]
  rw [if_neg (fun z => by have := (nI_leI (by omega) (by omega)).mp z; omega), if_neg h6, h7]
  simp only [Option.bind_some]
  rw [if_neg (by decide)]
  simp only [rR_78_33, rR_78_30, Option.bind_some, ra_100 σ (show m < 1120 by omega), h5, is_78, gu_t, h8, wa_103 σ _ hd, nI_s]
theorem r_cs1 (h1 : sI σ 78 34 = nI bk) (h2 : bk < 2) (h3 : sF σ 97 bk = nI to) (hm : m < to) (ht : to ≤ 1120) (h4 : sF σ 99 m = 126) (hd0 : 1 ≤ d) (hd : d ≤ 60) : xX9_comes_B12 r12 78 (nI d) (nI m) (mkH σ) = r12 78 (nI d) (nI (m + 1)) (mkH (setF σ 103 (d - 1) (if sF σ 103 (d - 1) = 0 then 1 else 0))) := by
  have e1 : nI d - (1 : Int32) = nI (d - 1) := by rw [nl_1, pk_sub hd0]
  unfold xX9_comes_B12
  generalize xX9_two = tw at *
  generalize xX9_asked = asx at *
  generalize xX9_isLetter = ilx at *
  simp only [rR_78_27, rI_78_34, h1, Option.bind_some, ra_97 σ h2, h3, rR_78_29, ra_99 σ (show m < 1120 by omega), h4]
  rw [if_neg (fun z => by have := (nI_leI (by omega) (by omega)).mp z; omega)]
  simp only [if_true, rR_78_33, Option.bind_some, e1, ra_103 σ (show d - 1 < 60 by omega), wa_103 σ _ (show d - 1 < 60 by omega), nI_s]
  by_cases hz : sF σ 103 (d - 1) = 0
  · rw [if_pos hz, if_pos hz]
  · rw [if_neg hz, if_neg hz]
theorem r_cs2 {v rc : Int32} (h1 : sI σ 78 34 = nI bk) (h2 : bk < 2) (h3 : sF σ 97 bk = nI to) (hm : m < to) (ht : to ≤ 1120) (h4 : sF σ 99 m = rc) (h6 : ¬ rc = 126) (h7 : xX9_isLetter rc (mkH σ) = some (0, mkH σ)) (h8 : xX9_two rc (sF σ 103 (d - 2)) (sF σ 103 (d - 1)) (mkH σ) = some (v, mkH σ)) (hd0 : 2 ≤ d) (hd : d ≤ 60) : xX9_comes_B12 r12 78 (nI d) (nI m) (mkH σ) = r12 78 (nI (d - 1)) (nI (m + 1)) (mkH (setF σ 103 (d - 2) v)) := by
  have e0 : nI d + (-1 : Int32) = nI (d - 1) := by
    have := pk_m1 (d - 1)
    rwa [show d - 1 + 1 = d by omega] at this
  have e1 : nI (d - 1) - (1 : Int32) = nI (d - 2) := by rw [nl_1, pk_sub (by omega), show d - 1 - 1 = d - 2 by omega]
  unfold xX9_comes_B12
  generalize xX9_two = tw at *
  generalize xX9_asked = asx at *
  generalize xX9_isLetter = ilx at *
  simp only [rR_78_27, rI_78_34, h1, Option.bind_some, ra_97 σ h2, h3, rR_78_29, ra_99 σ (show m < 1120 by omega), h4]
  rw [if_neg (fun z => by have := (nI_leI (by omega) (by omega)).mp z; omega), if_neg h6, h7, Option.bind_some, if_pos rfl]
  simp only [rR_78_33, Option.bind_some, e0, e1, ra_103 σ (show d - 1 < 60 by omega), ra_103 σ (show d - 2 < 60 by omega), h8, wa_103 σ _ (show d - 2 < 60 by omega), nI_s]
theorem r_cs9 (h1 : sI σ 78 34 = nI bk) (h2 : bk < 2) (h3 : sF σ 97 bk = nI to) (ht : to ≤ 1120) : xX9_comes_B12 r12 78 (nI d) (nI to) (mkH σ) = some (sF σ 103 0, mkH σ) := by
  simp only [xX9_comes_B12, rR_78_27, rI_78_34, h1, Option.bind_some, ra_97 σ h2, h3]
  rw [if_pos ((nI_leI (by omega) (by omega)).mpr (Nat.le_refl _))]
  simp only [rR_78_33, Option.bind_some, nl_0, ra_103 σ (show 0 < 60 by omega)]
end RC
theorem r_comes {lo : Nat} {σ : ZS} {bk s nsh nsl len r0 : Nat} {fo : Nat → Int32} (B : RB σ bk nsh nsl) (V : WF lo nsh nsl (sF σ 104)) (hs : s < 6) (hq : sI σ 78 40 = nI s) (F : WFo fo len) (h0 : 0 < len) (h96 : sF σ 96 bk = nI r0) (h97 : sF σ 97 bk = nI (r0 + len)) (hr : r0 + len ≤ 1120) (hc : ∀ i, i < len → cdR (fo i) (sF σ 99 (r0 + i)) (sF σ 100 (r0 + i))) : ∃ τ, xX9_comes 78 (mkH σ) = some (evF fo len (speedS (sF σ 104) s) (nI (pc 32 (heardN (sF σ 104) s nsl))) (nI s) (sF σ 104 517), mkH τ) ∧ FR (fun a => a = 103) (fun _ _ => False) σ τ := by
  obtain ⟨e, hz⟩ := zfu len (by have := F.1; omega)
  have hl2 := F.1
  have b1 := B.1
  have b2 := B.2.1
  obtain ⟨sp, hsp⟩ : ∃ sp, speedS (sF σ 104) s = sp := ⟨_, rfl⟩
  obtain ⟨he, hhe⟩ : ∃ he, nI (pc 32 (heardN (sF σ 104) s nsl)) = he := ⟨_, rfl⟩
  obtain ⟨fr, hfr⟩ : ∃ fr, sF σ 104 517 = fr := ⟨_, rfl⟩
  rw [hsp, hhe, hfr]
  have key := lpI (fun e k (τ : ZS) => xX9_comes_L12 e 78 (nI (dpt fo k)) (nI (r0 + k)) (mkH τ)) len (fun k τ => FR (fun a => a = 103) (fun _ _ => False) σ τ ∧ ∀ j, j < dpt fo k → sF τ 103 j = zf (stE fo sp he (nI s) fr) 0 k (fun _ => 0) j) (fun v => ∃ τ, v = (evF fo len sp he (nI s) fr, mkH τ) ∧ FR (fun a => a = 103) (fun _ _ => False) σ τ) ?_ ?_ len 0 σ e (by omega) ⟨FR_r, fun j hj => absurd hj (Nat.not_lt_zero j)⟩
  · obtain ⟨v, hv, τ, hv2, hF⟩ := key
    refine ⟨τ, ?_, hF⟩
    simp only [xX9_comes, rR_78_26, rI_78_34, b1, Option.bind_some, ra_96 σ b2, h96]
    rw [hz, ← hv2]
    exact hv
  · rintro e k τ hk ⟨hF, hS⟩
    right
    have hd := dpt_le F k (by omega)
    have hcc := F.2 k hk
    have hck := hc k hk
    have hA : sF τ 104 = sF σ 104 := hF.1 104 (by decide)
    have r1 : sI τ 78 34 = nI bk := by rw [hF.2.1 78 34 (fun z => z)]; exact b1
    have r2 : sF τ 99 (r0 + k) = sF σ 99 (r0 + k) := by rw [hF.1 99 (by decide)]
    have r3 : sF τ 100 (r0 + k) = sF σ 100 (r0 + k) := by rw [hF.1 100 (by decide)]
    have r4 : sF τ 97 bk = nI (r0 + len) := by rw [hF.1 97 (by decide)]; exact h97
    have r5 : sI τ 78 40 = nI s := by rw [hF.2.1 78 40 (fun z => z)]; exact hq
    have B' : RB τ bk nsh nsl := by
      unfold RB
      rw [hF.2.1 78 34 (fun z => z), hF.1 81 (by decide), hF.1 82 (by decide)]
      exact B
    have V' : WF lo nsh nsl (sF τ 104) := by rw [hA]; exact V
    have hstep : ∀ (i : Nat) (u : Int32), (∀ j, j < dpt fo (k + 1) → (if j = i then u else sF τ 103 j) = zf (stE fo sp he (nI s) fr) 0 (k + 1) (fun _ => 0) j) → FR (fun a => a = 103) (fun _ _ => False) σ (setF τ 103 i u) ∧ ∀ j, j < dpt fo (k + 1) → sF (setF τ 103 i u) 103 j = zf (stE fo sp he (nI s) fr) 0 (k + 1) (fun _ => 0) j := by
      intro i u hu
      refine ⟨FR_t hF (FR_F rfl), fun j hj => ?_⟩
      rw [sF_up]
      exact hu j hj
    have hidx : r0 + (k + 1) = r0 + k + 1 := by omega
    rcases kd_3 (fo k) with hk0 | hk1 | hk2
    · have hd2 := hcc.1 hk0
      obtain ⟨q1, q2, q3⟩ := r_asked B' V' hs r5 hck hk0
      rw [hA, hsp, hhe, hfr] at q1
      refine ⟨setF τ 103 (dpt fo k) (vlF (fo k) sp he (nI s) fr), ?_, ?_⟩
      · rw [dpt_0 hk0, hidx]
        exact r_cs0 (xX9_comes_L12 e) r1 b2 r4 (by omega) hr r2 r3 q2 q3 q1 (by omega)
      · apply hstep
        intro j hj
        rw [dpt_0 hk0] at hj
        rw [zf_l, Nat.zero_add, stE_0 hk0]
        show (if j = dpt fo k then _ else sF τ 103 j) = (if j = dpt fo k then _ else _)
        by_cases hjk : j = dpt fo k
        · rw [if_pos hjk, if_pos hjk]
        · rw [if_neg hjk, if_neg hjk]
          exact hS j (by omega)
    · have hd2 := hcc.2.1 hk1
      have q := cdR_not hck hk1
      have e2 := hS (dpt fo k - 1) (by omega)
      refine ⟨setF τ 103 (dpt fo k - 1) (if sF τ 103 (dpt fo k - 1) = 0 then 1 else 0), ?_, ?_⟩
      · rw [dpt_1 hk1, hidx]
        exact r_cs1 (xX9_comes_L12 e) r1 b2 r4 (by omega) hr (r2.trans q) hd2 (by omega)
      · apply hstep
        intro j hj
        rw [dpt_1 hk1] at hj
        rw [zf_l, Nat.zero_add, stE_1 hk1]
        show (if j = dpt fo k - 1 then _ else sF τ 103 j) = (if j = dpt fo k - 1 then _ else _)
        by_cases hjk : j = dpt fo k - 1
        · rw [if_pos hjk, if_pos hjk, e2]
        · rw [if_neg hjk, if_neg hjk]
          exact hS j (by omega)
    · have hd2 := hcc.2.2 hk2
      have e2 := hS (dpt fo k - 1) (by omega)
      have e3 := hS (dpt fo k - 2) (by omega)
      obtain ⟨q1, q2, q3⟩ := r_two hck hk2 (sF τ 103 (dpt fo k - 2)) (sF τ 103 (dpt fo k - 1)) (mkH τ)
      refine ⟨setF τ 103 (dpt fo k - 2) (opF (fo k) (sF τ 103 (dpt fo k - 2)) (sF τ 103 (dpt fo k - 1))), ?_, ?_⟩
      · rw [dpt_2 hk2, hidx]
        exact r_cs2 (xX9_comes_L12 e) r1 b2 r4 (by omega) hr r2 q2 q3 q1 hd2 (by omega)
      · apply hstep
        intro j hj
        rw [dpt_2 hk2] at hj
        rw [zf_l, Nat.zero_add, stE_2 hk2]
        show (if j = dpt fo k - 2 then _ else sF τ 103 j) = (if j = dpt fo k - 2 then _ else _)
        by_cases hjk : j = dpt fo k - 2
        · rw [if_pos hjk, if_pos hjk, e2, e3]
        · rw [if_neg hjk, if_neg hjk]
          exact hS j (by omega)
  · rintro e τ ⟨hF, hS⟩
    have r1 : sI τ 78 34 = nI bk := by rw [hF.2.1 78 34 (fun z => z)]; exact b1
    have r4 : sF τ 97 bk = nI (r0 + len) := by rw [hF.1 97 (by decide)]; exact h97
    have hd := dpt_le F len (Nat.le_refl _)
    have e0 := hS 0 (by have := hd.2 h0; omega)
    refine ⟨(evF fo len sp he (nI s) fr, mkH τ), ?_, τ, rfl, hF⟩
    have := r_cs9 (xX9_comes_L12 e) (d := dpt fo len) r1 b2 r4 hr
    rw [e0] at this
    exact this
def clS (x : Int32) : Int32 := if x < 1 then 1 else if 3 < x then 3 else x
theorem cl_n (x : Int32) : ∃ k, 1 ≤ k ∧ k ≤ 3 ∧ clS x = nI k := by
  unfold clS
  by_cases h1 : x < 1
  · rw [if_pos h1]; exact ⟨1, by omega, by omega, rfl⟩
  · rw [if_neg h1]
    by_cases h2 : 3 < x
    · rw [if_pos h2]; exact ⟨3, by omega, by omega, rfl⟩
    · rw [if_neg h2]
      have a1 := Int32.le_iff_toInt_le.mp (Int32.not_lt.mp h1)
      have a2 := Int32.le_iff_toInt_le.mp (Int32.not_lt.mp h2)
      have z1 : (1 : Int32).toInt = 1 := by decide
      have z3 : (3 : Int32).toInt = 3 := by decide
      rw [z1] at a1
      rw [z3] at a2
      refine ⟨x.toInt.toNat, by omega, by omega, ?_⟩
      apply Int32.toInt_inj.mp
      rw [nI_toInt (by omega)]
      omega
def rtS (A : Nat → Int32) (s m : Nat) (fo : Nat → Int32) (len : Nat) : Nat := tn (clS (if len = 0 then 1 + speedS A s / 8 else evF fo len (speedS A s) (nI (pc 32 (heardN A s m))) (nI s) (A 517)))
theorem rt_n (x : Int32) : clS x = nI (tn (clS x)) ∧ 1 ≤ tn (clS x) ∧ tn (clS x) ≤ 3 := by
  obtain ⟨k, h1, h2, e⟩ := cl_n x
  rw [e, tn_n (by omega)]
  exact ⟨rfl, h1, h2⟩
theorem r_held (x : Int32) (h : ZH) : xX9_held x 1 3 h = some (nI (tn (clS x)), h) := by
  rw [← (rt_n x).1]
  unfold xX9_held clS
  by_cases h1 : x < 1
  · rw [if_pos h1, if_neg (Int32.not_le.mpr h1)]
  · rw [if_neg h1, if_pos (Int32.not_lt.mp h1)]
    by_cases h2 : 3 < x
    · rw [if_pos h2, if_neg (Int32.not_le.mpr h2)]
    · rw [if_neg h2, if_pos (Int32.not_lt.mp h2)]
theorem c_held (x : Int32) (h : ZH) : xX5_howOften_B45 x h = some (nI (tn (clS x)), h) := by
  rw [← (rt_n x).1]
  simp only [xX5_howOften_B45, c_min, c_max, Option.bind_some]
  unfold clS
  by_cases h1 : x < 1
  · rw [if_pos h1, if_pos (Int32.lt_trans h1 (by decide)), if_neg (fun z => absurd (Int32.lt_trans z h1) (Int32.lt_irrefl))]
  · rw [if_neg h1]
    by_cases h2 : 3 < x
    · rw [if_pos h2, if_neg (fun z => absurd (Int32.lt_trans z h2) (Int32.lt_irrefl)), if_pos (by decide)]
    · rw [if_neg h2]
      have a1 := Int32.not_lt.mp h1
      have a2 := Int32.not_lt.mp h2
      by_cases h3 : x < 3
      · rw [if_pos h3]
        by_cases h4 : 1 < x
        · rw [if_pos h4]
        · rw [if_neg h4, Int32.le_antisymm a1 (Int32.not_lt.mp h4)]
      · rw [if_neg h3, if_pos (by decide), Int32.le_antisymm a2 (Int32.not_lt.mp h3)]
theorem r_rate {lo : Nat} {σ : ZS} {bk s len : Nat} {P : Nat → Nat} {fo : Nat → Int32} (R : RP σ bk P) (W : PW P) (V : WF lo (P 0) (P 1) (sF σ 104)) (F : WFo fo len) (G : RFm σ bk fo len) (hs : s < 6) : ∃ τ, xX9_rateOf 78 (nI s) (mkH σ) = some (nI (rtS (sF σ 104) s (P 1) fo len), mkH τ) ∧ FR (fun a => a = 103) (fun a k => a = 78 ∧ k = 40) σ τ := by
  obtain ⟨td, r0, g1, g2, g3, g4⟩ := G
  have hF0 : FR (fun a => a = 103) (fun a k => a = 78 ∧ k = 40) σ (setI σ 78 40 (nI s)) := FR_I ⟨rfl, rfl⟩
  have R' : RP (setI σ 78 40 (nI s)) bk P := RP_f hF0 (fun a h1 h2 z => by omega) (fun z => by omega) R
  have B' := RP_B R' W
  have e1 : sI (setI σ 78 40 (nI s)) 78 34 = nI bk := R'.1
  have b5 : bitB (nI td) 5 = decide (0 < len) := by
    rw [← g3]
    exact bitB_n (k := 5) (by omega) (by omega)
  simp only [xX9_rateOf, wI_78_40, Option.bind_some, rR_78_20, rI_78_34, e1, ra_90 (setI σ 78 40 (nI s)) R.2.1, show sF (setI σ 78 40 (nI s)) 90 bk = nI td from g1, r_bit, b5]
  unfold rtS
  by_cases h0 : len = 0
  · rw [if_pos h0, show decide (0 < len) = false from decide_eq_false (by omega)]
    simp only [Bool.false_eq_true, if_false]
    simp only [if_true, is_78, gu_t, r_speed (σ := setI σ 78 40 (nI s)) hs, Option.bind_some, r_held]
    exact ⟨_, rfl, hF0⟩
  · rw [if_neg h0, show decide (0 < len) = true from decide_eq_true (by omega)]
    simp only [if_true]
    rw [if_neg (by decide)]
    obtain ⟨k1, k2, k3, k4⟩ := g4 (by omega)
    obtain ⟨τ, t1, t2⟩ := r_comes (σ := setI σ 78 40 (nI s)) B' V hs sI_eq F (by omega) k1 k2 (by have := R.2.1; have := F.1; omega) k4
    simp only [is_78, gu_t, t1, Option.bind_some, r_held]
    exact ⟨τ, rfl, FR_t hF0 (FR_m t2 (fun _ z => z) (fun _ _ z => z.elim))⟩
theorem c_rate {lo : Nat} {σ : ZS} {p s len : Nat} {P : Nat → Nat} {fo A : Nat → Int32} (hp : isSt (sK σ) p) (R : CP σ P) (W : PW P) (L : LV (P 0) (cV σ p) A) (V : WF lo (P 0) (P 1) A) (F : WFo fo len) (G : CFm σ fo len) (hs : s < P 0) : ∃ τ, xX5_howOften p (nI s) (mkH σ) = some (nI (rtS A s (P 1) fo len), mkH τ) ∧ FR (fun a => a = 28) (fun _ _ => False) σ τ := by
  have hs6 : s < 6 := Nat.lt_of_lt_of_le hs W.1
  have B := CP_B R W
  have sp : speedS (cV σ p) s = speedS A s := by
    unfold speedS
    rw [(L.1 s hs).2.2.1, (L.1 s hs).2.2.2]
  have hl := F.1
  simp only [xX5_howOften, rR_S0 hp, Option.bind_some, rI_21_15, G.1]
  unfold rtS
  by_cases h0 : len = 0
  · rw [if_pos h0, if_pos (by rw [h0]; rfl)]
    simp only [is_S hp, gu_t, c_speed hp hs6, Option.bind_some, sp, c_held]
    exact ⟨σ, rfl, FR_r⟩
  · rw [if_neg h0, if_neg (nI_ne0 (by omega) (by omega))]
    have fr : sI σ p 15 = A 517 := by rw [← cV_517, L.2.2.2 517 (by omega) (by omega)]
    obtain ⟨τ, t1, t2⟩ := c_work F (by omega) G.1 G.2 (speedS A s) (nI (pc 32 (heardN A s (P 1)))) (nI s) (A 517)
    simp only [is_S hp, gu_t, c_speed hp hs6, Option.bind_some, sp, c_heard hp B L V hs6, rI_S15 hp, fr, is_21, t1, c_held]
    exact ⟨τ, rfl, t2⟩
