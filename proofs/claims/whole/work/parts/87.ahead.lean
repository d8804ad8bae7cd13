/-! questions that look ahead -/
theorem IP_o2 {S : Nat → Prop} {T : Nat → Nat → Prop} {U : Nat → Nat → Prop} {σ τ : ZS} {bk : Nat} {P : Nat → Nat} {on fo : Nat → Int32} {len : Nat} {X : Nat → Nat → Int32} (h : GF S T U σ τ) (hS1 : ∀ a, 22 ≤ a → a ≤ 27 → ¬ S a) (hS2 : ∀ a, 81 ≤ a → a ≤ 100 → ¬ S a) (hT1 : ∀ k, ¬ T 21 k) (hT2 : ¬ T 78 34) (h43 : sI τ 78 43 < 0) (I : IP σ bk P on fo len X) : IP τ bk P on fo len X := by
  obtain ⟨i1, i2, i3, i4, i5⟩ := I
  have f1 : ∀ a, 22 ≤ a → a ≤ 27 → sF τ a = sF σ a := fun a h1 h2 => h.1 a (hS1 a h1 h2) (by omega)
  have f2 : ∀ a, 81 ≤ a → a ≤ 100 → sF τ a = sF σ a := fun a h1 h2 => h.1 a (hS2 a h1 h2) (by omega)
  have g1 : ∀ k, sI τ 21 k = sI σ 21 k := fun k => h.2.1 21 k (hT1 k) (by omega)
  have g2 : sI τ 78 34 = sI σ 78 34 := h.2.1 78 34 hT2 (by omega)
  refine ⟨i1, i2, ⟨?_, ?_, ?_, h43⟩, ?_, fun r s hr hs => ?_⟩
  · have := i3.1
    unfold RP at this ⊢
    rw [g2, f2 81 (by omega) (by omega), f2 82 (by omega) (by omega), f2 83 (by omega) (by omega), f2 84 (by omega) (by omega), f2 85 (by omega) (by omega), f2 86 (by omega) (by omega), f2 87 (by omega) (by omega), f2 88 (by omega) (by omega), f2 89 (by omega) (by omega)]
    exact this
  · rw [f2 95 (by omega) (by omega)]; exact i3.2.1
  · have := i3.2.2.1
    unfold RFm at this ⊢
    rw [f2 90 (by omega) (by omega), f2 96 (by omega) (by omega), f2 97 (by omega) (by omega), f2 99 (by omega) (by omega), f2 100 (by omega) (by omega)]
    exact this
  · unfold CE CP CFm
    rw [g1 0, g1 1, g1 2, g1 3, g1 4, g1 5, g1 6, g1 7, g1 8, g1 15, f1 26 (by omega) (by omega), f1 27 (by omega) (by omega)]
    exact i4
  · rw [f2 (91 + r) (by omega) (by omega), f1 (22 + r) (by omega) (by omega)]
    exact i5 r s hr hs
def scT2 (a k : Nat) : Prop := scT a k ∨ (a = 78 ∧ k = 43)
theorem IV_q2 {σ τ : ZS} {bk : Nat} {P : Nat → Nat} {on fo : Nat → Int32} {len : Nat} {X : Nat → Nat → Int32} (hF : FR scS scT2 σ τ) (h43 : sI τ 78 43 < 0) (I : IV σ bk P on fo len X) : IV τ bk P on fo len X := by
  have h104 : sF τ 104 = sF σ 104 := hF.1 104 (fun z => by unfold scS at z; omega)
  obtain ⟨i1, i2, i3, i4, i5, i6, i7, i8⟩ := I
  have g : GF scS scT2 (fun _ _ => False) σ τ := GF_f hF
  have hN := FR_now hF
  have hst : ∀ p, isSt (sK σ) p → p ≠ 42 → (∀ a, p ≤ a → a ≤ p + 12 → ¬ scS a) ∧ ∀ k, ¬ scT2 p k := fun p hp hne => by
    have h3 := st_in hp
    exact ⟨fun a h1 h2 z => by unfold scS at z; omega, fun k z => by unfold scT2 scT at z; omega⟩
  have hn0 := i6.1 0 (sNow σ) (by omega) (PT_0 σ)
  refine ⟨IP_o2 g (fun a h1 h2 z => by unfold scS at z; omega) (fun a h1 h2 z => by unfold scS at z; omega) (fun k z => by unfold scT2 scT at z; omega) (fun z => by unfold scT2 scT at z; omega) h43 i1, IM_o g ⟨fun z => by unfold scS at z; omega, fun z => by unfold scS at z; omega, fun z => by unfold scS at z; omega, fun z => by unfold scS at z; omega⟩ (fun k z => by unfold scT2 scT at z; omega) ⟨fun z => by unfold scT2 scT at z; omega, fun z => by unfold scT2 scT at z; omega, fun z => by unfold scT2 scT at z; omega, fun z => by unfold scT2 scT at z; omega, fun z => by unfold scT2 scT at z; omega⟩ i2, IS_o g (fun a h1 h2 z => by unfold scS at z; omega) (fun a h1 h2 z => by unfold scS at z; omega) ⟨fun z => by unfold scT2 scT at z; omega, fun z => by unfold scT2 scT at z; omega⟩ i3, by rw [h104]; exact i4, ?_, PTR_o g hN (fun _ _ z => z) i6, IH_o g i6 (fun z => by unfold scS at z; omega) ⟨fun z => by unfold scT2 scT at z; omega, fun z => by unfold scT2 scT at z; omega, fun z => by unfold scT2 scT at z; omega, fun z => by unfold scT2 scT at z; omega⟩ (fun _ z => z) (fun i p hi hp => hst p (i6.1 (i + 1) p (by omega) (by rw [PT_h hi]; exact hp)).1 (i6.1 (i + 1) p (by omega) (by rw [PT_h hi]; exact hp)).2) i7, IB_o g i6 ⟨fun z => by unfold scS at z; omega, fun z => by unfold scS at z; omega, fun z => by unfold scS at z; omega⟩ (fun _ z => z) (fun i p hi hp => hst p (i6.1 (i + 41) p (by omega) (by rw [PT_b]; exact hp)).1 (i6.1 (i + 41) p (by omega) (by rw [PT_b]; exact hp)).2) i8⟩
  rw [hN, cV_o hF (hst _ hn0.1 hn0.2).1 (hst _ hn0.1 hn0.2).2, h104]
  exact i5
theorem q_law (a b c : Int32) : QOK (xX8_law 8 a b c) (xX9_law 78 a b c) := by
  rintro σ ⟨bk, P, on, fo, len, X, I⟩
  obtain ⟨⟨W, F, E, C, -⟩, -, -, V, L, PR, -⟩ := id I
  have hp := (PR.1 0 _ (by omega) (PT_0 σ)).1
  have w0 := W.1
  have w30 := W.2.2.1
  have CB' := CP_B C.1 W
  have B := RP_B E.1 W
  have no : ∀ (h1 : xX8_law 8 a b c (mkH σ) = some (-1, mkH σ)) (h2 : xX9_law 78 a b c (mkH σ) = some (-1, mkH σ)), ∃ v τ υ, xX8_law 8 a b c (mkH σ) = some (v, mkH τ) ∧ xX9_law 78 a b c (mkH τ) = some (v, mkH υ) ∧ (sX τ = sX σ ∧ sX υ = sX σ) ∧ INV υ := fun h1 h2 => ⟨-1, σ, σ, h1, h2, ⟨rfl, rfl⟩, bk, P, on, fo, len, X, I⟩
  by_cases ha : 0 ≤ a ∧ a < nI (P 0)
  · by_cases hb : 0 ≤ b ∧ b < nI (P 1)
    · by_cases hc : 0 ≤ c ∧ c < nI 10
      · obtain ⟨s, hs, rfl⟩ := in_n (by omega) ha
        obtain ⟨k, hk, rfl⟩ := in_n (by omega) hb
        obtain ⟨n, hn, rfl⟩ := in_n (by omega) hc
        have hc9 : nI n ≤ 9 := by rw [nl_9]; exact nI_le (by omega) (by omega)
        obtain ⟨τ, t1, t2, t3, t4, t5⟩ := c_look (slot := k) (wd := n) hp (Or.inl rfl) C.1 W L V hs (by omega) (by omega)
        have hFt := sc_c t5
        have h104 : sF τ 104 = sF σ 104 := hFt.1 104 (fun z => by unfold scS at z; omega)
        have I2 : IV τ bk P on fo len X := IV_q (sc_4 hFt).1 (sc_4 hFt).2 I
        obtain ⟨⟨-, -, E2, -⟩, -, -, V2, -⟩ := id I2
        have R3 : RP (setI τ 78 43 (nI n)) bk P := RP_f (S := fun _ => False) (T := fun a k => a = 78 ∧ k = 43) (FR_I ⟨rfl, rfl⟩) (fun _ _ _ z => z) (by omega) E2.1
        obtain ⟨υ, u1, u2, u3, u4⟩ := r_cand (σ := setI τ 78 43 (nI n)) (s := s) (slot := k) (wd := n) R3 W V2 (by omega) (by omega) (by omega) (Or.inr sI_eq)
        replace u1 : xX9_candidatesOf 78 (nI s) (nI k) (mkH (setI τ 78 43 (nI n))) = some (nI (candS (sF τ 104) s (wP (P 1) n k) (wN (P 1) n) (P 4)), mkH υ) := u1
        rw [h104] at u1
        replace u4 : candS (sF τ 104) s (wP (P 1) n k) (wN (P 1) n) (P 4) < 2 ^ 30 := u4
        rw [h104] at u4
        have hFu : FR scS scT2 τ (setI υ 78 43 (-1)) := FR_t (FR_t (FR_I (Or.inr ⟨rfl, rfl⟩)) (FR_m u3 (fun a z => by unfold scS; omega) (fun _ _ z => z.elim))) (FR_I (Or.inr ⟨rfl, rfl⟩))
        refine ⟨nI (pc 32 (candS (sF σ 104) s (wP (P 1) n k) (wN (P 1) n) (P 4))), τ, setI υ 78 43 (-1), ?_, ?_, ⟨FR_X hFt, (FR_X hFu).trans (FR_X hFt)⟩, bk, P, on, fo, len, X, IV_q2 hFu (by rw [sI_eq]; decide) I2⟩
        · simp only [xX8_law, rR_8_5, Option.bind_some, is_21, gu_t, c_isShip CB', c_isSlot CB', if_pos ha, if_pos hb, t10, if_false, if_neg (Int32.not_lt.mpr hc.1), if_pos hc9, rR_8_8, rNow, is_55, t1, rI_55_0, t2, c_bitCount (show candS (sF σ 104) s (wP (P 1) n k) (wN (P 1) n) (P 4) < 2 ^ 32 by omega)]
        · simp only [xX9_law, is_78, gu_t, r_isShip (RP_B E2.1 W), r_isSlot (RP_B E2.1 W), Option.bind_some, if_pos ha, if_pos hb, t10, if_false, r_isIn, if_pos (⟨hc.1, hc9⟩ : (0 : Int32) ≤ nI n ∧ nI n ≤ 9), wI_78_43, u1, r_bitsOf (show candS (sF σ 104) s (wP (P 1) n k) (wN (P 1) n) (P 4) < 2 ^ 31 by omega)]
      · have hc2 : ¬ (0 ≤ c ∧ c ≤ 9) := fun z => hc ((int_pred (n := 10) (by decide)).mp z)
        apply no
        · simp only [xX8_law, rR_8_5, Option.bind_some, is_21, gu_t, c_isShip CB', c_isSlot CB', if_pos ha, if_pos hb, t10, if_false]
          by_cases c1 : c < 0
          · rw [if_pos c1]
          · rw [if_neg c1, if_neg (fun z => hc2 ⟨Int32.not_lt.mp c1, z⟩)]
        · simp only [xX9_law, is_78, gu_t, r_isShip B, r_isSlot B, Option.bind_some, if_pos ha, if_pos hb, t10, if_false, r_isIn, if_neg hc2, if_true]
    · apply no
      · simp only [xX8_law, rR_8_5, Option.bind_some, is_21, gu_t, c_isShip CB', c_isSlot CB', if_pos ha, if_neg hb, t10, if_false, if_true]
      · simp only [xX9_law, is_78, gu_t, r_isShip B, r_isSlot B, Option.bind_some, if_pos ha, if_neg hb, t10, if_false, if_true]
  · apply no
    · simp only [xX8_law, rR_8_5, Option.bind_some, is_21, gu_t, c_isShip CB', if_neg ha, if_true]
    · simp only [xX9_law, is_78, gu_t, r_isShip B, Option.bind_some, if_neg ha, if_true]
/-- k steps gone -/
def itA (P : Nat → Nat) (on fo : Nat → Int32) (len : Nat) : Nat → (Nat → Int32) → Nat → Int32
  | 0, A => A
  | k + 1, A => itA P on fo len k (goA P on fo len A).1
def nxS (P : Nat → Nat) (on fo : Nat → Int32) (len s : Nat) : Nat → Nat → (Nat → Int32) → Int32
  | 0, _, _ => -1
  | f + 1, k, A => if (goA P on fo len A).2.testBit s then nI k else nxS P on fo len s f (k + 1) (goA P on fo len A).1
theorem go_lt {P : Nat → Nat} {on fo : Nat → Int32} {len : Nat} (W : PW P) {A : Nat → Int32} (V : WF 1 (P 0) (P 1) A) : (goA P on fo len A).2 < 2 ^ 6 := Nat.lt_of_lt_of_le (RI_rs (on := on) (fo := fo) (len := len) W V).2.1 (Nat.pow_le_pow_right (by decide) W.1)
section AH
variable {P : Nat → Nat} {on fo : Nat → Int32} {len : Nat}
theorem c_nextL (W : PW P) (F : WFo fo len) {s : Nat} (hs : s < 6) : ∀ f k σ A e, k + f = 91 → isSt (sK σ) 42 → CE σ P on fo len → LV (P 0) (cV σ 42) A → WF 1 (P 0) (P 1) A → ∃ τ, xX8_next_L26 (e + f + 1) 8 (nI s) (nI k) (mkH σ) = some (nxS P on fo len s f k A, mkH τ) ∧ FR (cS 42) (cT 42) σ τ := by
  intro f
  induction f with
  | zero =>
    intro k σ A e hk hp C L V
    refine ⟨σ, ?_, FR_r⟩
    show xX8_next_B26 (xX8_next_L26 (e + 0)) 8 (nI s) (nI k) (mkH σ) = _
    simp only [xX8_next_B26]
    rw [if_pos (by rw [nl_90]; exact nI_lt (by omega) (by omega))]
    rfl
  | succ f ih =>
    intro k σ A e hk hp C L V
    obtain ⟨τ, t1, t2, t3⟩ := c_go hp C W F L V
    have hg := go_lt (on := on) (fo := fo) (len := len) W V
    have hpt : isSt (sK τ) 42 := by rw [FR_K t3]; exact hp
    have hbb := bitB_n (show (goA P on fo len A).2 < 2 ^ 31 by omega) (show s < 32 by omega)
    unfold bitB at hbb
    rw [nxS]
    show ∃ τ, xX8_next_B26 (xX8_next_L26 (e + (f + 1))) 8 (nI s) (nI k) (mkH σ) = _ ∧ _
    simp only [xX8_next_B26, rR_8_9, rR_8_7, Option.bind_some, is_57, gu_t, t1, nI_s]
    rw [if_neg (fun z => by rw [nl_90] at z; have := (nI_ltI (by omega) (by omega)).mp z; omega)]
    by_cases hb : (goA P on fo len A).2.testBit s = true
    · rw [hb] at hbb
      rw [if_pos (of_decide_eq_true hbb), if_pos hb]
      exact ⟨τ, rfl, t3⟩
    · rw [show (goA P on fo len A).2.testBit s = false by simpa using hb] at hbb
      rw [if_neg (of_decide_eq_false hbb), if_neg hb]
      obtain ⟨υ, u1, u2⟩ := ih (k + 1) τ _ e (by omega) hpt (CE_c hp t3 C) t2 (WF_go W V)
      rw [show e + (f + 1) = e + f + 1 by omega]
      exact ⟨υ, u1, FR_t t3 u2⟩
theorem r_47 (W : PW P) {σ σ0 : ZS} {v : Int32} (hF : FR rS rT σ0 σ) : ∃ τ, xX9_next_B47 78 v (mkH σ) = some (v, mkH τ) ∧ (∀ j, j < 521 → sF τ 104 j = sF σ0 105 j) ∧ FR rS rT σ0 τ := by
  obtain ⟨τ, t1, t2, t3⟩ := r_bringBack σ
  refine ⟨τ, ?_, fun j hj => ?_, FR_t hF (FR_104 t3)⟩
  · simp only [xX9_next_B47, is_78, gu_t, t1, Option.bind_some]
  · rw [t2 j hj, hF.1 105 (fun z => by unfold rS at z; omega)]
theorem r_nextL {bk : Nat} (W : PW P) (F : WFo fo len) {s : Nat} (hs : s < 6) (σ0 : ZS) : ∀ f k σ e, k + f = 91 → 1 ≤ k → FR rS rT σ0 σ → RE σ bk P on fo len → WF 1 (P 0) (P 1) (sF σ 104) → ∃ τ, xX9_next_L18 (e + f + 2) 78 (nI s) (-1) (nI k) (mkH σ) = some (nxS P on fo len s f k (sF σ 104), mkH τ) ∧ (∀ j, j < 521 → sF τ 104 j = sF σ0 105 j) ∧ FR rS rT σ0 τ := by
  intro f
  induction f with
  | zero =>
    intro k σ e hk hk1 hF E V
    obtain ⟨τ, t1, t2, t3⟩ := r_47 (P := P) W (v := -1) hF
    refine ⟨τ, ?_, t2, t3⟩
    show xX9_next_B18 (xX9_next_L18 (e + 0 + 1)) 78 (nI s) (-1) (nI k) (mkH σ) = _
    simp only [xX9_next_B18]
    rw [if_pos (by rw [nl_90]; exact nI_lt (by omega) (by omega))]
    exact t1
  | succ f ih =>
    intro k σ e hk hk1 hF E V
    obtain ⟨τ, t1, t2, t3⟩ := r_go E W F V
    have hg := go_lt (on := on) (fo := fo) (len := len) W V
    rw [nxS]
    show ∃ τ, xX9_next_B18 (xX9_next_L18 (e + (f + 1) + 1)) 78 (nI s) (-1) (nI k) (mkH σ) = _ ∧ _
    simp only [xX9_next_B18, is_78, gu_t, t1, Option.bind_some, r_bit, bitB_n (show (goA P on fo len (sF σ 104)).2 < 2 ^ 31 by omega) (show s < 32 by omega), nI_s]
    rw [if_neg (fun z => by rw [nl_90] at z; have := (nI_ltI (by omega) (by omega)).mp z; omega), if_neg (by decide)]
    rw [show e + (f + 1) + 1 = e + f + 2 by omega]
    by_cases hb : (goA P on fo len (sF σ 104)).2.testBit s = true
    · simp only [if_pos hb, t10, if_false]
      obtain ⟨υ, u1, u2, u3⟩ := r_47 (P := P) W (v := nI k) (FR_t hF t3)
      refine ⟨υ, ?_, u2, u3⟩
      show xX9_next_B18 (xX9_next_L18 (e + f + 1)) 78 (nI s) (nI k) (nI (k + 1)) (mkH τ) = _
      simp only [xX9_next_B18]
      by_cases h90 : (90 : Int32) < nI (k + 1)
      · rw [if_pos h90]; exact u1
      · rw [if_neg h90, if_pos (nI_pos' (by omega))]; exact u1
    · simp only [if_neg hb, if_true]
      rw [← t2]
      exact ih (k + 1) τ e (by omega) (by omega) (FR_t hF t3) (RE_r t3 E) (by rw [t2]; exact WF_go W V)
theorem WF_it (W : PW P) : ∀ m A, WF 1 (P 0) (P 1) A → WF 1 (P 0) (P 1) (itA P on fo len m A) := by
  intro m
  induction m with
  | zero => intro A V; exact V
  | succ m ih => intro A V; exact ih _ (WF_go W V)
theorem c_willL (W : PW P) (F : WFo fo len) {a : Int32} {n : Nat} (hn : n ≤ 90) : ∀ m k σ A e, k + m = n → isSt (sK σ) 42 → CE σ P on fo len → LV (P 0) (cV σ 42) A → WF 1 (P 0) (P 1) A → ∃ τ, xX8_will_L36 (e + m + 1) 8 a (nI n) (nI k) (mkH σ) = xX8_will_B59 8 a (mkH τ) ∧ LV (P 0) (cV τ 42) (itA P on fo len m A) ∧ FR (cS 42) (cT 42) σ τ := by
  intro m
  induction m with
  | zero =>
    intro k σ A e hk hp C L V
    refine ⟨σ, ?_, L, FR_r⟩
    show xX8_will_B36 (xX8_will_L36 (e + 0)) 8 a (nI n) (nI k) (mkH σ) = _
    simp only [xX8_will_B36]
    rw [if_pos ((nI_leI (by omega) (by omega)).mpr (by omega))]
  | succ m ih =>
    intro k σ A e hk hp C L V
    obtain ⟨τ, t1, t2, t3⟩ := c_go hp C W F L V
    have hpt : isSt (sK τ) 42 := by rw [FR_K t3]; exact hp
    obtain ⟨υ, u1, u2, u3⟩ := ih (k + 1) τ _ e (by omega) hpt (CE_c hp t3 C) t2 (WF_go W V)
    refine ⟨υ, ?_, u2, FR_t t3 u3⟩
    show xX8_will_B36 (xX8_will_L36 (e + (m + 1))) 8 a (nI n) (nI k) (mkH σ) = _
    simp only [xX8_will_B36, rR_8_9, rR_8_7, Option.bind_some, is_57, gu_t, t1, nI_s]
    rw [if_neg (fun z => by have := (nI_leI (by omega) (by omega)).mp z; omega), show e + (m + 1) = e + m + 1 by omega]
    exact u1
theorem c_clashL (W : PW P) (F : WFo fo len) {n : Nat} (hn : n ≤ 90) : ∀ m k σ A e, k + m = n → isSt (sK σ) 42 → CE σ P on fo len → LV (P 0) (cV σ 42) A → WF 1 (P 0) (P 1) A → ∃ τ, xX8_clashes_L25 (e + m + 1) 8 (nI n) (nI k) (mkH σ) = xX8_clashes_B48 8 (mkH τ) ∧ LV (P 0) (cV τ 42) (itA P on fo len m A) ∧ FR (cS 42) (cT 42) σ τ := by
  intro m
  induction m with
  | zero =>
    intro k σ A e hk hp C L V
    refine ⟨σ, ?_, L, FR_r⟩
    show xX8_clashes_B25 (xX8_clashes_L25 (e + 0)) 8 (nI n) (nI k) (mkH σ) = _
    simp only [xX8_clashes_B25]
    rw [if_pos ((nI_leI (by omega) (by omega)).mpr (by omega))]
  | succ m ih =>
    intro k σ A e hk hp C L V
    obtain ⟨τ, t1, t2, t3⟩ := c_go hp C W F L V
    have hpt : isSt (sK τ) 42 := by rw [FR_K t3]; exact hp
    obtain ⟨υ, u1, u2, u3⟩ := ih (k + 1) τ _ e (by omega) hpt (CE_c hp t3 C) t2 (WF_go W V)
    refine ⟨υ, ?_, u2, FR_t t3 u3⟩
    show xX8_clashes_B25 (xX8_clashes_L25 (e + (m + 1))) 8 (nI n) (nI k) (mkH σ) = _
    simp only [xX8_clashes_B25, rR_8_9, rR_8_7, Option.bind_some, is_57, gu_t, t1, nI_s]
    rw [if_neg (fun z => by have := (nI_leI (by omega) (by omega)).mp z; omega), show e + (m + 1) = e + m + 1 by omega]
    exact u1
theorem r_itL {bk : Nat} (W : PW P) (F : WFo fo len) {n : Nat} (hn : n ≤ 90) : ∀ m k σ e, k + m = n → RE σ bk P on fo len → WF 1 (P 0) (P 1) (sF σ 104) → ∃ τ, xX9_goSteps_L2 (e + m + 1) 78 (nI n) (nI k) (mkH σ) = some (mkH τ) ∧ sF τ 104 = itA P on fo len m (sF σ 104) ∧ FR rS rT σ τ := by
  intro m
  induction m with
  | zero =>
    intro k σ e hk E V
    refine ⟨σ, ?_, rfl, FR_r⟩
    show xX9_goSteps_B2 (xX9_goSteps_L2 (e + 0)) 78 (nI n) (nI k) (mkH σ) = _
    simp only [xX9_goSteps_B2]
    rw [if_pos ((nI_leI (by omega) (by omega)).mpr (by omega))]
  | succ m ih =>
    intro k σ e hk E V
    obtain ⟨τ, t1, t2, t3⟩ := r_go E W F V
    obtain ⟨υ, u1, u2, u3⟩ := ih (k + 1) τ e (by omega) (RE_r t3 E) (by rw [t2]; exact WF_go W V)
    refine ⟨υ, ?_, by rw [u2, t2]; rfl, FR_t t3 u3⟩
    show xX9_goSteps_B2 (xX9_goSteps_L2 (e + (m + 1))) 78 (nI n) (nI k) (mkH σ) = _
    simp only [xX9_goSteps_B2, is_78, gu_t, t1, Option.bind_some, nI_s]
    rw [if_neg (fun z => by have := (nI_leI (by omega) (by omega)).mp z; omega), show e + (m + 1) = e + m + 1 by omega]
    exact u1
end AH
theorem st_42 {n : Nat} : isSt n 42 := Or.inr (Or.inl rfl)
theorem sc_q {σ τ : ZS} (h : FR (qS 42) (qT 42) σ τ) : FR scS scT σ τ := FR_m h (fun a z => by unfold qS at z; unfold scS; omega) (fun a k z => by unfold qT at z; unfold scT; omega)
theorem sc_s {σ τ : ZS} (h : FR (cS 42) (cT 42) σ τ) : FR scS scT σ τ := FR_m h (fun a z => by unfold cS at z; unfold scS; omega) (fun a k z => by unfold cT at z; unfold scT; omega)
theorem sc_r {σ τ : ZS} (h : FR rS rT σ τ) : FR (fun a => scS a ∨ a = 104) scT σ τ := FR_m h (fun a z => by unfold rS at z; unfold scS; omega) (fun a k z => by unfold rT at z; unfold scT; omega)
theorem sc_5 {σ τ : ZS} (h : FR (fun a => a = 105) (fun _ _ => False) σ τ) : FR (fun a => scS a ∨ a = 104) scT σ τ := FR_m h (fun a z => by unfold scS; omega) (fun _ _ z => z.elim)
/-- the state at hand laid aside, to be gone on with -/
theorem c_ahead {σ : ZS} {bk : Nat} {P : Nat → Nat} {on fo : Nat → Int32} {len : Nat} {X : Nat → Nat → Int32} (I : IV σ bk P on fo len X) : ∃ τ, xX5_copy 42 (sNow σ) (mkH σ) = some (mkH τ) ∧ CE τ P on fo len ∧ LV (P 0) (cV τ 42) (sF σ 104) ∧ FR scS scT σ τ := by
  obtain ⟨⟨W, F, E, C, -⟩, -, -, V, L, PR, -⟩ := I
  have hn0 := PR.1 0 _ (by omega) (PT_0 σ)
  obtain ⟨τ, t1, t2, t3⟩ := c_copy hn0.1 (st_42 (n := sK σ)) hn0.2
  refine ⟨τ, t1, ?_, by rw [t2]; exact L, sc_q t3⟩
  have hS := t3.1
  have hT := t3.2.1
  refine ⟨CP_f t3 (fun k z => by unfold qT at z; omega) C.1, ?_, ?_⟩
  · rw [hS 26 (fun z => by unfold qS at z; omega)]; exact C.2.1
  · unfold CFm
    rw [hT 21 15 (fun z => by unfold qT at z; omega), hS 27 (fun z => by unfold qS at z; omega)]
    exact C.2.2
theorem r_kept {σ : ZS} {bk : Nat} {P : Nat → Nat} {on fo : Nat → Int32} {len : Nat} (E : RE σ bk P on fo len) : ∃ τ, xX9_keepNow 78 (mkH σ) = some (mkH τ) ∧ RE τ bk P on fo len ∧ sF τ 104 = sF σ 104 ∧ (∀ j, j < 521 → sF τ 105 j = sF σ 104 j) ∧ FR (fun a => scS a ∨ a = 104) scT σ τ := by
  obtain ⟨τ, t1, t2, t3⟩ := r_keepNow σ
  have hc : ∀ a, a ≠ 105 → sF τ a = sF σ a := fun a h => t3.1 a h
  have hi : ∀ a k, sI τ a k = sI σ a k := fun a k => t3.2.1 a k (fun z => z)
  refine ⟨τ, t1, ⟨RP_f t3 (fun a h1 h2 z => by omega) (fun z => z) E.1, ?_, ?_, by rw [hi]; exact E.2.2.2⟩, hc 104 (by omega), t2, sc_5 t3⟩
  · rw [hc 95 (by omega)]; exact E.2.1
  · have := E.2.2.1
    unfold RFm at this ⊢
    rw [hc 90 (by omega), hc 96 (by omega), hc 97 (by omega), hc 99 (by omega), hc 100 (by omega)]
    exact this
theorem c_next1 {σ : ZS} {P : Nat → Nat} {s : Nat} (CB' : CB σ (P 0) (P 1)) (ha : 0 ≤ nI s ∧ nI s < nI (P 0)) : xX8_next 8 (nI s) (mkH σ) = (xX5_copy 42 (sNow σ) (mkH σ)).bind fun h21 => xX8_next_L26 zFU 8 (nI s) 1 h21 := by
  unfold xX8_next
  generalize xX8_next_L26 zFU = nl
  generalize xX5_copy = cp
  rw [rR_8_5, Option.bind_some, is_21, gu_t, c_isShip CB', Option.bind_some, if_pos ha]
  simp only [t10, if_false]
  rw [rR_8_7, Option.bind_some, rNow, Option.bind_some, is_S (σ := σ) (p := 42) st_42, gu_t]
theorem r_next1 {σ : ZS} {bk nsh nsl s : Nat} (B : RB σ bk nsh nsl) (ha : 0 ≤ nI s ∧ nI s < nI nsh) : xX9_next 78 (nI s) (mkH σ) = (xX9_keepNow 78 (mkH σ)).bind fun h11 => xX9_next_L18 zFU 78 (nI s) (-1) 1 h11 := by
  unfold xX9_next
  generalize xX9_next_L18 zFU = nl
  generalize xX9_keepNow = kn
  rw [is_78, gu_t, r_isShip B, Option.bind_some, if_pos ha]
  simp only [t10, if_false]
  rw [is_78, gu_t]
theorem c_next0 {σ : ZS} {P : Nat → Nat} {a : Int32} (CB' : CB σ (P 0) (P 1)) (ha : ¬ (0 ≤ a ∧ a < nI (P 0))) : xX8_next 8 a (mkH σ) = some (-1, mkH σ) := by
  unfold xX8_next
  generalize xX8_next_L26 zFU = nl
  rw [rR_8_5, Option.bind_some, is_21, gu_t, c_isShip CB', Option.bind_some, if_neg ha]
  simp only [if_true]
theorem r_next0 {σ : ZS} {bk nsh nsl : Nat} {a : Int32} (B : RB σ bk nsh nsl) (ha : ¬ (0 ≤ a ∧ a < nI nsh)) : xX9_next 78 a (mkH σ) = some (-1, mkH σ) := by
  unfold xX9_next
  generalize xX9_next_L18 zFU = nl
  rw [is_78, gu_t, r_isShip B, Option.bind_some, if_neg ha]
  simp only [if_true]
theorem q_next (a : Int32) : QOK (xX8_next 8 a) (xX9_next 78 a) := by
  refine Q_sc fun σ bk P on fo len X I => ?_
  obtain ⟨⟨W, F, E, C, -⟩, -, -, V, L, PR, -⟩ := id I
  have w0 := W.1
  have CB' := CP_B C.1 W
  have B := RP_B E.1 W
  by_cases ha : 0 ≤ a ∧ a < nI (P 0)
  · obtain ⟨s, hs, rfl⟩ := in_n (by omega) ha
    obtain ⟨τ0, t1, t2, t3, t4⟩ := c_ahead I
    obtain ⟨N, hN⟩ : ∃ N : Nat, N = 90 := ⟨_, rfl⟩
    obtain ⟨e, he⟩ := zfu N (by omega)
    obtain ⟨e2, he2⟩ := zfu (N + 1) (by omega)
    obtain ⟨τ, t5, t6⟩ := c_nextL W F (show s < 6 by omega) N 1 τ0 _ e (by omega) st_42 t2 t3 V
    have t7 : ∀ q, q = nI 1 → xX8_next_L26 (e + N + 1) 8 (nI s) q (mkH τ0) = some (nxS P on fo len s N 1 (sF σ 104), mkH τ) := by
      rintro q rfl
      exact t5
    refine ⟨nxS P on fo len s N 1 (sF σ 104), τ, ?_, FR_t t4 (sc_s t6), fun I2 h4 => ?_⟩
    · rw [c_next1 CB' ha, t1, Option.bind_some, he]
      exact t7 1 rfl
    · obtain ⟨⟨-, -, E2, -⟩, -, -, V2, -⟩ := I2
      obtain ⟨υ0, u1, u2, u3, u4, u5⟩ := r_kept E2
      obtain ⟨υ, v1, v2, v3⟩ := r_nextL W F (show s < 6 by omega) υ0 N 1 υ0 e2 (by omega) (by omega) FR_r u2 (by rw [u3]; exact V2)
      rw [u3, h4] at v1
      have v4 : ∀ q, q = nI 1 → xX9_next_L18 (e2 + N + 2) 78 (nI s) (-1) q (mkH υ0) = some (nxS P on fo len s N 1 (sF σ 104), mkH υ) := by
        rintro q rfl
        exact v1
      refine ⟨υ, ?_, FR_t u5 (sc_r v3), fun j hj => by rw [v2 j hj, u4 j hj]⟩
      rw [r_next1 (RP_B E2.1 W) ha, u1, Option.bind_some, he2, show e2 + (N + 1) + 1 = e2 + N + 2 by omega]
      exact v4 1 rfl
  · refine ⟨-1, σ, ?_, FR_r, fun I2 h4 => ⟨σ, ?_, sc_4 FR_r⟩⟩
    · exact c_next0 CB' ha
    · exact r_next0 B ha
