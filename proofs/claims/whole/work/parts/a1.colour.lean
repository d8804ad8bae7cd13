/-! the web widened; the reference's colours; colours -/
def wdN (lk : Nat → Nat) (a : Nat) : Nat := zf (fun b x => if !decide (thN lk a b = 0) then x ||| 2 ^ b else x) 0 6 (lk a)
theorem wd_bit {lk : Nat → Nat} {a t : Nat} : (wdN lk a).testBit t = ((lk a).testBit t || (decide (t < 6) && !decide (thN lk a t = 0))) := by
  unfold wdN
  rw [bs_bit (fun b => !decide (thN lk a b = 0))]
  congr 2
  exact decide_eq_decide.mpr (by omega)
theorem wd_lt {lk : Nat → Nat} {a : Nat} (h : lk a < 64) : wdN lk a < 64 := bs_lt (fun b => !decide (thN lk a b = 0)) 6 6 0 (lk a) (by omega) h
theorem c_wd1 {σ : ZS} {lit a : Nat} {lk : Nat → Nat} (w : WBp σ lit lk) (ha : a < 6) (r2 : Nat → Int32 → ZH → Option ZH) : xX7_widen_L22 r2 zFU 62 (nI a) 0 (mkH (setF σ 64 a (nI (lk a)))) = r2 62 (nI (a + 1)) (mkH (setF σ 64 a (nI (wdN lk a)))) := by
  have kc := lpZ (fun e k (x : Nat) => xX7_widen_L22 r2 e 62 (nI a) (nI k) (mkH (setF σ 64 a (nI x)))) (fun b x => if !decide (thN lk a b = 0) then x ||| 2 ^ b else x) 6 (fun _ _ => True) (fun x => r2 62 (nI (a + 1)) (mkH (setF σ 64 a (nI x)))) (by omega) ?_ ?_ 0 (by omega) (lk a) trivial
  · rw [nI_0] at kc
    exact kc.1
  · intro e k x hk _
    refine ⟨?_, trivial⟩
    have w' : WBp (setF σ 64 a (nI x)) lit lk := by
      refine ⟨w.1, w.2.1, fun b hb => ?_⟩
      rw [sF_ne (by omega)]
      exact w.2.2 b hb
    have hv : sF (setF σ 64 a (nI x)) 64 a = nI x := sF_eq
    have hw := wa_64 (setF σ 64 a (nI x)) (k := a) (nI (x ||| 2 ^ k)) ha
    rw [setF2] at hw
    show xX7_widen_B22 r2 (xX7_widen_L22 r2 e) 62 (nI a) (nI k) (mkH (setF σ 64 a (nI x))) = _
    generalize xX7_widen_L22 r2 e = nl
    unfold xX7_widen_B22
    rw [if_neg (fun z => by rw [nl_6] at z; have := (nI_leI (by omega) (by omega)).mp z; omega)]
    have hth : thN lk a k < 64 := by
      unfold thN
      split
      · omega
      · split
        · omega
        · exact Nat.lt_of_le_of_lt Nat.and_le_left (w.2.2 a ha).2
    have e2 : (nI (thN lk a k) = (0 : Int32)) = (thN lk a k = 0) := by rw [← nI_0]; exact nI_eq' (by omega) (by omega)
    simp only [is_62, gu_t, c_third w' ha hk, Option.bind_some, e2, rR_62_2, ra_64 (setF σ 64 a (nI x)) ha, hv, one_shl (show k < 32 by omega), nx_or, hw, nI_s]
    by_cases h : thN lk a k = 0
    · rw [if_pos h]
      simp only [h, decide_true, Bool.not_true, Bool.false_eq_true, if_false]
    · rw [if_neg h]
      simp only [h, decide_false, Bool.not_false, if_true]
  · intro e x _
    show xX7_widen_B22 r2 (xX7_widen_L22 r2 e) 62 (nI a) (nI 6) (mkH (setF σ 64 a (nI x))) = _
    unfold xX7_widen_B22
    rw [if_pos (show (6 : Int32) ≤ nI 6 by decide), nI_s]
theorem c_wd2 {σ τ : ZS} {lit : Nat} {lk : Nat → Nat} (h0 : sI τ 62 0 = nI lit) (hl : lit < 64) (hlt : ∀ a, a < 6 → lk a < 64) (hF : FR wS wT σ τ) (hw : ∀ a, a < 6 → sF τ 64 a = nI (lk a)) : ∃ υ, xX7_widen_L63 zFU 62 0 (mkH τ) = some (mkH υ) ∧ WBp υ lit lk ∧ FR wS wT σ υ := by
  obtain ⟨e, he⟩ := zfu 6 (by omega)
  have key := lpI (fun e k (υ : ZS) => xX7_widen_L63 e 62 (nI k) (mkH υ)) 6 (fun k υ => FR wS wT σ υ ∧ sI υ 62 0 = nI lit ∧ (∀ a, a < 6 → sF υ 64 a = nI (lk a)) ∧ ∀ a, a < k → sF υ 63 a = nI (lk a)) (fun v => ∃ υ, v = mkH υ ∧ WBp υ lit lk ∧ FR wS wT σ υ) ?_ ?_ 6 0 τ e (by omega) ⟨hF, h0, hw, fun a h => by omega⟩
  · obtain ⟨v, hv, υ, rfl, t2, t3⟩ := key
    refine ⟨υ, ?_, t2, t3⟩
    rw [he, ← nI_0]
    exact hv
  · rintro e k υ hk ⟨g1, g2, g3, g4⟩
    right
    refine ⟨setF υ 63 k (nI (lk k)), ?_, FR_t g1 (FR_F (by unfold wS; omega)), g2, fun a ha => ?_, fun a ha => ?_⟩
    · show xX7_widen_B63 (xX7_widen_L63 e) 62 (nI k) (mkH υ) = _
      unfold xX7_widen_B63
      rw [if_neg (fun z => by rw [nl_6] at z; have := (nI_leI (by omega) (by omega)).mp z; omega)]
      simp only [rR_62_1, rR_62_2, Option.bind_some, ra_64 υ hk, g3 k hk, wa_63 υ (k := k) (nI (lk k)) hk, nI_s]
    · rw [sF_ne (by omega)]
      exact g3 a ha
    · by_cases hak : a = k
      · rw [hak, sF_eq]
      · rw [sF_ne (by omega)]
        exact g4 a (by omega)
  · rintro e υ ⟨g1, g2, g3, g4⟩
    refine ⟨mkH υ, ?_, υ, rfl, ⟨g2, hl, fun a ha => ⟨g4 a ha, hlt a ha⟩⟩, g1⟩
    show xX7_widen_B63 (xX7_widen_L63 e) 62 (nI 6) (mkH υ) = _
    unfold xX7_widen_B63
    rw [if_pos (show (6 : Int32) ≤ nI 6 by decide)]
theorem c_widen {σ : ZS} {lit : Nat} {lk : Nat → Nat} (w : WBp σ lit lk) : ∃ τ, xX7_widen 62 (mkH σ) = some (mkH τ) ∧ WBp τ lit (wdN lk) ∧ FR wS wT σ τ := by
  obtain ⟨e, he⟩ := zfu 6 (by omega)
  have key := lpI (fun e k (τ : ZS) => xX7_widen_L2 e 62 (nI k) (mkH τ)) 6 (fun k τ => FR wS wT σ τ ∧ WBp τ lit lk ∧ ∀ a, a < k → sF τ 64 a = nI (wdN lk a)) (fun v => ∃ τ, v = mkH τ ∧ WBp τ lit (wdN lk) ∧ FR wS wT σ τ) ?_ ?_ 6 0 σ e (by omega) ⟨FR_r, w, fun a h => by omega⟩
  · obtain ⟨v, hv, τ, rfl, t2, t3⟩ := key
    refine ⟨τ, ?_, t2, t3⟩
    unfold xX7_widen
    rw [he, ← nI_0]
    exact hv
  · rintro e k τ hk ⟨hF, w2, hl2⟩
    right
    have hc := c_wd1 w2 hk (xX7_widen_L2 e)
    refine ⟨setF τ 64 k (nI (wdN lk k)), ?_, FR_t hF (FR_F (by unfold wS; omega)), ⟨w2.1, w2.2.1, fun b hb => by rw [sF_ne (by omega)]; exact w2.2.2 b hb⟩, fun a ha => ?_⟩
    · show xX7_widen_B2 (xX7_widen_L2 e) 62 (nI k) (mkH τ) = _
      unfold xX7_widen_B2
      rw [if_neg (fun z => by rw [nl_6] at z; have := (nI_leI (by omega) (by omega)).mp z; omega), rR_62_2, Option.bind_some, rR_62_1, Option.bind_some, ra_63 τ hk, Option.bind_some, (w2.2.2 k hk).1, wa_64 τ (k := k) (nI (lk k)) hk, Option.bind_some, hc]
    · by_cases hak : a = k
      · rw [hak, sF_eq]
      · rw [sF_ne (by omega)]
        exact hl2 a (by omega)
  · rintro e τ ⟨hF, w2, hl2⟩
    obtain ⟨υ, u1, u2, u3⟩ := c_wd2 (lk := wdN lk) w2.1 w2.2.1 (fun a ha => wd_lt (w2.2.2 a ha).2) hF hl2
    refine ⟨mkH υ, ?_, υ, rfl, u2, u3⟩
    show xX7_widen_B2 (xX7_widen_L2 e) 62 (nI 6) (mkH τ) = _
    unfold xX7_widen_B2
    rw [if_pos (show (6 : Int32) ≤ nI 6 by decide)]
    exact u1
/-- the reference: powers, digits -/
theorem r_pow (b n : Nat) (hn : n < 1000) (h : ZH) : xX9_power (nI b) (nI n) h = some (nI (b ^ n), h) := by
  have hz : ∀ m k x, zf (fun _ x => x * b) k m x = x * b ^ m := by
    intro m
    induction m with
    | zero => intro k x; rw [Nat.pow_zero, Nat.mul_one]; rfl
    | succ m ih => intro k x; rw [zf, ih, Nat.pow_succ, Nat.mul_assoc, Nat.mul_comm b]
  have kc := lpZ (fun e k (x : Nat) => xX9_power_L4 e (nI b) (nI n) (nI x) (nI k) h) (fun _ x => x * b) n (fun _ _ => True) (fun x => some (nI x, h)) (by omega) ?_ ?_ 0 (by omega) 1 trivial
  · rw [hz, Nat.one_mul, Nat.sub_zero, nI_0] at kc
    unfold xX9_power
    exact kc.1
  · intro e k x hk _
    refine ⟨?_, trivial⟩
    show xX9_power_B4 (xX9_power_L4 e) (nI b) (nI n) (nI x) (nI k) h = _
    unfold xX9_power_B4
    rw [if_neg (fun z => by have := (nI_leI (by omega) (by omega)).mp z; omega), pk_mul, nI_s]
  · intro e x _
    show xX9_power_B4 (xX9_power_L4 e) (nI b) (nI n) (nI x) (nI n) h = _
    unfold xX9_power_B4
    rw [if_pos (Int32.le_refl _)]
theorem pow_6 : ∀ b, b < 7 → ∀ k, k < 7 → b ^ k < 100000 ∧ (0 < b → 0 < b ^ k) := by decide +kernel
theorem r_digit {v k b : Nat} (hv : v < 2 ^ 31) (hk : k < 7) (hb : b < 7) (h0 : 0 < b) (h : ZH) : xX9_digitOf (nI v) (nI k) (nI b) h = some (nI (v / b ^ k % b), h) := by
  obtain ⟨p1, p2⟩ := pow_6 b hb k hk
  have p3 := p2 h0
  have hd : v / b ^ k < 2 ^ 31 := Nat.lt_of_le_of_lt (Nat.div_le_self _ _) hv
  unfold xX9_digitOf
  rw [r_pow b k (by omega), Option.bind_some]
  show (if nI (b ^ k) = 0 then none else if nI b = 0 then none else some (nI v / nI (b ^ k) - nI v / nI (b ^ k) / nI b * nI b, h)) = _
  rw [if_neg (nI_ne0 p3 (by omega)), if_neg (nI_ne0 h0 (by omega)), pk_div hv p3 (by omega), pk_rem hd h0 (by omega)]
def mdB (A on : Nat → Int32) (rg n : Nat) (w : Int32) (a b : Nat) : Bool := hrB A rg a b || (decide (w = 1) && !decide (hbN A on rg n a b = 0))
theorem hb_lt {A on : Nat → Int32} {rg n a b : Nat} (hn : n ≤ 6) : hbN A on rg n a b < 64 := by
  unfold hbN
  split
  · omega
  · split
    · exact Nat.lt_of_lt_of_le (bs_lt _ 6 n 0 0 (by omega) (by decide)) (by decide)
    · omega
section RC
variable {σ : ZS} {bk len : Nat} {P : Nat → Nat} {on fo : Nat → Int32}
theorem r_must {a b : Nat} (E : RE σ bk P on fo len) (W : PW P) (ha : a < P 0) (hb : b < P 0) (w : Int32) : xX9_mustDiffer 78 (nI a) (nI b) w (mkH σ) = some (if mdB (sF σ 104) on (P 2) (P 0) w a b then 1 else 0, mkH σ) := by
  have w0 := W.1
  have hl := hb_lt (A := sF σ 104) (on := on) (rg := P 2) (a := a) (b := b) w0
  have e2 : (nI (hbN (sF σ 104) on (P 2) (P 0) a b) = (0 : Int32)) = (hbN (sF σ 104) on (P 2) (P 0) a b = 0) := by rw [← nI_0]; exact nI_eq' (by omega) (by omega)
  simp only [xX9_mustDiffer, is_78, gu_t, r_hrB E.1 W (show a < 6 by omega) (show b < 6 by omega), Option.bind_some, r_hb E W ha hb, e2, mdB]
  by_cases h1 : hrB (sF σ 104) (P 2) a b = true
  · simp [h1]
  · by_cases hw : w = 1
    · by_cases hz : hbN (sF σ 104) on (P 2) (P 0) a b = 0
      · simp [h1, hw, hz]
      · simp [h1, hw, hz]
    · simp [h1, hw]
def colP (A on : Nat → Int32) (rg n base : Nat) (w : Int32) (v : Nat) : Prop := ∀ a, a < n → ∀ b, b < a → onA A on a = true → onA A on b = true → v / base ^ a % base = v / base ^ b % base → mdB A on rg n w a b = false
theorem r_isCol {v base : Nat} (E : RE σ bk P on fo len) (W : PW P) (hv : v < 2 ^ 31) (hb7 : base < 7) (hb0 : 0 < base) (w : Int32) : (colP (sF σ 104) on (P 2) (P 0) base w v → xX9_isColoured 78 (nI v) (nI base) w (mkH σ) = some (1, mkH σ)) ∧ (¬ colP (sF σ 104) on (P 2) (P 0) base w v → xX9_isColoured 78 (nI v) (nI base) w (mkH σ) = some (0, mkH σ)) := by
  have w0 := W.1
  have B := RP_B E.1 W
  have key := lpA (fun e a => xX9_isColoured_L3 e 78 (nI v) (nI base) w (nI a) (mkH σ)) (P 0) (fun a => ∀ b, b < a → onA (sF σ 104) on a = true → onA (sF σ 104) on b = true → v / base ^ a % base = v / base ^ b % base → mdB (sF σ 104) on (P 2) (P 0) w a b = false) (some (0, mkH σ)) (some (1, mkH σ)) (by omega) ?_ ?_
  · rw [nI_0] at key
    unfold xX9_isColoured
    refine ⟨fun h => key.1 h, fun h => key.2 ?_⟩
    apply Classical.byContradiction
    intro hn
    exact h (fun a ha => Classical.byContradiction fun z => hn ⟨a, ha, z⟩)
  · intro e a ha
    have inner := lpA (fun f b => xX9_isColoured_L15 (xX9_isColoured_L3 e) f 78 (nI v) (nI base) w (nI a) (nI b) (mkH σ)) a (fun b => onA (sF σ 104) on a = true → onA (sF σ 104) on b = true → v / base ^ a % base = v / base ^ b % base → mdB (sF σ 104) on (P 2) (P 0) w a b = false) (some (0, mkH σ)) (xX9_isColoured_L3 e 78 (nI v) (nI base) w (nI (a + 1)) (mkH σ)) (by omega) ?_ ?_
    · rw [nI_0] at inner
      have e1 : xX9_isColoured_L3 (e + 1) 78 (nI v) (nI base) w (nI a) (mkH σ) = xX9_isColoured_L15 (xX9_isColoured_L3 e) zFU 78 (nI v) (nI base) w (nI a) 0 (mkH σ) := by
        show xX9_isColoured_B3 (xX9_isColoured_L3 e) 78 (nI v) (nI base) w (nI a) (mkH σ) = _
        unfold xX9_isColoured_B3
        generalize xX9_isColoured_L15 (xX9_isColoured_L3 e) zFU = nl
        simp only [is_78, gu_t, r_lots B, Option.bind_some]
        rw [if_neg (fun z => by have := (nI_leI (by omega) (by omega)).mp z; omega)]
      refine ⟨fun h => e1.trans (inner.1 h), fun h => e1.trans (inner.2 ?_)⟩
      apply Classical.byContradiction
      intro hn
      exact h (fun b hb => Classical.byContradiction fun z => hn ⟨b, hb, z⟩)
    · intro f b hb
      have d1 : v / base ^ a % base < 2 ^ 31 := by have := Nat.mod_lt (v / base ^ a) hb0; omega
      have d2 : v / base ^ b % base < 2 ^ 31 := by have := Nat.mod_lt (v / base ^ b) hb0; omega
      have e1 : xX9_isColoured_L15 (xX9_isColoured_L3 e) (f + 1) 78 (nI v) (nI base) w (nI a) (nI b) (mkH σ) = if onA (sF σ 104) on a = true ∧ onA (sF σ 104) on b = true ∧ v / base ^ a % base = v / base ^ b % base ∧ mdB (sF σ 104) on (P 2) (P 0) w a b = true then some (0, mkH σ) else xX9_isColoured_L15 (xX9_isColoured_L3 e) f 78 (nI v) (nI base) w (nI a) (nI (b + 1)) (mkH σ) := by
        show xX9_isColoured_B15 (xX9_isColoured_L3 e) (xX9_isColoured_L15 (xX9_isColoured_L3 e) f) 78 (nI v) (nI base) w (nI a) (nI b) (mkH σ) = _
        generalize xX9_isColoured_L15 (xX9_isColoured_L3 e) f = nl
        simp only [xX9_isColoured_B15]
        rw [if_neg (fun z => by have := (nI_leI (by omega) (by omega)).mp z; omega)]
        simp only [is_78, gu_t, r_on E W ha, r_on E W (show b < P 0 by omega), Option.bind_some, r_digit hv (show a < 7 by omega) hb7 hb0, r_digit hv (show b < 7 by omega) hb7 hb0, nI_eq' d1 d2, r_must E W ha (show b < P 0 by omega), nI_s]
        by_cases h1 : onA (sF σ 104) on a = true
        · by_cases h2 : onA (sF σ 104) on b = true
          · by_cases h3 : v / base ^ a % base = v / base ^ b % base
            · by_cases h4 : mdB (sF σ 104) on (P 2) (P 0) w a b = true
              · simp [h1, h2, h3, h4]
              · simp [h1, h2, h3, h4]
            · simp [h1, h2, h3]
          · simp [h1, h2]
        · simp [h1]
      refine ⟨fun h => ?_, fun h => ?_⟩
      · rw [e1, if_neg (fun z => by rw [h z.1 z.2.1 z.2.2.1] at z; cases z.2.2.2)]
      · rw [e1, if_pos]
        refine ⟨Classical.byContradiction fun z => h (fun y => absurd y z), Classical.byContradiction fun z => h (fun _ y => absurd y z), Classical.byContradiction fun z => h (fun _ _ y => absurd y z), ?_⟩
        cases hm : mdB (sF σ 104) on (P 2) (P 0) w a b
        · exact absurd (fun _ _ _ => hm) h
        · rfl
    · intro f
      show xX9_isColoured_B15 (xX9_isColoured_L3 e) (xX9_isColoured_L15 (xX9_isColoured_L3 e) f) 78 (nI v) (nI base) w (nI a) (nI a) (mkH σ) = _
      unfold xX9_isColoured_B15
      rw [if_pos (Int32.le_refl _), nI_s]
  · intro e
    show xX9_isColoured_B3 (xX9_isColoured_L3 e) 78 (nI v) (nI base) w (nI (P 0)) (mkH σ) = _
    simp only [xX9_isColoured_B3, is_78, gu_t, r_lots B, Option.bind_some]
    rw [if_pos (Int32.le_refl _)]
theorem r_can {base : Nat} (E : RE σ bk P on fo len) (W : PW P) (hb7 : base < 7) (hb0 : 0 < base) (w : Int32) : ((∃ v, v < base ^ P 0 ∧ colP (sF σ 104) on (P 2) (P 0) base w v) → xX9_canColour 78 (nI base) w (mkH σ) = some (1, mkH σ)) ∧ ((¬ ∃ v, v < base ^ P 0 ∧ colP (sF σ 104) on (P 2) (P 0) base w v) → xX9_canColour 78 (nI base) w (mkH σ) = some (0, mkH σ)) := by
  have w0 := W.1
  have B := RP_B E.1 W
  obtain ⟨p1, -⟩ := pow_6 base hb7 (P 0) (by omega)
  have key := lpA (fun e v => xX9_canColour_L2 e 78 (nI base) w (nI v) (mkH σ)) (base ^ P 0) (fun v => ¬ colP (sF σ 104) on (P 2) (P 0) base w v) (some (1, mkH σ)) (some (0, mkH σ)) (by omega) ?_ ?_
  · rw [nI_0] at key
    unfold xX9_canColour
    exact ⟨fun ⟨v, h1, h2⟩ => key.2 ⟨v, h1, fun z => z h2⟩, fun h => key.1 (fun v hv z => h ⟨v, hv, z⟩)⟩
  · intro e v hv
    obtain ⟨c1, c2⟩ := r_isCol (v := v) E W (by omega) hb7 hb0 w
    have e1 : xX9_canColour_L2 (e + 1) 78 (nI base) w (nI v) (mkH σ) = (xX9_isColoured 78 (nI v) (nI base) w (mkH σ)).bind fun r18 => (if r18.1 = 0 then xX9_canColour_L2 e 78 (nI base) w (nI (v + 1)) r18.2 else some ((1 : Int32), r18.2)) := by
      show xX9_canColour_B2 (xX9_canColour_L2 e) 78 (nI base) w (nI v) (mkH σ) = _
      generalize xX9_canColour_L2 e = nl
      unfold xX9_canColour_B2
      generalize xX9_isColoured = ic
      simp only [is_78, gu_t, r_lots B, Option.bind_some, r_pow base (P 0) (show P 0 < 1000 by omega)]
      rw [if_neg (fun z => by have := (nI_leI (by omega) (by omega)).mp z; omega), nI_s]
    refine ⟨fun h => ?_, fun h => ?_⟩
    · rw [e1, c2 h, Option.bind_some]
      rfl
    · rw [e1, c1 (Classical.byContradiction h), Option.bind_some]
      rfl
  · intro e
    show xX9_canColour_B2 (xX9_canColour_L2 e) 78 (nI base) w (nI (base ^ P 0)) (mkH σ) = _
    unfold xX9_canColour_B2
    simp only [is_78, gu_t, r_lots B, Option.bind_some, r_pow base (P 0) (show P 0 < 1000 by omega)]
    rw [if_pos (Int32.le_refl _)]
end RC
/-- a number with given digits -/
def enc (d : Nat → Nat) (b : Nat) : Nat → Nat
  | 0 => 0
  | k + 1 => enc d b k + d k * b ^ k
theorem enc_lt {d : Nat → Nat} {b : Nat} (hd : ∀ k, d k < b) : ∀ n, enc d b n < b ^ n := by
  intro n
  induction n with
  | zero => exact Nat.one_pos
  | succ n ih =>
    show enc d b n + d n * b ^ n < b ^ (n + 1)
    have h1 : (d n + 1) * b ^ n ≤ b * b ^ n := Nat.mul_le_mul_right _ (hd n)
    rw [Nat.pow_succ, Nat.mul_comm (b ^ n)]
    rw [Nat.add_mul, Nat.one_mul] at h1
    omega
theorem enc_dig {d : Nat → Nat} {b : Nat} (hd : ∀ k, d k < b) : ∀ n k, k < n → enc d b n / b ^ k % b = d k := by
  have hb : 0 < b := Nat.lt_of_le_of_lt (Nat.zero_le _) (hd 0)
  intro n
  induction n with
  | zero => intro k hk; omega
  | succ n ih =>
    intro k hk
    show (enc d b n + d n * b ^ n) / b ^ k % b = d k
    rcases Nat.lt_or_ge k n with h | h
    · have e : d n * b ^ n = b ^ k * (b * (d n * b ^ (n - k - 1))) := by
        have : b ^ n = b ^ k * (b * b ^ (n - k - 1)) := by
          rw [← Nat.pow_succ', ← Nat.pow_add]
          congr 1
          omega
        rw [this]
        simp only [Nat.mul_left_comm, Nat.mul_comm, Nat.mul_assoc]
      rw [e, Nat.add_mul_div_left _ _ (Nat.pow_pos hb), Nat.add_mul_mod_self_left]
      exact ih k h
    · have : k = n := by omega
      subst this
      rw [Nat.mul_comm, Nat.add_mul_div_left _ _ (Nat.pow_pos hb), Nat.div_eq_of_lt (enc_lt hd k), Nat.zero_add, Nat.mod_eq_of_lt (hd k)]
/-- the rows of links that colours goes by -/
def rwN (A on : Nat → Int32) (rg n : Nat) (w : Int32) : Nat → Nat := if w = 1 then wdN (lkN A on rg n) else lkN A on rg n
theorem rw_in {A on : Nat → Int32} {rg n a b : Nat} {w : Int32} (hn : n ≤ 6) (ha : a < n) (hb : b < n) (hab : a ≠ b) (h1 : onA A on a = true) (h2 : onA A on b = true) : (rwN A on rg n w a).testBit b = mdB A on rg n w a b := by
  have hl : (lkN A on rg n a).testBit b = hrB A rg a b := by
    rw [lk_bit, lk_in ha hb hab, h1, h2, decide_eq_true (show b < 6 by omega)]
    rfl
  unfold rwN mdB
  by_cases hw : w = 1
  · rw [if_pos hw, wd_bit, hl, th_eq hn ha hb, decide_eq_true (show b < 6 by omega), decide_eq_true hw]
  · rw [if_neg hw, hl, decide_eq_false hw]
    simp
theorem hb_sy {A on : Nat → Int32} {rg n a b : Nat} (hn : n ≤ 6) (ha : a < n) (hb : b < n) : hbN A on rg n a b = hbN A on rg n b a := by
  rw [← th_eq hn ha hb, ← th_eq hn hb ha]
  unfold thN
  by_cases hab : a = b
  · rw [if_pos hab, if_pos hab.symm]
  · rw [if_neg hab, if_neg (show ¬ b = a from fun z => hab z.symm), lk_bit, lk_bit, lk_sy A on rg n a b, decide_eq_true (show b < 6 by omega), decide_eq_true (show a < 6 by omega), Nat.and_comm (lkN A on rg n a)]
theorem md_sy {A on : Nat → Int32} {rg n a b : Nat} {w : Int32} (hn : n ≤ 6) (ha : a < n) (hb : b < n) : mdB A on rg n w a b = mdB A on rg n w b a := by
  unfold mdB
  rw [hr_sy, hb_sy hn ha hb]
theorem can_iff {A on : Nat → Int32} {rg n base : Nat} {w : Int32} (hn : n ≤ 6) (hb0 : 0 < base) : (∃ v, v < base ^ n ∧ colP A on rg n base w v) ↔ Col (rwN A on rg n w) (litN A on n) base := by
  have hin : ∀ t, (litN A on n).testBit t = true → t < n ∧ onA A on t = true := fun t ht => by
    rw [lit_bit] at ht
    simpa using ht
  have hirr : ∀ a, a < n → (rwN A on rg n w a).testBit a = false := fun a ha => by
    have h0 : (lkN A on rg n a).testBit a = false := by
      rw [lk_bit]
      unfold lkB
      simp
    unfold rwN
    split
    · rw [wd_bit, h0]
      unfold thN
      simp
    · exact h0
  constructor
  · rintro ⟨v, hv, hc⟩
    refine ⟨fun a => v / base ^ a % base, fun a _ _ => Nat.mod_lt _ hb0, fun a b _ _ h1 h2 h3 => ?_⟩
    obtain ⟨a1, a2⟩ := hin a h1
    obtain ⟨b1, b2⟩ := hin b h2
    have hab : a ≠ b := by
      rintro rfl
      rw [hirr a a1] at h3
      cases h3
    rw [rw_in hn a1 b1 hab a2 b2] at h3
    intro z
    have z' : v / base ^ a % base = v / base ^ b % base := z
    rcases Nat.lt_or_gt_of_ne hab with h | h
    · have := hc b b1 a h b2 a2 z'.symm
      rw [md_sy hn b1 a1, h3] at this
      cases this
    · have := hc a a1 b h a2 b2 z'
      rw [h3] at this
      cases this
  · rintro ⟨c, c1, c2⟩
    have hd : ∀ k, (fun k => if k < 6 ∧ (litN A on n).testBit k = true then c k else 0) k < base := fun k => by
      show (if k < 6 ∧ (litN A on n).testBit k = true then c k else 0) < base
      split
      · rename_i h; exact c1 k h.1 h.2
      · exact hb0
    refine ⟨enc (fun k => if k < 6 ∧ (litN A on n).testBit k = true then c k else 0) base n, enc_lt hd n, fun a ha b hb h1 h2 h3 => ?_⟩
    have hb' : b < n := by omega
    rw [enc_dig hd n a ha, enc_dig hd n b hb'] at h3
    have la : (litN A on n).testBit a = true := by rw [lit_bit, decide_eq_true ha, h1]; rfl
    have lb : (litN A on n).testBit b = true := by rw [lit_bit, decide_eq_true hb', h2]; rfl
    have h3' : (if a < 6 ∧ (litN A on n).testBit a = true then c a else 0) = (if b < 6 ∧ (litN A on n).testBit b = true then c b else 0) := h3
    rw [if_pos ⟨by omega, la⟩, if_pos ⟨by omega, lb⟩] at h3'
    cases hm : mdB A on rg n w a b
    · rfl
    · exfalso
      rw [← rw_in hn ha hb' (by omega) h1 h2] at hm
      exact c2 a b (by omega) (by omega) la lb hm h3'
theorem r_colL {σ : ZS} {bk len v : Nat} {P : Nat → Nat} {on fo : Nat → Int32} {w : Int32} (E : RE σ bk P on fo len) (W : PW P) (hc : chi (rwN (sF σ 104) on (P 2) (P 0) w) (litN (sF σ 104) on (P 0)) v) : ∀ m k e, 1 ≤ k → k + m = v → xX9_colours_L22 (e + m + 1) 78 w (nI k) (mkH σ) = some (nI v, mkH σ) := by
  have w0 := W.1
  have v6 := hc.1
  intro m
  induction m with
  | zero =>
    intro k e hk hkm
    have : k = v := by omega
    subst this
    have h := (r_can E W (show k < 7 by omega) (by omega) w).1 ((can_iff w0 (by omega)).mpr hc.2.1)
    show xX9_colours_B22 (xX9_colours_L22 (e + 0)) 78 w (nI k) (mkH σ) = _
    unfold xX9_colours_B22
    rw [is_78, gu_t, h, Option.bind_some]
    rfl
  | succ m ih =>
    intro k e hk hkm
    have h := (r_can E W (show k < 7 by omega) (by omega) w).2 (fun z => by
      have := hc.2.2 k ((can_iff w0 (by omega)).mp z)
      omega)
    have hh := ih (k + 1) e (by omega) (by omega)
    rw [← hh]
    show xX9_colours_B22 (xX9_colours_L22 (e + (m + 1))) 78 w (nI k) (mkH σ) = _
    unfold xX9_colours_B22
    rw [is_78, gu_t, h, Option.bind_some]
    show (if (0 : Int32) = 0 then xX9_colours_L22 (e + (m + 1)) 78 w (nI k + 1) (mkH σ) else _) = _
    rw [if_pos rfl, nI_s, show e + (m + 1) = e + m + 1 by omega]
theorem q_colours (w : Int32) : QOK (xX8_colours 8 w) (xX9_colours 78 w) := by
  rintro σ ⟨bk, P, on, fo, len, X, I⟩
  by_cases h01 : w = 0 ∨ w = 1
  · obtain ⟨τ, t1, t2, t3, I2, t5⟩ := k_now I
    have w0 := I.1.1.1
    rw [← t5] at t2
    have hirr : irr (rwN (sF τ 104) on (P 2) (P 0) w) := fun a ha => by
      have h0 : (lkN (sF τ 104) on (P 2) (P 0) a).testBit a = false := by
        rw [lk_bit]
        unfold lkB
        simp
      unfold rwN
      split
      · rw [wd_bit, h0]
        unfold thN
        simp
      · exact h0
    have hC : ∃ υ v, xX8_colours 8 w (mkH σ) = some (nI v, mkH υ) ∧ chi (rwN (sF τ 104) on (P 2) (P 0) w) (litN (sF τ 104) on (P 0)) v ∧ FR wS wT τ υ := by
      rcases h01 with rfl | rfl
      · have e0 : rwN (sF τ 104) on (P 2) (P 0) 0 = lkN (sF τ 104) on (P 2) (P 0) := if_neg (by decide)
        rw [e0] at hirr ⊢
        obtain ⟨υ, v, u1, u2, u3⟩ := c_few hirr t2
        refine ⟨υ, v, ?_, u2, FR_m u3 (fun a z => by unfold fS at z; unfold wS; omega) (fun _ _ z => z.elim)⟩
        unfold xX8_colours
        rw [if_pos rfl]
        unfold xX8_colours_B11
        generalize xX7_fewestColours = fc at *
        generalize xX7_knot = kn at *
        simp only [rR_8_10, rNow, Option.bind_some, is_62, gu_t, t1, u1, t01, if_false]
      · have e0 : rwN (sF τ 104) on (P 2) (P 0) 1 = wdN (lkN (sF τ 104) on (P 2) (P 0)) := if_pos rfl
        rw [e0] at hirr ⊢
        obtain ⟨τ2, s1, s2, s3⟩ := c_widen t2
        obtain ⟨υ, v, u1, u2, u3⟩ := c_few hirr s2
        refine ⟨υ, v, ?_, u2, FR_t s3 (FR_m u3 (fun a z => by unfold fS at z; unfold wS; omega) (fun _ _ z => z.elim))⟩
        unfold xX8_colours
        rw [if_neg (by decide), if_pos rfl]
        unfold xX8_colours_B11
        generalize xX7_fewestColours = fc at *
        generalize xX7_widen = wd at *
        generalize xX7_knot = kn at *
        simp only [rR_8_10, rNow, Option.bind_some, is_62, gu_t, t1, s1, u1, if_true]
    obtain ⟨υ, v, u1, u2, u3⟩ := hC
    have h4 := sc_4 (sc_wb u3)
    have I3 := IV_q h4.1 h4.2 I2
    have t6 : sF υ 104 = sF τ 104 := u3.1 104 (fun z => by unfold wS at z; omega)
    obtain ⟨⟨W, F, E, C, -⟩, -⟩ := id I3
    rw [← t6] at u2
    have hl := lit_lt (A := sF υ 104) (on := on) w0
    refine ⟨nI v, υ, υ, u1, ?_, ⟨(FR_X u3).trans (FR_X t3), (FR_X u3).trans (FR_X t3)⟩, bk, P, on, fo, len, X, I3⟩
    have hin : 0 ≤ w ∧ w ≤ 1 := by rcases h01 with rfl | rfl <;> decide
    unfold xX9_colours
    rw [r_isIn, Option.bind_some, if_pos hin, if_neg (show ¬ (1 : Int32) = 0 by decide)]
    show z_gu (z_is (mkH υ) 78 9) ((xX9_litNow 78 (mkH υ)).bind fun r12 => (if r12.1 = 0 then some ((0 : Int32), r12.2) else xX9_colours_L22 zFU 78 w (1 : Int32) r12.2)) = _
    rw [is_78, gu_t, r_litN E W, Option.bind_some]
    by_cases hz : litN (sF υ 104) on (P 0) = 0
    · rw [hz] at u2 ⊢
      have : v = 0 := by
        have := u2.2.2 0 (col_0 _ 0)
        omega
      rw [this]
      rfl
    · have hv1 : 1 ≤ v := by
        rcases Nat.eq_zero_or_pos v with h | h
        · exfalso
          rw [h] at u2
          obtain ⟨-, -, -, -, -, h5, -⟩ := col_sub (by omega) hz u2.2.1
          omega
        · exact h
      obtain ⟨e, he⟩ := zfu (v - 1) (by have := u2.1; omega)
      have hh := r_colL E W u2 (v - 1) 1 e (Nat.le_refl _) (by omega)
      rw [← he] at hh
      show (if nI (litN (sF υ 104) on (P 0)) = 0 then _ else _) = _
      rw [if_neg (nI_ne0 (by omega) (by omega))]
      exact hh
  · have n0 : ¬ w = 0 := fun z => h01 (Or.inl z)
    have n1 : ¬ w = 1 := fun z => h01 (Or.inr z)
    refine ⟨-1, σ, σ, ?_, ?_, ⟨rfl, rfl⟩, bk, P, on, fo, len, X, I⟩
    · unfold xX8_colours
      rw [if_neg n0, if_neg n1]
    · have hn : ¬ (0 ≤ w ∧ w ≤ 1) := fun z => by
        obtain ⟨j, hj, e⟩ := nI_of2 (x := w) (M := 1) (n := 1) (by decide) (Int32.not_lt.mpr z.1) z.2
        rcases (show j = 0 ∨ j = 1 by omega) with rfl | rfl
        · exact n0 e
        · exact n1 e
      unfold xX9_colours
      rw [r_isIn, Option.bind_some, if_neg hn, if_pos rfl]
