/-! odds, near -/
def cdv : Nat → Nat → Nat → Nat
  | 0, a, _ => a
  | f + 1, a, b => if b = 0 then a else cdv f b (a % b)
def cdz : Nat → Nat → Nat → Bool
  | 0, _, b => decide (b = 0)
  | f + 1, a, b => if b = 0 then true else cdz f b (a % b)
theorem cd_all : ∀ n, n < 5 → ∀ f, f < 101 → cdz 64 (100 ^ n) ((100 - f) ^ n) = true ∧ 0 < cdv 64 (100 ^ n) ((100 - f) ^ n) ∧ cdv 64 (100 ^ n) ((100 - f) ^ n) < 2 ^ 31 ∧ 100 ^ n < 2 ^ 31 ∧ (100 - f) ^ n < 2 ^ 31 := by decide +kernel
theorem c_cdv : ∀ (f a b i e : Nat) (h : ZH), i + f = 64 → a < 2 ^ 31 → b < 2 ^ 31 → xX8_commonDivisor_L2 (e + f + 1) (nI a) (nI b) (nI i) h = some (nI (cdv f a b), h) := by
  intro f
  induction f with
  | zero =>
    intro a b i e h hi ha hb
    show xX8_commonDivisor_B2 (xX8_commonDivisor_L2 (e + 0)) (nI a) (nI b) (nI i) h = _
    unfold xX8_commonDivisor_B2
    rw [if_pos (show (64 : Int32) ≤ nI i by rw [show i = 64 by omega]; decide)]
    rfl
  | succ f ih =>
    intro a b i e h hi ha hb
    show xX8_commonDivisor_B2 (xX8_commonDivisor_L2 (e + (f + 1))) (nI a) (nI b) (nI i) h = _
    unfold xX8_commonDivisor_B2
    rw [if_neg (fun z => by rw [show (64 : Int32) = nI 64 from rfl] at z; have := (nI_leI (by omega) (by omega)).mp z; omega)]
    by_cases h0 : b = 0
    · subst h0
      rw [if_pos nI_0]
      rfl
    · have hn := nI_ne0 (show 0 < b by omega) hb
      have hm := Nat.mod_lt a (show 0 < b by omega)
      rw [if_neg hn, if_neg hn, pk_rem ha (by omega) hb, nI_s, show e + (f + 1) = e + f + 1 by omega, ih b (a % b) (i + 1) e h (by omega) hb (by omega)]
      show _ = some (nI (if b = 0 then a else cdv f b (a % b)), h)
      rw [if_neg h0]
theorem r_cdv : ∀ (f a b e : Nat) (h : ZH), a < 2 ^ 31 → b < 2 ^ 31 → cdz f a b = true → xX9_divisor_L4 (e + f + 1) (nI a) (nI b) h = some (nI (cdv f a b), h) := by
  intro f
  induction f with
  | zero =>
    intro a b e h ha hb hz
    have : b = 0 := of_decide_eq_true hz
    subst this
    show xX9_divisor_B4 (xX9_divisor_L4 (e + 0)) (nI a) (nI 0) h = _
    unfold xX9_divisor_B4
    rw [if_pos (show nI 0 ≤ 0 by decide)]
    rfl
  | succ f ih =>
    intro a b e h ha hb hz
    show xX9_divisor_B4 (xX9_divisor_L4 (e + (f + 1))) (nI a) (nI b) h = _
    unfold xX9_divisor_B4
    by_cases h0 : b = 0
    · subst h0
      rw [if_pos (show nI 0 ≤ 0 by decide)]
      rfl
    · have hn := nI_ne0 (show 0 < b by omega) hb
      have hm := Nat.mod_lt a (show 0 < b by omega)
      have hz2 : (if b = 0 then true else cdz f b (a % b)) = true := hz
      rw [if_neg h0] at hz2
      rw [if_neg (nI_nle (by omega) hb), if_neg hn, pk_rem ha (by omega) hb, show e + (f + 1) = e + f + 1 by omega, ih b (a % b) e h hb (by omega) hz2]
      show _ = some (nI (if b = 0 then a else cdv f b (a % b)), h)
      rw [if_neg h0]
theorem q_odds (a b : Int32) : QOK (xX8_odds 8 a b) (xX9_odds 78 a b) := by
  refine Q_rd fun σ ⟨bk, P, on, fo, len, X, I⟩ => ?_
  obtain ⟨⟨W, F, E, C, -⟩, -⟩ := I
  have w6 : P 6 ≤ 100 := W.2.2.2.2.2.2.2.2.2.1
  by_cases hab : (0 ≤ a ∧ a ≤ 4) ∧ 0 ≤ b ∧ b ≤ 1
  · obtain ⟨n, hn, rfl⟩ := nI_of2 (x := a) (M := 4) (n := 4) (by decide) (Int32.not_lt.mpr hab.1.1) hab.1.2
    obtain ⟨c1, c2, c3, c4, c5⟩ := cd_all n (by omega) (P 6) (by omega)
    have hz : ∀ m k (s : Nat × Nat), zf (fun _ (s : Nat × Nat) => (s.1 * (100 - P 6), s.2 * 100)) k m s = (s.1 * (100 - P 6) ^ m, s.2 * 100 ^ m) := by
      intro m
      induction m with
      | zero => intro k s; simp [zf]
      | succ m ih =>
        intro k s
        rw [zf, ih]
        simp only [Nat.pow_succ, Nat.mul_assoc, Nat.mul_comm]
    have hf : (100 : Int32) - nI (P 6) = nI (100 - P 6) := by rw [nl_100, pk_sub w6]
    have kc := lpZ (fun e k (s : Nat × Nat) => xX8_odds_L28 e 8 (nI n) b (nI s.1) (nI s.2) (nI k) (mkH σ)) (fun _ s => (s.1 * (100 - P 6), s.2 * 100)) n (fun _ _ => True) (fun s => xX8_odds_B60 b (nI s.1) (nI s.2) (mkH σ)) (by omega) ?_ ?_ 0 (by omega) (1, 1) trivial
    · rw [hz, Nat.sub_zero, nI_0] at kc
      have k1 := kc.1
      simp only [Nat.one_mul] at k1
      generalize hl : 100 ^ n = lo at *
      generalize hu : (100 - P 6) ^ n = up at *
      generalize hg : cdv 64 lo up = g at *
      obtain ⟨e, he⟩ := zfu 64 (by omega)
      have hcd : xX8_commonDivisor (nI lo) (nI up) (mkH σ) = some (nI g, mkH σ) := by
        unfold xX8_commonDivisor
        rw [he, ← nI_0, c_cdv 64 lo up 0 e (mkH σ) (by omega) c4 c5, hg]
      have hrd : xX9_divisor (nI lo) (nI up) (mkH σ) = some (nI g, mkH σ) := by
        unfold xX9_divisor
        rw [he, r_cdv 64 lo up e (mkH σ) c4 c5 c1, hg]
      have hne := nI_ne0 c2 c3
      refine ⟨if b = 0 then nI up / nI g else nI lo / nI g, ?_, ?_⟩
      · unfold xX8_odds
        rw [if_neg (Int32.not_lt.mpr hab.1.1), if_neg (Int32.not_lt.mpr hab.1.2), if_neg (Int32.not_lt.mpr hab.2.1), if_pos hab.2.2]
        refine k1.trans ?_
        unfold xX8_odds_B60
        rw [hcd, Option.bind_some]
        show (if nI g = 0 then _ else (if b = 0 then (if nI g = 0 then none else some ((nI up / nI g), mkH σ)) else (if nI g = 0 then none else some ((nI lo / nI g), mkH σ)))) = _
        rw [if_neg hne]
        by_cases hb : b = 0
        · rw [if_pos hb, if_neg hne, if_pos hb]
        · rw [if_neg hb, if_neg hne, if_neg hb]
      · unfold xX9_odds
        generalize xX9_divisor = dv at *
        simp only [r_isIn, Option.bind_some, if_pos hab.1, if_pos hab.2, t10, if_false, rR_78_18, rI_78_34, E.1.1, ra_88 σ E.1.2.1, E.1.2.2.2.2.2.2.2.2.1, hf]
        rw [r_pow (100 - P 6) n (by omega), Option.bind_some, nl_100, r_pow 100 n (by omega), Option.bind_some, hl, hu]
        simp only [hrd, Option.bind_some]
        by_cases hb : b = 0
        · rw [if_pos hb, if_neg hne, if_pos hb]
        · rw [if_neg hb, if_neg hne, if_neg hb]
    · intro e k s hk _
      refine ⟨?_, trivial⟩
      show xX8_odds_B28 (xX8_odds_L28 e) 8 (nI n) b (nI s.1) (nI s.2) (nI k) (mkH σ) = _
      unfold xX8_odds_B28
      rw [if_neg (fun z => by have := (nI_leI (by omega) (by omega)).mp z; omega)]
      simp only [rR_8_5, Option.bind_some, rI_21_5, C.1.2.2.2.2.2.2.1, nl_100, pk_sub w6, pk_mul, nI_s]
    · intro e s _
      show xX8_odds_B28 (xX8_odds_L28 e) 8 (nI n) b (nI s.1) (nI s.2) (nI n) (mkH σ) = _
      unfold xX8_odds_B28
      rw [if_pos (Int32.le_refl _)]
  · refine ⟨-1, ?_, ?_⟩
    · unfold xX8_odds
      by_cases h1 : a < 0
      · rw [if_pos h1]
      · rw [if_neg h1]
        by_cases h2 : (4 : Int32) < a
        · rw [if_pos h2]
        · rw [if_neg h2]
          by_cases h3 : b < 0
          · rw [if_pos h3]
          · rw [if_neg h3, if_neg (fun z => hab ⟨⟨Int32.not_lt.mp h1, Int32.not_lt.mp h2⟩, Int32.not_lt.mp h3, z⟩)]
    · unfold xX9_odds
      rw [r_isIn, Option.bind_some]
      by_cases h1 : 0 ≤ a ∧ a ≤ 4
      · rw [if_pos h1, if_neg (show ¬ (1 : Int32) = 0 by decide), r_isIn, Option.bind_some, if_neg (fun z => hab ⟨h1, z⟩), if_pos rfl]
      · rw [if_neg h1, if_pos rfl]
/-! near -/
def insL (d : Int32 → Int32) (o : Int32) : Nat → (Nat → Int32) → Nat → Int32
  | 0, R => up1 R 0 o
  | k + 1, R => if d (R k) ≤ d o then up1 R (k + 1) o else insL d o k (up1 R (k + 1) (R k))
theorem ins_ag {d : Int32 → Int32} {o : Int32} {l : Nat} : ∀ k (R R' : Nat → Int32), k ≤ l → (∀ i, i ≤ l → i ≠ k → R i = R' i) → ∀ i, i ≤ l → insL d o k R i = insL d o k R' i := by
  intro k
  induction k with
  | zero =>
    intro R R' _ h i hi
    show up1 R 0 o i = up1 R' 0 o i
    by_cases h0 : i = 0
    · rw [h0, up1_e, up1_e]
    · rw [up1_n h0, up1_n h0, h i hi h0]
  | succ k ih =>
    intro R R' hk h i hi
    show (if d (R k) ≤ d o then up1 R (k + 1) o else insL d o k (up1 R (k + 1) (R k))) i = (if d (R' k) ≤ d o then up1 R' (k + 1) o else insL d o k (up1 R' (k + 1) (R' k))) i
    rw [← h k (by omega) (by omega)]
    by_cases hc : d (R k) ≤ d o
    · rw [if_pos hc, if_pos hc]
      by_cases h0 : i = k + 1
      · rw [h0, up1_e, up1_e]
      · rw [up1_n h0, up1_n h0, h i hi h0]
    · rw [if_neg hc, if_neg hc]
      refine ih _ _ (by omega) (fun j hj hne => ?_) i hi
      by_cases h0 : j = k + 1
      · rw [h0, up1_e, up1_e]
      · rw [up1_n h0, up1_n h0, h j hj h0]
theorem ins_in {d : Int32 → Int32} {o n l : Nat} (ho : o < n) : ∀ k (R : Nat → Int32), k ≤ l → (∀ i, i ≤ l → i ≠ k → ∃ j, j < n ∧ R i = nI j) → ∀ i, i ≤ l → ∃ j, j < n ∧ insL d (nI o) k R i = nI j := by
  intro k
  induction k with
  | zero =>
    intro R _ h i hi
    show ∃ j, j < n ∧ up1 R 0 (nI o) i = nI j
    by_cases h0 : i = 0
    · rw [h0, up1_e]; exact ⟨o, ho, rfl⟩
    · rw [up1_n h0]; exact h i hi h0
  | succ k ih =>
    intro R hk h i hi
    show ∃ j, j < n ∧ (if d (R k) ≤ d (nI o) then up1 R (k + 1) (nI o) else insL d (nI o) k (up1 R (k + 1) (R k))) i = nI j
    by_cases hc : d (R k) ≤ d (nI o)
    · rw [if_pos hc]
      by_cases h0 : i = k + 1
      · rw [h0, up1_e]; exact ⟨o, ho, rfl⟩
      · rw [up1_n h0]; exact h i hi h0
    · rw [if_neg hc]
      refine ih _ (by omega) (fun j hj hne => ?_) i hi
      by_cases h0 : j = k + 1
      · rw [h0, up1_e]; exact h k (by omega) (by omega)
      · rw [up1_n h0]; exact h j hj h0
def dsS (A : Nat → Int32) (s : Nat) (x : Int32) : Int32 := farS A s (tn x)
def neF (A : Nat → Int32) (s o : Nat) (z : (Nat → Int32) × Nat) : (Nat → Int32) × Nat := if o = s then z else (insL (dsS A s) (nI o) z.2 z.1, z.2 + 1)
/-- what lies there: ships, at most as many as were gone through -/
def neI (n k : Nat) (z : (Nat → Int32) × Nat) : Prop := z.2 ≤ k ∧ ∀ i, i < z.2 → ∃ j, j < n ∧ z.1 i = nI j
theorem ne_I {A : Nat → Int32} {n s o : Nat} {z : (Nat → Int32) × Nat} (ho : o < n) (h : neI n o z) : neI n (o + 1) (neF A s o z) := by
  unfold neF
  by_cases hs : o = s
  · rw [if_pos hs]
    exact ⟨by have := h.1; omega, h.2⟩
  · rw [if_neg hs]
    exact ⟨by have := h.1; show z.2 + 1 ≤ o + 1; omega, fun i hi => ins_in ho z.2 z.1 (Nat.le_refl _) (fun j hj hne => h.2 j (by omega)) i (by have : i < z.2 + 1 := hi; omega)⟩
section NR
variable {σ : ZS} {P : Nat → Nat} {A : Nat → Int32}
theorem c_lay {s o : Nat} (hn : P 0 ≤ 6) (hs : s < P 0) (ho : o < P 0) : ∀ (k : Nat) (τ : ZS) (l e : Nat), isSt (sK τ) (sNow τ) → LV (P 0) (cV τ (sNow τ)) A → sI τ 8 16 = nI l → k < 6 → (∀ i, i < k → ∃ j, j < P 0 ∧ sF τ 77 i = nI j) → ∃ υ, xX8_layByDistance_L16 (e + k + 1) 8 (nI s) (nI o) (farS A s o) (nI k) (mkH τ) = some (mkH υ) ∧ sF υ 77 = insL (dsS A s) (nI o) k (sF τ 77) ∧ sI υ 8 16 = nI (l + 1) ∧ FR (fun a => a = 77) (fun a k => a = 8 ∧ k = 16) τ υ := by
  intro k
  have hd : ∀ j, j < P 0 → dsS A s (nI j) = farS A s j := fun j hj => by unfold dsS; rw [tn_n (by omega)]
  have hfin : ∀ (k : Nat) (τ : ZS) (l : Nat), k < 6 → sI τ 8 16 = nI l → ∃ υ, xX8_layByDistance_B64 8 (nI o) (nI k) (mkH τ) = some (mkH υ) ∧ sF υ 77 = up1 (sF τ 77) k (nI o) ∧ sI υ 8 16 = nI (l + 1) ∧ FR (fun a => a = 77) (fun a k => a = 8 ∧ k = 16) τ υ := by
    intro k τ l hk hl
    have h2 : sI (setF τ 77 k (nI o)) 8 16 = nI l := hl
    refine ⟨setI (setF τ 77 k (nI o)) 8 16 (nI (l + 1)), ?_, sF_up, sI_eq, FR_t (FR_F rfl) (FR_I ⟨rfl, rfl⟩)⟩
    simp only [xX8_layByDistance_B64, rR_8_15, Option.bind_some, wa_77 τ (k := k) (nI o) hk, rI_8_16, h2, nI_s, wI_8_16]
  induction k with
  | zero =>
    intro τ l e hp L hl hk hR
    obtain ⟨υ, u1, u2, u3, u4⟩ := hfin 0 τ l hk hl
    refine ⟨υ, ?_, u2, u3, u4⟩
    show xX8_layByDistance_B16 (xX8_layByDistance_L16 (e + 0)) 8 (nI s) (nI o) (farS A s o) (nI 0) (mkH τ) = _
    unfold xX8_layByDistance_B16
    rw [if_pos (show nI 0 ≤ 0 by decide)]
    exact u1
  | succ k ih =>
    intro τ l e hp L hl hk hR
    obtain ⟨j, hj, ej⟩ := hR k (by omega)
    have hm : nI (k + 1) - (1 : Int32) = nI k := nI_pred k
    have hm2 : nI (k + 1) + (-1 : Int32) = nI k := pk_m1 k
    have hB : xX8_layByDistance_L16 (e + (k + 1) + 1) 8 (nI s) (nI o) (farS A s o) (nI (k + 1)) (mkH τ) = if farS A s j ≤ farS A s o then xX8_layByDistance_B64 8 (nI o) (nI (k + 1)) (mkH τ) else xX8_layByDistance_L16 (e + k + 1) 8 (nI s) (nI o) (farS A s o) (nI k) (mkH (setF τ 77 (k + 1) (nI j))) := by
      show xX8_layByDistance_B16 (xX8_layByDistance_L16 (e + (k + 1))) 8 (nI s) (nI o) (farS A s o) (nI (k + 1)) (mkH τ) = _
      unfold xX8_layByDistance_B16
      rw [if_neg (nI_nle (by omega) (by omega)), show e + (k + 1) = e + k + 1 by omega]
      generalize xX8_layByDistance_L16 (e + k + 1) = nl
      simp only [rNow, Option.bind_some, rR_8_15, hm, ra_77 τ (show k < 6 by omega), ej, is_S hp, gu_t, c_distance hp (show s < 6 by omega) (show j < 6 by omega), far_LV L hs hj, wa_77 τ (k := k + 1) (nI j) hk, hm2]
    rw [hB]
    have hi : insL (dsS A s) (nI o) (k + 1) (sF τ 77) = if farS A s j ≤ farS A s o then up1 (sF τ 77) (k + 1) (nI o) else insL (dsS A s) (nI o) k (up1 (sF τ 77) (k + 1) (nI j)) := by
      show (if dsS A s (sF τ 77 k) ≤ dsS A s (nI o) then up1 (sF τ 77) (k + 1) (nI o) else insL (dsS A s) (nI o) k (up1 (sF τ 77) (k + 1) (sF τ 77 k))) = _
      rw [ej, hd j hj, hd o ho]
    rw [hi]
    by_cases hc : farS A s j ≤ farS A s o
    · rw [if_pos hc, if_pos hc]
      exact hfin (k + 1) τ l hk hl
    · rw [if_neg hc, if_neg hc]
      have hF : FR (fun a => a = 77) (fun a k => a = 8 ∧ k = 16) τ (setF τ 77 (k + 1) (nI j)) := FR_F rfl
      have hp3 := st_in hp
      have hcV : cV (setF τ 77 (k + 1) (nI j)) (sNow τ) = cV τ (sNow τ) := cV_o hF (fun a h1 h2 z => by omega) (fun k z => by omega)
      obtain ⟨υ, u1, u2, u3, u4⟩ := ih (setF τ 77 (k + 1) (nI j)) l e hp (by show LV _ (cV (setF τ 77 (k + 1) (nI j)) (sNow τ)) A; rw [hcV]; exact L) hl (by omega) (fun i hi => by rw [sF_ne (by omega)]; exact hR i (by omega))
      refine ⟨υ, u1, ?_, u3, FR_t hF u4⟩
      rw [u2, sF_up]
theorem r_lay {bk s o : Nat} (W : PW P) (hs : s < P 0) (ho : o < P 0) (r17 : Nat → Int32 → Int32 → ZH → Option (Int32 × ZH)) : ∀ (k : Nat) (τ : ZS) (l e : Nat), RP τ bk P → sI τ 78 51 = nI l → sF τ 104 = A → k < 6 → (∀ i, i < k → ∃ j, j < P 0 ∧ sF τ 110 i = nI j) → ∃ υ, xX9_near_L38 r17 (e + k + 1) 78 (nI s) (nI o) (nI k) (mkH τ) = r17 78 (nI s) (nI (o + 1)) (mkH υ) ∧ sF υ 110 = insL (dsS A s) (nI o) k (sF τ 110) ∧ sI υ 78 51 = nI (l + 1) ∧ FR (fun a => a = 110) (fun a k => a = 78 ∧ k = 51) τ υ := by
  intro k
  have hn := W.1
  have hd : ∀ j, j < P 0 → dsS A s (nI j) = farS A s j := fun j hj => by unfold dsS; rw [tn_n (by omega)]
  have hfin : ∀ (k : Nat) (τ : ZS) (l : Nat), k < 6 → sI τ 78 51 = nI l → ∃ υ, xX9_near_B84 r17 78 (nI s) (nI o) (nI k) (mkH τ) = r17 78 (nI s) (nI (o + 1)) (mkH υ) ∧ sF υ 110 = up1 (sF τ 110) k (nI o) ∧ sI υ 78 51 = nI (l + 1) ∧ FR (fun a => a = 110) (fun a k => a = 78 ∧ k = 51) τ υ := by
    intro k τ l hk hl
    have h2 : sI (setF τ 110 k (nI o)) 78 51 = nI l := hl
    refine ⟨setI (setF τ 110 k (nI o)) 78 51 (nI (l + 1)), ?_, sF_up, sI_eq, FR_t (FR_F rfl) (FR_I ⟨rfl, rfl⟩)⟩
    simp only [xX9_near_B84, rR_78_50, Option.bind_some, wa_110 τ (k := k) (nI o) hk, rI_78_51, h2, nI_s, wI_78_51]
  induction k with
  | zero =>
    intro τ l e R hl hA hk hR
    obtain ⟨υ, u1, u2, u3, u4⟩ := hfin 0 τ l hk hl
    refine ⟨υ, ?_, u2, u3, u4⟩
    show xX9_near_B38 r17 (xX9_near_L38 r17 (e + 0)) 78 (nI s) (nI o) (nI 0) (mkH τ) = _
    unfold xX9_near_B38
    rw [if_pos (show nI 0 ≤ 0 by decide)]
    exact u1
  | succ k ih =>
    intro τ l e R hl hA hk hR
    obtain ⟨j, hj, ej⟩ := hR k (by omega)
    have hm : nI (k + 1) - (1 : Int32) = nI k := nI_pred k
    have hm2 : nI (k + 1) + (-1 : Int32) = nI k := pk_m1 k
    have hB : xX9_near_L38 r17 (e + (k + 1) + 1) 78 (nI s) (nI o) (nI (k + 1)) (mkH τ) = if farS A s j ≤ farS A s o then xX9_near_B84 r17 78 (nI s) (nI o) (nI (k + 1)) (mkH τ) else xX9_near_L38 r17 (e + k + 1) 78 (nI s) (nI o) (nI k) (mkH (setF τ 110 (k + 1) (nI j))) := by
      show xX9_near_B38 r17 (xX9_near_L38 r17 (e + (k + 1))) 78 (nI s) (nI o) (nI (k + 1)) (mkH τ) = _
      unfold xX9_near_B38
      rw [if_neg (nI_nle (by omega) (by omega)), show e + (k + 1) = e + k + 1 by omega]
      generalize xX9_near_L38 r17 (e + k + 1) = nl
      simp only [Option.bind_some, rR_78_50, hm, ra_110 τ (show k < 6 by omega), ej, is_78, gu_t, r_apart (σ := τ) (show s < 6 by omega) (show j < 6 by omega), r_apart (σ := τ) (show s < 6 by omega) (show o < 6 by omega), hA, wa_110 τ (k := k + 1) (nI j) hk, hm2]
    rw [hB]
    have hi : insL (dsS A s) (nI o) (k + 1) (sF τ 110) = if farS A s j ≤ farS A s o then up1 (sF τ 110) (k + 1) (nI o) else insL (dsS A s) (nI o) k (up1 (sF τ 110) (k + 1) (nI j)) := by
      show (if dsS A s (sF τ 110 k) ≤ dsS A s (nI o) then up1 (sF τ 110) (k + 1) (nI o) else insL (dsS A s) (nI o) k (up1 (sF τ 110) (k + 1) (sF τ 110 k))) = _
      rw [ej, hd j hj, hd o ho]
    rw [hi]
    by_cases hc : farS A s j ≤ farS A s o
    · rw [if_pos hc, if_pos hc]
      exact hfin (k + 1) τ l hk hl
    · rw [if_neg hc, if_neg hc]
      have hF : FR (fun a => a = 110) (fun a k => a = 78 ∧ k = 51) τ (setF τ 110 (k + 1) (nI j)) := FR_F rfl
      obtain ⟨υ, u1, u2, u3, u4⟩ := ih (setF τ 110 (k + 1) (nI j)) l e (RP_f hF (fun a h1 h2 z => by omega) (fun z => by omega) R) hl (by rw [hF.1 104 (by omega)]; exact hA) (by omega) (fun i hi => by rw [sF_ne (by omega)]; exact hR i (by omega))
      refine ⟨υ, u1, ?_, u3, FR_t hF u4⟩
      rw [u2, sF_up]
end NR
theorem ne_ag {A : Nat → Int32} {s o : Nat} {z z' : (Nat → Int32) × Nat} (h : z.2 = z'.2 ∧ ∀ i, i < z.2 → z.1 i = z'.1 i) : (neF A s o z).2 = (neF A s o z').2 ∧ ∀ i, i < (neF A s o z).2 → (neF A s o z).1 i = (neF A s o z').1 i := by
  unfold neF
  by_cases hs : o = s
  · rw [if_pos hs, if_pos hs]; exact h
  · rw [if_neg hs, if_neg hs]
    refine ⟨by show z.2 + 1 = z'.2 + 1; rw [h.1], fun i hi => ?_⟩
    have hi' : i < z.2 + 1 := hi
    show insL (dsS A s) (nI o) z.2 z.1 i = insL (dsS A s) (nI o) z'.2 z'.1 i
    rw [← h.1]
    exact ins_ag z.2 z.1 z'.1 (Nat.le_refl _) (fun j hj hne => h.2 j (by omega)) i (by omega)
theorem c_near {σ : ZS} {P : Nat → Nat} {A on fo : Nat → Int32} {len s : Nat} (hp : isSt (sK σ) (sNow σ)) (C : CE σ P on fo len) (W : PW P) (L : LV (P 0) (cV σ (sNow σ)) A) (hs : s < P 0) : ∃ τ, xX8_near 8 (nI s) (mkH σ) = some (nI (zf (neF A s) 0 (P 0) (sF σ 77, 0)).2, mkH τ) ∧ sF τ 77 = (zf (neF A s) 0 (P 0) (sF σ 77, 0)).1 ∧ sI τ 8 16 = nI (zf (neF A s) 0 (P 0) (sF σ 77, 0)).2 ∧ neI (P 0) (P 0) (zf (neF A s) 0 (P 0) (sF σ 77, 0)) ∧ FR (fun a => a = 77) (fun a k => a = 8 ∧ k = 16) σ τ := by
  have w0 := W.1
  have hp3 := st_in hp
  have hst : ∀ τ, FR (fun a => a = 77) (fun a k => a = 8 ∧ k = 16) σ τ → isSt (sK τ) (sNow τ) ∧ LV (P 0) (cV τ (sNow τ)) A ∧ sI τ 21 7 = nI (P 0) := fun τ hF => by
    refine ⟨by rw [FR_K hF, FR_now hF]; exact hp, ?_, by rw [hF.2.1 21 7 (by omega)]; exact C.1.1⟩
    rw [FR_now hF, cV_o hF (fun a h1 h2 z => by omega) (fun k z => by omega)]
    exact L
  obtain ⟨e, he⟩ := zfu (P 0) (by omega)
  have key := lpI (fun e k (τ : ZS) => xX8_near_L20 e 8 (nI s) (nI k) (mkH τ)) (P 0) (fun k τ => FR (fun a => a = 77) (fun a k => a = 8 ∧ k = 16) σ τ ∧ sF τ 77 = (zf (neF A s) 0 k (sF σ 77, 0)).1 ∧ sI τ 8 16 = nI (zf (neF A s) 0 k (sF σ 77, 0)).2 ∧ neI (P 0) k (zf (neF A s) 0 k (sF σ 77, 0))) (fun v => ∃ τ, v = (nI (zf (neF A s) 0 (P 0) (sF σ 77, 0)).2, mkH τ) ∧ sF τ 77 = (zf (neF A s) 0 (P 0) (sF σ 77, 0)).1 ∧ sI τ 8 16 = nI (zf (neF A s) 0 (P 0) (sF σ 77, 0)).2 ∧ neI (P 0) (P 0) (zf (neF A s) 0 (P 0) (sF σ 77, 0)) ∧ FR (fun a => a = 77) (fun a k => a = 8 ∧ k = 16) σ τ) ?_ ?_ (P 0) 0 (setI σ 8 16 0) e (by omega) ⟨FR_I ⟨rfl, rfl⟩, rfl, by rw [sI_eq]; rfl, Nat.le_refl _, fun i hi => absurd hi (Nat.not_lt_zero _)⟩
  · obtain ⟨v, hv, τ, rfl, h2, h3, h4, h5⟩ := key
    refine ⟨τ, ?_, h2, h3, h4, h5⟩
    have ha : 0 ≤ nI s ∧ nI s < nI (P 0) := ⟨nI_pos' (by omega), nI_lt hs (by omega)⟩
    have CB2 : CB (setI σ 8 16 0) (P 0) (P 1) := ⟨by rw [sI_ne (by omega)]; exact C.1.1, W.1, by rw [sI_ne (by omega)]; exact C.1.2.1, W.2.1, W.2.2.1⟩
    rw [← he, nI_0] at hv
    have e1 : xX8_near 8 (nI s) (mkH σ) = ((z_sF (mkH σ) 8 8 16 (.int (0 : Int32))).bind fun h2 => ((z_gR h2 8 8 5).bind fun x6 => (z_gu (z_is h2 x6 2) ((xX2_isShip x6 (nI s) h2).bind fun r10 => (if r10.1 = 0 then some ((-1 : Int32), r10.2) else xX8_near_L20 zFU 8 (nI s) (0 : Int32) r10.2))))) := rfl
    rw [e1]
    generalize xX8_near_L20 zFU = nl at *
    rw [wI_8_16, Option.bind_some, rR_8_5, Option.bind_some, is_21, gu_t, c_isShip CB2, Option.bind_some, if_pos ha]
    exact hv
  · rintro e k τ hk ⟨hF, h1, h2, h3⟩
    right
    obtain ⟨hpt, Lt, h21⟩ := hst τ hF
    rw [zf_l, Nat.zero_add]
    generalize zf (neF A s) 0 k (sF σ 77, 0) = z at h1 h2 h3
    have hB : xX8_near_L20 (e + 1) 8 (nI s) (nI k) (mkH τ) = if k = s then xX8_near_L20 e 8 (nI s) (nI (k + 1)) (mkH τ) else (xX8_layByDistance 8 (nI s) (nI k) (mkH τ)).bind fun h39 => xX8_near_L20 e 8 (nI s) (nI (k + 1)) h39 := by
      show xX8_near_B20 (xX8_near_L20 e) 8 (nI s) (nI k) (mkH τ) = _
      generalize xX8_near_L20 e = nl
      unfold xX8_near_B20
      generalize xX8_layByDistance = ly
      simp only [rR_8_5, Option.bind_some, rI_21_7, h21]
      rw [if_neg (fun z => by have := (nI_leI (by omega) (by omega)).mp z; omega)]
      simp only [nI_eq' (show k < 2 ^ 31 by omega) (show s < 2 ^ 31 by omega), is_8, gu_t, nI_s]
    show ∃ s', xX8_near_L20 (e + 1) 8 (nI s) (nI k) (mkH τ) = xX8_near_L20 e 8 (nI s) (nI (k + 1)) (mkH s') ∧ _
    rw [hB]
    by_cases hks : k = s
    · rw [if_pos hks]
      refine ⟨τ, rfl, hF, ?_, ?_, ne_I hk h3⟩
      · unfold neF; rw [if_pos hks]; exact h1
      · unfold neF; rw [if_pos hks]; exact h2
    · rw [if_neg hks]
      obtain ⟨e2, he2⟩ := zfu z.2 (by have := h3.1; omega)
      obtain ⟨υ, u1, u2, u3, u4⟩ := c_lay (P := P) (A := A) w0 hs hk z.2 τ z.2 e2 hpt Lt h2 (by have := h3.1; omega) (fun i hi => by rw [h1]; exact h3.2 i hi)
      rw [← he2] at u1
      have hl : xX8_layByDistance 8 (nI s) (nI k) (mkH τ) = some (mkH υ) := by
        have e3 : xX8_layByDistance 8 (nI s) (nI k) (mkH τ) = ((z_gR (mkH τ) 8 8 6).bind fun x1 => (z_gu (z_is (mkH τ) x1 5) ((xX5_distance x1 (nI s) (nI k) (mkH τ)).bind fun r6 => ((z_gI r6.2 8 8 16).bind fun x11 => xX8_layByDistance_L16 zFU 8 (nI s) (nI k) r6.1 x11 r6.2)))) := rfl
        rw [e3]
        generalize xX8_layByDistance_L16 zFU = nl at *
        rw [rNow, Option.bind_some, is_S hpt, gu_t, c_distance hpt (by omega) (by omega), far_LV Lt hs hk, Option.bind_some, rI_8_16, Option.bind_some, h2]
        exact u1
      rw [hl, Option.bind_some]
      refine ⟨υ, rfl, FR_t hF u4, ?_, ?_, ne_I hk h3⟩
      · unfold neF; rw [if_neg hks, u2, h1]
      · unfold neF; rw [if_neg hks]; exact u3
  · rintro e τ ⟨hF, h1, h2, h3⟩
    obtain ⟨-, -, h21⟩ := hst τ hF
    refine ⟨_, ?_, τ, rfl, h1, h2, h3, hF⟩
    show xX8_near_B20 (xX8_near_L20 e) 8 (nI s) (nI (P 0)) (mkH τ) = _
    simp only [xX8_near_B20, rR_8_5, Option.bind_some, rI_21_7, h21]
    rw [if_pos (Int32.le_refl _), rI_8_16, Option.bind_some, h2]
theorem r_near {σ : ZS} {bk s : Nat} {P : Nat → Nat} (R : RP σ bk P) (W : PW P) (hs : s < P 0) : ∃ τ, xX9_near 78 (nI s) (mkH σ) = some (nI (zf (neF (sF σ 104) s) 0 (P 0) (sF σ 110, 0)).2, mkH τ) ∧ sF τ 110 = (zf (neF (sF σ 104) s) 0 (P 0) (sF σ 110, 0)).1 ∧ sI τ 78 51 = nI (zf (neF (sF σ 104) s) 0 (P 0) (sF σ 110, 0)).2 ∧ FR (fun a => a = 110) (fun a k => a = 78 ∧ k = 51) σ τ := by
  have w0 := W.1
  obtain ⟨e, he⟩ := zfu (P 0) (by omega)
  have hRP : ∀ τ, FR (fun a => a = 110) (fun a k => a = 78 ∧ k = 51) σ τ → RP τ bk P := fun τ hF => RP_f hF (fun a h1 h2 z => by omega) (fun z => by omega) R
  have key := lpI (fun e k (τ : ZS) => xX9_near_L17 e 78 (nI s) (nI k) (mkH τ)) (P 0) (fun k τ => FR (fun a => a = 110) (fun a k => a = 78 ∧ k = 51) σ τ ∧ sF τ 110 = (zf (neF (sF σ 104) s) 0 k (sF σ 110, 0)).1 ∧ sI τ 78 51 = nI (zf (neF (sF σ 104) s) 0 k (sF σ 110, 0)).2 ∧ neI (P 0) k (zf (neF (sF σ 104) s) 0 k (sF σ 110, 0))) (fun v => ∃ τ, v = (nI (zf (neF (sF σ 104) s) 0 (P 0) (sF σ 110, 0)).2, mkH τ) ∧ sF τ 110 = (zf (neF (sF σ 104) s) 0 (P 0) (sF σ 110, 0)).1 ∧ sI τ 78 51 = nI (zf (neF (sF σ 104) s) 0 (P 0) (sF σ 110, 0)).2 ∧ FR (fun a => a = 110) (fun a k => a = 78 ∧ k = 51) σ τ) ?_ ?_ (P 0) 0 (setI σ 78 51 0) e (by omega) ⟨FR_I ⟨rfl, rfl⟩, rfl, by rw [sI_eq]; rfl, Nat.le_refl _, fun i hi => absurd hi (Nat.not_lt_zero _)⟩
  · obtain ⟨v, hv, τ, rfl, h2, h3, h5⟩ := key
    refine ⟨τ, ?_, h2, h3, h5⟩
    have ha : 0 ≤ nI s ∧ nI s < nI (P 0) := ⟨nI_pos' (by omega), nI_lt hs (by omega)⟩
    have B2 := RP_B (hRP (setI σ 78 51 0) (FR_I ⟨rfl, rfl⟩)) W
    rw [← he, nI_0] at hv
    have e1 : xX9_near 78 (nI s) (mkH σ) = ((z_sF (mkH σ) 78 9 51 (.int (0 : Int32))).bind fun h2 => (z_gu (z_is h2 78 9) ((xX9_isShip 78 (nI s) h2).bind fun r7 => (if r7.1 = 0 then some ((-1 : Int32), r7.2) else xX9_near_L17 zFU 78 (nI s) (0 : Int32) r7.2)))) := rfl
    rw [e1]
    generalize xX9_near_L17 zFU = nl at *
    rw [wI_78_51, Option.bind_some, is_78, gu_t, r_isShip B2, Option.bind_some, if_pos ha]
    exact hv
  · rintro e k τ hk ⟨hF, h1, h2, h3⟩
    right
    have Rt := hRP τ hF
    have B := RP_B Rt W
    rw [zf_l, Nat.zero_add]
    generalize zf (neF (sF σ 104) s) 0 k (sF σ 110, 0) = z at h1 h2 h3
    have hB : xX9_near_L17 (e + 1) 78 (nI s) (nI k) (mkH τ) = if k = s then xX9_near_L17 e 78 (nI s) (nI (k + 1)) (mkH τ) else xX9_near_L38 (xX9_near_L17 e) zFU 78 (nI s) (nI k) (nI z.2) (mkH τ) := by
      show xX9_near_B17 (xX9_near_L17 e) 78 (nI s) (nI k) (mkH τ) = _
      generalize xX9_near_L17 e = nl
      unfold xX9_near_B17
      generalize xX9_near_L38 nl zFU = n2
      simp only [is_78, gu_t, r_lots B, Option.bind_some]
      rw [if_neg (fun z => by have := (nI_leI (by omega) (by omega)).mp z; omega)]
      simp only [nI_eq' (show k < 2 ^ 31 by omega) (show s < 2 ^ 31 by omega), rI_78_51, h2, Option.bind_some, nI_s]
    show ∃ s', xX9_near_L17 (e + 1) 78 (nI s) (nI k) (mkH τ) = xX9_near_L17 e 78 (nI s) (nI (k + 1)) (mkH s') ∧ _
    rw [hB]
    by_cases hks : k = s
    · rw [if_pos hks]
      refine ⟨τ, rfl, hF, ?_, ?_, ne_I hk h3⟩
      · unfold neF; rw [if_pos hks]; exact h1
      · unfold neF; rw [if_pos hks]; exact h2
    · rw [if_neg hks]
      obtain ⟨e2, he2⟩ := zfu z.2 (by have := h3.1; omega)
      obtain ⟨υ, u1, u2, u3, u4⟩ := r_lay (P := P) (A := sF σ 104) W hs hk (xX9_near_L17 e) z.2 τ z.2 e2 Rt h2 (hF.1 104 (by omega)) (by have := h3.1; omega) (fun i hi => by rw [h1]; exact h3.2 i hi)
      rw [← he2] at u1
      rw [u1]
      refine ⟨υ, rfl, FR_t hF u4, ?_, ?_, ne_I hk h3⟩
      · unfold neF; rw [if_neg hks, u2, h1]
      · unfold neF; rw [if_neg hks]; exact u3
  · rintro e τ ⟨hF, h1, h2, h3⟩
    have B := RP_B (hRP τ hF) W
    refine ⟨_, ?_, τ, rfl, h1, h2, hF⟩
    show xX9_near_B17 (xX9_near_L17 e) 78 (nI s) (nI (P 0)) (mkH τ) = _
    simp only [xX9_near_B17, is_78, gu_t, r_lots B, Option.bind_some]
    rw [if_pos (Int32.le_refl _), rI_78_51, Option.bind_some, h2]
theorem q_near (a : Int32) : QOK (xX8_near 8 a) (xX9_near 78 a) := by
  rintro σ ⟨bk, P, on, fo, len, X, I⟩
  obtain ⟨⟨W, F, E, C, -⟩, ⟨tp, f, t, -⟩, -, V, L, PR, -⟩ := id I
  have hp := (PR.1 0 _ (by omega) (PT_0 σ)).1
  have w0 := W.1
  have hIV : ∀ υ l, FR (fun a => a = 77 ∨ a = 110) (fun a k => (a = 8 ∧ k = 16) ∨ (a = 78 ∧ k = 51)) σ υ → l ≤ 6 → sI υ 8 16 = nI l → sI υ 78 51 = nI l → (∀ i, i < l → sF υ 77 i = sF υ 110 i) → IV υ bk P on fo len X := by
    intro υ l hF hl h1 h2 h3
    refine IV_m (FR_m hF (fun a z => by unfold mS; omega) (fun a k z => by unfold mT; omega)) ⟨?_, ?_, ?_, l, hl, h1, h2, h3⟩ I
    · rw [hF.2.1 8 1 (by omega), hF.2.1 78 2 (by omega), hF.1 9 (by omega), hF.1 79 (by omega)]; exact tp
    · rw [hF.2.1 8 2 (by omega), hF.2.1 8 3 (by omega), hF.2.1 78 4 (by omega), hF.2.1 78 5 (by omega)]; exact f
    · rw [hF.2.1 8 17 (by omega), hF.2.1 78 58 (by omega)]; exact t
  by_cases ha : 0 ≤ a ∧ a < nI (P 0)
  · obtain ⟨s, hs, rfl⟩ := in_n (by omega) ha
    obtain ⟨τ, t1, t2, t3, t4, t5⟩ := c_near hp C W L hs
    have R2 : RP τ bk P := RP_f t5 (fun a h1 h2 z => by omega) (fun z => by omega) E.1
    obtain ⟨υ, u1, u2, u3, u4⟩ := r_near R2 W hs
    have e104 : sF τ 104 = sF σ 104 := t5.1 104 (by omega)
    rw [e104] at u1 u2 u3
    have ag := zf_2 (f := neF (sF σ 104) s) (g := neF (sF σ 104) s) (fun _ z z' => z.2 = z'.2 ∧ ∀ i, i < z.2 → z.1 i = z'.1 i) (P 0) (fun k z z' _ h => ne_ag h) (P 0) 0 (sF σ 77, 0) (sF τ 110, 0) (by omega) ⟨rfl, fun i hi => absurd hi (Nat.not_lt_zero _)⟩
    refine ⟨_, τ, υ, t1, ?_, ⟨FR_X t5, (FR_X u4).trans (FR_X t5)⟩, bk, P, on, fo, len, X, hIV υ (zf (neF (sF σ 104) s) 0 (P 0) (sF σ 77, 0)).2 ?_ (by have := t4.1; omega) ?_ ?_ (fun i hi => ?_)⟩
    · rw [u1, ag.1]
    · exact FR_t (FR_m t5 (fun a z => Or.inl z) (fun a k z => Or.inl z)) (FR_m u4 (fun a z => Or.inr z) (fun a k z => Or.inr z))
    · rw [u4.2.1 8 16 (by omega)]; exact t3
    · rw [u3, ag.1]
    · rw [u4.1 77 (by omega), t2, u2]
      exact ag.2 i hi
  · have CB2 : CB (setI σ 8 16 0) (P 0) (P 1) := ⟨by rw [sI_ne (by omega)]; exact C.1.1, W.1, by rw [sI_ne (by omega)]; exact C.1.2.1, W.2.1, W.2.2.1⟩
    have hF : FR (fun a => a = 77 ∨ a = 110) (fun a k => (a = 8 ∧ k = 16) ∨ (a = 78 ∧ k = 51)) σ (setI (setI σ 8 16 0) 78 51 0) := FR_t (FR_I (Or.inl ⟨rfl, rfl⟩)) (FR_I (Or.inr ⟨rfl, rfl⟩))
    have R2 : RP (setI (setI σ 8 16 0) 78 51 0) bk P := RP_f hF (fun a h1 h2 z => by omega) (fun z => by omega) E.1
    refine ⟨-1, setI σ 8 16 0, setI (setI σ 8 16 0) 78 51 0, ?_, ?_, ⟨rfl, rfl⟩, bk, P, on, fo, len, X, hIV _ 0 hF (by omega) ?_ ?_ (fun i hi => absurd hi (Nat.not_lt_zero _))⟩
    · simp only [xX8_near, wI_8_16, Option.bind_some, rR_8_5, is_21, gu_t, c_isShip CB2, if_neg ha, if_true]
    · simp only [xX9_near, wI_78_51, Option.bind_some, is_78, gu_t, r_isShip (RP_B R2 W), if_neg ha, if_true]
    · rw [sI_ne (by omega), sI_eq]; rfl
    · rw [sI_eq]; rfl
