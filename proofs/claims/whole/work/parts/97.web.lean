/-! twins, reach -/
theorem zg_bit {t : Nat} {F : Nat → Nat → Nat} {Q : Nat → Prop} (h : ∀ k x, (F k x).testBit t = true ↔ (x.testBit t = true ∨ Q k)) : ∀ m k x, (zf F k m x).testBit t = true ↔ (x.testBit t = true ∨ ∃ i, k ≤ i ∧ i < k + m ∧ Q i) := by
  intro m
  induction m with
  | zero =>
    intro k x
    constructor
    · exact fun h => Or.inl h
    · rintro (h | ⟨i, h1, h2, -⟩)
      · exact h
      · omega
  | succ m ih =>
    intro k x
    rw [zf, ih, h]
    constructor
    · rintro ((h | h) | ⟨i, h1, h2, h3⟩)
      · exact Or.inl h
      · exact Or.inr ⟨k, Nat.le_refl _, by omega, h⟩
      · exact Or.inr ⟨i, by omega, by omega, h3⟩
    · rintro (h | ⟨i, h1, h2, h3⟩)
      · exact Or.inl (Or.inl h)
      · by_cases hi : i = k
        · subst hi; exact Or.inl (Or.inr h3)
        · exact Or.inr ⟨i, by omega, by omega, h3⟩
def twI (A on : Nat → Int32) (rg n a b x : Nat) : Nat := if lkB A on rg n a b then x ||| (ownN A a &&& ownN A b) else x
theorem tw_bit {A on : Nat → Int32} {rg n a t : Nat} (k x : Nat) : (twI A on rg n a k x).testBit t = true ↔ (x.testBit t = true ∨ (lkB A on rg n a k = true ∧ (ownN A a).testBit t = true ∧ (ownN A k).testBit t = true)) := by
  unfold twI
  by_cases h : lkB A on rg n a k = true
  · rw [if_pos h, Nat.testBit_or, Nat.testBit_and]
    simp [h]
  · rw [if_neg h]
    simp [h]
theorem tw_eq {A on : Nat → Int32} {rg n : Nat} : zf (fun a x => zf (twI A on rg n a) (a + 1) (n - (a + 1)) x) 0 n 0 = zf (fun a x => zf (twI A on rg n a) 0 a x) 0 n 0 := by
  apply Nat.eq_of_testBit_eq
  intro t
  rw [Bool.eq_iff_iff]
  have h1 := zg_bit (t := t) (F := fun a x => zf (twI A on rg n a) (a + 1) (n - (a + 1)) x) (fun k x => zg_bit (fun b x => tw_bit b x) (n - (k + 1)) (k + 1) x) n 0 0
  have h2 := zg_bit (t := t) (F := fun a x => zf (twI A on rg n a) 0 a x) (fun k x => zg_bit (fun b x => tw_bit b x) k 0 x) n 0 0
  rw [h1, h2]
  clear h1 h2
  constructor
  · rintro (h | ⟨a, h1, h2, b, h3, h4, h5, h6, h7⟩)
    · exact Or.inl h
    · exact Or.inr ⟨b, by omega, by omega, a, by omega, by omega, by rw [lk_sy]; exact h5, h7, h6⟩
  · rintro (h | ⟨a, h1, h2, b, h3, h4, h5, h6, h7⟩)
    · exact Or.inl h
    · exact Or.inr ⟨b, by omega, by omega, a, by omega, by omega, by rw [lk_sy]; exact h5, h7, h6⟩
theorem lk_in {A on : Nat → Int32} {rg n a b : Nat} (ha : a < n) (hb : b < n) (hab : a ≠ b) : lkB A on rg n a b = (onA A on a && (onA A on b && hrB A rg a b)) := by
  unfold lkB
  rw [lit_bit, lit_bit, decide_eq_true ha, decide_eq_true hb, decide_eq_false hab]
  rfl
theorem r_tw {σ : ZS} {bk len a x : Nat} {P : Nat → Nat} {on fo : Nat → Int32} (E : RE σ bk P on fo len) (W : PW P) (V : WF 1 (P 0) (P 1) (sF σ 104)) (ha : a < P 0) (r4 : Nat → Int32 → Int32 → ZH → Option (Int32 × ZH)) : xX9_twins_L14 r4 zFU 78 (nI x) (nI a) 0 (mkH σ) = r4 78 (nI (zf (twI (sF σ 104) on (P 2) (P 0) a) 0 a x)) (nI (a + 1)) (mkH σ) := by
  have w0 := W.1
  have w30 := W.2.2.1
  have kc := lpZ (fun e b (x : Nat) => xX9_twins_L14 r4 e 78 (nI x) (nI a) (nI b) (mkH σ)) (twI (sF σ 104) on (P 2) (P 0) a) a (fun _ _ => True) (fun x => r4 78 (nI x) (nI (a + 1)) (mkH σ)) (by omega) ?_ ?_ 0 (by omega) x trivial
  · rw [nI_0, Nat.sub_zero] at kc
    exact kc.1
  · intro e k x hk _
    refine ⟨?_, trivial⟩
    show xX9_twins_B14 r4 (xX9_twins_L14 r4 e) 78 (nI x) (nI a) (nI k) (mkH σ) = _
    simp only [xX9_twins_B14]
    rw [if_neg (fun z => by have := (nI_leI (by omega) (by omega)).mp z; omega)]
    simp only [is_78, gu_t, r_on E W ha, r_on E W (show k < P 0 by omega), r_hrB E.1 W (show a < 6 by omega) (show k < 6 by omega), r_ownN V w30 (show a < 6 by omega), r_ownN V w30 (show k < 6 by omega), Option.bind_some, nx_and, nx_or, nI_s, twI, lk_in ha (show k < P 0 by omega) (show a ≠ k by omega)]
    cases h1 : onA (sF σ 104) on a
    · simp
    · cases h2 : onA (sF σ 104) on k
      · simp
      · cases h3 : hrB (sF σ 104) (P 2) a k
        · simp
        · simp
  · intro e x _
    show xX9_twins_B14 r4 (xX9_twins_L14 r4 e) 78 (nI x) (nI a) (nI a) (mkH σ) = _
    unfold xX9_twins_B14
    rw [if_pos (Int32.le_refl _), nI_s]
theorem c_tw {σ : ZS} {len a x : Nat} {P : Nat → Nat} {on fo A : Nat → Int32} (hp : isSt (sK σ) (sNow σ)) (C : CE σ P on fo len) (W : PW P) (L : LV (P 0) (cV σ (sNow σ)) A) (V : WF 1 (P 0) (P 1) A) (w : WBp σ (litN A on (P 0)) (lkN A on (P 2) (P 0))) (ha : a < P 0) (r15 : Nat → Int32 → Int32 → ZH → Option (Int32 × ZH)) : xX8_twins_L30 r15 zFU 8 (nI x) (nI a) (nI (a + 1)) (mkH σ) = r15 8 (nI (zf (twI A on (P 2) (P 0) a) (a + 1) (P 0 - (a + 1)) x)) (nI (a + 1)) (mkH σ) := by
  have w0 := W.1
  have w30 := W.2.2.1
  have kc := lpZ (fun e b (x : Nat) => xX8_twins_L30 r15 e 8 (nI x) (nI a) (nI b) (mkH σ)) (twI A on (P 2) (P 0) a) (P 0) (fun _ _ => True) (fun x => r15 8 (nI x) (nI (a + 1)) (mkH σ)) (by omega) ?_ ?_ (a + 1) (by omega) x trivial
  · exact kc.1
  · intro e k x hk _
    refine ⟨?_, trivial⟩
    show xX8_twins_B30 r15 (xX8_twins_L30 r15 e) 8 (nI x) (nI a) (nI k) (mkH σ) = _
    simp only [xX8_twins_B30, rR_8_5, rI_21_7, C.1.1, Option.bind_some]
    rw [if_neg (fun z => by have := (nI_leI (by omega) (by omega)).mp z; omega)]
    simp only [rR_8_10, Option.bind_some, is_62, gu_t, c_linked w (show a < 6 by omega) (show k < 6 by omega), rNow, is_S hp, c_ownN hp L V w30 (show a < 6 by omega), c_ownN hp L V w30 (show k < 6 by omega), nx_and, nx_or, nI_s, twI, lk_bit, decide_eq_true (show k < 6 by omega), Bool.true_and]
    cases h1 : lkB A on (P 2) (P 0) a k
    · simp
    · simp
  · intro e x _
    show xX8_twins_B30 r15 (xX8_twins_L30 r15 e) 8 (nI x) (nI a) (nI (P 0)) (mkH σ) = _
    simp only [xX8_twins_B30, rR_8_5, rI_21_7, C.1.1, Option.bind_some]
    rw [if_pos (Int32.le_refl _), nI_s]
theorem q_twins : QOK (xX8_twins 8) (xX9_twins 78) := by
  rintro σ ⟨bk, P, on, fo, len, X, I⟩
  obtain ⟨τ, t1, t2, t3, I2, t5⟩ := k_now I
  obtain ⟨⟨W, F, E, C, -⟩, -, -, V, L, PR, -⟩ := id I2
  have hp := (PR.1 0 _ (by omega) (PT_0 τ)).1
  have w0 := W.1
  have B := RP_B E.1 W
  rw [← t5] at t2
  have kc := lpZ (fun e a (x : Nat) => xX8_twins_L15 e 8 (nI x) (nI a) (mkH τ)) (fun a x => zf (twI (sF τ 104) on (P 2) (P 0) a) (a + 1) (P 0 - (a + 1)) x) (P 0) (fun _ _ => True) (fun x => some (nI x, mkH τ)) (by omega) ?_ ?_ 0 (by omega) 0 trivial
  · have kr := lpZ (fun e a (x : Nat) => xX9_twins_L4 e 78 (nI x) (nI a) (mkH τ)) (fun a x => zf (twI (sF τ 104) on (P 2) (P 0) a) 0 a x) (P 0) (fun _ _ => True) (fun x => some (nI x, mkH τ)) (by omega) ?_ ?_ 0 (by omega) 0 trivial
    · rw [nI_0, Nat.sub_zero] at kc kr
      refine ⟨nI (zf (fun a x => zf (twI (sF τ 104) on (P 2) (P 0) a) 0 a x) 0 (P 0) 0), τ, τ, ?_, ?_, ⟨FR_X t3, FR_X t3⟩, bk, P, on, fo, len, X, I2⟩
      · unfold xX8_twins
        generalize xX8_twins_L15 zFU = nl at *
        generalize xX7_knot = kn at *
        simp only [rR_8_10, rNow, Option.bind_some, is_62, gu_t, t1]
        rw [← tw_eq]
        exact kc.1
      · unfold xX9_twins
        exact kr.1
    · intro e a x ha _
      refine ⟨?_, trivial⟩
      show xX9_twins_B4 (xX9_twins_L4 e) 78 (nI x) (nI a) (mkH τ) = _
      have hh := r_tw (a := a) (x := x) E W V ha (xX9_twins_L4 e)
      simp only [xX9_twins_B4, is_78, gu_t, r_lots B, Option.bind_some]
      rw [if_neg (fun z => by have := (nI_leI (by omega) (by omega)).mp z; omega)]
      exact hh
    · intro e x _
      show xX9_twins_B4 (xX9_twins_L4 e) 78 (nI x) (nI (P 0)) (mkH τ) = _
      simp only [xX9_twins_B4, is_78, gu_t, r_lots B, Option.bind_some]
      rw [if_pos (Int32.le_refl _)]
  · intro e a x ha _
    refine ⟨?_, trivial⟩
    show xX8_twins_B15 (xX8_twins_L15 e) 8 (nI x) (nI a) (mkH τ) = _
    have hh := c_tw (a := a) (x := x) hp C W L V t2 ha (xX8_twins_L15 e)
    simp only [xX8_twins_B15, rR_8_5, rI_21_7, C.1.1, Option.bind_some]
    rw [if_neg (fun z => by have := (nI_leI (by omega) (by omega)).mp z; omega), nI_s]
    exact hh
  · intro e x _
    show xX8_twins_B15 (xX8_twins_L15 e) 8 (nI x) (nI (P 0)) (mkH τ) = _
    simp only [xX8_twins_B15, rR_8_5, rI_21_7, C.1.1, Option.bind_some]
    rw [if_pos (Int32.le_refl _)]
/-! reach -/
def e3 (A : Nat → Int32) (b : Option (Nat × Nat)) : Int32 := match b with | none => -1 | some q => farS A q.1 q.2
def e2 (b : Option (Nat × Nat)) : Int32 := match b with | none => -1 | some q => nI q.2
def eV (b : Option (Nat × Nat)) : Int32 := match b with | none => -1 | some q => nI (6 * q.1 + q.2)
def rcF (A on : Nat → Int32) (rg n a c : Nat) (b : Option (Nat × Nat)) : Option (Nat × Nat) := if lkB A on rg n a c = true ∧ e3 A b < farS A a c then some (a, c) else b
def rcG (A on : Nat → Int32) (rg n a c : Nat) (b : Option (Nat × Nat)) : Option (Nat × Nat) := if a < c ∧ c < n then rcF A on rg n a c b else b
theorem zf_add {S : Type} (f : Nat → S → S) : ∀ m1 m2 k s, zf f k (m1 + m2) s = zf f (k + m1) m2 (zf f k m1 s) := by
  intro m1
  induction m1 with
  | zero => intro m2 k s; rw [Nat.zero_add]; rfl
  | succ m1 ih =>
    intro m2 k s
    rw [show m1 + 1 + m2 = (m1 + m2) + 1 by omega, zf, ih, zf, show k + 1 + m1 = k + (m1 + 1) by omega]
theorem zf_id {S : Type} {f : Nat → S → S} : ∀ m k s, (∀ i s, k ≤ i → i < k + m → f i s = s) → zf f k m s = s := by
  intro m
  induction m with
  | zero => intro k s _; rfl
  | succ m ih =>
    intro k s h
    rw [zf, h k s (by omega) (by omega)]
    exact ih (k + 1) s (fun i s h1 h2 => h i s (by omega) (by omega))
theorem zf_cg {S : Type} {f g : Nat → S → S} : ∀ m k s, (∀ i s, k ≤ i → i < k + m → f i s = g i s) → zf f k m s = zf g k m s := by
  intro m
  induction m with
  | zero => intro k s _; rfl
  | succ m ih =>
    intro k s h
    rw [zf, zf, h k s (by omega) (by omega)]
    exact ih (k + 1) _ (fun i s h1 h2 => h i s (by omega) (by omega))
theorem zf_u6 {S : Type} (f : Nat → S → S) (k : Nat) (s : S) : zf f k 6 s = f (k + 1 + 1 + 1 + 1 + 1) (f (k + 1 + 1 + 1 + 1) (f (k + 1 + 1 + 1) (f (k + 1 + 1) (f (k + 1) (f k s))))) := rfl
theorem zf_6 {S : Type} (G : Nat → Nat → S → S) : ∀ m a s, zf (fun v => G (v / 6) (v % 6)) (6 * a) (6 * m) s = zf (fun a s => zf (G a) 0 6 s) a m s := by
  intro m
  induction m with
  | zero => intro a s; rfl
  | succ m ih =>
    intro a s
    have e : zf (fun v => G (v / 6) (v % 6)) (6 * a) 6 s = zf (G a) 0 6 s := by
      rw [zf_u6, zf_u6]
      rw [show (6 * a) / 6 = a by omega, show (6 * a) % 6 = 0 by omega, show (6 * a + 1) / 6 = a by omega, show (6 * a + 1) % 6 = 1 by omega, show (6 * a + 1 + 1) / 6 = a by omega, show (6 * a + 1 + 1) % 6 = 2 by omega, show (6 * a + 1 + 1 + 1) / 6 = a by omega, show (6 * a + 1 + 1 + 1) % 6 = 3 by omega, show (6 * a + 1 + 1 + 1 + 1) / 6 = a by omega, show (6 * a + 1 + 1 + 1 + 1) % 6 = 4 by omega, show (6 * a + 1 + 1 + 1 + 1 + 1) / 6 = a by omega, show (6 * a + 1 + 1 + 1 + 1 + 1) % 6 = 5 by omega]
    rw [show 6 * (m + 1) = 6 + 6 * m by omega, zf_add, show 6 * a + 6 = 6 * (a + 1) by omega, ih, e]
    rfl
theorem rc_eq {A on : Nat → Int32} {rg n : Nat} (hn : n ≤ 6) : zf (fun v => rcG A on rg n (v / 6) (v % 6)) 0 36 none = zf (fun a b => zf (rcF A on rg n a) (a + 1) (n - (a + 1)) b) 0 n none := by
  have h1 := zf_6 (rcG A on rg n) 6 0 none
  rw [show 6 * 0 = 0 by omega, show 6 * 6 = 36 by omega] at h1
  rw [h1, show (6 : Nat) = n + (6 - n) by omega, zf_add, zf_id (6 - n) (0 + n)]
  · refine zf_cg n 0 none (fun a b _ ha => ?_)
    rw [show n + (6 - n) = (a + 1) + ((n - (a + 1)) + (6 - n)) by omega, zf_add, zf_add, zf_id (6 - n), zf_id (a + 1) 0 b, Nat.zero_add]
    · refine zf_cg _ _ _ (fun c b h1 h2 => ?_)
      unfold rcG
      rw [if_pos (by omega)]
    · intro c b h1 h2
      unfold rcG
      rw [if_neg (by omega)]
    · intro c b h1 h2
      unfold rcG
      rw [if_neg (by omega)]
  · intro a b h1 h2
    refine zf_id _ _ _ (fun c b h3 h4 => ?_)
    unfold rcG
    rw [if_neg (by omega)]
def rcI (n : Nat) (b : Option (Nat × Nat)) : Prop := ∀ q, b = some q → q.1 < n ∧ q.2 < n
theorem rc_I {A on : Nat → Int32} {rg n a c : Nat} {b : Option (Nat × Nat)} (ha : a < n) (hc : c < n) (h : rcI n b) : rcI n (rcF A on rg n a c b) := by
  unfold rcF
  by_cases hq : lkB A on rg n a c = true ∧ e3 A b < farS A a c
  · rw [if_pos hq]
    intro q e
    have := Option.some.inj e
    subst this
    exact ⟨ha, hc⟩
  · rw [if_neg hq]; exact h
theorem c_rc {σ : ZS} {len a : Nat} {P : Nat → Nat} {on fo A : Nat → Int32} (hp : isSt (sK σ) (sNow σ)) (C : CE σ P on fo len) (W : PW P) (L : LV (P 0) (cV σ (sNow σ)) A) (w : WBp σ (litN A on (P 0)) (lkN A on (P 2) (P 0))) (ha : a < P 0) (q : Int32) (b : Option (Nat × Nat)) (hb : rcI (P 0) b) (r21 : Nat → Int32 → Int32 → Int32 → Int32 → Int32 → ZH → Option (Int32 × ZH)) : xX8_reach_L39 r21 zFU 8 q (eF b) (e2 b) (e3 A b) (nI a) (nI (a + 1)) (mkH σ) = (fun b => r21 8 q (eF b) (e2 b) (e3 A b) (nI (a + 1)) (mkH σ)) (zf (rcF A on (P 2) (P 0) a) (a + 1) (P 0 - (a + 1)) b) ∧ rcI (P 0) (zf (rcF A on (P 2) (P 0) a) (a + 1) (P 0 - (a + 1)) b) := by
  have w0 := W.1
  have kc := lpZ (fun e c (b : Option (Nat × Nat)) => xX8_reach_L39 r21 e 8 q (eF b) (e2 b) (e3 A b) (nI a) (nI c) (mkH σ)) (rcF A on (P 2) (P 0) a) (P 0) (fun _ b => rcI (P 0) b) (fun b => r21 8 q (eF b) (e2 b) (e3 A b) (nI (a + 1)) (mkH σ)) (by omega) ?_ ?_ (a + 1) (by omega) b hb
  · exact kc
  · intro e k b hk hI
    refine ⟨?_, rc_I ha hk hI⟩
    show xX8_reach_B39 r21 (xX8_reach_L39 r21 e) 8 q (eF b) (e2 b) (e3 A b) (nI a) (nI k) (mkH σ) = _
    simp only [xX8_reach_B39, rR_8_5, rI_21_7, C.1.1, Option.bind_some]
    rw [if_neg (fun z => by have := (nI_leI (by omega) (by omega)).mp z; omega)]
    simp only [rR_8_10, Option.bind_some, is_62, gu_t, c_linked w (show a < 6 by omega) (show k < 6 by omega), rNow, is_S hp, c_distance hp (show a < 6 by omega) (show k < 6 by omega), far_LV L ha hk, nI_s, lk_bit, decide_eq_true (show k < 6 by omega), Bool.true_and, rcF]
    by_cases h1 : lkB A on (P 2) (P 0) a k = true
    · simp only [h1, if_true, t10, if_false, true_and]
      by_cases h2 : farS A a k ≤ e3 A b
      · rw [if_pos h2]
        simp only [if_neg (Int32.not_lt.mpr h2)]
      · rw [if_neg h2]
        simp only [if_pos (Int32.not_le.mp h2)]
        rfl
    · simp only [h1, Bool.false_eq_true, if_false, t00, if_true, false_and, Bool.false_eq_true]
  · intro e b _
    show xX8_reach_B39 r21 (xX8_reach_L39 r21 e) 8 q (eF b) (e2 b) (e3 A b) (nI a) (nI (P 0)) (mkH σ) = _
    simp only [xX8_reach_B39, rR_8_5, rI_21_7, C.1.1, Option.bind_some]
    rw [if_pos (Int32.le_refl _), nI_s]
theorem rc_end {A : Nat → Int32} {n : Nat} {b : Option (Nat × Nat)} (hn : n ≤ 6) (hI : rcI n b) (q : Int32) (hh : ZH) (hq : q = 0 ∨ q = 1 ∨ q = 2) : ∃ v, xX8_reach_B112 q (eF b) (e2 b) (e3 A b) hh = some (v, hh) ∧ xX9_reach_B117 q (eV b) (e3 A b) hh = some (v, hh) := by
  cases b with
  | none =>
    refine ⟨-1, ?_, rfl⟩
    rcases hq with rfl | rfl | rfl <;> rfl
  | some p =>
    obtain ⟨h1, h2⟩ := hI p rfl
    have e0 : 0 ≤ eV (some p) := nI_pos' (show 6 * p.1 + p.2 < 2 ^ 31 by omega)
    have e4 : eV (some p) / 6 = nI p.1 := by
      show nI (6 * p.1 + p.2) / 6 = _
      rw [nl_6, pk_div (by omega) (by omega) (by omega)]
      congr 1
      omega
    have e5 : eV (some p) - eV (some p) / 6 * 6 = nI p.2 := by
      show nI (6 * p.1 + p.2) - nI (6 * p.1 + p.2) / 6 * 6 = _
      rw [nl_6, pk_rem (by omega) (by omega) (by omega)]
      congr 1
      omega
    unfold xX8_reach_B112 xX9_reach_B117
    rw [if_pos e0, e5, e4]
    rcases hq with rfl | rfl | rfl
    · exact ⟨_, rfl, rfl⟩
    · exact ⟨_, rfl, rfl⟩
    · exact ⟨_, rfl, rfl⟩
theorem q_reach (q : Int32) : QOK (xX8_reach 8 q) (xX9_reach 78 q) := by
  rintro σ ⟨bk, P, on, fo, len, X, I⟩
  obtain ⟨τ, t1, t2, t3, I2, t5⟩ := k_now I
  obtain ⟨⟨W, F, E, C, -⟩, -, -, V, L, PR, -⟩ := id I2
  have hp := (PR.1 0 _ (by omega) (PT_0 τ)).1
  have w0 := W.1
  have B := RP_B E.1 W
  rw [← t5] at t2
  have kc := lpZ (fun e a (b : Option (Nat × Nat)) => xX8_reach_L21 e 8 q (eF b) (e2 b) (e3 (sF τ 104) b) (nI a) (mkH τ)) (fun a b => zf (rcF (sF τ 104) on (P 2) (P 0) a) (a + 1) (P 0 - (a + 1)) b) (P 0) (fun _ b => rcI (P 0) b) (fun b => xX8_reach_B112 q (eF b) (e2 b) (e3 (sF τ 104) b) (mkH τ)) (by omega) ?_ ?_ 0 (by omega) none (fun _ h => by cases h)
  · have hcx : ∀ v, xX8_reach_B112 q (eF (zf (fun a b => zf (rcF (sF τ 104) on (P 2) (P 0) a) (a + 1) (P 0 - (a + 1)) b) 0 (P 0) none)) (e2 (zf (fun a b => zf (rcF (sF τ 104) on (P 2) (P 0) a) (a + 1) (P 0 - (a + 1)) b) 0 (P 0) none)) (e3 (sF τ 104) (zf (fun a b => zf (rcF (sF τ 104) on (P 2) (P 0) a) (a + 1) (P 0 - (a + 1)) b) 0 (P 0) none)) (mkH τ) = some (v, mkH τ) → xX8_reach 8 q (mkH σ) = some (v, mkH τ) := by
      intro v hv
      rw [Nat.sub_zero] at kc
      have k1 := kc.1
      rw [hv, nI_0] at k1
      unfold xX8_reach
      generalize xX8_reach_L21 zFU = nl at *
      generalize xX7_knot = kn at *
      simp only [rR_8_10, rNow, Option.bind_some, is_62, gu_t, t1]
      exact k1
    by_cases h012 : q = 0 ∨ q = 1 ∨ q = 2
    · have kr := lpZ (fun e v (b : Option (Nat × Nat)) => xX9_reach_L18 e 78 q (eV b) (e3 (sF τ 104) b) (nI v) (mkH τ)) (fun v => rcG (sF τ 104) on (P 2) (P 0) (v / 6) (v % 6)) 36 (fun _ _ => True) (fun b => xX9_reach_B117 q (eV b) (e3 (sF τ 104) b) (mkH τ)) (by omega) ?_ ?_ 0 (by omega) none trivial
      · rw [Nat.sub_zero] at kc kr
        obtain ⟨v, v1, v2⟩ := rc_end (A := sF τ 104) w0 kc.2 q (mkH τ) h012
        refine ⟨v, τ, τ, hcx v v1, ?_, ⟨FR_X t3, FR_X t3⟩, bk, P, on, fo, len, X, I2⟩
        have k1 := kr.1
        rw [rc_eq w0, v2, nI_0] at k1
        unfold xX9_reach
        rw [r_isIn, Option.bind_some, if_pos (show 0 ≤ q ∧ q ≤ 2 from by rcases h012 with rfl | rfl | rfl <;> decide), if_neg (show ¬ (1 : Int32) = 0 by decide)]
        exact k1
      · intro e v b hv _
        refine ⟨?_, trivial⟩
        show xX9_reach_B18 (xX9_reach_L18 e) 78 q (eV b) (e3 (sF τ 104) b) (nI v) (mkH τ) = _
        have d1 : nI v / 6 = nI (v / 6) := by rw [nl_6, pk_div (by omega) (by omega) (by omega)]
        have d2 : nI v - nI (v / 6) * 6 = nI (v % 6) := by rw [← d1, nl_6, pk_rem (by omega) (by omega) (by omega)]
        unfold xX9_reach_B18
        generalize xX9_reach_L18 e = nl
        rw [if_neg (fun z => by rw [show (36 : Int32) = nI 36 from rfl] at z; have := (nI_leI (by omega) (by omega)).mp z; omega)]
        simp only [d1, d2, nI_le' (show v % 6 < 2 ^ 31 by omega) (show v / 6 < 2 ^ 31 by omega), is_78, gu_t, r_isShip B, Option.bind_some, nI_s, rcG]
        by_cases h1 : v % 6 ≤ v / 6
        · rw [if_pos h1]
          simp only [if_neg (show ¬ (v / 6 < v % 6 ∧ v % 6 < P 0) by omega)]
        · rw [if_neg h1]
          by_cases h2 : v % 6 < P 0
          · have h3 : 0 ≤ nI (v % 6) ∧ nI (v % 6) < nI (P 0) := ⟨nI_pos' (by omega), nI_lt h2 (by omega)⟩
            have h4 : v / 6 < P 0 := by omega
            simp only [if_pos h3, t10, if_false, r_on E W h4, r_on E W h2, r_hrB E.1 W (show v / 6 < 6 by omega) (show v % 6 < 6 by omega), r_apart (σ := τ) (show v / 6 < 6 by omega) (show v % 6 < 6 by omega), Option.bind_some, is_78, gu_t, if_pos (show v / 6 < v % 6 ∧ v % 6 < P 0 by omega), rcF, lk_in h4 h2 (show v / 6 ≠ v % 6 by omega)]
            cases b1 : onA (sF τ 104) on (v / 6)
            · simp
            · cases b2 : onA (sF τ 104) on (v % 6)
              · simp
              · cases b3 : hrB (sF τ 104) (P 2) (v / 6) (v % 6)
                · simp
                · by_cases h5 : e3 (sF τ 104) b < farS (sF τ 104) (v / 6) (v % 6)
                  · simp only [h5, if_true, t10, if_false, Bool.and_self, and_self]
                    show nl 78 q (nI v) (farS (sF τ 104) (v / 6) (v % 6)) (nI (v + 1)) (mkH τ) = nl 78 q (nI (6 * (v / 6) + v % 6)) (farS (sF τ 104) (v / 6) (v % 6)) (nI (v + 1)) (mkH τ)
                    rw [show 6 * (v / 6) + v % 6 = v by omega]
                  · simp only [h5, if_true, t10, if_false, Bool.and_self, and_false]
          · have h3 : ¬ (0 ≤ nI (v % 6) ∧ nI (v % 6) < nI (P 0)) := fun z => h2 ((nI_ltI (by omega) (by omega)).mp z.2)
            simp only [if_neg h3, t00, if_true, if_neg (show ¬ (v / 6 < v % 6 ∧ v % 6 < P 0) by omega)]
      · intro e b _
        show xX9_reach_B18 (xX9_reach_L18 e) 78 q (eV b) (e3 (sF τ 104) b) (nI 36) (mkH τ) = _
        unfold xX9_reach_B18
        rw [if_pos (show (36 : Int32) ≤ nI 36 by decide)]
    · have n0 : ¬ q = 0 := fun z => h012 (Or.inl z)
      have n1 : ¬ q = 1 := fun z => h012 (Or.inr (Or.inl z))
      have n2 : ¬ q = 2 := fun z => h012 (Or.inr (Or.inr z))
      refine ⟨-1, τ, τ, hcx (-1) ?_, ?_, ⟨FR_X t3, FR_X t3⟩, bk, P, on, fo, len, X, I2⟩
      · unfold xX8_reach_B112
        rw [if_neg n0, if_neg n1, if_neg n2]
      · have hn : ¬ (0 ≤ q ∧ q ≤ 2) := fun z => by
          obtain ⟨j, hj, e⟩ := nI_of2 (x := q) (M := 2) (n := 2) (by decide) (Int32.not_lt.mpr z.1) z.2
          rcases (show j = 0 ∨ j = 1 ∨ j = 2 by omega) with rfl | rfl | rfl
          · exact n0 e
          · exact n1 e
          · exact n2 e
        unfold xX9_reach
        rw [r_isIn, Option.bind_some, if_neg hn, if_pos rfl]
  · intro e a b ha hI
    have hh := c_rc (a := a) hp C W L t2 ha q b hI (xX8_reach_L21 e)
    refine ⟨?_, hh.2⟩
    show xX8_reach_B21 (xX8_reach_L21 e) 8 q (eF b) (e2 b) (e3 (sF τ 104) b) (nI a) (mkH τ) = _
    simp only [xX8_reach_B21, rR_8_5, rI_21_7, C.1.1, Option.bind_some]
    rw [if_neg (fun z => by have := (nI_leI (by omega) (by omega)).mp z; omega), nI_s]
    exact hh.1
  · intro e b _
    show xX8_reach_B21 (xX8_reach_L21 e) 8 q (eF b) (e2 b) (e3 (sF τ 104) b) (nI (P 0)) (mkH τ) = _
    simp only [xX8_reach_B21, rR_8_5, rI_21_7, C.1.1, Option.bind_some]
    rw [if_pos (Int32.le_refl _)]
