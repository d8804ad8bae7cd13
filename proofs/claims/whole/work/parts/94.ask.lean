/-! loops from the start; wrong, best, fullest -/
theorem lpZ {S R : Type} (L : Nat → Nat → S → Option R) (f : Nat → S → S) (b : Nat) (I : Nat → S → Prop) (r : S → Option R) (hb : b < 1000000) (hs : ∀ e k s, k < b → I k s → L (e + 1) k s = L e (k + 1) (f k s) ∧ I (k + 1) (f k s)) (he : ∀ e s, I b s → L (e + 1) b s = r s) (k0 : Nat) (hk : k0 ≤ b) (s : S) (h0 : I k0 s) : L zFU k0 s = r (zf f k0 (b - k0) s) ∧ I b (zf f k0 (b - k0) s) := by
  have key : ∀ m k s e, k + m = b → I k s → L (e + m + 1) k s = r (zf f k m s) ∧ I b (zf f k m s) := by
    intro m
    induction m with
    | zero =>
      intro k s e hk hI
      have : k = b := by omega
      subst this
      exact ⟨he e s hI, hI⟩
    | succ m ih =>
      intro k s e hk hI
      obtain ⟨h1, h2⟩ := hs (e + (m + 1)) k s (by omega) hI
      rw [h1, zf, show e + (m + 1) = e + m + 1 by omega]
      exact ih (k + 1) (f k s) e (by omega) h2
  obtain ⟨e, he'⟩ := zfu (b - k0) (by omega)
  rw [he']
  exact key (b - k0) k0 s e (by omega) h0
theorem tm1 : ((-1 : Int32) < 0) = True := eq_true (by decide)
theorem t00 : ((0 : Int32) = 0) = True := eq_true rfl
theorem t01 : ((0 : Int32) = 1) = False := eq_false (by decide)
theorem t11 : ((1 : Int32) = 1) = True := eq_true rfl
theorem tmm : ((-1 : Int32) = -1) = True := eq_true rfl
theorem nI_nm {n : Nat} (h : n < 2 ^ 31) : ¬ nI n ≤ -1 := fun z => by
  have h1 := Int32.le_iff_toInt_le.mp z
  rw [nI_toInt h] at h1
  have : (-1 : Int32).toInt = -1 := by decide
  omega
theorem zo_bit (g : Nat → Nat) : ∀ m k a t, (zf (fun i a => a ||| g i) k m a).testBit t = true ↔ (a.testBit t = true ∨ ∃ i, k ≤ i ∧ i < k + m ∧ (g i).testBit t = true) := by
  intro m
  induction m with
  | zero =>
    intro k a t
    constructor
    · exact fun h => Or.inl h
    · rintro (h | ⟨i, h1, h2, -⟩)
      · exact h
      · omega
  | succ m ih =>
    intro k a t
    rw [zf, ih, Nat.testBit_or, Bool.or_eq_true]
    constructor
    · rintro ((h | h) | ⟨i, h1, h2, h3⟩)
      · exact Or.inl h
      · exact Or.inr ⟨k, Nat.le_refl _, by omega, h⟩
      · exact Or.inr ⟨i, by omega, by omega, h3⟩
    · rintro (h | ⟨i, h1, h2, h3⟩)
      · exact Or.inl (Or.inl h)
      · by_cases hi : i = k
        · subst hi; exact Or.inl (Or.inr h3)
        · exact Or.inr ⟨i, by omega, by omega, h3⟩
theorem c_owns {lo n m : Nat} {σ : ZS} {p s k : Nat} {A : Nat → Int32} (hp : isSt (sK σ) p) (L : LV n (cV σ p) A) (V : WF lo n m A) (hm : m ≤ 30) (hs : s < 6) (hk : k < 30) : xX5_owns p (nI s) (nI k) (mkH σ) = some (if (ownN A s).testBit k then 1 else 0, mkH σ) := by
  obtain ⟨c, hc3, hc⟩ := V.1 s hs
  have ht : tn (A (24 + s)) = c := by rw [hc, tn_n (by omega)]
  have key : ∀ m' i a e, i + m' = c → a.testBit k = false → xX5_owns_L2 (e + m' + 1) p (nI s) (nI k) (nI i) (mkH σ) = some (if (zf (fun i a => a ||| 2 ^ tn (A (30 + 3 * s + i))) i m' a).testBit k then 1 else 0, mkH σ) := by
    intro m'
    induction m' with
    | zero =>
      intro i a e hi ha
      show xX5_owns_B2 (xX5_owns_L2 (e + 0)) p (nI s) (nI k) (nI i) (mkH σ) = _
      simp only [xX5_owns_B2, rR_S5 hp, Option.bind_some, ra_S5 hp hs, e_5 L hs, hc]
      rw [if_pos ((nI_leI (by omega) (by omega)).mpr (by omega)), zf, ha]
      rfl
    | succ m' ih =>
      intro i a e hi ha
      show xX5_owns_B2 (xX5_owns_L2 (e + (m' + 1))) p (nI s) (nI k) (nI i) (mkH σ) = _
      obtain ⟨⟨t, ht2, et⟩, -⟩ := V.2.1 s i hs (by omega) (by omega)
      simp only [xX5_owns_B2, rR_S5 hp, Option.bind_some, ra_S5 hp hs, e_5 L hs, hc]
      rw [if_neg (fun z => by have := (nI_leI (by omega) (by omega)).mp z; omega)]
      simp only [rR_S6 hp, nl_3, pk_mul, nI_add, ra_S6 hp (show s * 3 + i < 18 by omega), (e_6 L hs (show i < 3 by omega) (show i < tn (A (24 + s)) by omega)).1, Option.bind_some, et, nI_s]
      rw [zf, et, tn_n (by omega)]
      by_cases h : t = k
      · subst h
        rw [if_pos rfl, if_pos]
        exact (zo_bit _ _ _ _ _).mpr (Or.inl (by rw [Nat.testBit_or, Nat.testBit_two_pow_self, Bool.or_true]))
      · rw [if_neg (fun z => h ((nI_eq (by omega) (by omega)).mp z)), show e + (m' + 1) = e + m' + 1 by omega]
        refine ih (i + 1) _ e (by omega) ?_
        rw [Nat.testBit_or, ha, Nat.testBit_two_pow_of_ne h]
        rfl
  obtain ⟨e, he⟩ := zfu c (by omega)
  unfold xX5_owns ownN
  rw [he, ht, ← nI_0]
  exact key c 0 0 e (by omega) (Nat.zero_testBit k)
def wrF (A : Nat → Int32) (s k x : Nat) : Nat := if A (84 + 30 * s + k) < 0 then x else if (ownN A (tn (A (84 + 30 * s + k)))).testBit k then x else x ||| 2 ^ k
theorem q_wrong (a : Int32) : QOK (xX8_wrong 8 a) (xX9_wrong 78 a) := by
  refine Q_rd fun σ ⟨bk, P, on, fo, len, X, I⟩ => ?_
  obtain ⟨⟨W, F, E, C, -⟩, -, -, V, L, PR, -⟩ := I
  have hp := (PR.1 0 _ (by omega) (PT_0 σ)).1
  have w0 := W.1
  have w30 := W.2.2.1
  have B := RP_B E.1 W
  have CB' := CP_B C.1 W
  by_cases ha : 0 ≤ a ∧ a < nI (P 0)
  · obtain ⟨s, hs, rfl⟩ := in_n (by omega) ha
    have s6 : s < 6 := by omega
    have kc := lpZ (fun e k (x : Nat) => xX8_wrong_L17 e 8 (nI s) (nI x) (nI k) (mkH σ)) (wrF (sF σ 104) s) (P 1) (fun _ _ => True) (fun x => some (nI x, mkH σ)) (by omega) ?_ ?_ 0 (by omega) 0 trivial
    · have kr := lpZ (fun e k (x : Nat) => xX9_wrong_L14 e 78 (nI s) (nI x) (nI k) (mkH σ)) (wrF (sF σ 104) s) (P 1) (fun _ _ => True) (fun x => some (nI x, mkH σ)) (by omega) ?_ ?_ 0 (by omega) 0 trivial
      · refine ⟨nI (zf (wrF (sF σ 104) s) 0 (P 1 - 0) 0), ?_, ?_⟩
        · unfold xX8_wrong
          generalize xX8_wrong_L17 zFU = nl at *
          simp only [rR_8_5, Option.bind_some, is_21, gu_t, c_isShip CB', if_pos ha, t10, if_false]
          rw [← nI_0]
          exact kc.1
        · unfold xX9_wrong
          generalize xX9_wrong_L14 zFU = nl at *
          simp only [is_78, gu_t, r_isShip B, Option.bind_some, if_pos ha, t10, if_false]
          rw [← nI_0]
          exact kr.1
      · intro e k x hk _
        refine ⟨?_, trivial⟩
        have k30 : k < 30 := by omega
        show xX9_wrong_B14 (xX9_wrong_L14 e) 78 (nI s) (nI x) (nI k) (mkH σ) = _
        simp only [xX9_wrong_B14, is_78, gu_t, r_round B, Option.bind_some]
        rw [if_neg (fun z => by have := (nI_leI (by omega) (by omega)).mp z; omega)]
        simp only [is_78, gu_t, r_holderIn (σ := σ) s6 k30, Option.bind_some, wrF, nI_s]
        rcases V.2.2.1 s k s6 k30 with h | ⟨o, y, h6, -, -, -, h7, -⟩
        · simp only [h.1, tm1, if_true]
        · have ow := (own_n V w30 (show o < 6 by omega)).2
          simp only [h7, if_neg (nI_pos (show o < 2 ^ 31 by omega)), r_ownN V w30 (show o < 6 by omega), Option.bind_some, r_bit, tn_n (show o < 2 ^ 31 by omega), bitB_n (show ownN (sF σ 104) o < 2 ^ 31 by omega) (show k < 32 by omega), one_shl (show k < 32 by omega), nx_or]
          by_cases hb : (ownN (sF σ 104) o).testBit k = true
          · simp only [hb, if_true, t10, if_false]
          · simp only [hb, Bool.false_eq_true, if_false, t00, if_true]
      · intro e x _
        show xX9_wrong_B14 (xX9_wrong_L14 e) 78 (nI s) (nI x) (nI (P 1)) (mkH σ) = _
        simp only [xX9_wrong_B14, is_78, gu_t, r_round B, Option.bind_some]
        rw [if_pos ((nI_leI (by omega) (by omega)).mpr (Nat.le_refl _))]
    · intro e k x hk _
      refine ⟨?_, trivial⟩
      have k30 : k < 30 := by omega
      show xX8_wrong_B17 (xX8_wrong_L17 e) 8 (nI s) (nI x) (nI k) (mkH σ) = _
      simp only [xX8_wrong_B17, rR_8_5, rI_21_0, C.1.2.1, Option.bind_some]
      rw [if_neg (fun z => by have := (nI_leI (by omega) (by omega)).mp z; omega)]
      simp only [rNow, Option.bind_some, is_S hp, gu_t, c_holder hp s6 k30, L.2.2.2 (84 + 30 * s + k) (by omega) (by omega), wrF, nI_s]
      rcases V.2.2.1 s k s6 k30 with h | ⟨o, y, h6, -, -, -, h7, -⟩
      · simp only [h.1, tm1, tmm, if_true]
      · simp only [h7, if_neg (nI_pos (show o < 2 ^ 31 by omega)), if_neg (nI_m1 (show o < 2 ^ 31 by omega)), c_owns hp L V w30 (show o < 6 by omega) k30, Option.bind_some, tn_n (show o < 2 ^ 31 by omega), one_shl (show k < 32 by omega), nx_or]
        by_cases hb : (ownN (sF σ 104) o).testBit k = true
        · simp only [hb, if_true, t10, if_false]
        · simp only [hb, Bool.false_eq_true, if_false, t00, if_true]
    · intro e x _
      show xX8_wrong_B17 (xX8_wrong_L17 e) 8 (nI s) (nI x) (nI (P 1)) (mkH σ) = _
      simp only [xX8_wrong_B17, rR_8_5, rI_21_0, C.1.2.1, Option.bind_some]
      rw [if_pos ((nI_leI (by omega) (by omega)).mpr (Nat.le_refl _))]
  · refine ⟨-1, ?_, ?_⟩
    · simp only [xX8_wrong, rR_8_5, Option.bind_some, is_21, gu_t, c_isShip CB', if_neg ha, if_true]
    · simp only [xX9_wrong, is_78, gu_t, r_isShip B, Option.bind_some, if_neg ha, if_true]
def bsF (A : Nat → Int32) (m k : Nat) (b : Option Nat) : Option Nat := match b with | none => some k | some j => if pc 32 (heardN A k m) ≤ pc 32 (heardN A j m) then some j else some k
def eB (b : Option Nat) : Int32 := match b with | none => -1 | some j => nI j
def eM (A : Nat → Int32) (m : Nat) (b : Option Nat) : Int32 := match b with | none => -1 | some j => nI (pc 32 (heardN A j m))
theorem bs_I {A : Nat → Int32} {m k : Nat} {b : Option Nat} (h : ∀ j, b = some j → j < k) : ∀ j, bsF A m k b = some j → j < k + 1 := by
  intro j hj
  cases b with
  | none => have := Option.some.inj hj; omega
  | some i =>
    have h2 := h i rfl
    have h3 : (if pc 32 (heardN A k m) ≤ pc 32 (heardN A i m) then some i else some k) = some j := hj
    by_cases hc : pc 32 (heardN A k m) ≤ pc 32 (heardN A i m)
    · rw [if_pos hc] at h3
      have := Option.some.inj h3; omega
    · rw [if_neg hc] at h3
      have := Option.some.inj h3; omega
theorem q_best : QOK (xX8_best 8) (xX9_best 78) := by
  refine Q_rd fun σ ⟨bk, P, on, fo, len, X, I⟩ => ?_
  obtain ⟨⟨W, F, E, C, -⟩, -, -, V, L, PR, -⟩ := I
  have hp := (PR.1 0 _ (by omega) (PT_0 σ)).1
  have w0 := W.1
  have B := RP_B E.1 W
  have CB' := CP_B C.1 W
  have hpc : ∀ j, pc 32 (heardN (sF σ 104) j (P 1)) < 2 ^ 31 := fun j => by have := pc_le 32 (heardN (sF σ 104) j (P 1)); omega
  have kc := lpZ (fun e k (b : Option Nat) => xX8_best_L6 e 8 (eB b) (eM (sF σ 104) (P 1) b) (nI k) (mkH σ)) (bsF (sF σ 104) (P 1)) (P 0) (fun k b => ∀ j, b = some j → j < k) (fun b => some (eB b, mkH σ)) (by omega) ?_ ?_ 0 (by omega) none (fun j h => by cases h)
  · have kr := lpZ (fun e k (b : Option Nat) => xX9_best_L4 e 78 (eB b) (nI k) (mkH σ)) (bsF (sF σ 104) (P 1)) (P 0) (fun k b => ∀ j, b = some j → j < k) (fun b => some (eB b, mkH σ)) (by omega) ?_ ?_ 0 (by omega) none (fun j h => by cases h)
    · refine ⟨eB (zf (bsF (sF σ 104) (P 1)) 0 (P 0 - 0) none), ?_, ?_⟩
      · unfold xX8_best
        rw [← nI_0]
        exact kc.1
      · unfold xX9_best
        rw [← nI_0]
        exact kr.1
    · intro e k b hk hI
      refine ⟨?_, bs_I hI⟩
      show xX9_best_B4 (xX9_best_L4 e) 78 (eB b) (nI k) (mkH σ) = _
      simp only [xX9_best_B4, is_78, gu_t, r_lots B, Option.bind_some]
      rw [if_neg (fun z => by have := (nI_leI (by omega) (by omega)).mp z; omega)]
      cases b with
      | none => simp only [eB, tm1, if_true, bsF, nI_s]
      | some j =>
        have hj := hI j rfl
        simp only [eB, if_neg (nI_pos (show j < 2 ^ 31 by omega)), (r_heard B V (show k < 6 by omega)).1, (r_heard B V (show j < 6 by omega)).1, is_78, gu_t, Option.bind_some, bsF, nI_s, nI_le' (hpc k) (hpc j)]
        by_cases hc : pc 32 (heardN (sF σ 104) k (P 1)) ≤ pc 32 (heardN (sF σ 104) j (P 1))
        · simp only [if_pos hc]
        · simp only [if_neg hc]
    · intro e b _
      show xX9_best_B4 (xX9_best_L4 e) 78 (eB b) (nI (P 0)) (mkH σ) = _
      simp only [xX9_best_B4, is_78, gu_t, r_lots B, Option.bind_some]
      rw [if_pos ((nI_leI (by omega) (by omega)).mpr (Nat.le_refl _))]
  · intro e k b hk hI
    refine ⟨?_, bs_I hI⟩
    show xX8_best_B6 (xX8_best_L6 e) 8 (eB b) (eM (sF σ 104) (P 1) b) (nI k) (mkH σ) = _
    simp only [xX8_best_B6, rR_8_5, rI_21_7, C.1.1, Option.bind_some]
    rw [if_neg (fun z => by have := (nI_leI (by omega) (by omega)).mp z; omega)]
    simp only [rNow, Option.bind_some, is_S hp, gu_t, c_heard hp CB' L V (show k < 6 by omega), nI_s]
    cases b with
    | none =>
      rw [if_neg (show ¬ nI (pc 32 (heardN (sF σ 104) k (P 1))) ≤ eM (sF σ 104) (P 1) none from nI_nm (hpc k))]
      rfl
    | some j =>
      simp only [eB, eM, bsF, nI_le' (hpc k) (hpc j)]
      by_cases hc : pc 32 (heardN (sF σ 104) k (P 1)) ≤ pc 32 (heardN (sF σ 104) j (P 1))
      · simp only [if_pos hc]
      · simp only [if_neg hc]
  · intro e b _
    show xX8_best_B6 (xX8_best_L6 e) 8 (eB b) (eM (sF σ 104) (P 1) b) (nI (P 0)) (mkH σ) = _
    simp only [xX8_best_B6, rR_8_5, rI_21_7, C.1.1, Option.bind_some]
    rw [if_pos ((nI_leI (by omega) (by omega)).mpr (Nat.le_refl _))]
def cnF (A on : Nat → Int32) (k s c : Nat) : Nat := if onA A on s = true ∧ (ownN A s).testBit k = true then c + 1 else c
def cnN (A on : Nat → Int32) (n k : Nat) : Nat := zf (cnF A on k) 0 n 0
theorem cn_le {A on : Nat → Int32} {n k : Nat} : cnN A on n k ≤ n := zf_I (fun i c => c ≤ i) n (fun i c _ h => by unfold cnF; split <;> omega) n 0 0 (by omega) (Nat.le_refl _)
theorem c_count {σ : ZS} {p len k : Nat} {P : Nat → Nat} {on fo A : Nat → Int32} (hp : isSt (sK σ) p) (C : CE σ P on fo len) (W : PW P) (L : LV (P 0) (cV σ p) A) (V : WF 1 (P 0) (P 1) A) (hk : k < 30) : xX5_countOwners p (nI k) (mkH σ) = some (nI (cnN A on (P 0) k), mkH σ) := by
  have w0 := W.1
  have w30 := W.2.2.1
  have kc := lpZ (fun e s (c : Nat) => xX5_countOwners_L4 e p (nI k) (nI c) (nI s) (mkH σ)) (cnF A on k) (P 0) (fun _ _ => True) (fun c => some (nI c, mkH σ)) (by omega) ?_ ?_ 0 (by omega) 0 trivial
  · unfold xX5_countOwners
    rw [← nI_0]
    exact kc.1
  · intro e s c hs _
    refine ⟨?_, trivial⟩
    show xX5_countOwners_B4 (xX5_countOwners_L4 e) p (nI k) (nI c) (nI s) (mkH σ) = _
    simp only [xX5_countOwners_B4, rR_S0 hp, rI_21_7, C.1.1, Option.bind_some]
    rw [if_neg (fun z => by have := (nI_leI (by omega) (by omega)).mp z; omega)]
    simp only [is_S hp, gu_t, c_on hp C W L hs, Option.bind_some, c_owns hp L V w30 (show s < 6 by omega) hk, nI_s, cnF]
    by_cases ho : onA A on s = true
    · by_cases hb : (ownN A s).testBit k = true
      · simp only [ho, hb, if_true, t10, if_false, and_self]
      · simp only [ho, hb, if_true, t10, t00, Bool.false_eq_true, if_false, and_false]
    · simp only [ho, Bool.false_eq_true, if_false, t00, if_true, false_and]
  · intro e c _
    show xX5_countOwners_B4 (xX5_countOwners_L4 e) p (nI k) (nI c) (nI (P 0)) (mkH σ) = _
    simp only [xX5_countOwners_B4, rR_S0 hp, rI_21_7, C.1.1, Option.bind_some]
    rw [if_pos ((nI_leI (by omega) (by omega)).mpr (Nat.le_refl _))]
theorem r_count {σ : ZS} {bk len k : Nat} {P : Nat → Nat} {on fo : Nat → Int32} (E : RE σ bk P on fo len) (W : PW P) (V : WF 1 (P 0) (P 1) (sF σ 104)) (hk : k < 30) (r18 : Nat → Int32 → Int32 → Int32 → Int32 → ZH → Option (Int32 × ZH)) (w b m : Int32) : xX9_fullest_L33 r18 zFU 78 w b m (nI k) 0 0 (mkH σ) = xX9_fullest_B81 r18 78 w b m (nI k) (nI (cnN (sF σ 104) on (P 0) k)) (mkH σ) := by
  have w0 := W.1
  have w30 := W.2.2.1
  have B := RP_B E.1 W
  have kc := lpZ (fun e s (c : Nat) => xX9_fullest_L33 r18 e 78 w b m (nI k) (nI c) (nI s) (mkH σ)) (cnF (sF σ 104) on k) (P 0) (fun _ _ => True) (fun c => xX9_fullest_B81 r18 78 w b m (nI k) (nI c) (mkH σ)) (by omega) ?_ ?_ 0 (by omega) 0 trivial
  · rw [nI_0] at kc
    exact kc.1
  · intro e s c hs _
    refine ⟨?_, trivial⟩
    have ow := (own_n V w30 (show s < 6 by omega)).2
    show xX9_fullest_B33 r18 (xX9_fullest_L33 r18 e) 78 w b m (nI k) (nI c) (nI s) (mkH σ) = _
    simp only [xX9_fullest_B33, is_78, gu_t, r_lots B, Option.bind_some]
    rw [if_neg (fun z => by have := (nI_leI (by omega) (by omega)).mp z; omega)]
    simp only [is_78, gu_t, r_on E W hs, Option.bind_some, r_ownN V w30 (show s < 6 by omega), r_bit, bitB_n (show ownN (sF σ 104) s < 2 ^ 31 by omega) (show k < 32 by omega), Int32.add_zero, nI_s, cnF]
    by_cases ho : onA (sF σ 104) on s = true
    · by_cases hb : (ownN (sF σ 104) s).testBit k = true
      · simp only [ho, hb, if_true, t10, if_false, and_self]
      · simp only [ho, hb, if_true, t10, t00, Bool.false_eq_true, if_false, and_false]
    · simp only [ho, Bool.false_eq_true, if_false, t00, if_true, false_and]
  · intro e c _
    show xX9_fullest_B33 r18 (xX9_fullest_L33 r18 e) 78 w b m (nI k) (nI c) (nI (P 0)) (mkH σ) = _
    simp only [xX9_fullest_B33, is_78, gu_t, r_lots B, Option.bind_some]
    rw [if_pos ((nI_leI (by omega) (by omega)).mpr (Nat.le_refl _))]
def fu2 (b : Option (Nat × Nat)) : Nat := match b with | none => 0 | some q => q.2
def fuF (cn : Nat → Nat) (k : Nat) (b : Option (Nat × Nat)) : Option (Nat × Nat) := if cn k ≤ fu2 b then b else some (k, cn k)
def eF (b : Option (Nat × Nat)) : Int32 := match b with | none => -1 | some q => nI q.1
def fuI (b : Option (Nat × Nat)) : Prop := ∀ q, b = some q → q.1 < 30 ∧ 0 < q.2 ∧ q.2 ≤ 6
theorem fu_I {cn : Nat → Nat} (hcn : ∀ k, cn k ≤ 6) {k : Nat} (hk : k < 30) {b : Option (Nat × Nat)} (h : fuI b) : fuI (fuF cn k b) := by
  unfold fuF
  by_cases hc : cn k ≤ fu2 b
  · rw [if_pos hc]; exact h
  · rw [if_neg hc]
    intro q hq
    have := Option.some.inj hq
    subst this
    exact ⟨hk, by show 0 < cn k; omega, hcn k⟩
theorem fu_2 {b : Option (Nat × Nat)} (h : fuI b) : fu2 b ≤ 6 := by
  cases b with
  | none => exact Nat.zero_le _
  | some q => exact (h q rfl).2.2
theorem fu_end {b : Option (Nat × Nat)} (h : fuI b) (w : Int32) (hh : ZH) : xX8_fullest_B59 w (eF b) (nI (fu2 b)) hh = xX9_fullest_B102 w (eF b) (nI (fu2 b)) hh ∧ ∃ v, xX9_fullest_B102 w (eF b) (nI (fu2 b)) hh = some (v, hh) := by
  cases b with
  | none =>
    refine ⟨rfl, -1, rfl⟩
  | some q =>
    obtain ⟨h1, h2, h3⟩ := h q rfl
    unfold xX8_fullest_B59 xX9_fullest_B102
    have e1 : ¬ nI (fu2 (some q)) = 0 := nI_ne0 h2 (by show q.2 < _; omega)
    have e2 : 0 ≤ eF (some q) := nI_pos' (by omega)
    rw [if_neg e1, if_pos e2]
    refine ⟨rfl, ?_⟩
    by_cases hw : w = 0
    · rw [if_pos hw]; exact ⟨_, rfl⟩
    · rw [if_neg hw]; exact ⟨_, rfl⟩
theorem q_fullest (w : Int32) : QOK (xX8_fullest 8 w) (xX9_fullest 78 w) := by
  refine Q_rd fun σ ⟨bk, P, on, fo, len, X, I⟩ => ?_
  obtain ⟨⟨W, F, E, C, -⟩, -, -, V, L, PR, -⟩ := I
  have hp := (PR.1 0 _ (by omega) (PT_0 σ)).1
  have w0 := W.1
  have w30 := W.2.2.1
  have B := RP_B E.1 W
  have hcn : ∀ k, cnN (sF σ 104) on (P 0) k ≤ 6 := fun k => Nat.le_trans cn_le w0
  generalize hcd : cnN (sF σ 104) on (P 0) = cn at hcn
  have kc := lpZ (fun e k (b : Option (Nat × Nat)) => xX8_fullest_L18 e 8 w (eF b) (nI (fu2 b)) (nI k) (mkH σ)) (fuF cn) (P 1) (fun _ b => fuI b) (fun b => xX8_fullest_B59 w (eF b) (nI (fu2 b)) (mkH σ)) (by omega) ?_ ?_ 0 (by omega) none (fun q h => by cases h)
  · have kr := lpZ (fun e k (b : Option (Nat × Nat)) => xX9_fullest_L18 e 78 w (eF b) (nI (fu2 b)) (nI k) (mkH σ)) (fuF cn) (P 1) (fun _ b => fuI b) (fun b => xX9_fullest_B102 w (eF b) (nI (fu2 b)) (mkH σ)) (by omega) ?_ ?_ 0 (by omega) none (fun q h => by cases h)
    · obtain ⟨f1, v, f2⟩ := fu_end kr.2 w (mkH σ)
      have kc1 := kc.1
      have kr1 := kr.1
      rw [f1, f2] at kc1
      rw [f2] at kr1
      have z1 : eF none = -1 := rfl
      have z2 : fu2 none = 0 := rfl
      rw [z1, z2, nI_0] at kc1 kr1
      by_cases h0 : w = 0
      · refine ⟨v, ?_, ?_⟩
        · unfold xX8_fullest
          rw [if_pos h0]
          exact kc1
        · unfold xX9_fullest
          rw [r_isIn, Option.bind_some, if_pos (show 0 ≤ w ∧ w ≤ 1 from by rw [h0]; decide), if_neg (show ¬ (1 : Int32) = 0 by decide)]
          exact kr1
      · by_cases h1 : w = 1
        · refine ⟨v, ?_, ?_⟩
          · unfold xX8_fullest
            rw [if_neg h0, if_pos h1]
            exact kc1
          · unfold xX9_fullest
            rw [r_isIn, Option.bind_some, if_pos (show 0 ≤ w ∧ w ≤ 1 from by rw [h1]; decide), if_neg (show ¬ (1 : Int32) = 0 by decide)]
            exact kr1
        · refine ⟨-1, ?_, ?_⟩
          · unfold xX8_fullest
            rw [if_neg h0, if_neg h1]
          · unfold xX9_fullest
            have hn : ¬ (0 ≤ w ∧ w ≤ 1) := fun z => by
              obtain ⟨j, hj, e⟩ := nI_of2 (x := w) (M := 1) (n := 1) (by decide) (Int32.not_lt.mpr z.1) z.2
              rcases (show j = 0 ∨ j = 1 by omega) with rfl | rfl
              · exact h0 e
              · exact h1 e
            rw [r_isIn, Option.bind_some, if_neg hn, if_pos rfl]
    · intro e k b hk hI
      refine ⟨?_, fu_I hcn (by omega) hI⟩
      show xX9_fullest_B18 (xX9_fullest_L18 e) 78 w (eF b) (nI (fu2 b)) (nI k) (mkH σ) = _
      simp only [xX9_fullest_B18, is_78, gu_t, r_round B, Option.bind_some]
      rw [if_neg (fun z => by have := (nI_leI (by omega) (by omega)).mp z; omega), r_count E W V (by omega), hcd]
      have := fu_2 hI
      have := hcn k
      simp only [xX9_fullest_B81, nI_lt' (show fu2 b < 2 ^ 31 by omega) (show cn k < 2 ^ 31 by omega), nI_s, fuF]
      by_cases hc : cn k ≤ fu2 b
      · rw [if_neg (show ¬ fu2 b < cn k by omega)]
        simp only [if_pos hc]
      · rw [if_pos (show fu2 b < cn k by omega)]
        simp only [if_neg hc]
        rfl
    · intro e b _
      show xX9_fullest_B18 (xX9_fullest_L18 e) 78 w (eF b) (nI (fu2 b)) (nI (P 1)) (mkH σ) = _
      simp only [xX9_fullest_B18, is_78, gu_t, r_round B, Option.bind_some]
      rw [if_pos ((nI_leI (by omega) (by omega)).mpr (Nat.le_refl _))]
  · intro e k b hk hI
    refine ⟨?_, fu_I hcn (by omega) hI⟩
    have := fu_2 hI
    have := hcn k
    show xX8_fullest_B18 (xX8_fullest_L18 e) 8 w (eF b) (nI (fu2 b)) (nI k) (mkH σ) = _
    simp only [xX8_fullest_B18, rR_8_5, rI_21_0, C.1.2.1, Option.bind_some]
    rw [if_neg (fun z => by have := (nI_leI (by omega) (by omega)).mp z; omega)]
    simp only [rNow, Option.bind_some, is_S hp, gu_t, c_count hp C W L V (show k < 30 by omega), hcd, nI_le' (show cn k < 2 ^ 31 by omega) (show fu2 b < 2 ^ 31 by omega), nI_s, fuF]
    by_cases hc : cn k ≤ fu2 b
    · simp only [if_pos hc]
    · simp only [if_neg hc]
      rfl
  · intro e b _
    show xX8_fullest_B18 (xX8_fullest_L18 e) 8 w (eF b) (nI (fu2 b)) (nI (P 1)) (mkH σ) = _
    simp only [xX8_fullest_B18, rR_8_5, rI_21_0, C.1.2.1, Option.bind_some]
    rw [if_pos ((nI_leI (by omega) (by omega)).mpr (Nat.le_refl _))]
