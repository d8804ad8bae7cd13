/-! crowd, parts -/
theorem lpA {R : Type} (L : Nat → Nat → Option R) (b : Nat) (ok : Nat → Prop) (v0 v1 : Option R) (hb : b < 1000000) (hs : ∀ e k, k < b → (ok k → L (e + 1) k = L e (k + 1)) ∧ (¬ ok k → L (e + 1) k = v0)) (he : ∀ e, L (e + 1) b = v1) : ((∀ k, k < b → ok k) → L zFU 0 = v1) ∧ ((∃ k, k < b ∧ ¬ ok k) → L zFU 0 = v0) := by
  have key : ∀ m k e, k + m = b → ((∀ j, k ≤ j → j < b → ok j) → L (e + m + 1) k = v1) ∧ ((∃ j, k ≤ j ∧ j < b ∧ ¬ ok j) → L (e + m + 1) k = v0) := by
    intro m
    induction m with
    | zero =>
      intro k e hk
      have : k = b := by omega
      subst this
      exact ⟨fun _ => he e, fun ⟨j, h1, h2, _⟩ => by omega⟩
    | succ m ih =>
      intro k e hk
      obtain ⟨h1, h2⟩ := hs (e + (m + 1)) k (by omega)
      obtain ⟨i1, i2⟩ := ih (k + 1) e (by omega)
      refine ⟨fun h => ?_, fun ⟨j, j1, j2, j3⟩ => ?_⟩
      · rw [h1 (h k (Nat.le_refl _) (by omega))]
        exact i1 (fun j j1 j2 => h j (by omega) j2)
      · by_cases hk2 : ok k
        · rw [h1 hk2]
          exact i2 ⟨j, by rcases Nat.eq_or_lt_of_le j1 with h | h; · exact absurd (h ▸ hk2) j3
                          · exact h, j2, j3⟩
        · exact h2 hk2
  obtain ⟨e, he'⟩ := zfu b hb
  rw [he']
  obtain ⟨k1, k2⟩ := key b 0 e (by omega)
  exact ⟨fun h => k1 (fun j _ hj => h j hj), fun ⟨j, h1, h2⟩ => k2 ⟨j, by omega, h1, h2⟩⟩
theorem bb_iff {x k : Nat} (hx : x < 2 ^ 31) (hk : k < 32) : ((nI x >>> (nI k &&& 31)) &&& (1 : Int32) = 1) ↔ x.testBit k = true := by
  have h := bitB_n hx hk
  unfold bitB at h
  rw [← h]
  exact ⟨fun z => decide_eq_true z, fun z => of_decide_eq_true z⟩
def crP (A : Nat → Int32) (rg n set : Nat) : Prop := ∀ a, a < n → ∀ b, b < a → set.testBit a = true → set.testBit b = true → hrB A rg a b = true
def ccP (lk : Nat → Nat) (set : Nat) : Prop := ∀ a, a < 6 → set.testBit a = true → lk a &&& clr set a = clr set a
theorem c_isCr {σ : ZS} {lit set : Nat} {lk : Nat → Nat} (w : WBp σ lit lk) (hs : set < 64) : (ccP lk set → xX7_isCrowd 62 (nI set) (mkH σ) = some (1, mkH σ)) ∧ (¬ ccP lk set → xX7_isCrowd 62 (nI set) (mkH σ) = some (0, mkH σ)) := by
  have key := lpA (fun e k => xX7_isCrowd_L2 e 62 (nI set) (nI k) (mkH σ)) 6 (fun a => set.testBit a = true → lk a &&& clr set a = clr set a) (some (0, mkH σ)) (some (1, mkH σ)) (by omega) ?_ ?_
  · rw [nI_0] at key
    unfold xX7_isCrowd
    refine ⟨fun h => key.1 h, fun h => key.2 ?_⟩
    apply Classical.byContradiction
    intro hn
    exact h (fun a ha => Classical.byContradiction fun z => hn ⟨a, ha, z⟩)
  · intro e k hk
    obtain ⟨h1, h2⟩ := w.2.2 k hk
    have hc : clr set k < 64 := Nat.lt_of_le_of_lt clr_le hs
    have hl : lk k &&& clr set k < 64 := Nat.lt_of_le_of_lt Nat.and_le_left h2
    have e1 : xX7_isCrowd_L2 (e + 1) 62 (nI set) (nI k) (mkH σ) = if set.testBit k = true then (if lk k &&& clr set k = clr set k then xX7_isCrowd_L2 e 62 (nI set) (nI (k + 1)) (mkH σ) else some (0, mkH σ)) else xX7_isCrowd_L2 e 62 (nI set) (nI (k + 1)) (mkH σ) := by
      show xX7_isCrowd_B2 (xX7_isCrowd_L2 e) 62 (nI set) (nI k) (mkH σ) = _
      unfold xX7_isCrowd_B2
      generalize xX7_isCrowd_L2 e = nl
      rw [if_neg (fun z => by rw [nl_6] at z; have := (nI_leI (by omega) (by omega)).mp z; omega)]
      simp only [rR_62_1, Option.bind_some, ra_63 σ hk, h1, one_shl (show k < 32 by omega), clr_n, nx_and, nI_eq' (show lk k &&& clr set k < 2 ^ 31 by omega) (show clr set k < 2 ^ 31 by omega), nI_s]
      by_cases hb : set.testBit k = true
      · rw [if_pos ((bb_iff (by omega) (by omega)).mpr hb), if_pos hb]
      · rw [if_neg (fun z => hb ((bb_iff (by omega) (by omega)).mp z)), if_neg hb]
    refine ⟨fun h => ?_, fun h => ?_⟩
    · rw [e1]
      by_cases hb : set.testBit k = true
      · rw [if_pos hb, if_pos (h hb)]
      · rw [if_neg hb]
    · rw [e1]
      by_cases hb : set.testBit k = true
      · rw [if_pos hb, if_neg (fun z => h (fun _ => z))]
      · exact absurd (fun z => absurd z hb) h
  · intro e
    show xX7_isCrowd_B2 (xX7_isCrowd_L2 e) 62 (nI set) (nI 6) (mkH σ) = _
    unfold xX7_isCrowd_B2
    rw [if_pos (show (6 : Int32) ≤ nI 6 by decide)]
theorem r_isCr {σ : ZS} {bk len set : Nat} {P : Nat → Nat} {on fo : Nat → Int32} (E : RE σ bk P on fo len) (W : PW P) (hs : set < 64) : (crP (sF σ 104) (P 2) (P 0) set → xX9_isCrowd 78 (nI set) (mkH σ) = some (1, mkH σ)) ∧ (¬ crP (sF σ 104) (P 2) (P 0) set → xX9_isCrowd 78 (nI set) (mkH σ) = some (0, mkH σ)) := by
  have w0 := W.1
  have B := RP_B E.1 W
  have key := lpA (fun e a => xX9_isCrowd_L2 e 78 (nI set) (nI a) (mkH σ)) (P 0) (fun a => ∀ b, b < a → set.testBit a = true → set.testBit b = true → hrB (sF σ 104) (P 2) a b = true) (some (0, mkH σ)) (some (1, mkH σ)) (by omega) ?_ ?_
  · rw [nI_0] at key
    unfold xX9_isCrowd
    refine ⟨fun h => key.1 h, fun h => key.2 ?_⟩
    apply Classical.byContradiction
    intro hn
    exact h (fun a ha => Classical.byContradiction fun z => hn ⟨a, ha, z⟩)
  · intro e a ha
    have inner := lpA (fun f b => xX9_isCrowd_L12 (xX9_isCrowd_L2 e) f 78 (nI set) (nI a) (nI b) (mkH σ)) a (fun b => set.testBit a = true → set.testBit b = true → hrB (sF σ 104) (P 2) a b = true) (some (0, mkH σ)) (xX9_isCrowd_L2 e 78 (nI set) (nI (a + 1)) (mkH σ)) (by omega) ?_ ?_
    · rw [nI_0] at inner
      have e1 : xX9_isCrowd_L2 (e + 1) 78 (nI set) (nI a) (mkH σ) = xX9_isCrowd_L12 (xX9_isCrowd_L2 e) zFU 78 (nI set) (nI a) 0 (mkH σ) := by
        show xX9_isCrowd_B2 (xX9_isCrowd_L2 e) 78 (nI set) (nI a) (mkH σ) = _
        unfold xX9_isCrowd_B2
        generalize xX9_isCrowd_L12 (xX9_isCrowd_L2 e) zFU = nl
        simp only [is_78, gu_t, r_lots B, Option.bind_some]
        rw [if_neg (fun z => by have := (nI_leI (by omega) (by omega)).mp z; omega)]
      refine ⟨fun h => e1.trans (inner.1 h), fun h => e1.trans (inner.2 ?_)⟩
      apply Classical.byContradiction
      intro hn
      exact h (fun b hb => Classical.byContradiction fun z => hn ⟨b, hb, z⟩)
    · intro f b hb
      have e1 : xX9_isCrowd_L12 (xX9_isCrowd_L2 e) (f + 1) 78 (nI set) (nI a) (nI b) (mkH σ) = if set.testBit a = true ∧ set.testBit b = true ∧ ¬ hrB (sF σ 104) (P 2) a b = true then some (0, mkH σ) else xX9_isCrowd_L12 (xX9_isCrowd_L2 e) f 78 (nI set) (nI a) (nI (b + 1)) (mkH σ) := by
        show xX9_isCrowd_B12 (xX9_isCrowd_L2 e) (xX9_isCrowd_L12 (xX9_isCrowd_L2 e) f) 78 (nI set) (nI a) (nI b) (mkH σ) = _
        generalize xX9_isCrowd_L12 (xX9_isCrowd_L2 e) f = nl
        simp only [xX9_isCrowd_B12]
        rw [if_neg (fun z => by have := (nI_leI (by omega) (by omega)).mp z; omega)]
        simp only [r_bit, bitB_n (show set < 2 ^ 31 by omega) (show a < 32 by omega), bitB_n (show set < 2 ^ 31 by omega) (show b < 32 by omega), Option.bind_some, is_78, gu_t, r_hrB E.1 W (show a < 6 by omega) (show b < 6 by omega), nI_s]
        by_cases h1 : set.testBit a = true
        · by_cases h2 : set.testBit b = true
          · by_cases h3 : hrB (sF σ 104) (P 2) a b = true
            · simp [h1, h2, h3]
            · simp [h1, h2, h3]
          · simp [h1, h2]
        · simp [h1]
      refine ⟨fun h => ?_, fun h => ?_⟩
      · rw [e1, if_neg (fun z => z.2.2 (h z.1 z.2.1))]
      · rw [e1, if_pos]
        refine ⟨Classical.byContradiction fun z => h (fun y => absurd y z), Classical.byContradiction fun z => h (fun _ y => absurd y z), fun z => h (fun _ _ => z)⟩
    · intro f
      show xX9_isCrowd_B12 (xX9_isCrowd_L2 e) (xX9_isCrowd_L12 (xX9_isCrowd_L2 e) f) 78 (nI set) (nI a) (nI a) (mkH σ) = _
      unfold xX9_isCrowd_B12
      rw [if_pos (Int32.le_refl _), nI_s]
  · intro e
    show xX9_isCrowd_B2 (xX9_isCrowd_L2 e) 78 (nI set) (nI (P 0)) (mkH σ) = _
    simp only [xX9_isCrowd_B2, is_78, gu_t, r_lots B, Option.bind_some]
    rw [if_pos (Int32.le_refl _)]
theorem sub_bit {x y : Nat} (h : x &&& y = x) {t : Nat} (ht : x.testBit t = true) : y.testBit t = true := by
  rw [← h, Nat.testBit_and] at ht
  exact (Bool.and_eq_true _ _ ▸ ht).2
theorem and_of {x y : Nat} (h : ∀ t, y.testBit t = true → x.testBit t = true) : x &&& y = y := by
  apply Nat.eq_of_testBit_eq
  intro t
  rw [Nat.testBit_and]
  cases hy : y.testBit t
  · rw [Bool.and_false]
  · rw [h t hy]
    rfl
theorem bit_lt {x t n : Nat} (hx : x < 2 ^ n) (ht : x.testBit t = true) : t < n := by
  rcases Nat.lt_or_ge t n with h | h
  · exact h
  · rw [Nat.testBit_lt_two_pow (Nat.lt_of_lt_of_le hx (Nat.pow_le_pow_right (by decide) h))] at ht
    cases ht
theorem lit_lt2 {A on : Nat → Int32} {n : Nat} : litN A on n < 2 ^ n := bs_lt _ n n 0 0 (by omega) (Nat.two_pow_pos n)
theorem cr_iff {A on : Nat → Int32} {rg n set : Nat} (hn : n ≤ 6) (hs : set &&& litN A on n = set) : ccP (lkN A on rg n) set ↔ crP A rg n set := by
  have hin : ∀ t, set.testBit t = true → t < n ∧ onA A on t = true := fun t ht => by
    have := sub_bit hs ht
    rw [lit_bit] at this
    simpa using this
  have hlt : set < 2 ^ 32 := by
    rw [← hs]
    have := lit_lt (A := A) (on := on) hn
    exact Nat.lt_of_le_of_lt Nat.and_le_right (by omega)
  constructor
  · intro h a ha b hb h1 h2
    have h3 := h a (by omega) h1
    have h4 : (clr set a).testBit b = true := by
      rw [clr_bit (by omega), h2, decide_eq_false (show ¬ a = b by omega)]
      rfl
    rw [← h3, Nat.testBit_and, Bool.and_eq_true, lk_bit, lk_in ha (by omega) (by omega)] at h4
    have h5 := h4.1
    simp only [Bool.and_eq_true] at h5
    exact h5.2.2.2
  · intro h a ha h1
    refine and_of (fun t ht => ?_)
    have t32 : t < 32 := bit_lt (Nat.lt_of_le_of_lt clr_le hlt) ht
    rw [clr_bit t32, Bool.and_eq_true] at ht
    have hta : ¬ a = t := by
      intro z
      rw [decide_eq_true z] at ht
      cases ht.2
    obtain ⟨a1, a2⟩ := hin a h1
    obtain ⟨b1, b2⟩ := hin t ht.1
    rw [lk_bit, lk_in a1 b1 hta, a2, b2, decide_eq_true (show t < 6 by omega)]
    rcases Nat.lt_or_gt_of_ne hta with h2 | h2
    · rw [hr_sy, h t b1 a h2 ht.1 h1]
      rfl
    · rw [h a a1 t h2 h1 ht.1]
      rfl
noncomputable def cwF (A : Nat → Int32) (rg n lit k best : Nat) : Nat := @ite _ ((k &&& lit = k) ∧ pc 32 best < pc 32 k ∧ crP A rg n k) (Classical.propDecidable _) k best
theorem cw_eq {A on : Nat → Int32} {rg n : Nat} (hn : n ≤ 6) : zf (cwF A rg n (litN A on n)) 1 63 0 = zf (cwF A rg n (litN A on n)) 1 (2 ^ n - 1) 0 := by
  have h2 : 2 ^ n ≤ 64 := by
    have := Nat.pow_le_pow_right (n := 2) (by decide) hn
    simpa using this
  have h1 := Nat.two_pow_pos n
  rw [show 63 = (2 ^ n - 1) + (64 - 2 ^ n) by omega, zf_add]
  refine zf_id _ _ _ (fun k b hk _ => ?_)
  unfold cwF
  rw [if_neg]
  rintro ⟨h3, -⟩
  have h4 := lit_lt2 (A := A) (on := on) (n := n)
  have h5 : k &&& litN A on n ≤ litN A on n := Nat.and_le_right
  omega
theorem not_in {k lit : Nat} (hk : k < 64) (hl : lit < 64) : (nI k &&& (nI lit ^^^ (-1 : Int32)) = 0) ↔ k &&& lit = k := by
  rw [m1_n, nx_xor, nx_and, ← nI_0]
  have hlt : k &&& (lit ^^^ 4294967295) < 64 := Nat.lt_of_le_of_lt Nat.and_le_left hk
  rw [nI_eq (by omega) (by omega)]
  constructor
  · intro h
    refine eq_bits (Nat.lt_of_le_of_lt Nat.and_le_left (by omega)) (by omega) (fun t ht => ?_)
    have := congrArg (fun x => x.testBit t) h
    simp only [Nat.testBit_and, Nat.testBit_xor, ones_bit ht, Nat.zero_testBit] at this
    rw [Nat.testBit_and]
    cases h1 : k.testBit t <;> cases h2 : lit.testBit t <;> simp [h1, h2] at this ⊢
  · intro h
    refine eq_bits (by omega) (by decide) (fun t ht => ?_)
    rw [Nat.testBit_and, Nat.testBit_xor, ones_bit ht, Nat.zero_testBit]
    cases h1 : k.testBit t
    · rfl
    · rw [sub_bit h h1]
      rfl
theorem pc_n {x y : Nat} : (nI (pc 32 x) ≤ nI (pc 32 y)) = (pc 32 x ≤ pc 32 y) := nI_le' (by have := pc_le 32 x; omega) (by have := pc_le 32 y; omega)
theorem cw_lt {A : Nat → Int32} {rg n lit k best : Nat} (hk : k < 64) (hb : best < 64) : cwF A rg n lit k best < 64 := by
  unfold cwF
  split
  · exact hk
  · exact hb
theorem q_crowd (q : Int32) : QOK (xX8_crowd 8 q) (xX9_crowd 78 q) := by
  rintro σ ⟨bk, P, on, fo, len, X, I⟩
  by_cases h01 : q = 0 ∨ q = 1
  · obtain ⟨τ, t1, t2, t3, I2, t5⟩ := k_now I
    obtain ⟨⟨W, F, E, C, -⟩, -⟩ := id I2
    have w0 := W.1
    have B := RP_B E.1 W
    rw [← t5] at t2
    have hl := lit_lt (A := sF τ 104) (on := on) w0
    have kc := lpZ (fun e k (x : Nat) => xX7_largestCrowd_L4 e 62 (nI x) (nI k) (mkH τ)) (cwF (sF τ 104) (P 2) (P 0) (litN (sF τ 104) on (P 0))) 64 (fun _ x => x < 64) (fun x => some (nI x, mkH τ)) (by omega) ?_ ?_ 1 (by omega) 0 (by omega)
    · have hp2 : 2 ^ P 0 ≤ 64 := by
        have := Nat.pow_le_pow_right (n := 2) (by decide) w0
        simpa using this
      have hp1 := Nat.two_pow_pos (P 0)
      have kr := lpZ (fun e k (x : Nat) => xX9_crowd_L15 e 78 q (nI x) (nI k) (mkH τ)) (cwF (sF τ 104) (P 2) (P 0) (litN (sF τ 104) on (P 0))) (2 ^ P 0) (fun _ x => x < 64) (fun x => xX9_crowd_B63 q (nI x) (mkH τ)) (by omega) ?_ ?_ 1 (by omega) 0 (by omega)
      · rw [show 64 - 1 = 63 from rfl, cw_eq w0, nI_0] at kc
        rw [nI_0] at kr
        generalize hz : zf (cwF (sF τ 104) (P 2) (P 0) (litN (sF τ 104) on (P 0))) 1 (2 ^ P 0 - 1) 0 = z at kc kr
        obtain ⟨k1, k2⟩ := kc
        obtain ⟨k3, -⟩ := kr
        have hin : 0 ≤ q ∧ q ≤ 1 := by rcases h01 with rfl | rfl <;> decide
        have hC : xX8_crowd 8 q (mkH σ) = xX8_crowd_B11 8 q (mkH σ) := by
          unfold xX8_crowd
          rcases h01 with rfl | rfl
          · rw [if_pos rfl]
          · rw [if_neg (by decide), if_pos rfl]
        have hC2 : xX8_crowd_B11 8 q (mkH σ) = if q = 0 then some (nI (pc 32 z), mkH τ) else some (nI z, mkH τ) := by
          unfold xX8_crowd_B11 xX7_largestCrowd
          generalize xX7_largestCrowd_L4 zFU = nl at *
          generalize xX7_knot = kn at *
          have k1' : nl 62 0 1 (mkH τ) = some (nI z, mkH τ) := k1
          simp only [rR_8_10, rNow, Option.bind_some, is_62, gu_t, t1, k1', c_bitCount (show z < 2 ^ 32 by omega)]
        have hR : xX9_crowd 78 q (mkH τ) = if q = 0 then some (nI (pc 32 z), mkH τ) else some (nI z, mkH τ) := by
          unfold xX9_crowd
          rw [r_isIn, Option.bind_some, if_pos hin, if_neg (show ¬ (1 : Int32) = 0 by decide)]
          refine k3.trans ?_
          unfold xX9_crowd_B63
          simp only [r_bitsOf (show z < 2 ^ 31 by omega), Option.bind_some]
        by_cases hq : q = 0
        · refine ⟨nI (pc 32 z), τ, τ, ?_, ?_, ⟨FR_X t3, FR_X t3⟩, bk, P, on, fo, len, X, I2⟩
          · rw [hC, hC2, if_pos hq]
          · rw [hR, if_pos hq]
        · refine ⟨nI z, τ, τ, ?_, ?_, ⟨FR_X t3, FR_X t3⟩, bk, P, on, fo, len, X, I2⟩
          · rw [hC, hC2, if_neg hq]
          · rw [hR, if_neg hq]
      · intro e k x hk hx
        refine ⟨?_, cw_lt (by omega) hx⟩
        obtain ⟨c1, c2⟩ := r_isCr E W (show k < 64 by omega)
        show xX9_crowd_B15 (xX9_crowd_L15 e) 78 q (nI x) (nI k) (mkH τ) = _
        generalize xX9_crowd_L15 e = nl
        simp only [xX9_crowd_B15, is_78, gu_t, r_lots B, Option.bind_some, one_shl (show P 0 < 32 by omega)]
        rw [if_neg (fun z => by have := (nI_leI (by omega) (by omega)).mp z; omega)]
        simp only [is_78, gu_t, r_litN E W, Option.bind_some, r_bitsOf (show k < 2 ^ 31 by omega), r_bitsOf (show x < 2 ^ 31 by omega), pc_n, nI_s, cwF]
        by_cases h1 : k &&& litN (sF τ 104) on (P 0) = k
        · rw [if_pos ((not_in (by omega) (by omega)).mpr h1)]
          by_cases h2 : pc 32 k ≤ pc 32 x
          · rw [if_pos h2]
            rw [if_neg (show ¬ (k &&& litN (sF τ 104) on (P 0) = k ∧ pc 32 x < pc 32 k ∧ crP (sF τ 104) (P 2) (P 0) k) from fun z => by have := z.2.1; omega)]
          · rw [if_neg h2]
            by_cases h3 : crP (sF τ 104) (P 2) (P 0) k
            · rw [c1 h3, Option.bind_some, if_neg (show ¬ (1 : Int32) = 0 by decide)]
              rw [if_pos (show k &&& litN (sF τ 104) on (P 0) = k ∧ pc 32 x < pc 32 k ∧ crP (sF τ 104) (P 2) (P 0) k from ⟨h1, by omega, h3⟩)]
            · rw [c2 h3, Option.bind_some, if_pos rfl]
              rw [if_neg (show ¬ (k &&& litN (sF τ 104) on (P 0) = k ∧ pc 32 x < pc 32 k ∧ crP (sF τ 104) (P 2) (P 0) k) from fun z => h3 z.2.2)]
        · rw [if_neg (fun z => h1 ((not_in (by omega) (by omega)).mp z))]
          rw [if_neg (show ¬ (k &&& litN (sF τ 104) on (P 0) = k ∧ pc 32 x < pc 32 k ∧ crP (sF τ 104) (P 2) (P 0) k) from fun z => h1 z.1)]
      · intro e x _
        show xX9_crowd_B15 (xX9_crowd_L15 e) 78 q (nI x) (nI (2 ^ P 0)) (mkH τ) = _
        simp only [xX9_crowd_B15, is_78, gu_t, r_lots B, Option.bind_some, one_shl (show P 0 < 32 by omega)]
        rw [if_pos (Int32.le_refl _)]
    · intro e k x hk hx
      refine ⟨?_, cw_lt hk hx⟩
      obtain ⟨c1, c2⟩ := c_isCr t2 hk
      show xX7_largestCrowd_B4 (xX7_largestCrowd_L4 e) 62 (nI x) (nI k) (mkH τ) = _
      generalize xX7_largestCrowd_L4 e = nl
      simp only [xX7_largestCrowd_B4]
      rw [if_neg (fun z => by rw [show (64 : Int32) = nI 64 from rfl] at z; have := (nI_leI (by omega) (by omega)).mp z; omega)]
      have hkl : k &&& litN (sF τ 104) on (P 0) < 64 := Nat.lt_of_le_of_lt Nat.and_le_left hk
      simp only [rI_62_0, t2.1, Option.bind_some, nx_and, nI_eq' (show k &&& litN (sF τ 104) on (P 0) < 2 ^ 31 by omega) (show k < 2 ^ 31 by omega), xX7_largestCrowd_B25, t10, t00, if_true, if_false, c_bitCount (show k < 2 ^ 32 by omega), c_bitCount (show x < 2 ^ 32 by omega), pc_n, is_62, gu_t, nI_s, cwF]
      by_cases h1 : k &&& litN (sF τ 104) on (P 0) = k
      · have hiff := cr_iff (A := sF τ 104) (on := on) (rg := P 2) w0 h1
        rw [if_pos h1]
        by_cases h2 : pc 32 k ≤ pc 32 x
        · rw [if_pos h2]
          rw [if_neg (show ¬ (k &&& litN (sF τ 104) on (P 0) = k ∧ pc 32 x < pc 32 k ∧ crP (sF τ 104) (P 2) (P 0) k) from fun z => by have := z.2.1; omega)]
        · rw [if_neg h2]
          by_cases h3 : crP (sF τ 104) (P 2) (P 0) k
          · rw [c1 (hiff.mpr h3), Option.bind_some, if_neg (show ¬ (1 : Int32) = 0 by decide)]
            rw [if_pos (show k &&& litN (sF τ 104) on (P 0) = k ∧ pc 32 x < pc 32 k ∧ crP (sF τ 104) (P 2) (P 0) k from ⟨h1, by omega, h3⟩)]
          · rw [c2 (fun z => h3 (hiff.mp z)), Option.bind_some, if_pos rfl]
            rw [if_neg (show ¬ (k &&& litN (sF τ 104) on (P 0) = k ∧ pc 32 x < pc 32 k ∧ crP (sF τ 104) (P 2) (P 0) k) from fun z => h3 z.2.2)]
      · rw [if_neg h1]
        rw [if_neg (show ¬ (k &&& litN (sF τ 104) on (P 0) = k ∧ pc 32 x < pc 32 k ∧ crP (sF τ 104) (P 2) (P 0) k) from fun z => h1 z.1)]
    · intro e x _
      show xX7_largestCrowd_B4 (xX7_largestCrowd_L4 e) 62 (nI x) (nI 64) (mkH τ) = _
      unfold xX7_largestCrowd_B4
      rw [if_pos (show (64 : Int32) ≤ nI 64 by decide)]
  · have n0 : ¬ q = 0 := fun z => h01 (Or.inl z)
    have n1 : ¬ q = 1 := fun z => h01 (Or.inr z)
    refine ⟨-1, σ, σ, ?_, ?_, ⟨rfl, rfl⟩, bk, P, on, fo, len, X, I⟩
    · unfold xX8_crowd
      rw [if_neg n0, if_neg n1]
    · have hn : ¬ (0 ≤ q ∧ q ≤ 1) := fun z => by
        obtain ⟨j, hj, e⟩ := nI_of2 (x := q) (M := 1) (n := 1) (by decide) (Int32.not_lt.mpr z.1) z.2
        rcases (show j = 0 ∨ j = 1 by omega) with rfl | rfl
        · exact n0 e
        · exact n1 e
      unfold xX9_crowd
      rw [r_isIn, Option.bind_some, if_neg hn, if_pos rfl]
