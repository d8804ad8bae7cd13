/-! the reference's goOn: a token read; names as numbers -/
def FN (S : Nat → Prop) (T : Nat → Nat → Prop) (σ τ : ZS) : Prop := (∀ a, ¬ S a → sF τ a = sF σ a) ∧ (∀ a k, ¬ T a k → sI τ a k = sI σ a k) ∧ τ.2.2.2 = σ.2.2.2
theorem FN_f {S : Nat → Prop} {T : Nat → Nat → Prop} {σ τ : ZS} (h : FR S T σ τ) : FN S T σ τ := ⟨h.1, h.2.1, by rw [h.2.2]⟩
theorem FN_r {S : Nat → Prop} {T : Nat → Nat → Prop} {σ : ZS} : FN S T σ σ := ⟨fun _ _ => rfl, fun _ _ _ => rfl, rfl⟩
theorem FN_t {S : Nat → Prop} {T : Nat → Nat → Prop} {σ τ υ : ZS} (h : FN S T σ τ) (g : FN S T τ υ) : FN S T σ υ := ⟨fun a ha => (g.1 a ha).trans (h.1 a ha), fun a k ha => (g.2.1 a k ha).trans (h.2.1 a k ha), g.2.2.trans h.2.2⟩
theorem FN_m {S S' : Nat → Prop} {T T' : Nat → Nat → Prop} {σ τ : ZS} (h : FN S T σ τ) (hS : ∀ a, S a → S' a) (hT : ∀ a k, T a k → T' a k) : FN S' T' σ τ := ⟨fun a ha => h.1 a (fun z => ha (hS a z)), fun a k ha => h.2.1 a k (fun z => ha (hT a k z)), h.2.2⟩
theorem FN_N {S : Nat → Prop} {T : Nat → Nat → Prop} {σ : ZS} {v : Int64} : FN S T σ (setN σ v) := ⟨fun _ _ => rfl, fun _ _ _ => rfl, rfl⟩
theorem FN_I {S : Nat → Prop} {T : Nat → Nat → Prop} {σ : ZS} {a k : Nat} {v : Int32} (h : T a k) : FN S T σ (setI σ a k v) := FN_f (FR_I h)
def jN (n : Nat) : Int64 := Int64.ofNat n
theorem jN_eq {a b : Nat} (ha : a < 2 ^ 63) (hb : b < 2 ^ 63) : (jN a = jN b) ↔ a = b := by
  constructor
  · intro h
    have h2 : (BitVec.ofNat 64 a).toNat = (BitVec.ofNat 64 b).toNat := congrArg (fun x : Int64 => x.toBitVec.toNat) h
    rw [BitVec.toNat_ofNat, BitVec.toNat_ofNat] at h2
    omega
  · rintro rfl; rfl
theorem lg_i {x y : Int64} : lg_cmp x y = 0 ↔ x = y := by
  unfold lg_cmp
  constructor
  · intro h
    by_cases h1 : x > y
    · rw [if_pos h1] at h; exact absurd h (by decide)
    · rw [if_neg h1] at h
      by_cases h2 : x = y
      · exact h2
      · rw [if_neg h2] at h; exact absurd h (by decide)
  · rintro rfl
    rw [if_neg (show ¬ x > x from Int64.lt_irrefl), if_pos rfl]
theorem lg_n {x c : Nat} (hx : x < 2 ^ 63) (hc : c < 2 ^ 63) : lg_cmp (jN x) (jN c) = 0 ↔ x = c := lg_i.trans (jN_eq hx hc)
theorem jN_p {x y : Nat} (hy : y < 256) : (jN x <<< ((8 : Int32).toInt64 &&& 63)) ||| (nI y).toInt64 = jN (x * 256 + y) := by
  have e1 : ∀ y, y < 256 → (nI y).toInt64 = jN y := by decide +kernel
  rw [e1 y hy, show ((8 : Int32).toInt64 &&& 63) = (8 : Int64) by decide]
  apply Int64.toBitVec_inj.mp
  rw [Int64.toBitVec_or, Int64.toBitVec_shiftLeft, show (8 : Int64).toBitVec.smod 64 = 8#64 by decide]
  show (BitVec.ofNat 64 x <<< 8#64) ||| BitVec.ofNat 64 y = BitVec.ofNat 64 (x * 256 + y)
  rw [BitVec.shiftLeft_eq']
  apply BitVec.eq_of_getLsbD_eq
  intro i hi
  rw [BitVec.getLsbD_or, BitVec.getLsbD_shiftLeft, BitVec.getLsbD_ofNat, BitVec.getLsbD_ofNat, BitVec.getLsbD_ofNat, show x * 256 + y = 2 ^ 8 * x + y by omega, Nat.testBit_two_pow_mul_add _ (show y < 2 ^ 8 by omega)]
  by_cases h8 : i < 8
  · simp [hi, h8]
  · have : y.testBit i = false := Nat.testBit_lt_two_pow (Nat.lt_of_lt_of_le (show y < 2 ^ 8 by omega) (Nat.pow_le_pow_right (by omega) (by omega)))
    simp [hi, h8, this]
    omega
/-- the letters in base 256 -/
def pkW (v : Nat → Nat) (a m : Nat) : Nat := zf (fun k x => x * 256 + v (a + k)) 0 m 0
theorem pkW_s {v : Nat → Nat} {a m : Nat} : pkW v a (m + 1) = pkW v a m * 256 + v (a + m) := by
  unfold pkW
  rw [zf_l, Nat.zero_add]
theorem pkW_b {v : Nat → Nat} {a : Nat} : ∀ m, (∀ k, k < m + 1 → v (a + k) < 128) → pkW v a (m + 1) + 1 ≤ 128 * 256 ^ m := by
  intro m
  induction m with
  | zero =>
    intro h
    have := h 0 (by omega)
    rw [pkW_s]
    show 0 * 256 + v (a + 0) + 1 ≤ _
    omega
  | succ m ih =>
    intro h
    have h1 := ih (fun k hk => h k (by omega))
    have h2 := h (m + 1) (by omega)
    rw [pkW_s, Nat.pow_succ]
    omega
theorem pkW_lt {v : Nat → Nat} {a m : Nat} (hm : m ≤ 8) (h : ∀ k, k < m → v (a + k) < 128) : pkW v a m < 2 ^ 63 := by
  cases m with
  | zero => show 0 < _; decide
  | succ m =>
    have h1 := pkW_b m h
    have h2 : 256 ^ m ≤ 256 ^ 7 := Nat.pow_le_pow_right (by omega) (by omega)
    omega
theorem pkW_c {v w : Nat → Nat} {a b : Nat} : ∀ m, (∀ k, k < m → v (a + k) = w (b + k)) → pkW v a m = pkW w b m := by
  intro m
  induction m with
  | zero => intro _; rfl
  | succ m ih =>
    intro h
    rw [pkW_s, pkW_s, ih (fun k hk => h k (by omega)), h m (by omega)]
theorem pkW_i {v w : Nat → Nat} {a b : Nat} : ∀ m m', (∀ k, k < m → 0 < v (a + k) ∧ v (a + k) < 256) → (∀ k, k < m' → 0 < w (b + k) ∧ w (b + k) < 256) → pkW v a m = pkW w b m' → m = m' ∧ ∀ k, k < m → v (a + k) = w (b + k) := by
  intro m
  induction m with
  | zero =>
    intro m' h1 h2 he
    cases m' with
    | zero => exact ⟨rfl, fun k hk => absurd hk (Nat.not_lt_zero _)⟩
    | succ m' =>
      rw [pkW_s] at he
      have h3 : pkW v a 0 = 0 := rfl
      have := h2 m' (by omega)
      omega
  | succ m ih =>
    intro m' h1 h2 he
    have h4 := h1 m (by omega)
    cases m' with
    | zero =>
      rw [pkW_s] at he
      have h3 : pkW w b 0 = 0 := rfl
      omega
    | succ m' =>
      rw [pkW_s, pkW_s] at he
      have h5 := h2 m' (by omega)
      obtain ⟨i1, i2⟩ := ih m' (fun k hk => h1 k (by omega)) (fun k hk => h2 k (by omega)) (by omega)
      refine ⟨by omega, fun k hk => ?_⟩
      by_cases hkm : k = m
      · subst hkm; rw [show b + k = b + m' by omega]; omega
      · exact i2 k (by omega)
def kW (j : Nat) : Nat := pkW zb (wO j) (wL j)
def kk (x : Nat) : Bool := (List.range 19).any (fun j => x == kW j)
theorem kk_t {x j : Nat} (hj : j < 19) (e : x = kW j) : kk x = true := List.any_eq_true.mpr ⟨j, List.mem_range.mpr hj, by rw [e]; exact beq_self_eq_true _⟩
theorem kk_f {x : Nat} (h : ∀ j, j < 19 → ¬ x = kW j) : kk x = false := by
  cases hk : kk x
  · rfl
  · obtain ⟨j, j1, j2⟩ := List.any_eq_true.mp hk
    exact absurd (eq_of_beq j2) (h j (List.mem_range.mp j1))
theorem zb_p : ∀ i, i < 101 → 0 < zb i := by decide +kernel
theorem kW_v : ∀ j, j < 19 → kW j = 495740482675 ∨ kW j = 491260897125 ∨ kW j = 2003395685 ∨ kW j = 465557353332 ∨ kW j = 461262647411 ∨ kW j = 1936222576 ∨ kW j = 24948 ∨ kW j = 470021465459 ∨ kW j = 28526 ∨ kW j = 32199680925529203 ∨ kW j = 439720633715 ∨ kW j = 1685217655 ∨ kW j = 495806932324 ∨ kW j = 448377483876 ∨ kW j = 121450625394034 ∨ kW j = 440005651813 ∨ kW j = 28530 ∨ kW j = 6385252 ∨ kW j = 7237492 := by decide +kernel
theorem r_kpt {x : Nat} (hx : x < 2 ^ 63) (h : ZH) : xX9_isKept (jN x) h = some (if kk x then 1 else 0, h) := by
  unfold xX9_isKept xX9_isKept_B80 xX9_isKept_B85
  by_cases h0 : x = 495740482675
  · rw [if_pos (show lg_cmp (jN x) (495740482675 : Int64) = 0 from (lg_n hx (show 495740482675 < 2 ^ 63 by decide)).mpr h0), if_neg (show ¬ (1 : Int32) = 0 by decide), show kk x = true from kk_t (j := 0) (by decide) (h0.trans (by decide +kernel))]
    rfl
  rw [if_neg (show ¬ lg_cmp (jN x) (495740482675 : Int64) = 0 from fun z => h0 ((lg_n hx (show 495740482675 < 2 ^ 63 by decide)).mp z))]
  by_cases h1 : x = 491260897125
  · rw [if_pos (show lg_cmp (jN x) (491260897125 : Int64) = 0 from (lg_n hx (show 491260897125 < 2 ^ 63 by decide)).mpr h1), if_neg (show ¬ (1 : Int32) = 0 by decide), show kk x = true from kk_t (j := 1) (by decide) (h1.trans (by decide +kernel))]
    rfl
  rw [if_neg (show ¬ lg_cmp (jN x) (491260897125 : Int64) = 0 from fun z => h1 ((lg_n hx (show 491260897125 < 2 ^ 63 by decide)).mp z))]
  by_cases h2 : x = 2003395685
  · rw [if_pos (show lg_cmp (jN x) (2003395685 : Int64) = 0 from (lg_n hx (show 2003395685 < 2 ^ 63 by decide)).mpr h2), if_neg (show ¬ (1 : Int32) = 0 by decide), show kk x = true from kk_t (j := 2) (by decide) (h2.trans (by decide +kernel))]
    rfl
  rw [if_neg (show ¬ lg_cmp (jN x) (2003395685 : Int64) = 0 from fun z => h2 ((lg_n hx (show 2003395685 < 2 ^ 63 by decide)).mp z))]
  by_cases h3 : x = 465557353332
  · rw [if_pos (show lg_cmp (jN x) (465557353332 : Int64) = 0 from (lg_n hx (show 465557353332 < 2 ^ 63 by decide)).mpr h3), if_neg (show ¬ (1 : Int32) = 0 by decide), show kk x = true from kk_t (j := 3) (by decide) (h3.trans (by decide +kernel))]
    rfl
  rw [if_neg (show ¬ lg_cmp (jN x) (465557353332 : Int64) = 0 from fun z => h3 ((lg_n hx (show 465557353332 < 2 ^ 63 by decide)).mp z))]
  by_cases h4 : x = 461262647411
  · rw [if_pos (show lg_cmp (jN x) (461262647411 : Int64) = 0 from (lg_n hx (show 461262647411 < 2 ^ 63 by decide)).mpr h4), if_neg (show ¬ (1 : Int32) = 0 by decide), show kk x = true from kk_t (j := 4) (by decide) (h4.trans (by decide +kernel))]
    rfl
  rw [if_neg (show ¬ lg_cmp (jN x) (461262647411 : Int64) = 0 from fun z => h4 ((lg_n hx (show 461262647411 < 2 ^ 63 by decide)).mp z))]
  by_cases h5 : x = 1936222576
  · rw [if_pos (show lg_cmp (jN x) (1936222576 : Int64) = 0 from (lg_n hx (show 1936222576 < 2 ^ 63 by decide)).mpr h5), if_neg (show ¬ (1 : Int32) = 0 by decide), show kk x = true from kk_t (j := 8) (by decide) (h5.trans (by decide +kernel))]
    rfl
  rw [if_neg (show ¬ lg_cmp (jN x) (1936222576 : Int64) = 0 from fun z => h5 ((lg_n hx (show 1936222576 < 2 ^ 63 by decide)).mp z))]
  by_cases h6 : x = 24948
  · rw [if_pos (show lg_cmp (jN x) (24948 : Int64) = 0 from (lg_n hx (show 24948 < 2 ^ 63 by decide)).mpr h6), if_neg (show ¬ (1 : Int32) = 0 by decide), show kk x = true from kk_t (j := 9) (by decide) (h6.trans (by decide +kernel))]
    rfl
  rw [if_neg (show ¬ lg_cmp (jN x) (24948 : Int64) = 0 from fun z => h6 ((lg_n hx (show 24948 < 2 ^ 63 by decide)).mp z))]
  by_cases h7 : x = 470021465459
  · rw [if_pos (show lg_cmp (jN x) (470021465459 : Int64) = 0 from (lg_n hx (show 470021465459 < 2 ^ 63 by decide)).mpr h7), if_neg (show ¬ (1 : Int32) = 0 by decide), show kk x = true from kk_t (j := 10) (by decide) (h7.trans (by decide +kernel))]
    rfl
  rw [if_neg (show ¬ lg_cmp (jN x) (470021465459 : Int64) = 0 from fun z => h7 ((lg_n hx (show 470021465459 < 2 ^ 63 by decide)).mp z))]
  by_cases h8 : x = 28526
  · rw [if_pos (show lg_cmp (jN x) (28526 : Int64) = 0 from (lg_n hx (show 28526 < 2 ^ 63 by decide)).mpr h8), if_neg (show ¬ (1 : Int32) = 0 by decide), show kk x = true from kk_t (j := 11) (by decide) (h8.trans (by decide +kernel))]
    rfl
  rw [if_neg (show ¬ lg_cmp (jN x) (28526 : Int64) = 0 from fun z => h8 ((lg_n hx (show 28526 < 2 ^ 63 by decide)).mp z))]
  by_cases h9 : x = 32199680925529203
  · rw [if_pos (show lg_cmp (jN x) (32199680925529203 : Int64) = 0 from (lg_n hx (show 32199680925529203 < 2 ^ 63 by decide)).mpr h9), if_neg (show ¬ (1 : Int32) = 0 by decide), show kk x = true from kk_t (j := 7) (by decide) (h9.trans (by decide +kernel))]
    rfl
  rw [if_neg (show ¬ lg_cmp (jN x) (32199680925529203 : Int64) = 0 from fun z => h9 ((lg_n hx (show 32199680925529203 < 2 ^ 63 by decide)).mp z)), if_pos rfl]
  by_cases h10 : x = 439720633715
  · rw [if_pos (show lg_cmp (jN x) (439720633715 : Int64) = 0 from (lg_n hx (show 439720633715 < 2 ^ 63 by decide)).mpr h10), show kk x = true from kk_t (j := 5) (by decide) (h10.trans (by decide +kernel))]
    rfl
  rw [if_neg (show ¬ lg_cmp (jN x) (439720633715 : Int64) = 0 from fun z => h10 ((lg_n hx (show 439720633715 < 2 ^ 63 by decide)).mp z))]
  by_cases h11 : x = 1685217655
  · rw [if_pos (show lg_cmp (jN x) (1685217655 : Int64) = 0 from (lg_n hx (show 1685217655 < 2 ^ 63 by decide)).mpr h11), show kk x = true from kk_t (j := 6) (by decide) (h11.trans (by decide +kernel))]
    rfl
  rw [if_neg (show ¬ lg_cmp (jN x) (1685217655 : Int64) = 0 from fun z => h11 ((lg_n hx (show 1685217655 < 2 ^ 63 by decide)).mp z))]
  by_cases h12 : x = 495806932324
  · rw [if_pos (show lg_cmp (jN x) (495806932324 : Int64) = 0 from (lg_n hx (show 495806932324 < 2 ^ 63 by decide)).mpr h12), show kk x = true from kk_t (j := 15) (by decide) (h12.trans (by decide +kernel))]
    rfl
  rw [if_neg (show ¬ lg_cmp (jN x) (495806932324 : Int64) = 0 from fun z => h12 ((lg_n hx (show 495806932324 < 2 ^ 63 by decide)).mp z))]
  by_cases h13 : x = 448377483876
  · rw [if_pos (show lg_cmp (jN x) (448377483876 : Int64) = 0 from (lg_n hx (show 448377483876 < 2 ^ 63 by decide)).mpr h13), show kk x = true from kk_t (j := 16) (by decide) (h13.trans (by decide +kernel))]
    rfl
  rw [if_neg (show ¬ lg_cmp (jN x) (448377483876 : Int64) = 0 from fun z => h13 ((lg_n hx (show 448377483876 < 2 ^ 63 by decide)).mp z))]
  by_cases h14 : x = 121450625394034
  · rw [if_pos (show lg_cmp (jN x) (121450625394034 : Int64) = 0 from (lg_n hx (show 121450625394034 < 2 ^ 63 by decide)).mpr h14), show kk x = true from kk_t (j := 17) (by decide) (h14.trans (by decide +kernel))]
    rfl
  rw [if_neg (show ¬ lg_cmp (jN x) (121450625394034 : Int64) = 0 from fun z => h14 ((lg_n hx (show 121450625394034 < 2 ^ 63 by decide)).mp z))]
  by_cases h15 : x = 440005651813
  · rw [if_pos (show lg_cmp (jN x) (440005651813 : Int64) = 0 from (lg_n hx (show 440005651813 < 2 ^ 63 by decide)).mpr h15), show kk x = true from kk_t (j := 18) (by decide) (h15.trans (by decide +kernel))]
    rfl
  rw [if_neg (show ¬ lg_cmp (jN x) (440005651813 : Int64) = 0 from fun z => h15 ((lg_n hx (show 440005651813 < 2 ^ 63 by decide)).mp z))]
  by_cases h16 : x = 28530
  · rw [if_pos (show lg_cmp (jN x) (28530 : Int64) = 0 from (lg_n hx (show 28530 < 2 ^ 63 by decide)).mpr h16), show kk x = true from kk_t (j := 12) (by decide) (h16.trans (by decide +kernel))]
    rfl
  rw [if_neg (show ¬ lg_cmp (jN x) (28530 : Int64) = 0 from fun z => h16 ((lg_n hx (show 28530 < 2 ^ 63 by decide)).mp z))]
  by_cases h17 : x = 6385252
  · rw [if_pos (show lg_cmp (jN x) (6385252 : Int64) = 0 from (lg_n hx (show 6385252 < 2 ^ 63 by decide)).mpr h17), show kk x = true from kk_t (j := 13) (by decide) (h17.trans (by decide +kernel))]
    rfl
  rw [if_neg (show ¬ lg_cmp (jN x) (6385252 : Int64) = 0 from fun z => h17 ((lg_n hx (show 6385252 < 2 ^ 63 by decide)).mp z))]
  by_cases h18 : x = 7237492
  · rw [if_pos (show lg_cmp (jN x) (7237492 : Int64) = 0 from (lg_n hx (show 7237492 < 2 ^ 63 by decide)).mpr h18), show kk x = true from kk_t (j := 14) (by decide) (h18.trans (by decide +kernel))]
    rfl
  rw [if_neg (show ¬ lg_cmp (jN x) (7237492 : Int64) = 0 from fun z => h18 ((lg_n hx (show 7237492 < 2 ^ 63 by decide)).mp z))]
  rw [show kk x = false from kk_f (fun j hj e => by have := kW_v j hj; omega)]
  rfl
theorem run_x {t : Nat → Bool} : ∀ f p, run t f p = p + f ∨ t (run t f p) = false := by
  intro f
  induction f with
  | zero => intro p; exact Or.inl rfl
  | succ f ih =>
    intro p
    show (if t p then run t f (p + 1) else p) = p + (f + 1) ∨ t (if t p then run t f (p + 1) else p) = false
    by_cases hp : t p = true
    · rw [if_pos hp]
      rcases ih (p + 1) with h | h
      · left; omega
      · exact Or.inr h
    · rw [if_neg hp]
      right; simpa using hp
theorem wx_le {v : Nat → Nat} {a len : Nat} : wIx v a len ≤ 19 := by
  have := run_ge (t := fun j => !eqW v a len j) 19 0
  unfold wIx
  omega
theorem wx_y {v : Nat → Nat} {a len : Nat} (h : wIx v a len < 19) : len = wL (wIx v a len) ∧ pkW v a len = kW (wIx v a len) := by
  rcases run_x (t := fun j => !eqW v a len j) 19 0 with e | e
  · have : wIx v a len = 0 + 19 := e
    omega
  · have e2 : (!eqW v a len (wIx v a len)) = false := e
    have e3 : eqW v a len (wIx v a len) = true := by simpa using e2
    obtain ⟨e4, e5⟩ := of_decide_eq_true e3
    refine ⟨e4, ?_⟩
    unfold kW
    rw [show pkW v a len = pkW v a (wL (wIx v a len)) from congrArg (pkW v a) e4]
    exact pkW_c _ e5
theorem isL_i {x : Nat} (h : isL x = true) : 97 ≤ x ∧ x ≤ 122 := of_decide_eq_true h
theorem wx_n {v : Nat → Nat} {a len : Nat} (hl : ∀ k, k < len → isL (v (a + k)) = true) (h : ¬ wIx v a len < 19) : kk (pkW v a len) = false := by
  refine kk_f (fun j hj e => ?_)
  obtain ⟨w1, -⟩ := wO_s j hj
  obtain ⟨i1, i2⟩ := pkW_i (v := v) (w := zb) (a := a) (b := wO j) len (wL j) (fun k hk => by have := isL_i (hl k hk); omega) (fun k hk => by
    have h1 := (w1 k hk).2
    have h2 := zb_p _ h1
    have h3 := (zb_i _ h1).2
    omega) e
  have h3 : (!eqW v a len j) = true := run_in (t := fun j => !eqW v a len j) 19 0 j (by omega) (show j < wIx v a len by omega)
  have h4 : eqW v a len j = true := decide_eq_true ⟨i1, fun k hk => i2 k (by omega)⟩
  rw [h4] at h3
  cases h3
theorem wx_p {v : Nat → Nat} {a len : Nat} (h : wIx v a len < 19) : kk (pkW v a len) = true := kk_t h (wx_y h).2
def TR (σ : ZS) (u : Nat → Nat) (n : Nat) : Prop := sI σ 78 3 = nI n ∧ n ≤ 1600 ∧ ∀ i, i < n → u i < 256 ∧ sF σ 80 i = sgn (u i)
theorem TR_f {S : Nat → Prop} {T : Nat → Nat → Prop} {σ τ : ZS} {u : Nat → Nat} {n : Nat} (h : FN S T σ τ) (hS : ¬ S 80) (hT : ¬ T 78 3) (t : TR σ u n) : TR τ u n := ⟨by rw [h.2.1 78 3 hT]; exact t.1, t.2.1, fun i hi => by rw [h.1 80 hS]; exact t.2.2 i hi⟩
theorem r_sign {σ : ZS} {u : Nat → Nat} {n k : Nat} (T : TR σ u n) (hk : k < 2 ^ 31) : xX9_sign 78 (nI k) (mkH σ) = some (nI (gu0 u n k), mkH σ) := by
  have hn := T.2.1
  unfold xX9_sign
  rw [rI_78_3, Option.bind_some, T.1]
  by_cases h : n ≤ k
  · rw [if_pos (nI_le h hk), gu_o h]; rfl
  · rw [if_neg (fun z => h ((nI_leI (by omega) hk).mp z)), rR_78_1, Option.bind_some, ra_80 σ (show k < 1600 by omega), Option.bind_some, (T.2.2 k (by omega)).2, (sg_1 _ (T.2.2 k (by omega)).1).2.2.2.2.2.2, gu_i (by omega)]
theorem r_isL {u : Nat} (hu : u < 256) (h : ZH) : xX9_isLetter (nI u) h = some (if isL u then 1 else 0, h) := by
  unfold xX9_isLetter isL
  rw [nl_97, nl_122]
  by_cases c1 : u < 97
  · rw [if_pos (nI_lt c1 (by omega)), decide_eq_false (by omega)]; rfl
  · rw [if_neg (fun z => c1 ((nI_ltI (by omega) (by omega)).mp z))]
    by_cases c2 : 122 < u
    · rw [if_pos (nI_lt c2 (by omega)), decide_eq_false (by omega)]; rfl
    · rw [if_neg (fun z => c2 ((nI_ltI (by omega) (by omega)).mp z)), decide_eq_true (by omega)]; rfl
theorem r_isD {u : Nat} (hu : u < 256) (h : ZH) : xX9_isDigit (nI u) h = some (if isD u then 1 else 0, h) := by
  unfold xX9_isDigit isD
  rw [nl_48, nl_57]
  by_cases c1 : u < 48
  · rw [if_pos (nI_lt c1 (by omega)), decide_eq_false (by omega)]; rfl
  · rw [if_neg (fun z => c1 ((nI_ltI (by omega) (by omega)).mp z))]
    by_cases c2 : 57 < u
    · rw [if_pos (nI_lt c2 (by omega)), decide_eq_false (by omega)]; rfl
    · rw [if_neg (fun z => c2 ((nI_ltI (by omega) (by omega)).mp z)), decide_eq_true (by omega)]; rfl
theorem nq {a b : Nat} (ha : a < 2 ^ 31) (hb : b < 2 ^ 31) (h : a ≠ b) : ¬ nI a = nI b := fun z => h ((nI_eq ha hb).mp z)
theorem r_isS {u : Nat} (hu : u < 256) (h : ZH) : xX9_isSign (nI u) h = some (if isG u then 1 else 0, h) := by
  unfold xX9_isSign isG
  by_cases h0 : u = 59
  · rw [if_pos (show nI u = (59 : Int32) from by rw [h0]; rfl), decide_eq_true (by omega)]; rfl
  rw [if_neg (show ¬ nI u = (59 : Int32) from nq (b := 59) (by omega) (by omega) h0)]
  by_cases h1 : u = 40
  · rw [if_pos (show nI u = (40 : Int32) from by rw [h1]; rfl), decide_eq_true (by omega)]; rfl
  rw [if_neg (show ¬ nI u = (40 : Int32) from nq (b := 40) (by omega) (by omega) h1)]
  by_cases h2 : u = 41
  · rw [if_pos (show nI u = (41 : Int32) from by rw [h2]; rfl), decide_eq_true (by omega)]; rfl
  rw [if_neg (show ¬ nI u = (41 : Int32) from nq (b := 41) (by omega) (by omega) h2)]
  by_cases h3 : u = 60
  · rw [if_pos (show nI u = (60 : Int32) from by rw [h3]; rfl), decide_eq_true (by omega)]; rfl
  rw [if_neg (show ¬ nI u = (60 : Int32) from nq (b := 60) (by omega) (by omega) h3)]
  by_cases h4 : u = 62
  · rw [if_pos (show nI u = (62 : Int32) from by rw [h4]; rfl), decide_eq_true (by omega)]; rfl
  rw [if_neg (show ¬ nI u = (62 : Int32) from nq (b := 62) (by omega) (by omega) h4)]
  by_cases h5 : u = 61
  · rw [if_pos (show nI u = (61 : Int32) from by rw [h5]; rfl), decide_eq_true (by omega)]; rfl
  rw [if_neg (show ¬ nI u = (61 : Int32) from nq (b := 61) (by omega) (by omega) h5)]
  by_cases h6 : u = 43
  · rw [if_pos (show nI u = (43 : Int32) from by rw [h6]; rfl), decide_eq_true (by omega)]; rfl
  rw [if_neg (show ¬ nI u = (43 : Int32) from nq (b := 43) (by omega) (by omega) h6)]
  by_cases h7 : u = 45
  · rw [if_pos (show nI u = (45 : Int32) from by rw [h7]; rfl), decide_eq_true (by omega)]; rfl
  rw [if_neg (show ¬ nI u = (45 : Int32) from nq (b := 45) (by omega) (by omega) h7)]
  by_cases h8 : u = 42
  · rw [if_pos (show nI u = (42 : Int32) from by rw [h8]; rfl), decide_eq_true (by omega)]; rfl
  rw [if_neg (show ¬ nI u = (42 : Int32) from nq (b := 42) (by omega) (by omega) h8)]
  by_cases h9 : u = 47
  · rw [if_pos (show nI u = (47 : Int32) from by rw [h9]; rfl), decide_eq_true (by omega)]; rfl
  rw [if_neg (show ¬ nI u = (47 : Int32) from nq (b := 47) (by omega) (by omega) h9)]
  by_cases h10 : u = 37
  · rw [if_pos (show nI u = (37 : Int32) from by rw [h10]; rfl), decide_eq_true (by omega)]; rfl
  rw [if_neg (show ¬ nI u = (37 : Int32) from nq (b := 37) (by omega) (by omega) h10)]
  rw [decide_eq_false (by omega)]; rfl
theorem r_skip {u : Nat → Nat} {n : Nat} : ∀ (m q : Nat) (τ : ZS) (e : Nat), q + m = n → TR τ u n → sI τ 78 6 = nI q → ∃ τ', xX9_goOn_L8 (e + m + 1) 78 (mkH τ) = xX9_goOn_B58 78 (mkH τ') ∧ sI τ' 78 6 = nI (run (fun k => isB (gu0 u n k)) m q) ∧ FR (fun _ => False) (fun a k => a = 78 ∧ k = 6) τ τ' := by
  intro m
  induction m with
  | zero =>
    intro q τ e hq T h5
    have hqn : q = n := by omega
    refine ⟨τ, ?_, h5, FR_r⟩
    show xX9_goOn_B8 (xX9_goOn_L8 (e + 0)) 78 (mkH τ) = _
    unfold xX9_goOn_B8
    rw [rI_78_6, Option.bind_some, rI_78_3, Option.bind_some, h5, T.1, if_pos (nI_le (by omega) (by have := T.2.1; omega))]
  | succ m ih =>
    intro q τ e hq T h5
    have hn := T.2.1
    obtain ⟨u1, u2⟩ := T.2.2 q (by omega)
    have hB : xX9_goOn_L8 (e + (m + 1) + 1) 78 (mkH τ) = if isB (u q) = true then xX9_goOn_L8 (e + m + 1) 78 (mkH (setI τ 78 6 (nI (q + 1)))) else xX9_goOn_B58 78 (mkH τ) := by
      show xX9_goOn_B8 (xX9_goOn_L8 (e + (m + 1))) 78 (mkH τ) = _
      rw [show e + (m + 1) = e + m + 1 by omega]
      generalize xX9_goOn_L8 (e + m + 1) = nl
      unfold xX9_goOn_B8
      rw [rI_78_6, Option.bind_some, rI_78_3, Option.bind_some, h5, T.1, if_neg (fun z => by have := (nI_leI (by omega) (by omega)).mp z; omega), Option.bind_some, is_78, gu_t, r_sign T (by omega), Option.bind_some, gu_i (by omega)]
      dsimp only
      by_cases h1 : u q = 32
      · rw [if_pos (show nI (u q) = (32 : Int32) from by rw [h1]; rfl), if_pos (show isB (u q) = true from decide_eq_true (Or.inl h1)), rI_78_6, Option.bind_some, h5, nI_s, wI_78_6, Option.bind_some]
      · rw [if_neg (show ¬ nI (u q) = (32 : Int32) from nq (b := 32) (by omega) (by omega) h1), rI_78_6, Option.bind_some, h5, is_78, gu_t, r_sign T (by omega), Option.bind_some, gu_i (by omega)]
        dsimp only
        by_cases h2 : u q = 10
        · rw [if_pos (show nI (u q) = (10 : Int32) from by rw [h2]; rfl), if_pos (show isB (u q) = true from decide_eq_true (Or.inr h2)), rI_78_6, Option.bind_some, h5, nI_s, wI_78_6, Option.bind_some]
        · rw [if_neg (show ¬ nI (u q) = (10 : Int32) from nq (b := 10) (by omega) (by omega) h2), if_neg (show ¬ isB (u q) = true from fun z => by have := of_decide_eq_true z; omega)]
    have hr : run (fun k => isB (gu0 u n k)) (m + 1) q = if isB (u q) = true then run (fun k => isB (gu0 u n k)) m (q + 1) else q := by
      show (if isB (gu0 u n q) = true then _ else _) = _
      rw [gu_i (by omega)]
    rw [hB, hr]
    by_cases hb : isB (u q) = true
    · rw [if_pos hb, if_pos hb]
      have hF : FR (fun _ => False) (fun a k => a = 78 ∧ k = 6) τ (setI τ 78 6 (nI (q + 1))) := FR_I ⟨rfl, rfl⟩
      obtain ⟨τ', t1, t2, t3⟩ := ih (q + 1) (setI τ 78 6 (nI (q + 1))) e (by omega) (TR_f (FN_f hF) (fun z => z) (by omega) T) sI_eq
      exact ⟨τ', t1, t2, FR_t hF t3⟩
    · rw [if_neg hb, if_neg hb]
      exact ⟨τ, rfl, h5, FR_r⟩
noncomputable def r_xit (h : ZH) : Option ZH := ((z_sF h 78 9 10 (.long (0 : Int64))).bind fun h148 => ((z_gI h148 78 9 6).bind fun x152 => xX9_goOn_L156 zFU 78 x152 h148))
theorem r_lets {u : Nat → Nat} {n : Nat} : ∀ (m q : Nat) (τ : ZS) (e : Nat), q + m = n → TR τ u n → sI τ 78 7 = nI q → ∃ τ', xX9_goOn_L119 (e + m + 1) 78 (mkH τ) = r_xit (mkH τ') ∧ sI τ' 78 7 = nI (run (fun k => isL (gu0 u n k)) m q) ∧ FR (fun _ => False) (fun a k => a = 78 ∧ k = 7) τ τ' := by
  have hB : ∀ (τ : ZS) (q e : Nat), q ≤ n → TR τ u n → sI τ 78 7 = nI q → xX9_goOn_L119 (e + 1) 78 (mkH τ) = if isL (gu0 u n q) = true then xX9_goOn_L119 e 78 (mkH (setI τ 78 7 (nI (q + 1)))) else r_xit (mkH τ) := by
    intro τ q e hq T h7
    have hn := T.2.1
    show xX9_goOn_B119 (xX9_goOn_L119 e) 78 (mkH τ) = _
    generalize xX9_goOn_L119 e = nl
    unfold xX9_goOn_B119 r_xit
    generalize xX9_goOn_L156 zFU = ml
    rw [rI_78_7, Option.bind_some, h7, is_78, gu_t, r_sign T (by omega), Option.bind_some]
    dsimp only
    rw [r_isL (gu_lt (fun i hi => (T.2.2 i hi).1) q), Option.bind_some]
    dsimp only
    by_cases hb : isL (gu0 u n q) = true
    · rw [if_pos hb, if_pos hb, if_neg (show ¬ (1 : Int32) = 0 by decide), rI_78_7, Option.bind_some, h7, nI_s, wI_78_7, Option.bind_some]
    · rw [if_neg hb, if_neg hb, if_pos rfl]
  intro m
  induction m with
  | zero =>
    intro q τ e hq T h7
    refine ⟨τ, ?_, h7, FR_r⟩
    rw [show e + 0 + 1 = e + 1 from rfl, hB τ q e (by omega) T h7, gu_o (by omega)]
    rfl
  | succ m ih =>
    intro q τ e hq T h7
    have hr : run (fun k => isL (gu0 u n k)) (m + 1) q = if isL (gu0 u n q) = true then run (fun k => isL (gu0 u n k)) m (q + 1) else q := rfl
    rw [hB τ q (e + (m + 1)) (by omega) T h7, hr]
    by_cases hb : isL (gu0 u n q) = true
    · rw [if_pos hb, if_pos hb]
      have hF : FR (fun _ => False) (fun a k => a = 78 ∧ k = 7) τ (setI τ 78 7 (nI (q + 1))) := FR_I ⟨rfl, rfl⟩
      obtain ⟨τ', t1, t2, t3⟩ := ih (q + 1) (setI τ 78 7 (nI (q + 1))) e (by omega) (TR_f (FN_f hF) (fun z => z) (by omega) T) sI_eq
      exact ⟨τ', t1, t2, FR_t hF t3⟩
    · rw [if_neg hb, if_neg hb]
      exact ⟨τ, rfl, h7, FR_r⟩
theorem sN_N {σ : ZS} {v : Int64} : sN (setN σ v) = v := rfl
theorem setNN {σ : ZS} {v w : Int64} : setN (setN σ v) w = setN σ w := rfl
theorem r_pk {τ : ZS} {u : Nat → Nat} {n a ee c : Nat} (T : TR τ u n) (h6 : sI τ 78 6 = nI a) (h7 : sI τ 78 7 = nI ee) (hle : a ≤ ee) (hee : ee ≤ n) (hc : c = if ee - a ≤ 8 then ee - a else 8) : ∀ m k, k + m = c → ∀ f, xX9_goOn_L156 (f + m + 1) 78 (nI (a + k)) (mkH (setN τ (jN (pkW (gu0 u n) a k)))) = xX9_goOn_B199 78 (mkH (setN τ (jN (pkW (gu0 u n) a c)))) := by
  have hn := T.2.1
  have g6 : ∀ x, sI (setN τ x) 78 6 = nI a := fun _ => h6
  have g7 : ∀ x, sI (setN τ x) 78 7 = nI ee := fun _ => h7
  have T2 : ∀ x, TR (setN τ x) u n := fun _ => T
  intro m
  induction m with
  | zero =>
    intro k hk f
    have hkc : k = c := by omega
    show xX9_goOn_B156 (xX9_goOn_L156 (f + 0)) 78 (nI (a + k)) (mkH (setN τ (jN (pkW (gu0 u n) a k)))) = _
    unfold xX9_goOn_B156
    rw [rI_78_7, Option.bind_some, g7]
    by_cases h8 : ee - a ≤ 8
    · rw [if_pos h8] at hc
      rw [if_pos (nI_le (by omega) (by omega)), hkc]
    · rw [if_neg h8] at hc
      rw [if_neg (fun z => by have := (nI_leI (by omega) (by omega)).mp z; omega), rI_78_6, Option.bind_some, g6, nl_8, nI_add, if_pos (nI_le (by omega) (by omega)), hkc]
  | succ m ih =>
    intro k hk f
    have hk8 : a + k < ee ∧ k < 8 := by
      by_cases h8 : ee - a ≤ 8
      · rw [if_pos h8] at hc; omega
      · rw [if_neg h8] at hc; omega
    rw [← ih (k + 1) (by omega) f]
    show xX9_goOn_B156 (xX9_goOn_L156 (f + (m + 1))) 78 (nI (a + k)) (mkH (setN τ (jN (pkW (gu0 u n) a k)))) = _
    rw [show f + (m + 1) = f + m + 1 by omega]
    generalize xX9_goOn_L156 (f + m + 1) = nl
    unfold xX9_goOn_B156
    rw [rI_78_7, Option.bind_some, g7, if_neg (fun z => by have := (nI_leI (by omega) (by omega)).mp z; omega), rI_78_6, Option.bind_some, g6, nl_8, nI_add, if_neg (fun z => by have := (nI_leI (by omega) (by omega)).mp z; omega), ← nl_8, rName, Option.bind_some, is_78, gu_t, r_sign (T2 _) (show a + k < 2 ^ 31 by omega), Option.bind_some]
    dsimp only
    rw [sN_N, jN_p (gu_lt (fun i hi => (T.2.2 i hi).1) _), ← pkW_s, wName, Option.bind_some, setNN, nI_s]
    rfl
theorem r_word {τ : ZS} {u : Nat → Nat} {n a ee : Nat} (T : TR τ u n) (h6 : sI τ 78 6 = nI a) (h7 : sI τ 78 7 = nI ee) (hle : a ≤ ee) (hee : ee ≤ n) (hl : ∀ k, k < ee - a → isL (gu0 u n (a + k)) = true) : ∃ υ, r_xit (mkH τ) = some (mkH υ) ∧ sI υ 78 6 = nI a ∧ sI υ 78 7 = nI ee ∧ sI υ 78 8 = nI (if ee - a ≤ 8 then (if wIx (gu0 u n) a (ee - a) < 19 then 3 else 2) else 1) ∧ (ee - a ≤ 8 → sN υ = jN (pkW (gu0 u n) a (ee - a))) ∧ FN (fun _ => False) (fun a k => a = 78 ∧ k = 8) τ υ := by
  have hn := T.2.1
  obtain ⟨f, hf⟩ := zfu (if ee - a ≤ 8 then ee - a else 8) (by split <;> omega)
  have key := r_pk T h6 h7 hle hee rfl (if ee - a ≤ 8 then ee - a else 8) 0 (by omega) f
  rw [← hf] at key
  have hx : r_xit (mkH τ) = xX9_goOn_B199 78 (mkH (setN τ (jN (pkW (gu0 u n) a (if ee - a ≤ 8 then ee - a else 8))))) := by
    rw [← key]
    unfold r_xit
    generalize xX9_goOn_L156 zFU = ml
    rw [wName, Option.bind_some, rI_78_6, Option.bind_some, show sI (setN τ 0) 78 6 = nI a from h6]
    rfl
  rw [hx]
  have g6 : ∀ x, sI (setN τ x) 78 6 = nI a := fun _ => h6
  have g7 : ∀ x, sI (setN τ x) 78 7 = nI ee := fun _ => h7
  have h199 : xX9_goOn_B199 78 (mkH (setN τ (jN (pkW (gu0 u n) a (if ee - a ≤ 8 then ee - a else 8))))) = some (mkH (setI (setN τ (jN (pkW (gu0 u n) a (if ee - a ≤ 8 then ee - a else 8)))) 78 8 (nI (if ee - a ≤ 8 then (if wIx (gu0 u n) a (ee - a) < 19 then 3 else 2) else 1)))) := by
    unfold xX9_goOn_B199
    rw [rI_78_7, Option.bind_some, g7, rI_78_6, Option.bind_some, g6, pk_sub hle]
    by_cases h8 : ee - a ≤ 8
    · rw [if_pos (show nI (ee - a) ≤ (8 : Int32) from by rw [nl_8]; exact nI_le h8 (by omega)), if_pos h8, if_pos h8, rName, Option.bind_some, sN_N, r_kpt (pkW_lt h8 (fun k hk => by have := isL_i (hl k hk); omega)), Option.bind_some]
      dsimp only
      by_cases hw : wIx (gu0 u n) a (ee - a) < 19
      · rw [wx_p hw, if_pos hw, if_pos rfl, if_neg (show ¬ (1 : Int32) = 0 by decide), wI_78_8, Option.bind_some]
        rfl
      · rw [wx_n hl hw, if_neg hw, if_neg (show ¬ false = true by decide), if_pos rfl, wI_78_8, Option.bind_some]
        rfl
    · rw [if_neg (show ¬ nI (ee - a) ≤ (8 : Int32) from fun z => by rw [nl_8] at z; exact h8 ((nI_leI (by omega) (by omega)).mp z)), if_neg h8, if_neg h8, wI_78_8, Option.bind_some]
      rfl
  refine ⟨_, h199, ?_, ?_, sI_eq, fun h8 => ?_, FN_t FN_N (FN_I ⟨rfl, rfl⟩)⟩
  · rw [sI_ne (by omega)]; exact h6
  · rw [sI_ne (by omega)]; exact h7
  · show jN (pkW (gu0 u n) a (if ee - a ≤ 8 then ee - a else 8)) = _
    rw [if_pos h8]
theorem r_num {x d : Nat} (hd : 48 ≤ d) : ((10 : Int32) * nI x + nI d) - 48 = nI (x * 10 + (d - 48)) := by
  rw [nl_10, pk_mul, nI_add, nl_48, pk_sub (by omega), show 10 * x + d - 48 = x * 10 + (d - 48) by omega]
theorem r_digs {u : Nat → Nat} {n a : Nat} : ∀ (m q : Nat) (τ : ZS) (e : Nat), q + m = n → a ≤ q → TR τ u n → sI τ 78 6 = nI a → sI τ 78 7 = nI q → sI τ 78 9 = nI (nmV (gu0 u n) a (if q - a ≤ 4 then q - a else 4)) → ∃ τ' ee, ee = run (fun k => isD (gu0 u n k)) m q ∧ xX9_goOn_L259 (e + m + 1) 78 (mkH τ) = xX9_goOn_B322 78 (mkH τ') ∧ sI τ' 78 7 = nI ee ∧ sI τ' 78 9 = nI (nmV (gu0 u n) a (if ee - a ≤ 4 then ee - a else 4)) ∧ FR (fun _ => False) (fun a k => a = 78 ∧ (k = 7 ∨ k = 9)) τ τ' := by
  have hB : ∀ (τ : ZS) (q e : Nat), q ≤ n → a ≤ q → TR τ u n → sI τ 78 6 = nI a → sI τ 78 7 = nI q → sI τ 78 9 = nI (nmV (gu0 u n) a (if q - a ≤ 4 then q - a else 4)) → (isD (gu0 u n q) = true → ∃ τ', xX9_goOn_L259 (e + 1) 78 (mkH τ) = xX9_goOn_L259 e 78 (mkH τ') ∧ sI τ' 78 7 = nI (q + 1) ∧ sI τ' 78 9 = nI (nmV (gu0 u n) a (if q + 1 - a ≤ 4 then q + 1 - a else 4)) ∧ FR (fun _ => False) (fun a k => a = 78 ∧ (k = 7 ∨ k = 9)) τ τ') ∧ (¬ isD (gu0 u n q) = true → xX9_goOn_L259 (e + 1) 78 (mkH τ) = xX9_goOn_B322 78 (mkH τ)) := by
    intro τ q e hq haq T h6 h7 h9
    have hn := T.2.1
    have hx : xX9_goOn_L259 (e + 1) 78 (mkH τ) = xX9_goOn_B259 (xX9_goOn_L259 e) 78 (mkH τ) := rfl
    rw [hx]
    generalize xX9_goOn_L259 e = nl
    constructor
    · intro hb
      have hd := of_decide_eq_true hb
      by_cases h4 : 4 ≤ q - a
      · refine ⟨setI τ 78 7 (nI (q + 1)), ?_, sI_eq, ?_, FR_I ⟨rfl, Or.inl rfl⟩⟩
        · unfold xX9_goOn_B259
          rw [rI_78_7, Option.bind_some, h7, is_78, gu_t, r_sign T (by omega), Option.bind_some]
          dsimp only
          rw [r_isD (gu_lt (fun i hi => (T.2.2 i hi).1) q), Option.bind_some]
          dsimp only
          rw [if_pos hb, if_neg (show ¬ (1 : Int32) = 0 by decide), rI_78_7, Option.bind_some, h7, rI_78_6, Option.bind_some, h6, pk_sub haq, if_pos (show (4 : Int32) ≤ nI (q - a) from by rw [nl_4]; exact nI_le h4 (by omega)), Option.bind_some, nI_s, wI_78_7, Option.bind_some]
        · rw [sI_ne (by omega), h9, if_neg (show ¬ q + 1 - a ≤ 4 by omega)]
          by_cases h5 : q - a ≤ 4
          · rw [if_pos h5, show q - a = 4 by omega]
          · rw [if_neg h5]
      · refine ⟨setI (setI τ 78 9 (nI (nmV (gu0 u n) a (q - a + 1)))) 78 7 (nI (q + 1)), ?_, sI_eq, ?_, FR_t (FR_I ⟨rfl, Or.inr rfl⟩) (FR_I ⟨rfl, Or.inl rfl⟩)⟩
        · unfold xX9_goOn_B259
          rw [rI_78_7, Option.bind_some, h7, is_78, gu_t, r_sign T (by omega), Option.bind_some]
          dsimp only
          rw [r_isD (gu_lt (fun i hi => (T.2.2 i hi).1) q), Option.bind_some]
          dsimp only
          rw [if_pos hb, if_neg (show ¬ (1 : Int32) = 0 by decide), rI_78_7, Option.bind_some, h7, rI_78_6, Option.bind_some, h6, pk_sub haq, if_neg (show ¬ (4 : Int32) ≤ nI (q - a) from fun z => by rw [nl_4] at z; exact h4 ((nI_leI (by omega) (by omega)).mp z)), rI_78_9, Option.bind_some, h9, Option.bind_some, is_78, gu_t, r_sign T (by omega), Option.bind_some]
          dsimp only
          rw [if_pos (show q - a ≤ 4 by omega), r_num (by omega), wI_78_9, Option.bind_some, rI_78_7, Option.bind_some, sI_ne (by omega), h7, nI_s, wI_78_7, Option.bind_some, nm_s, show a + (q - a) = q by omega]
        · rw [sI_ne (by omega), sI_eq, if_pos (show q + 1 - a ≤ 4 by omega), show q + 1 - a = q - a + 1 by omega]
    · intro hb
      unfold xX9_goOn_B259
      rw [rI_78_7, Option.bind_some, h7, is_78, gu_t, r_sign T (by omega), Option.bind_some]
      dsimp only
      rw [r_isD (gu_lt (fun i hi => (T.2.2 i hi).1) q), Option.bind_some]
      dsimp only
      rw [if_neg hb, if_pos rfl]
  intro m
  induction m with
  | zero =>
    intro q τ e hq haq T h6 h7 h9
    refine ⟨τ, q, rfl, ?_, h7, h9, FR_r⟩
    exact (hB τ q e (by omega) haq T h6 h7 h9).2 (by rw [gu_o (by omega)]; decide)
  | succ m ih =>
    intro q τ e hq haq T h6 h7 h9
    have hr : run (fun k => isD (gu0 u n k)) (m + 1) q = if isD (gu0 u n q) = true then run (fun k => isD (gu0 u n k)) m (q + 1) else q := rfl
    rw [hr]
    obtain ⟨b1, b2⟩ := hB τ q (e + (m + 1)) (by omega) haq T h6 h7 h9
    by_cases hb : isD (gu0 u n q) = true
    · rw [if_pos hb]
      obtain ⟨τ1, s1, s2, s3, s4⟩ := b1 hb
      obtain ⟨τ', ee, t0, t1, t2, t3, t4⟩ := ih (q + 1) τ1 e (by omega) (by omega) (TR_f (FN_f s4) (fun z => z) (by omega) T) (by rw [s4.2.1 78 6 (by omega)]; exact h6) s2 s3
      exact ⟨τ', ee, t0, s1.trans t1, t2, t3, FR_t s4 t4⟩
    · rw [if_neg hb]
      exact ⟨τ, q, rfl, b2 hb, h7, h9, FR_r⟩
theorem r_58 {τ : ZS} {u : Nat → Nat} {n a : Nat} (T : TR τ u n) (h6 : sI τ 78 6 = nI a) (ha : a ≤ n) : xX9_goOn_B58 78 (mkH τ) = if a < n then (if isL (gu0 u n a) = true then xX9_goOn_L119 zFU 78 (mkH (setI τ 78 7 (nI (a + 1)))) else if isD (gu0 u n a) = true then xX9_goOn_L259 zFU 78 (mkH (setI (setI (setI τ 78 7 (nI (a + 1))) 78 9 0) 78 7 (nI a))) else some (mkH (setI (setI τ 78 7 (nI (a + 1))) 78 8 (if isG (gu0 u n a) then 5 else 1)))) else some (mkH (setI (setI (setI (setI τ 78 7 (nI (a + 1))) 78 8 0) 78 6 (nI n)) 78 7 (nI n))) := by
  have hn := T.2.1
  have hu := gu_lt (fun i hi => (T.2.2 i hi).1) a
  unfold xX9_goOn_B58
  generalize xX9_goOn_L119 zFU = nl
  generalize xX9_goOn_L259 zFU = ml
  rw [rI_78_6, Option.bind_some, h6, is_78, gu_t, r_sign T (by omega), Option.bind_some]
  dsimp only
  rw [rI_78_6, Option.bind_some, h6, nI_s, wI_78_7, Option.bind_some]
  have g6 : sI (setI τ 78 7 (nI (a + 1))) 78 6 = nI a := by rw [sI_ne (by omega)]; exact h6
  have g3 : sI (setI τ 78 7 (nI (a + 1))) 78 3 = nI n := by rw [sI_ne (by omega)]; exact T.1
  generalize setI τ 78 7 (nI (a + 1)) = τ2 at *
  rw [rI_78_6, Option.bind_some, g6, rI_78_3, Option.bind_some, g3]
  by_cases han : a < n
  · rw [if_pos (nI_lt han (by omega)), if_pos han, r_isL hu, Option.bind_some]
    dsimp only
    by_cases hl : isL (gu0 u n a) = true
    · rw [if_pos hl, if_pos hl, if_neg (show ¬ (1 : Int32) = 0 by decide)]
    · rw [if_neg hl, if_neg hl, if_pos rfl, r_isD hu, Option.bind_some]
      dsimp only
      by_cases hd : isD (gu0 u n a) = true
      · have g6' : sI (setI τ2 78 9 0) 78 6 = nI a := by rw [sI_ne (by omega)]; exact g6
        rw [if_pos hd, if_pos hd, if_neg (show ¬ (1 : Int32) = 0 by decide), wI_78_9, Option.bind_some, rI_78_6, Option.bind_some, g6', wI_78_7, Option.bind_some]
      · rw [if_neg hd, if_neg hd, if_pos rfl, r_isS hu, Option.bind_some]
        dsimp only
        by_cases hg : isG (gu0 u n a) = true
        · rw [if_pos hg, if_pos hg, if_neg (show ¬ (1 : Int32) = 0 by decide), wI_78_8, Option.bind_some]
        · rw [if_neg hg, if_neg hg, if_pos rfl, wI_78_8, Option.bind_some]
  · have g3' : sI (setI τ2 78 8 0) 78 3 = nI n := by rw [sI_ne (by omega)]; exact g3
    have g3'' : sI (setI (setI τ2 78 8 0) 78 6 (nI n)) 78 3 = nI n := by rw [sI_ne (by omega)]; exact g3'
    rw [if_neg (fun z => han ((nI_ltI (by omega) (by omega)).mp z)), if_neg han, wI_78_8, Option.bind_some, rI_78_3, Option.bind_some, g3', wI_78_6, Option.bind_some, rI_78_3, Option.bind_some, g3'', wI_78_7, Option.bind_some]
def rtk (k v : Nat) : Nat := if k = 0 then 0 else if k = 1 then (if v < 19 then 3 else 2) else if k = 2 then 4 else if k = 3 then 5 else 1
def RT (σ : ZS) (v : Nat → Nat) (t : ZT) : Prop := sI σ 78 6 = nI t.1 ∧ sI σ 78 7 = nI t.2.1 ∧ sI σ 78 8 = nI (rtk t.2.2.1 t.2.2.2) ∧ (t.2.2.1 = 1 → sN σ = jN (pkW v t.1 (t.2.1 - t.1))) ∧ (t.2.2.1 = 2 → sI σ 78 9 = nI t.2.2.2)
def eT (a k : Nat) : Prop := a = 78 ∧ 6 ≤ k ∧ k ≤ 9
theorem run_1 {t : Nat → Bool} {m p : Nat} (h : t p = true) : run t (m + 1) p = run t m (p + 1) := by
  show (if t p then _ else _) = _
  rw [if_pos h]
theorem r_adv {σ : ZS} {u : Nat → Nat} {n p : Nat} (T : TR σ u n) (hp : p ≤ n) (h7 : sI σ 78 7 = nI p) : ∃ τ, xX9_goOn 78 (mkH σ) = some (mkH τ) ∧ RT τ (gu0 u n) (lex (gu0 u n) n p) ∧ FN (fun _ => False) eT σ τ := by
  have hn := T.2.1
  have hF0 : FR (fun _ => False) eT σ (setI σ 78 6 (nI p)) := FR_I ⟨rfl, by omega, by omega⟩
  obtain ⟨e, he⟩ := zfu (n - p) (by omega)
  obtain ⟨τ1, t1, t2, t3⟩ := r_skip (u := u) (n := n) (n - p) p (setI σ 78 6 (nI p)) e (by omega) (TR_f (FN_f hF0) (fun z => z) (by unfold eT; omega) T) sI_eq
  have hA : run (fun k => isB (gu0 u n k)) (n - p) p = lA (gu0 u n) n p := rfl
  rw [hA] at t2
  have hle := lA_le (v := gu0 u n) hp
  unfold lex
  generalize lA (gu0 u n) n p = a at *
  have hF1 : FR (fun _ => False) eT σ τ1 := FR_t hF0 (FR_m t3 (fun _ z => z) (fun a k z => by unfold eT; omega))
  have T1 : TR τ1 u n := TR_f (FN_f hF1) (fun z => z) (by unfold eT; omega) T
  have hpre : xX9_goOn 78 (mkH σ) = xX9_goOn_B58 78 (mkH τ1) := by
    have hq : xX9_goOn_L8 zFU 78 (mkH (setI σ 78 6 (nI p))) = xX9_goOn_B58 78 (mkH τ1) := by rw [he]; exact t1
    unfold xX9_goOn
    rw [rI_78_7, Option.bind_some, h7, wI_78_6, Option.bind_some, hq]
  rw [hpre, r_58 T1 t2 hle.2]
  by_cases han : a < n
  · rw [if_pos han]
    by_cases hl : isL (gu0 u n a) = true
    · rw [if_pos hl]
      have hF2 : FR (fun _ => False) eT σ (setI τ1 78 7 (nI (a + 1))) := FR_t hF1 (FR_I ⟨rfl, by omega, by omega⟩)
      obtain ⟨e2, he2⟩ := zfu (n - (a + 1)) (by omega)
      obtain ⟨τ3, s1, s2, s3⟩ := r_lets (u := u) (n := n) (n - (a + 1)) (a + 1) (setI τ1 78 7 (nI (a + 1))) e2 (by omega) (TR_f (FN_f hF2) (fun z => z) (by unfold eT; omega) T) sI_eq
      rw [← he2] at s1
      have hE : lE (gu0 u n) n a = run (fun k => isL (gu0 u n k)) (n - (a + 1)) (a + 1) := by
        unfold lE
        rw [if_neg (by omega), if_pos hl, show n - a = n - (a + 1) + 1 by omega]
        exact run_1 (t := fun k => isL (gu0 u n k)) hl
      have hE2 : lE (gu0 u n) n a = run (fun k => isL (gu0 u n k)) (n - a) a := by
        unfold lE
        rw [if_neg (by omega), if_pos hl]
      have hlet : ∀ j, a ≤ j → j < lE (gu0 u n) n a → isL (gu0 u n j) = true := fun j h1 h2 => run_in (t := fun k => isL (gu0 u n k)) (n - a) a j h1 (by rw [← hE2]; exact h2)
      rw [← hE] at s2
      have hee := lE_le (v := gu0 u n) (show a ≤ n by omega)
      have hK : lK (gu0 u n) n a (lE (gu0 u n) n a) = if lE (gu0 u n) n a - a ≤ 8 then 1 else 4 := by
        unfold lK
        rw [if_neg (by omega), if_pos hl]
      have hV : lV (gu0 u n) n a (lE (gu0 u n) n a) = wIx (gu0 u n) a (lE (gu0 u n) n a - a) := by
        unfold lV
        rw [if_pos hl]
      generalize lE (gu0 u n) n a = ee at *
      have hF3 : FR (fun _ => False) eT σ τ3 := FR_t hF2 (FR_m s3 (fun _ z => z) (fun a k z => by unfold eT; omega))
      obtain ⟨υ, v1, v2, v3, v4, v5, v6⟩ := r_word (TR_f (FN_f hF3) (fun z => z) (by unfold eT; omega) T) (by rw [s3.2.1 78 6 (by omega), sI_ne (by omega)]; exact t2) s2 hee.1 hee.2 (fun k hk => hlet (a + k) (by omega) (by omega))
      refine ⟨υ, s1.trans v1, ⟨v2, v3, ?_, fun hk => ?_, fun hk => ?_⟩, FN_t (FN_f hF3) (FN_m v6 (fun _ z => z) (fun a k z => by unfold eT; omega))⟩
      · rw [v4]
        show _ = nI (rtk (lK (gu0 u n) n a ee) (lV (gu0 u n) n a ee))
        rw [hK, hV]
        by_cases h8 : ee - a ≤ 8
        · rw [if_pos h8, if_pos h8]; rfl
        · rw [if_neg h8, if_neg h8]; rfl
      · refine v5 ?_
        replace hk : lK (gu0 u n) n a ee = 1 := hk
        rw [hK] at hk
        by_cases h8 : ee - a ≤ 8
        · exact h8
        · rw [if_neg h8] at hk; omega
      · replace hk : lK (gu0 u n) n a ee = 2 := hk
        rw [hK] at hk
        by_cases h8 : ee - a ≤ 8
        · rw [if_pos h8] at hk; omega
        · rw [if_neg h8] at hk; omega
    · rw [if_neg hl]
      by_cases hd : isD (gu0 u n a) = true
      · rw [if_pos hd]
        have hF2 : FR (fun _ => False) eT σ (setI (setI (setI τ1 78 7 (nI (a + 1))) 78 9 0) 78 7 (nI a)) := FR_t hF1 (FR_t (FR_I ⟨rfl, by omega, by omega⟩) (FR_t (FR_I ⟨rfl, by omega, by omega⟩) (FR_I ⟨rfl, by omega, by omega⟩)))
        have g6 : sI (setI (setI (setI τ1 78 7 (nI (a + 1))) 78 9 0) 78 7 (nI a)) 78 6 = nI a := by rw [sI_ne (by omega), sI_ne (by omega), sI_ne (by omega)]; exact t2
        have g9 : sI (setI (setI (setI τ1 78 7 (nI (a + 1))) 78 9 0) 78 7 (nI a)) 78 9 = 0 := by rw [sI_ne (by omega), sI_eq]
        have g7 : sI (setI (setI (setI τ1 78 7 (nI (a + 1))) 78 9 0) 78 7 (nI a)) 78 7 = nI a := sI_eq
        generalize setI (setI (setI τ1 78 7 (nI (a + 1))) 78 9 0) 78 7 (nI a) = τ2 at *
        obtain ⟨e2, he2⟩ := zfu (n - a) (by omega)
        have T2 : TR τ2 u n := TR_f (FN_f hF2) (fun z => z) (by unfold eT; omega) T
        obtain ⟨τ3, ee, s0, s1, s2, s3, s4⟩ := r_digs (u := u) (n := n) (a := a) (n - a) a τ2 e2 (by omega) (by omega) T2 g6 g7 (by rw [g9, if_pos (show a - a ≤ 4 by omega), show a - a = 0 by omega]; rfl)
        rw [← he2] at s1
        have hE : lE (gu0 u n) n a = ee := by
          unfold lE
          rw [if_neg (by omega), if_neg hl, if_pos hd, s0]
        have hK : lK (gu0 u n) n a ee = if ee - a ≤ 4 ∧ isL (gu0 u n ee) = false then 2 else 4 := by
          unfold lK
          rw [if_neg (by omega), if_neg hl, if_pos hd]
        have hV : lV (gu0 u n) n a ee = nmV (gu0 u n) a (ee - a) := by
          unfold lV
          rw [if_neg hl, if_pos hd]
        have hee := lE_le (v := gu0 u n) (show a ≤ n by omega)
        rw [hE] at hee ⊢
        have T3 : TR τ3 u n := TR_f (FN_f s4) (fun z => z) (by omega) T2
        have q6 : sI τ3 78 6 = nI a := by rw [s4.2.1 78 6 (by omega)]; exact g6
        have h322 : xX9_goOn_B322 78 (mkH τ3) = some (mkH (setI τ3 78 8 (nI (if ee - a ≤ 4 ∧ isL (gu0 u n ee) = false then 4 else 1)))) := by
          unfold xX9_goOn_B322
          rw [rI_78_7, Option.bind_some, s2, rI_78_6, Option.bind_some, q6, pk_sub hee.1]
          by_cases h4 : ee - a ≤ 4
          · rw [if_neg (show ¬ (4 : Int32) < nI (ee - a) from fun z => by rw [nl_4] at z; have := (nI_ltI (by omega) (by omega)).mp z; omega), Option.bind_some, is_78, gu_t, r_sign T3 (by omega), Option.bind_some]
            dsimp only
            rw [r_isL (gu_lt (fun i hi => (T.2.2 i hi).1) _), Option.bind_some]
            dsimp only
            by_cases hb : isL (gu0 u n ee) = true
            · rw [if_pos hb, if_neg (show ¬ (1 : Int32) = 0 by decide), if_neg (fun z => by rw [hb] at z; cases z.2), wI_78_8, Option.bind_some]
              rfl
            · rw [if_neg hb, if_pos rfl, if_pos ⟨h4, by simpa using hb⟩, wI_78_8, Option.bind_some]
              rfl
          · rw [if_pos (show (4 : Int32) < nI (ee - a) from by rw [nl_4]; exact nI_lt (by omega) (by omega)), if_neg (fun z => h4 z.1), wI_78_8, Option.bind_some]
            rfl
        refine ⟨_, s1.trans h322, ⟨?_, ?_, ?_, fun hk => ?_, fun hk => ?_⟩, FN_f (FR_t hF2 (FR_t (FR_m s4 (fun _ z => z) (fun a k z => by unfold eT; omega)) (FR_I ⟨rfl, by omega, by omega⟩)))⟩
        · rw [sI_ne (by omega)]; exact q6
        · rw [sI_ne (by omega)]; exact s2
        · rw [sI_eq]
          show _ = nI (rtk (lK (gu0 u n) n a ee) (lV (gu0 u n) n a ee))
          rw [hK]
          by_cases h4 : ee - a ≤ 4 ∧ isL (gu0 u n ee) = false
          · rw [if_pos h4, if_pos h4]; rfl
          · rw [if_neg h4, if_neg h4]; rfl
        · replace hk : lK (gu0 u n) n a ee = 1 := hk
          rw [hK] at hk
          by_cases h4 : ee - a ≤ 4 ∧ isL (gu0 u n ee) = false
          · rw [if_pos h4] at hk; omega
          · rw [if_neg h4] at hk; omega
        · replace hk : lK (gu0 u n) n a ee = 2 := hk
          rw [hK] at hk
          by_cases h4 : ee - a ≤ 4 ∧ isL (gu0 u n ee) = false
          · rw [sI_ne (by omega), s3, if_pos h4.1]
            show _ = nI (lV (gu0 u n) n a ee)
            rw [hV]
          · rw [if_neg h4] at hk; omega
      · rw [if_neg hd]
        have hE : lE (gu0 u n) n a = a + 1 := by
          unfold lE
          rw [if_neg (by omega), if_neg hl, if_neg hd]
        have hK : lK (gu0 u n) n a (a + 1) = if isG (gu0 u n a) = true then 3 else 4 := by
          unfold lK
          rw [if_neg (by omega), if_neg hl, if_neg hd]
        rw [hE]
        refine ⟨_, rfl, ⟨?_, ?_, ?_, fun hk => ?_, fun hk => ?_⟩, FN_f (FR_t hF1 (FR_t (FR_I ⟨rfl, by omega, by omega⟩) (FR_I ⟨rfl, by omega, by omega⟩)))⟩
        · rw [sI_ne (by omega), sI_ne (by omega)]; exact t2
        · rw [sI_ne (by omega), sI_eq]
        · rw [sI_eq]
          show _ = nI (rtk (lK (gu0 u n) n a (a + 1)) (lV (gu0 u n) n a (a + 1)))
          rw [hK]
          by_cases hg : isG (gu0 u n a) = true
          · rw [if_pos hg, if_pos hg]; rfl
          · rw [if_neg hg, if_neg hg]; rfl
        · replace hk : lK (gu0 u n) n a (a + 1) = 1 := hk
          rw [hK] at hk
          by_cases hg : isG (gu0 u n a) = true
          · rw [if_pos hg] at hk; omega
          · rw [if_neg hg] at hk; omega
        · replace hk : lK (gu0 u n) n a (a + 1) = 2 := hk
          rw [hK] at hk
          by_cases hg : isG (gu0 u n a) = true
          · rw [if_pos hg] at hk; omega
          · rw [if_neg hg] at hk; omega
  · rw [if_neg han]
    have han2 : a = n := by omega
    have hE : lE (gu0 u n) n a = a := by unfold lE; rw [if_pos (by omega)]
    have hK : lK (gu0 u n) n a a = 0 := by unfold lK; rw [if_pos (by omega)]
    rw [hE]
    refine ⟨_, rfl, ⟨?_, ?_, ?_, fun hk => ?_, fun hk => ?_⟩, FN_f (FR_t hF1 (FR_t (FR_I ⟨rfl, by omega, by omega⟩) (FR_t (FR_I ⟨rfl, by omega, by omega⟩) (FR_t (FR_I ⟨rfl, by omega, by omega⟩) (FR_I ⟨rfl, by omega, by omega⟩)))))⟩
    · rw [sI_ne (by omega), sI_eq, han2]
    · rw [sI_eq, han2]
    · rw [sI_ne (by omega), sI_ne (by omega), sI_eq]
      show _ = nI (rtk (lK (gu0 u n) n a a) (lV (gu0 u n) n a a))
      rw [hK]
      rfl
    · replace hk : lK (gu0 u n) n a a = 1 := hk
      rw [hK] at hk; omega
    · replace hk : lK (gu0 u n) n a a = 2 := hk
      rw [hK] at hk; omega
