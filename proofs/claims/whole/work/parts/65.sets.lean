/-! sets as numbers, how many are in one, loops with a rule -/
theorem nx_or (a b : Nat) : nI a ||| nI b = nI (a ||| b) := by
  apply Int32.toBitVec_inj.1
  show BitVec.ofNat 32 a ||| BitVec.ofNat 32 b = BitVec.ofNat 32 (a ||| b)
  apply BitVec.eq_of_getLsbD_eq
  intro i hi
  simp [hi]
theorem one_shl {k : Nat} (hk : k < 32) : (1 : Int32) <<< (nI k &&& 31) = nI (2 ^ k) := by
  have h := pk_shlN (n := 1) (nI k &&& 31) k (s_l k hk) (by rw [Nat.one_mul]; exact Nat.pow_lt_pow_right (by decide) hk)
  rw [Nat.one_mul] at h
  exact h
theorem sb_n {a k : Nat} (hk : k < 32) : sb (nI a) (nI k) = nI (a ||| 2 ^ k) := by
  unfold sb
  rw [one_shl hk, nx_or]
theorem bitB_n {a k : Nat} (ha : a < 2 ^ 31) (hk : k < 32) : bitB (nI a) (nI k) = a.testBit k := by
  unfold bitB
  rw [pk_shrN ha (nI k &&& 31) k (s_l k hk)]
  have h1 : a / 2 ^ k < 2 ^ 31 := Nat.lt_of_le_of_lt (Nat.div_le_self _ _) ha
  rw [pk_andN (n := a / 2 ^ k) (m := 1) (by omega) 1 (by decide)]
  rw [show (1 : Int32) = nI 1 from rfl]
  rw [Nat.testBit_eq_decide_div_mod_eq]
  have : (nI (a / 2 ^ k % 2 ^ 1) = nI 1) ↔ a / 2 ^ k % 2 = 1 := by
    rw [nI_eq (by omega) (by omega)]
  exact decide_eq_decide.mpr this
theorem or_lt {a b n : Nat} (ha : a < 2 ^ n) (hb : b < 2 ^ n) : a ||| b < 2 ^ n := Nat.or_lt_two_pow ha hb
theorem pow_lt {k n : Nat} (h : k < n) : 2 ^ k < 2 ^ n := Nat.pow_lt_pow_right (by decide) h
/-- how many bits of the first f -/
def pc : Nat → Nat → Nat
  | 0, _ => 0
  | f + 1, x => x % 2 + pc f (x / 2)
theorem pc_0 : ∀ f, pc f 0 = 0 := by
  intro f
  induction f with
  | zero => rfl
  | succ f ih => show 0 % 2 + pc f (0 / 2) = 0; rw [show 0 / 2 = 0 from rfl, ih]
theorem pc_pos : ∀ f x, 0 < x → x < 2 ^ f → 0 < pc f x := by
  intro f
  induction f with
  | zero => intro x h0 h1; simp at h1; omega
  | succ f ih =>
    intro x h0 h1
    show 0 < x % 2 + pc f (x / 2)
    by_cases h : x % 2 = 0
    · have := ih (x / 2) (by omega) (by rw [Nat.pow_succ] at h1; omega)
      omega
    · omega
theorem pc_le : ∀ f x, pc f x ≤ f := by
  intro f
  induction f with
  | zero => intro x; exact Nat.le_refl 0
  | succ f ih =>
    intro x
    show x % 2 + pc f (x / 2) ≤ f + 1
    have := ih (x / 2)
    omega
theorem and_ev (m : Nat) (h : 0 < m) : (2 * m) &&& (2 * m - 1) = 2 * (m &&& (m - 1)) := by
  apply Nat.eq_of_testBit_eq
  intro i
  cases i with
  | zero => simp [Nat.testBit_zero]
  | succ i =>
    rw [Nat.testBit_and, Nat.testBit_succ, Nat.testBit_succ, Nat.testBit_succ, show 2 * m / 2 = m by omega, show (2 * m - 1) / 2 = m - 1 by omega, show 2 * (m &&& (m - 1)) / 2 = m &&& (m - 1) by omega, Nat.testBit_and]
theorem and_od (m : Nat) : (2 * m + 1) &&& (2 * m) = 2 * m := by
  apply Nat.eq_of_testBit_eq
  intro i
  cases i with
  | zero => simp [Nat.testBit_zero]
  | succ i =>
    rw [Nat.testBit_and, Nat.testBit_succ, Nat.testBit_succ, show 2 * m / 2 = m by omega, show (2 * m + 1) / 2 = m by omega, Bool.and_self]
theorem pc_and : ∀ f x, 0 < x → x < 2 ^ f → pc f (x &&& (x - 1)) + 1 = pc f x := by
  intro f
  induction f with
  | zero => intro x h0 h1; simp at h1; omega
  | succ f ih =>
    intro x h0 h1
    rw [Nat.pow_succ] at h1
    rcases Nat.mod_two_eq_zero_or_one x with h | h
    · obtain ⟨m, rfl⟩ : ∃ m, x = 2 * m := ⟨x / 2, by omega⟩
      rw [and_ev m (by omega)]
      show (2 * (m &&& (m - 1))) % 2 + pc f (2 * (m &&& (m - 1)) / 2) + 1 = 2 * m % 2 + pc f (2 * m / 2)
      rw [show 2 * (m &&& (m - 1)) / 2 = m &&& (m - 1) by omega, show 2 * m / 2 = m by omega]
      have := ih m (by omega) (by omega)
      omega
    · obtain ⟨m, rfl⟩ : ∃ m, x = 2 * m + 1 := ⟨x / 2, by omega⟩
      rw [show 2 * m + 1 - 1 = 2 * m by omega, and_od]
      show (2 * m) % 2 + pc f (2 * m / 2) + 1 = (2 * m + 1) % 2 + pc f ((2 * m + 1) / 2)
      rw [show 2 * m / 2 = m by omega, show (2 * m + 1) / 2 = m by omega]
      omega
theorem or_bit (x k : Nat) : (x ||| 2 ^ (k + 1)) / 2 = x / 2 ||| 2 ^ k := by
  apply Nat.eq_of_testBit_eq
  intro i
  rw [← Nat.testBit_succ, Nat.testBit_or, Nat.testBit_or, Nat.testBit_succ, Nat.testBit_two_pow, Nat.testBit_two_pow]
  congr 1
  exact decide_eq_decide.mpr (by omega)
theorem pc_set : ∀ f x k, k < f → x.testBit k = false → pc f (x ||| 2 ^ k) = pc f x + 1 := by
  intro f
  induction f with
  | zero => intro x k h; omega
  | succ f ih =>
    intro x k hk hx
    cases k with
    | zero =>
      show (x ||| 1) % 2 + pc f ((x ||| 1) / 2) = x % 2 + pc f (x / 2) + 1
      have h0 : x % 2 = 0 := by
        rw [Nat.testBit_zero] at hx
        have := of_decide_eq_false hx
        omega
      have h1 : (x ||| 1) / 2 = x / 2 := by
        apply Nat.eq_of_testBit_eq
        intro i
        rw [← Nat.testBit_succ, Nat.testBit_or, Nat.testBit_succ, Nat.testBit_succ]
        simp
      have h2 : (x ||| 1) % 2 = 1 := by
        have : (x ||| 1).testBit 0 = true := by rw [Nat.testBit_or]; simp
        rw [Nat.testBit_zero] at this
        exact of_decide_eq_true this
      rw [h1, h2]
      omega
    | succ k =>
      show (x ||| 2 ^ (k + 1)) % 2 + pc f ((x ||| 2 ^ (k + 1)) / 2) = x % 2 + pc f (x / 2) + 1
      rw [or_bit, ih (x / 2) k (by omega) (by rw [← Nat.testBit_succ]; exact hx)]
      have h2 : (x ||| 2 ^ (k + 1)) % 2 = x % 2 := by
        have h3 : (x ||| 2 ^ (k + 1)).testBit 0 = x.testBit 0 := by
          rw [Nat.testBit_or, Nat.testBit_two_pow]
          simp
        rw [Nat.testBit_zero, Nat.testBit_zero] at h3
        have := decide_eq_decide.mp h3
        omega
      omega
/-- the machine's own count, by bytes -/
theorem and_by (a b ma mb : Nat) (ha : a < 256) (hm : ma < 256) : (a + 256 * b) &&& (ma + 256 * mb) = (a &&& ma) + 256 * (b &&& mb) := by
  have h1 : ((a + 256 * b) &&& (ma + 256 * mb)) % 2 ^ 8 = a &&& ma := by
    rw [Nat.and_mod_two_pow]
    rw [show (a + 256 * b) % 2 ^ 8 = a by omega, show (ma + 256 * mb) % 2 ^ 8 = ma by omega]
  have h2 : ((a + 256 * b) &&& (ma + 256 * mb)) / 2 ^ 8 = b &&& mb := by
    rw [Nat.and_div_two_pow]
    rw [show (a + 256 * b) / 2 ^ 8 = b by omega, show (ma + 256 * mb) / 2 ^ 8 = mb by omega]
  omega
theorem and_4 {a b c d m : Nat} (ha : a < 256) (hb : b < 256) (hc : c < 256) (hm : m < 256) : (a + 256 * (b + 256 * (c + 256 * d))) &&& (m + 256 * (m + 256 * (m + 256 * m))) = (a &&& m) + 256 * ((b &&& m) + 256 * ((c &&& m) + 256 * (d &&& m))) := by
  rw [and_by _ _ _ _ ha hm, and_by _ _ _ _ hb hm, and_by _ _ _ _ hc hm]
def sw1 (a : Nat) : Nat := a - (a / 2 &&& 85)
def sw2 (a : Nat) : Nat := (sw1 a &&& 51) + (sw1 a / 4 &&& 51)
def sw3 (a : Nat) : Nat := (sw2 a + sw2 a / 16) &&& 15
theorem sw_m1 : ∀ u, u < 128 → ∀ t, t < 2 → (u + 128 * t) &&& 85 = u &&& 85 := by decide +kernel
theorem sw_m2 : ∀ u, u < 64 → ∀ t, t < 4 → (u + 64 * t) &&& 51 = u &&& 51 := by decide +kernel
theorem sw_m3 : ∀ u, u < 80 → ∀ t, t < 5 → (u + 16 * t) &&& 15 = u &&& 15 := by decide +kernel
theorem sw_b1 : ∀ a, a < 256 → (a / 2 &&& 85) ≤ a ∧ sw1 a < 256 := by decide +kernel
theorem sw_b2 : ∀ a, a < 256 → sw2 a < 70 ∧ sw2 a % 16 < 5 := by decide +kernel
theorem sw_b3 : ∀ a, a < 256 → sw3 a = pc 8 a ∧ sw3 a < 9 := by decide +kernel
theorem pc_add : ∀ g f x, pc (g + f) x = pc g x + pc f (x / 2 ^ g) := by
  intro g
  induction g with
  | zero => intro f x; simp [pc]
  | succ g ih =>
    intro f x
    rw [show g + 1 + f = (g + f) + 1 by omega]
    show x % 2 + pc (g + f) (x / 2) = x % 2 + pc g (x / 2) + pc f (x / 2 ^ (g + 1))
    rw [ih, Nat.div_div_eq_div_mul, show 2 * 2 ^ g = 2 ^ (g + 1) by rw [Nat.pow_succ]; omega]
    omega
theorem pc_mod : ∀ f x y, pc f (x % 2 ^ f + 2 ^ f * y) = pc f x := by
  intro f
  induction f with
  | zero => intro x y; rfl
  | succ f ih =>
    intro x y
    show (x % 2 ^ (f + 1) + 2 ^ (f + 1) * y) % 2 + pc f ((x % 2 ^ (f + 1) + 2 ^ (f + 1) * y) / 2) = x % 2 + pc f (x / 2)
    have e1 : x % 2 ^ (f + 1) = x % 2 + 2 * (x / 2 % 2 ^ f) := by
      rw [Nat.pow_succ, Nat.mul_comm, Nat.mod_mul]
    have e2 : 2 ^ (f + 1) * y = 2 * (2 ^ f * y) := by rw [Nat.pow_succ, Nat.mul_comm (2 ^ f) 2, Nat.mul_assoc]
    rw [e1, e2, show (x % 2 + 2 * (x / 2 % 2 ^ f) + 2 * (2 ^ f * y)) / 2 = x / 2 % 2 ^ f + 2 ^ f * y by omega, ih]
    omega
theorem c_bitCount {n : Nat} (hn : n < 2 ^ 32) (h : ZH) : xJ6_bitCount_0f7a4 (nI n) h = some (nI (pc 32 n), h) := by
  obtain ⟨a, b, c, d, ha, hb, hc, hd, rfl⟩ : ∃ a b c d, a < 256 ∧ b < 256 ∧ c < 256 ∧ d < 256 ∧ n = a + 256 * (b + 256 * (c + 256 * d)) := ⟨n % 256, n / 256 % 256, n / 65536 % 256, n / 16777216, by omega, by omega, by omega, by omega, by omega⟩
  have k1 := sw_b1 a ha
  have k2 := sw_b1 b hb
  have k3 := sw_b1 c hc
  have k4 := sw_b1 d hd
  have l1 := sw_b2 a ha
  have l2 := sw_b2 b hb
  have l3 := sw_b2 c hc
  have l4 := sw_b2 d hd
  have m1 := sw_b3 a ha
  have m2 := sw_b3 b hb
  have m3 := sw_b3 c hc
  have m4 := sw_b3 d hd
  have M1 : (1431655765 : Int32) = nI (85 + 256 * (85 + 256 * (85 + 256 * 85))) := rfl
  have M2 : (858993459 : Int32) = nI (51 + 256 * (51 + 256 * (51 + 256 * 51))) := rfl
  have M3 : (252645135 : Int32) = nI (15 + 256 * (15 + 256 * (15 + 256 * 15))) := rfl
  have e1 : ((nI (a + 256 * (b + 256 * (c + 256 * d)))) - (((nI (a + 256 * (b + 256 * (c + 256 * d)))).toUInt32 >>> ((1 : Int32).toUInt32 &&& Int32.toUInt32 31)).toInt32 &&& (1431655765 : Int32))) = nI (sw1 a + 256 * (sw1 b + 256 * (sw1 c + 256 * sw1 d))) := by
    rw [pk_ushrN (by omega) (1 : Int32) 1 (by decide), M1, nx_and]
    rw [show (a + 256 * (b + 256 * (c + 256 * d))) / 2 ^ 1 = (a / 2 + 128 * (b % 2)) + 256 * ((b / 2 + 128 * (c % 2)) + 256 * ((c / 2 + 128 * (d % 2)) + 256 * (d / 2))) by omega]
    rw [and_4 (by omega) (by omega) (by omega) (by omega), sw_m1 _ (by omega) _ (by omega), sw_m1 _ (by omega) _ (by omega), sw_m1 _ (by omega) _ (by omega)]
    rw [pk_sub (by omega)]
    congr 1
    unfold sw1
    omega
  have s1 : sw1 a < 256 ∧ sw1 b < 256 ∧ sw1 c < 256 ∧ sw1 d < 256 := ⟨k1.2, k2.2, k3.2, k4.2⟩
  have e2 : ((nI (sw1 a + 256 * (sw1 b + 256 * (sw1 c + 256 * sw1 d))) &&& (858993459 : Int32)) + (((nI (sw1 a + 256 * (sw1 b + 256 * (sw1 c + 256 * sw1 d)))).toUInt32 >>> ((2 : Int32).toUInt32 &&& Int32.toUInt32 31)).toInt32 &&& (858993459 : Int32))) = nI (sw2 a + 256 * (sw2 b + 256 * (sw2 c + 256 * sw2 d))) := by
    rw [pk_ushrN (by omega) (2 : Int32) 2 (by decide), M2, nx_and, nx_and]
    rw [show (sw1 a + 256 * (sw1 b + 256 * (sw1 c + 256 * sw1 d))) / 2 ^ 2 = (sw1 a / 4 + 64 * (sw1 b % 4)) + 256 * ((sw1 b / 4 + 64 * (sw1 c % 4)) + 256 * ((sw1 c / 4 + 64 * (sw1 d % 4)) + 256 * (sw1 d / 4))) by omega]
    rw [and_4 (by omega) (by omega) (by omega) (by omega), and_4 (by omega) (by omega) (by omega) (by omega), sw_m2 _ (by omega) _ (by omega), sw_m2 _ (by omega) _ (by omega), sw_m2 _ (by omega) _ (by omega)]
    rw [nI_add]
    congr 1
    unfold sw2
    omega
  have e3 : ((nI (sw2 a + 256 * (sw2 b + 256 * (sw2 c + 256 * sw2 d))) + ((nI (sw2 a + 256 * (sw2 b + 256 * (sw2 c + 256 * sw2 d)))).toUInt32 >>> ((4 : Int32).toUInt32 &&& Int32.toUInt32 31)).toInt32) &&& (252645135 : Int32)) = nI (sw3 a + 256 * (sw3 b + 256 * (sw3 c + 256 * sw3 d))) := by
    rw [pk_ushrN (by omega) (4 : Int32) 4 (by decide), M3, nI_add, nx_and]
    rw [show (sw2 a + 256 * (sw2 b + 256 * (sw2 c + 256 * sw2 d))) + (sw2 a + 256 * (sw2 b + 256 * (sw2 c + 256 * sw2 d))) / 2 ^ 4 = ((sw2 a + sw2 a / 16) + 16 * (sw2 b % 16)) + 256 * (((sw2 b + sw2 b / 16) + 16 * (sw2 c % 16)) + 256 * (((sw2 c + sw2 c / 16) + 16 * (sw2 d % 16)) + 256 * (sw2 d + sw2 d / 16))) by omega]
    rw [and_4 (by omega) (by omega) (by omega) (by omega), sw_m3 _ (by omega) _ (by omega), sw_m3 _ (by omega) _ (by omega), sw_m3 _ (by omega) _ (by omega)]
    rfl
  have e4 : nI (sw3 a + 256 * (sw3 b + 256 * (sw3 c + 256 * sw3 d))) + ((nI (sw3 a + 256 * (sw3 b + 256 * (sw3 c + 256 * sw3 d)))).toUInt32 >>> ((8 : Int32).toUInt32 &&& Int32.toUInt32 31)).toInt32 = nI ((sw3 a + sw3 b) + 256 * ((sw3 b + sw3 c) + 256 * ((sw3 c + sw3 d) + 256 * sw3 d))) := by
    rw [pk_ushrN (by omega) (8 : Int32) 8 (by decide), nI_add]
    congr 1
    omega
  have e5 : nI ((sw3 a + sw3 b) + 256 * ((sw3 b + sw3 c) + 256 * ((sw3 c + sw3 d) + 256 * sw3 d))) + ((nI ((sw3 a + sw3 b) + 256 * ((sw3 b + sw3 c) + 256 * ((sw3 c + sw3 d) + 256 * sw3 d)))).toUInt32 >>> ((16 : Int32).toUInt32 &&& Int32.toUInt32 31)).toInt32 = nI ((sw3 a + sw3 b + sw3 c + sw3 d) + 256 * ((sw3 b + sw3 c + sw3 d) + 256 * ((sw3 c + sw3 d) + 256 * sw3 d))) := by
    rw [pk_ushrN (by omega) (16 : Int32) 16 (by decide), nI_add]
    congr 1
    omega
  have e6 : pc 32 (a + 256 * (b + 256 * (c + 256 * d))) = sw3 a + sw3 b + sw3 c + sw3 d := by
    have q : ∀ x y, x < 256 → pc 8 (x + 256 * y) = pc 8 x := by
      intro x y hx
      have := pc_mod 8 x y
      rwa [Nat.mod_eq_of_lt (show x < 2 ^ 8 by omega)] at this
    rw [show (32 : Nat) = 8 + (8 + (8 + 8)) from rfl, pc_add, pc_add, pc_add]
    rw [show (a + 256 * (b + 256 * (c + 256 * d))) / 2 ^ 8 = b + 256 * (c + 256 * d) by omega, show (b + 256 * (c + 256 * d)) / 2 ^ 8 = c + 256 * d by omega, show (c + 256 * d) / 2 ^ 8 = d by omega]
    rw [q a _ ha, q b _ hb, q c _ hc, m1.1, m2.1, m3.1, m4.1]
    omega
  unfold xJ6_bitCount_0f7a4
  simp only [Option.bind_some, e1, e2, e3, e4, e5]
  rw [pk_andN (m := 63) (by omega) 6 (by decide), e6]
  rw [show ((sw3 a + sw3 b + sw3 c + sw3 d) + 256 * ((sw3 b + sw3 c + sw3 d) + 256 * ((sw3 c + sw3 d) + 256 * sw3 d))) % 2 ^ 6 = sw3 a + sw3 b + sw3 c + sw3 d by omega]
theorem r_bitsOf_L : ∀ (m x : Nat) (acc e : Nat) (h : ZH), x < 2 ^ 31 → pc 32 x = m → xX9_bitsOf_L4 (e + m + 1) (nI acc) (nI x) h = some (nI (acc + m), h) := by
  intro m
  induction m with
  | zero =>
    intro x acc e h hx hm
    show xX9_bitsOf_B4 (xX9_bitsOf_L4 (e + 0)) (nI acc) (nI x) h = _
    unfold xX9_bitsOf_B4
    have : x = 0 := by
      rcases Nat.eq_zero_or_pos x with h0 | h0
      · exact h0
      · have := pc_pos 32 x h0 (by omega)
        omega
    subst this
    rw [if_pos nI_0]
    rfl
  | succ m ih =>
    intro x acc e h hx hm
    show xX9_bitsOf_B4 (xX9_bitsOf_L4 (e + (m + 1))) (nI acc) (nI x) h = _
    unfold xX9_bitsOf_B4
    have h0 : 0 < x := by
      rcases Nat.eq_zero_or_pos x with h0 | h0
      · subst h0; rw [pc_0] at hm; omega
      · exact h0
    rw [if_neg (nI_ne0 h0 hx), nI_s]
    have e1 : nI x - (1 : Int32) = nI (x - 1) := by
      have := nI_pred (x - 1)
      rwa [show x - 1 + 1 = x by omega] at this
    have p := pc_and 32 x h0 (by omega)
    have hl : x &&& (x - 1) ≤ x := Nat.and_le_left
    rw [e1, nx_and, show e + (m + 1) = e + m + 1 by omega, ih _ (acc + 1) e h (by omega) (by omega)]
    rw [show acc + 1 + m = acc + (m + 1) by omega]
theorem r_bitsOf {x : Nat} (hx : x < 2 ^ 31) (h : ZH) : xX9_bitsOf (nI x) h = some (nI (pc 32 x), h) := by
  obtain ⟨e, he⟩ := zfu (pc 32 x) (by have := pc_le 32 x; omega)
  unfold xX9_bitsOf
  rw [he]
  have := r_bitsOf_L (pc 32 x) x 0 e h hx rfl
  rwa [Nat.zero_add] at this
/-- a counted loop: turns from k up to b -/
theorem lp {S R : Type} (L : Nat → Nat → S → Option R) (f : Nat → S → S) (b : Nat) (I : Nat → S → Prop) (r : S → R) (hs : ∀ e k s, k < b → I k s → L (e + 1) k s = L e (k + 1) (f k s) ∧ I (k + 1) (f k s)) (he : ∀ e s, I b s → L (e + 1) b s = some (r s)) : ∀ m k s e, k + m = b → I k s → L (e + m + 1) k s = some (r (zf f k m s)) ∧ I b (zf f k m s) := by
  intro m
  induction m with
  | zero =>
    intro k s e hk hI
    have : k = b := by omega
    subst this
    exact ⟨he e s hI, hI⟩
  | succ m ih =>
    intro k s e hk hI
    obtain ⟨h1, h2⟩ := hs (e + (m + 1)) k s (by omega) hI
    rw [h1, zf, show e + (m + 1) = e + m + 1 by omega]
    exact ih (k + 1) (f k s) e (by omega) h2
/-- a fold with a way out -/
def zx {S R : Type} (g : Nat → S → Option R) (f : Nat → S → S) (r : S → R) : Nat → Nat → S → R
  | _, 0, s => r s
  | k, m + 1, s => match g k s with
    | some v => v
    | none => zx g f r (k + 1) m (f k s)
theorem lpx {S R : Type} (L : Nat → Nat → S → Option R) (g : Nat → S → Option R) (f : Nat → S → S) (b : Nat) (I : Nat → S → Prop) (r : S → R) (hs : ∀ e k s, k < b → I k s → (∀ v, g k s = some v → L (e + 1) k s = some v) ∧ (g k s = none → L (e + 1) k s = L e (k + 1) (f k s) ∧ I (k + 1) (f k s))) (he : ∀ e s, I b s → L (e + 1) b s = some (r s)) : ∀ m k s e, k + m = b → I k s → L (e + m + 1) k s = some (zx g f r k m s) := by
  intro m
  induction m with
  | zero =>
    intro k s e hk hI
    have : k = b := by omega
    subst this
    exact he e s hI
  | succ m ih =>
    intro k s e hk hI
    obtain ⟨h1, h2⟩ := hs (e + (m + 1)) k s (by omega) hI
    rw [zx]
    cases hg : g k s with
    | some v => exact h1 v hg
    | none =>
      obtain ⟨h3, h4⟩ := h2 hg
      show L (e + (m + 1) + 1) k s = some (zx g f r (k + 1) m (f k s))
      rw [h3, show e + (m + 1) = e + m + 1 by omega]
      exact ih (k + 1) (f k s) e (by omega) h4
/-- a loop whose ends are not said: a rule kept until it stops -/
theorem lpI {S R : Type} (L : Nat → Nat → S → Option R) (b : Nat) (I : Nat → S → Prop) (Q : R → Prop) (hs : ∀ e k s, k < b → I k s → (∃ v, L (e + 1) k s = some v ∧ Q v) ∨ (∃ s', L (e + 1) k s = L e (k + 1) s' ∧ I (k + 1) s')) (he : ∀ e s, I b s → ∃ v, L (e + 1) b s = some v ∧ Q v) : ∀ m k s e, k + m = b → I k s → ∃ v, L (e + m + 1) k s = some v ∧ Q v := by
  intro m
  induction m with
  | zero =>
    intro k s e hk hI
    have : k = b := by omega
    subst this
    exact he e s hI
  | succ m ih =>
    intro k s e hk hI
    rcases hs (e + (m + 1)) k s (by omega) hI with h | ⟨s', h1, h2⟩
    · exact h
    · rw [h1, show e + (m + 1) = e + m + 1 by omega]
      exact ih (k + 1) s' e (by omega) h2
theorem zf_I {S : Type} {f : Nat → S → S} (I : Nat → S → Prop) (b : Nat) (h : ∀ k s, k < b → I k s → I (k + 1) (f k s)) : ∀ m k s, k + m = b → I k s → I b (zf f k m s) := by
  intro m
  induction m with
  | zero =>
    intro k s hk hI
    have : k = b := by omega
    subst this
    exact hI
  | succ m ih =>
    intro k s hk hI
    rw [zf]
    exact ih (k + 1) _ (by omega) (h k s (by omega) hI)
theorem zf_c {S : Type} {f g : Nat → S → S} (b : Nat) (h : ∀ k s, k < b → f k s = g k s) : ∀ m k s, k + m = b → zf f k m s = zf g k m s := by
  intro m
  induction m with
  | zero => intro k s hk; rfl
  | succ m ih =>
    intro k s hk
    rw [zf, zf, h k s (by omega)]
    exact ih (k + 1) _ (by omega)
/-- two folds side by side -/
theorem zf_2 {S T : Type} {f : Nat → S → S} {g : Nat → T → T} (J : Nat → S → T → Prop) (b : Nat) (h : ∀ k s t, k < b → J k s t → J (k + 1) (f k s) (g k t)) : ∀ m k s t, k + m = b → J k s t → J b (zf f k m s) (zf g k m t) := by
  intro m
  induction m with
  | zero =>
    intro k s t hk hI
    have : k = b := by omega
    subst this
    exact hI
  | succ m ih =>
    intro k s t hk hI
    rw [zf, zf]
    exact ih (k + 1) _ _ (by omega) (h k s t (by omega) hI)
