/-! bits (this family begins as the kit's text for pasting) -/
def bt (x : Int32) (i : Nat) : Bool := x.toBitVec.getLsbD i
theorem b_ext {x y : Int32} (h : ∀ i, i < 32 → bt x i = bt y i) : x = y := Int32.toBitVec_inj.mp (BitVec.eq_of_getLsbD_eq (fun i hi => h i hi))
theorem b_or (x y : Int32) (i : Nat) : bt (x ||| y) i = (bt x i || bt y i) := by unfold bt; rw [Int32.toBitVec_or, BitVec.getLsbD_or]
theorem b_and (x y : Int32) (i : Nat) : bt (x &&& y) i = (bt x i && bt y i) := by unfold bt; rw [Int32.toBitVec_and, BitVec.getLsbD_and]
theorem b_xor (x y : Int32) (i : Nat) : bt (x ^^^ y) i = (bt x i ^^ bt y i) := by unfold bt; rw [Int32.toBitVec_xor, BitVec.getLsbD_xor]
theorem b_big {x : Int32} {i : Nat} (h : 32 ≤ i) : bt x i = false := BitVec.getLsbD_of_ge _ _ h
theorem b_255 (i : Nat) : bt 255 i = decide (i < 8) := by
  rcases Nat.lt_or_ge i 32 with h | h
  · exact (by decide +kernel : ∀ i, i < 32 → bt 255 i = decide (i < 8)) i h
  · rw [b_big h, decide_eq_false (by omega)]
theorem b_65535 (i : Nat) : bt 65535 i = decide (i < 16) := by
  rcases Nat.lt_or_ge i 32 with h | h
  · exact (by decide +kernel : ∀ i, i < 32 → bt 65535 i = decide (i < 16)) i h
  · rw [b_big h, decide_eq_false (by omega)]
theorem b_m1 : ∀ i, i < 32 → bt (-1) i = true := by decide +kernel
theorem b_0 (i : Nat) : bt 0 i = false := BitVec.getLsbD_zero
theorem s_l : ∀ n, n < 32 → ((nI n &&& 31).toBitVec.smod 32).toNat = n := by decide +kernel
theorem s_u : ∀ n, n < 32 → (((nI n).toUInt32 &&& Int32.toUInt32 31).toBitVec % 32).toNat = n := by decide +kernel
theorem b_shl (n : Nat) (hn : n < 32) (x : Int32) {i : Nat} (hi : i < 32) : bt (x <<< (nI n &&& 31)) i = (decide (n ≤ i) && bt x (i - n)) := by
  unfold bt
  rw [Int32.toBitVec_shiftLeft]
  show (x.toBitVec <<< ((nI n &&& 31).toBitVec.smod 32).toNat).getLsbD i = _
  rw [s_l n hn, BitVec.getLsbD_shiftLeft]
  rcases Nat.lt_or_ge i n with h | h
  · simp [h, Nat.not_le.mpr h]
  · simp [hi, h, Nat.not_lt.mpr h]
theorem b_ushr (n : Nat) (hn : n < 32) (x : Int32) (i : Nat) : bt ((x.toUInt32 >>> ((nI n).toUInt32 &&& Int32.toUInt32 31)).toInt32) i = bt x (n + i) := by
  show (x.toUInt32 >>> ((nI n).toUInt32 &&& Int32.toUInt32 31)).toBitVec.getLsbD i = x.toUInt32.toBitVec.getLsbD (n + i)
  rw [UInt32.toBitVec_shiftRight]
  show (x.toUInt32.toBitVec >>> (((nI n).toUInt32 &&& Int32.toUInt32 31).toBitVec % 32).toNat).getLsbD i = _
  rw [s_u n hn, BitVec.getLsbD_ushiftRight]
theorem b_sshr (n : Nat) (hn : n < 32) (x : Int32) {i : Nat} (hi : i < 32) : bt (x >>> (nI n &&& 31)) i = if n + i < 32 then bt x (n + i) else bt x 31 := by
  unfold bt
  rw [Int32.toBitVec_shiftRight]
  show (x.toBitVec.sshiftRight ((nI n &&& 31).toBitVec.smod 32).toNat).getLsbD i = _
  rw [s_l n hn, BitVec.getLsbD_sshiftRight, BitVec.msb_eq_getLsbD_last]
  simp [hi]
theorem b_shl8 (x : Int32) {i : Nat} (hi : i < 32) : bt (x <<< ((8 : Int32) &&& 31)) i = (decide (8 ≤ i) && bt x (i - 8)) := b_shl 8 (by omega) x hi
theorem b_shl16 (x : Int32) {i : Nat} (hi : i < 32) : bt (x <<< ((16 : Int32) &&& 31)) i = (decide (16 ≤ i) && bt x (i - 16)) := b_shl 16 (by omega) x hi
theorem b_shl24 (x : Int32) {i : Nat} (hi : i < 32) : bt (x <<< ((24 : Int32) &&& 31)) i = (decide (24 ≤ i) && bt x (i - 24)) := b_shl 24 (by omega) x hi
theorem b_sshr8 (x : Int32) {i : Nat} (hi : i < 32) : bt (x >>> ((8 : Int32) &&& 31)) i = if 8 + i < 32 then bt x (8 + i) else bt x 31 := b_sshr 8 (by omega) x hi
/-! ===== nI under and, xor, >>>, one bit, 65535 ===== -/
theorem nx_and (a b : Nat) : nI a &&& nI b = nI (a &&& b) := by
  apply Int32.toBitVec_inj.1
  show BitVec.ofNat 32 a &&& BitVec.ofNat 32 b = BitVec.ofNat 32 (a &&& b)
  apply BitVec.eq_of_getLsbD_eq
  intro i hi
  simp [hi]
theorem nx_xor (a b : Nat) : nI a ^^^ nI b = nI (a ^^^ b) := by
  apply Int32.toBitVec_inj.1
  show BitVec.ofNat 32 a ^^^ BitVec.ofNat 32 b = BitVec.ofNat 32 (a ^^^ b)
  apply BitVec.eq_of_getLsbD_eq
  intro i hi
  simp [hi]
/-! numbers and loops of the pure part -/
/-- m turns from k on -/
def zf {α : Type} (f : Nat → α → α) : Nat → Nat → α → α
  | _, 0, a => a
  | k, m + 1, a => zf f (k + 1) m (f k a)
theorem zfu (n : Nat) (h : n < 1000000) : ∃ e, zFU = e + n + 1 := ⟨zFU - n - 1, by unfold zFU; omega⟩
theorem nI_s (k : Nat) : nI k + 1 = nI (k + 1) := nI_1 k
theorem gu_t {α : Type} (k : Option α) : z_gu true k = k := rfl
theorem nI_le' {a b : Nat} (ha : a < 2 ^ 31) (hb : b < 2 ^ 31) : (nI a ≤ nI b) = (a ≤ b) := propext (nI_leI ha hb)
theorem nI_lt' {a b : Nat} (ha : a < 2 ^ 31) (hb : b < 2 ^ 31) : (nI a < nI b) = (a < b) := propext (nI_ltI ha hb)
theorem nI_eq' {a b : Nat} (ha : a < 2 ^ 31) (hb : b < 2 ^ 31) : (nI a = nI b) = (a = b) := propext (nI_eq ha hb)
/-- an int is below 0, or one of the first, or beyond -/
theorem int_in (x : Int32) (n : Nat) (hn : n < 2 ^ 31) : (¬ (0 ≤ x ∧ x < nI n)) ∨ ∃ j, j < n ∧ x = nI j := by
  rcases pk_ix x hn with h | h | h
  · exact Or.inl (fun z => absurd z.1 (Int32.not_le.mpr h))
  · exact Or.inl (fun z => absurd z.2 (Int32.not_lt.mpr h))
  · exact Or.inr h
/-! ===== the reference: what it was told, and its reads ===== -/
/-- the reference's bank, its ships and slots -/
def RB (σ : ZS) (bk nsh nsl : Nat) : Prop := sI σ 78 34 = nI bk ∧ bk < 2 ∧ sF σ 81 bk = nI nsh ∧ nsh ≤ 6 ∧ sF σ 82 bk = nI nsl ∧ 6 ≤ nsl ∧ nsl ≤ 30
theorem r_lots {σ : ZS} {bk nsh nsl : Nat} (B : RB σ bk nsh nsl) : xX9_lots 78 (mkH σ) = some (nI nsh, mkH σ) := by
  obtain ⟨b1, b2, b3, -⟩ := B
  simp only [xX9_lots, rR_78_11, rI_78_34, Option.bind_some, b1, ra_81 σ b2, b3]
theorem r_round {σ : ZS} {bk nsh nsl : Nat} (B : RB σ bk nsh nsl) : xX9_round 78 (mkH σ) = some (nI nsl, mkH σ) := by
  obtain ⟨b1, b2, -, -, b5, -⟩ := B
  simp only [xX9_round, rR_78_12, rI_78_34, Option.bind_some, b1, ra_82 σ b2, b5]
theorem r_isIn (v a b : Int32) (h : ZH) : xX9_isIn v a b h = some (if a ≤ v ∧ v ≤ b then 1 else 0, h) := by
  unfold xX9_isIn
  by_cases h1 : v < a
  · rw [if_pos h1, if_neg (fun z => absurd z.1 (Int32.not_le.mpr h1))]
  · rw [if_neg h1]
    by_cases h2 : b < v
    · rw [if_pos h2, if_neg (fun z => absurd z.2 (Int32.not_le.mpr h2))]
    · rw [if_neg h2, if_pos ⟨Int32.not_lt.mp h1, Int32.not_lt.mp h2⟩]
/-- of n things the number of one -/
def inN (v : Int32) (n : Nat) : Prop := 0 ≤ v ∧ v < nI n
theorem int_pred {v : Int32} {n : Nat} (hn : n < 2 ^ 30) : (0 ≤ v ∧ v ≤ nI n - 1) ↔ (0 ≤ v ∧ v < nI n) := by
  cases n with
  | zero =>
    constructor
    · intro z
      exfalso
      have h1 := Int32.le_iff_toInt_le.mp z.1
      have h2 := Int32.le_iff_toInt_le.mp z.2
      have : (nI 0 - 1 : Int32).toInt = -1 := by decide
      rw [this] at h2
      have : (0 : Int32).toInt = 0 := by decide
      omega
    · intro z
      exfalso
      exact absurd z.2 (Int32.not_lt.mpr z.1)
  | succ m =>
    rw [nI_pred]
    constructor
    · intro z
      refine ⟨z.1, ?_⟩
      have h2 := Int32.le_iff_toInt_le.mp z.2
      rw [nI_toInt (by omega)] at h2
      apply Int32.lt_iff_toInt_lt.mpr
      rw [nI_toInt (by omega)]
      omega
    · intro z
      refine ⟨z.1, ?_⟩
      have h2 := Int32.lt_iff_toInt_lt.mp z.2
      rw [nI_toInt (by omega)] at h2
      apply Int32.le_iff_toInt_le.mpr
      rw [nI_toInt (by omega)]
      omega
theorem r_isShip {σ : ZS} {bk nsh nsl : Nat} (B : RB σ bk nsh nsl) (v : Int32) : xX9_isShip 78 v (mkH σ) = some (if 0 ≤ v ∧ v < nI nsh then 1 else 0, mkH σ) := by
  have hn : nsh < 2 ^ 30 := by have := B.2.2.2.1; omega
  simp only [xX9_isShip, is_78, gu_t, r_lots B, Option.bind_some, r_isIn]
  by_cases h : 0 ≤ v ∧ v < nI nsh
  · rw [if_pos ((int_pred hn).mpr h), if_pos h]; rfl
  · rw [if_neg (fun z => h ((int_pred hn).mp z)), if_neg h]; rfl
theorem r_isSlot {σ : ZS} {bk nsh nsl : Nat} (B : RB σ bk nsh nsl) (v : Int32) : xX9_isSlot 78 v (mkH σ) = some (if 0 ≤ v ∧ v < nI nsl then 1 else 0, mkH σ) := by
  have hn : nsl < 2 ^ 30 := by have := B.2.2.2.2.2.2; omega
  simp only [xX9_isSlot, is_78, gu_t, r_round B, Option.bind_some, r_isIn]
  by_cases h : 0 ≤ v ∧ v < nI nsl
  · rw [if_pos ((int_pred hn).mpr h), if_pos h]; rfl
  · rw [if_neg (fun z => h ((int_pred hn).mp z)), if_neg h]; rfl
/-- bit k of a set -/
def bitB (x k : Int32) : Bool := decide ((x >>> (k &&& 31)) &&& 1 = 1)
theorem r_bit (x k : Int32) (h : ZH) : xX9_bit x k h = some (if bitB x k then 1 else 0, h) := by
  unfold xX9_bit bitB
  by_cases hc : (x >>> (k &&& 31)) &&& (1 : Int32) = (1 : Int32)
  · rw [if_pos hc]; simp [hc]
  · rw [if_neg hc]; simp [hc]
theorem r_holderIn {σ : ZS} {s k : Nat} (hs : s < 6) (hk : k < 30) : xX9_holderIn 78 (nI s) (nI k) (mkH σ) = some (sF σ 104 (84 + 30 * s + k), mkH σ) := by
  simp only [xX9_holderIn, rR_78_41, Option.bind_some, nl_84, nl_30, pk_mul, nI_add, ra_104 σ (k := 84 + 30 * s + k) (by omega)]
/-- a ship is on: by what is off, the frame, the frame told -/
def onS (off fr on s : Int32) : Bool := decide (on ≤ fr) && !bitB off s
theorem r_isOn {σ : ZS} {bk nsh nsl s : Nat} (B : RB σ bk nsh nsl) (hs : s < 6) : xX9_isOn 78 (nI s) (mkH σ) = some (if onS (sF σ 104 516) (sF σ 104 517) (sF σ 95 (6 * bk + s)) (nI s) then 1 else 0, mkH σ) := by
  obtain ⟨b1, b2, -⟩ := B
  simp only [xX9_isOn, rR_78_41, rR_78_25, rI_78_34, Option.bind_some, b1, nl_517, nl_516, nl_6, pk_mul, nI_add, ra_104 σ (k := 517) (by omega), ra_104 σ (k := 516) (by omega), ra_95 σ (k := 6 * bk + s) (by omega), r_bit]
  unfold onS
  by_cases h1 : sF σ 104 517 < sF σ 95 (6 * bk + s)
  · rw [if_pos h1]
    simp [Int32.not_le.mpr h1]
  · rw [if_neg h1]
    have h2 := Int32.not_lt.mp h1
    cases hb : bitB (sF σ 104 516) (nI s) <;> simp [h2]
theorem r_litNow_L {σ : ZS} {bk nsh nsl : Nat} (B : RB σ bk nsh nsl) : ∀ (m k : Nat) (acc : Int32) (e : Nat), k + m = nsh → xX9_litNow_L4 (e + m + 1) 78 acc (nI k) (mkH σ) = some (zf (fun s a => if onS (sF σ 104 516) (sF σ 104 517) (sF σ 95 (6 * bk + s)) (nI s) then a ||| ((1 : Int32) <<< (nI s &&& 31)) else a) k m acc, mkH σ) := by
  have hn := B.2.2.2.1
  intro m
  induction m with
  | zero =>
    intro k acc e hk
    show xX9_litNow_B4 (xX9_litNow_L4 (e + 0)) 78 acc (nI k) (mkH σ) = _
    simp only [xX9_litNow_B4, is_78, gu_t, r_lots B, Option.bind_some]
    rw [if_pos ((nI_leI (by omega) (by omega)).mpr (by omega))]
    rfl
  | succ m ih =>
    intro k acc e hk
    show xX9_litNow_B4 (xX9_litNow_L4 (e + (m + 1))) 78 acc (nI k) (mkH σ) = _
    simp only [xX9_litNow_B4, is_78, gu_t, r_lots B, Option.bind_some]
    rw [if_neg (fun z => by have := (nI_leI (by omega) (by omega)).mp z; omega)]
    rw [r_isOn B (by omega)]
    simp only [Option.bind_some, nI_s]
    rw [zf]
    rw [show e + (m + 1) = e + m + 1 by omega]
    by_cases ho : onS (sF σ 104 516) (sF σ 104 517) (sF σ 95 (6 * bk + k)) (nI k) = true
    · simp only [ho, if_true]
      rw [if_neg (by decide)]
      exact ih (k + 1) _ e (by omega)
    · simp only [ho, if_false]
      rw [if_pos (by decide)]
      exact ih (k + 1) _ e (by omega)
