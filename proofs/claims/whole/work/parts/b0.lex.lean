/-! the text: bytes, runs, words; tokens as the class reads them -/
def sgn (u : Nat) : Int32 := if u < 128 then nI u else nI u - 256
def isL (u : Nat) : Bool := decide (97 ≤ u ∧ u ≤ 122)
def isD (u : Nat) : Bool := decide (48 ≤ u ∧ u ≤ 57)
def isB (u : Nat) : Bool := decide (u = 32 ∨ u = 10)
def isG (u : Nat) : Bool := decide (u = 59 ∨ u = 40 ∨ u = 41 ∨ u = 60 ∨ u = 62 ∨ u = 61 ∨ u = 43 ∨ u = 45 ∨ u = 42 ∨ u = 47 ∨ u = 37)
theorem sg_1 : ∀ u, u < 256 → (decide (sgn u < 97) = decide (u < 97 ∨ 128 ≤ u)) ∧ (decide (122 < sgn u) = decide (122 < u ∧ u < 128)) ∧ (decide (sgn u < 48) = decide (u < 48 ∨ 128 ≤ u)) ∧ (decide (57 < sgn u) = decide (57 < u ∧ u < 128)) ∧ (decide (sgn u = 32) = decide (u = 32)) ∧ (decide (sgn u = 10) = decide (u = 10)) ∧ sgn u &&& 255 = nI u := by decide +kernel
theorem sg_0 : ∀ u, u < 256 → u < 128 → sgn u = nI u := fun u _ h => if_pos h
theorem sg_i : ∀ u, u < 256 → (nI u).toInt8.toInt32 = sgn u := by decide +kernel
/-- a narrow byte is one of 256 -/
theorem by_u (x : Int32) (h : vp_nar .byte x = x) : ∃ u, u < 256 ∧ x = sgn u := by
  rw [vp_nar_byte] at h
  refine ⟨x.toBitVec.toNat % 256, Nat.mod_lt _ (by omega), ?_⟩
  rw [← sg_i _ (Nat.mod_lt _ (by omega))]
  have e : (nI (x.toBitVec.toNat % 256)).toInt8 = x.toInt8 := by
    apply Int8.toBitVec_inj.mp
    show (BitVec.ofNat 32 (x.toBitVec.toNat % 256)).signExtend 8 = x.toBitVec.signExtend 8
    apply BitVec.eq_of_toNat_eq
    rw [BitVec.signExtend_eq_setWidth_of_le _ (by omega), BitVec.signExtend_eq_setWidth_of_le _ (by omega), BitVec.toNat_setWidth, BitVec.toNat_setWidth, BitVec.toNat_ofNat]
    omega
  rw [e]
  exact h.symm
theorem c_isL {u : Nat} (hu : u < 256) (h : ZH) : xX3_isLetter (sgn u) h = some (if isL u then 1 else 0, h) := by
  obtain ⟨h1, h2, -⟩ := sg_1 u hu
  unfold xX3_isLetter isL
  by_cases c1 : sgn u < 97
  · rw [decide_eq_true c1] at h1
    have := of_decide_eq_true h1.symm
    rw [if_pos c1, decide_eq_false (by omega)]
    rfl
  · rw [decide_eq_false c1] at h1
    have := of_decide_eq_false h1.symm
    rw [if_neg c1]
    by_cases c2 : (122 : Int32) < sgn u
    · rw [decide_eq_true c2] at h2
      have := of_decide_eq_true h2.symm
      rw [if_pos c2, decide_eq_false (by omega)]
      rfl
    · rw [decide_eq_false c2] at h2
      have := of_decide_eq_false h2.symm
      rw [if_neg c2, decide_eq_true (by omega)]
      rfl
theorem c_isD {u : Nat} (hu : u < 256) (h : ZH) : xX3_isDigit (sgn u) h = some (if isD u then 1 else 0, h) := by
  obtain ⟨-, -, h1, h2, -⟩ := sg_1 u hu
  unfold xX3_isDigit isD
  by_cases c1 : sgn u < 48
  · rw [decide_eq_true c1] at h1
    have := of_decide_eq_true h1.symm
    rw [if_pos c1, decide_eq_false (by omega)]
    rfl
  · rw [decide_eq_false c1] at h1
    have := of_decide_eq_false h1.symm
    rw [if_neg c1]
    by_cases c2 : (57 : Int32) < sgn u
    · rw [decide_eq_true c2] at h2
      have := of_decide_eq_true h2.symm
      rw [if_pos c2, decide_eq_false (by omega)]
      rfl
    · rw [decide_eq_false c2] at h2
      have := of_decide_eq_false h2.symm
      rw [if_neg c2, decide_eq_true (by omega)]
      rfl
theorem c_isBl {u : Nat} (hu : u < 256) (h : ZH) : xX3_isBlank (sgn u) h = some (if isB u then 1 else 0, h) := by
  obtain ⟨-, -, -, -, h1, h2, -⟩ := sg_1 u hu
  unfold xX3_isBlank isB
  by_cases c1 : sgn u = 32
  · rw [decide_eq_true c1] at h1
    have := of_decide_eq_true h1.symm
    rw [if_pos c1, decide_eq_true (Or.inl this)]
    rfl
  · rw [decide_eq_false c1] at h1
    have := of_decide_eq_false h1.symm
    rw [if_neg c1]
    by_cases c2 : sgn u = 10
    · rw [decide_eq_true c2] at h2
      have := of_decide_eq_true h2.symm
      rw [if_pos c2, decide_eq_true (Or.inr this)]
      rfl
    · rw [decide_eq_false c2] at h2
      have := of_decide_eq_false h2.symm
      rw [if_neg c2, decide_eq_false (by omega)]
      rfl
/-- on while t holds -/
def run (t : Nat → Bool) : Nat → Nat → Nat
  | 0, p => p
  | f + 1, p => if t p then run t f (p + 1) else p
theorem run_ge {t : Nat → Bool} : ∀ f p, p ≤ run t f p ∧ run t f p ≤ p + f := by
  intro f
  induction f with
  | zero => intro p; exact ⟨Nat.le_refl _, Nat.le_refl _⟩
  | succ f ih =>
    intro p
    show p ≤ (if t p then run t f (p + 1) else p) ∧ (if t p then run t f (p + 1) else p) ≤ p + (f + 1)
    split
    · have := ih (p + 1)
      omega
    · omega
theorem run_in {t : Nat → Bool} : ∀ f p j, p ≤ j → j < run t f p → t j = true := by
  intro f
  induction f with
  | zero => intro p j h1 h2; exact absurd h2 (by show ¬ j < p; omega)
  | succ f ih =>
    intro p j h1 h2
    have h3 : j < (if t p then run t f (p + 1) else p) := h2
    by_cases hp : t p = true
    · rw [if_pos hp] at h3
      by_cases hj : j = p
      · rw [hj]; exact hp
      · exact ih (p + 1) j (by omega) h3
    · rw [if_neg hp] at h3
      omega
theorem run_f {t : Nat → Bool} (n : Nat) (hn : ∀ j, n ≤ j → t j = false) : ∀ f p, n ≤ p + f → t (run t f p) = false := by
  intro f
  induction f with
  | zero => intro p h; exact hn p (by omega)
  | succ f ih =>
    intro p h
    show t (if t p then run t f (p + 1) else p) = false
    by_cases hp : t p = true
    · rw [if_pos hp]; exact ih (p + 1) (by omega)
    · rw [if_neg hp]; simpa using hp
/-- the text with nothing behind its end -/
def gu0 (u : Nat → Nat) (n k : Nat) : Nat := if k < n then u k else 0
theorem gu_lt {u : Nat → Nat} {n : Nat} (h : ∀ i, i < n → u i < 256) (k : Nat) : gu0 u n k < 256 := by
  unfold gu0
  split
  · rename_i hk; exact h k hk
  · omega
theorem gu_o {u : Nat → Nat} {n k : Nat} (h : n ≤ k) : gu0 u n k = 0 := if_neg (by omega)
/-- the words: offset and length of each -/
def wO (j : Nat) : Nat := [0, 6, 12, 17, 23, 29, 35, 40, 48, 53, 56, 62, 65, 68, 72, 76, 82, 88, 95].getD j 0
def wL (j : Nat) : Nat := [5, 5, 4, 5, 5, 5, 4, 7, 4, 2, 5, 2, 2, 3, 3, 5, 5, 6, 5].getD j 0
def zb (i : Nat) : Nat := (zB0.getD i 0).toNatClampNeg
theorem zb_i : ∀ i, i < 101 → zB0.getD i 0 = nI (zb i) ∧ zb i < 128 := by decide +kernel
theorem wO_s : ∀ j, j < 19 → (∀ k, k < wL j → zb (wO j + k) ≠ 32 ∧ wO j + k < 101) ∧ zb (wO j + wL j) = 32 ∧ wO j + wL j < 101 ∧ wO (j + 1) = (if j = 18 then 0 else wO j + wL j + 1) ∧ wL j ≤ 7 ∧ 2 ≤ wL j := by decide +kernel
/-- word j stands at a, of len letters -/
def eqW (v : Nat → Nat) (a len j : Nat) : Bool := decide (len = wL j ∧ ∀ k, k < wL j → v (a + k) = zb (wO j + k))
def wIx (v : Nat → Nat) (a len : Nat) : Nat := run (fun j => !eqW v a len j) 19 0
theorem s3_R (σ : ZS) : z_gR (mkH σ) 3 50 0 = some 5 := rfl
theorem s3_I (σ : ZS) : z_gI (mkH σ) 3 50 1 = some 0 := rfl
theorem s3_is (σ : ZS) : z_is (mkH σ) 3 50 = true := rfl
theorem s4_R (σ : ZS) : z_gR (mkH σ) 4 50 0 = some 6 := rfl
theorem s4_I (σ : ZS) : z_gI (mkH σ) 4 50 1 = some 0 := rfl
theorem s4_is (σ : ZS) : z_is (mkH σ) 4 50 = true := rfl
theorem s5_L (σ : ZS) : z_aL (mkH σ) 5 = some (nI 101) := rfl
theorem s6_L (σ : ZS) : z_aL (mkH σ) 6 = some (nI 11) := rfl
theorem n_b0 : vp_nar .byte 0 = 0 := rfl
theorem c_len (σ : ZS) : xJ0_length_8abf5 3 (mkH σ) = some (nI 101, mkH σ) := by
  unfold xJ0_length_8abf5 xJ0_coder_7d493 z_cr
  rw [s3_R, Option.bind_some, s5_L, Option.bind_some, s3_is, gu_t, if_neg (show ¬ (1 : Int32) = 0 by decide), s3_I, Option.bind_some, if_pos n_b0, Option.bind_some]
  show some (nI 101 >>> ((0 : Int32) &&& 31), mkH σ) = _
  rw [show nI 101 >>> ((0 : Int32) &&& 31) = nI 101 by decide]
theorem c_len4 (σ : ZS) : xJ0_length_8abf5 4 (mkH σ) = some (nI 11, mkH σ) := by
  unfold xJ0_length_8abf5 xJ0_coder_7d493 z_cr
  rw [s4_R, Option.bind_some, s6_L, Option.bind_some, s4_is, gu_t, if_neg (show ¬ (1 : Int32) = 0 by decide), s4_I, Option.bind_some, if_pos n_b0, Option.bind_some]
  show some (nI 11 >>> ((0 : Int32) &&& 31), mkH σ) = _
  rw [show nI 11 >>> ((0 : Int32) &&& 31) = nI 11 by decide]
theorem c_lat (σ : ZS) (a : Nat) (h : z_gI (mkH σ) a 50 1 = some 0) : xJ0_isLatin1_aae02 a (mkH σ) = some (1, mkH σ) := by
  unfold xJ0_isLatin1_aae02
  rw [if_neg (show ¬ (1 : Int32) = 0 by decide), h, Option.bind_some, if_pos rfl]
theorem c_chr {σ : ZS} {i : Nat} (hi : i < 101) : xJ0_charAt_5068e 3 (nI i) (mkH σ) = some (nI (zb i), mkH σ) := by
  obtain ⟨h1, h2⟩ := zb_i i hi
  have e1 : z_aB (mkH σ) 5 (nI i) = some (nI (zb i)) := by
    unfold z_aB
    show (if (11 = 1 ∨ 11 = 2 ∨ 11 = 11) ∧ ¬ nI i < 0 then zB0[(nI i).toNatClampNeg]? else none) = _
    rw [if_pos ⟨Or.inr (Or.inr rfl), nI_pos (by omega)⟩, nI_clamp (by omega)]
    have : zB0[i]? = some (zB0.getD i 0) := by
      rw [List.getD_eq_getElem?_getD, List.getElem?_eq_getElem (show i < zB0.length from hi)]
      rfl
    rw [this, h1]
  have e2 : xJ0_checkIndex_df160 (nI i) (nI 101) (mkH σ) = some (mkH σ) := by
    unfold xJ0_checkIndex_df160 xJ3_checkIndex_8e157
    rw [if_neg (nI_pos (by omega)), if_pos (nI_lt hi (by omega)), Option.bind_some]
  have e3 : ((nI (zb i) &&& (255 : Int32)).toUInt32 % 65536).toInt32 = nI (zb i) := by
    have hz := (by decide +kernel : ∀ z, z < 128 → ((nI z &&& (255 : Int32)).toUInt32 % 65536).toInt32 = nI z)
    exact hz _ h2
  have e4 : vp_nar .char (nI (zb i)) = nI (zb i) := by
    rw [← e3]
    exact pk_vc _
  unfold xJ0_charAt_5068e xJ1_charAt_3b067 z_cr
  rw [s3_is, gu_t, c_lat σ 3 (s3_I σ), Option.bind_some, if_neg (show ¬ (1 : Int32) = 0 by decide), s3_R, Option.bind_some, s5_L, Option.bind_some, e2, Option.bind_some, e1, Option.bind_some, e3, if_pos e4, Option.bind_some]
  show (if vp_nar .char (nI (zb i)) = nI (zb i) then some (nI (zb i), mkH σ) else none) = _
  rw [if_pos e4]
/-- a sign of the language -/
theorem c_idx {σ : ZS} {u : Nat} (hu : u < 256) : ∃ v, xJ0_indexOf_0f7a4 4 (((sgn u &&& (255 : Int32)).toUInt32 % 65536).toInt32) (mkH σ) = some (v, mkH σ) ∧ (v < 0 ↔ isG u = false) := by
  have e0 : ((sgn u &&& (255 : Int32)).toUInt32 % 65536).toInt32 = nI u := by
    rw [(sg_1 u hu).2.2.2.2.2.2]
    exact (by decide +kernel : ∀ z, z < 256 → ((nI z).toUInt32 % 65536).toInt32 = nI z) u hu
  have e1 : ∀ i, i < 11 → z_aB (mkH σ) 6 (nI i) = some (zB1.getD i 0) := fun i hi => by
    unfold z_aB
    show (if (11 = 1 ∨ 11 = 2 ∨ 11 = 11) ∧ ¬ nI i < 0 then zB1[(nI i).toNatClampNeg]? else none) = _
    rw [if_pos ⟨Or.inr (Or.inr rfl), nI_pos (by omega)⟩, nI_clamp (by omega), List.getD_eq_getElem?_getD, List.getElem?_eq_getElem (show i < zB1.length from hi)]
    rfl
  have hg : ∀ u, u < 256 → (isG u = true ↔ ∃ i, i < 11 ∧ zB1.getD i 0 = sgn u) := by decide +kernel
  have kc := lpxZ (fun e i (_ : Unit) => xJ1_indexOfChar_4cfef_L7 e 6 (nI 11) (sgn u) (nI i) (mkH σ)) (fun i _ => if zB1.getD i 0 = sgn u then some (nI i, mkH σ) else none) (fun _ x => x) 11 (fun _ _ => True) (fun _ => (-1, mkH σ)) (by omega) ?_ ?_ () trivial
  · have hz : ∀ m k, k + m = 11 → ∃ v, zx (fun i (_ : Unit) => if zB1.getD i 0 = sgn u then some (nI i, mkH σ) else none) (fun _ x => x) (fun _ => ((-1 : Int32), mkH σ)) k m () = (v, mkH σ) ∧ (v < 0 ↔ ∀ i, k ≤ i → i < 11 → ¬ zB1.getD i 0 = sgn u) := by
      intro m
      induction m with
      | zero =>
        intro k hk
        exact ⟨-1, rfl, ⟨fun _ i h1 h2 => by omega, fun _ => by decide⟩⟩
      | succ m ih =>
        intro k hk
        rw [zx]
        by_cases hq : zB1.getD k 0 = sgn u
        · rw [if_pos hq]
          exact ⟨nI k, rfl, ⟨fun z => absurd z (nI_pos (by omega)), fun z => absurd hq (z k (Nat.le_refl _) (by omega))⟩⟩
        · rw [if_neg hq]
          obtain ⟨v, v1, v2⟩ := ih (k + 1) (by omega)
          refine ⟨v, v1, v2.trans ⟨fun z i h1 h2 => ?_, fun z i h1 h2 => z i (by omega) h2⟩⟩
          by_cases hik : i = k
          · rw [hik]; exact hq
          · exact z i (by omega) h2
    obtain ⟨v, v1, v2⟩ := hz 11 0 (by omega)
    rw [v1, nI_0] at kc
    refine ⟨v, ?_, ?_⟩
    · rw [e0]
      unfold xJ0_indexOf_0f7a4 xJ0_indexOf_7cf53 xJ1_indexOf_4cfef xJ1_canEncode_9a6ad xJ1_indexOfChar_4cfef
      generalize xJ1_indexOfChar_4cfef_L7 zFU = nl at *
      rw [s4_is, gu_t, gu_t, c_lat σ 4 (s4_I σ), Option.bind_some, if_neg (show ¬ (1 : Int32) = 0 by decide), s4_R, Option.bind_some, s4_is, gu_t, c_len4, Option.bind_some, if_neg (nI_pos (show u < 2 ^ 31 by omega)), if_neg (show ¬ (255 : Int32) < nI u from fun z => by rw [nl_255] at z; have := (nI_ltI (by omega) (by omega)).mp z; omega), Option.bind_some, if_neg (show ¬ (1 : Int32) = 0 by decide), c_max, Option.bind_some, s6_L, Option.bind_some, c_min, Option.bind_some]
      show ((if (0 : Int32) < nI 11 then ((nl 6 (nI 11) (nI u).toInt8.toInt32 (0 : Int32) (mkH σ)).bind fun r33 => some (r33.1, r33.2)) else some ((-1 : Int32), mkH σ)).bind fun r17 => some (r17.1, r17.2)).bind (fun r3 => some (r3.1, r3.2)) = _
      rw [if_pos (by decide), sg_i u hu, kc, Option.bind_some, Option.bind_some, Option.bind_some]
    · rw [v2]
      constructor
      · intro z
        cases hb : isG u
        · rfl
        · obtain ⟨i, h1, h2⟩ := (hg u hu).mp hb
          exact absurd h2 (z i (by omega) h1)
      · intro z i _ h2 h3
        rw [(hg u hu).mpr ⟨i, h2, h3⟩] at z
        cases z
  · intro e i _ hi _
    have hB : xJ1_indexOfChar_4cfef_L7 (e + 1) 6 (nI 11) (sgn u) (nI i) (mkH σ) = if zB1.getD i 0 = sgn u then some (nI i, mkH σ) else xJ1_indexOfChar_4cfef_L7 e 6 (nI 11) (sgn u) (nI (i + 1)) (mkH σ) := by
      show xJ1_indexOfChar_4cfef_B7 (xJ1_indexOfChar_4cfef_L7 e) 6 (nI 11) (sgn u) (nI i) (mkH σ) = _
      unfold xJ1_indexOfChar_4cfef_B7
      rw [if_neg (fun z => by have := (nI_leI (by omega) (by omega)).mp z; omega), e1 i hi, Option.bind_some, nI_s]
    by_cases hq : zB1.getD i 0 = sgn u
    · rw [if_pos hq] at hB
      refine ⟨fun v hv => ?_, fun hn => ?_⟩
      · rw [if_pos hq] at hv; exact hB.trans hv
      · rw [if_pos hq] at hn; cases hn
    · rw [if_neg hq] at hB
      refine ⟨fun v hv => ?_, fun hn => ⟨hB, trivial⟩⟩
      rw [if_neg hq] at hv; cases hv
  · intro e _ _
    show xJ1_indexOfChar_4cfef_B7 (xJ1_indexOfChar_4cfef_L7 e) 6 (nI 11) (sgn u) (nI 11) (mkH σ) = _
    unfold xJ1_indexOfChar_4cfef_B7
    rw [if_pos (Int32.le_refl _)]
