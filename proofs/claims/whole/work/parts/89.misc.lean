/-! lies, end, later -/
def mS (a : Nat) : Prop := a = 9 ∨ a = 79 ∨ a = 77 ∨ a = 110
def mT (a k : Nat) : Prop := a = 8 ∨ (a = 78 ∧ (k = 2 ∨ k = 4 ∨ k = 5 ∨ k = 51 ∨ k = 58))
/-- tape, fault, time and what lies there changed alone -/
theorem IV_m {σ τ : ZS} {bk : Nat} {P : Nat → Nat} {on fo : Nat → Int32} {len : Nat} {X : Nat → Nat → Int32} (hF : FR mS mT σ τ) (hM : IM τ) (I : IV σ bk P on fo len X) : IV τ bk P on fo len X := by
  have h104 : sF τ 104 = sF σ 104 := hF.1 104 (fun z => by unfold mS at z; omega)
  obtain ⟨i1, i2, i3, i4, i5, i6, i7, i8⟩ := I
  have g : GF mS mT (fun _ _ => False) σ τ := GF_f hF
  have hN := FR_now hF
  have hst : ∀ p, isSt (sK σ) p → (∀ a, p ≤ a → a ≤ p + 12 → ¬ mS a) ∧ ∀ k, ¬ mT p k := fun p hp => by
    have h3 := st_in hp
    exact ⟨fun a h1 h2 z => by unfold mS at z; omega, fun k z => by unfold mT at z; omega⟩
  have hn0 := i6.1 0 (sNow σ) (by omega) (PT_0 σ)
  refine ⟨IP_o g (fun a h1 h2 z => by unfold mS at z; omega) (fun a h1 h2 z => by unfold mS at z; omega) (fun k z => by unfold mT at z; omega) (fun z => by unfold mT at z; omega) (fun z => by unfold mT at z; omega) i1, hM, IS_o g (fun a h1 h2 z => by unfold mS at z; omega) (fun a h1 h2 z => by unfold mS at z; omega) ⟨fun z => by unfold mT at z; omega, fun z => by unfold mT at z; omega⟩ i3, by rw [h104]; exact i4, ?_, PTR_o g hN (fun _ _ z => z) i6, IH_o g i6 (fun z => by unfold mS at z; omega) ⟨fun z => by unfold mT at z; omega, fun z => by unfold mT at z; omega, fun z => by unfold mT at z; omega, fun z => by unfold mT at z; omega⟩ (fun _ z => z) (fun i p hi hp => hst p (i6.1 (i + 1) p (by omega) (by rw [PT_h hi]; exact hp)).1) i7, IB_o g i6 ⟨fun z => by unfold mS at z; omega, fun z => by unfold mS at z; omega, fun z => by unfold mS at z; omega⟩ (fun _ z => z) (fun i p hi hp => hst p (i6.1 (i + 41) p (by omega) (by rw [PT_b]; exact hp)).1) i8⟩
  rw [hN, cV_o hF (hst _ hn0.1).1 (hst _ hn0.1).2, h104]
  exact i5
theorem q_lies (b : Int32) : QOK (xX8_lies 8 b) (xX9_lies 78 b) := by
  refine Q_rd fun σ ⟨bk, P, on, fo, len, X, I⟩ => ?_
  obtain ⟨-, ⟨-, -, -, l, hl, l1, l2, l3⟩, -⟩ := I
  simp only [xX8_lies, xX9_lies, rI_8_16, rI_78_51, Option.bind_some, l1, l2, r_isIn]
  by_cases hb : 0 ≤ b ∧ b < nI l
  · obtain ⟨i, hi, rfl⟩ := in_n (by omega) hb
    simp only [if_pos ((int_pred (show l < 2 ^ 30 by omega)).mpr hb), if_neg (Int32.not_lt.mpr hb.1), if_pos hb.2, t10, if_false, rR_8_15, rR_78_50, Option.bind_some, ra_77 σ (show i < 6 by omega), ra_110 σ (show i < 6 by omega), l3 i hi]
    exact ⟨_, rfl, rfl⟩
  · simp only [if_neg (show ¬ (0 ≤ b ∧ b ≤ nI l - 1) from fun z => hb ((int_pred (show l < 2 ^ 30 by omega)).mp z)), if_true]
    by_cases hb1 : b < 0
    · rw [if_pos hb1]
      exact ⟨_, rfl, rfl⟩
    · rw [if_neg hb1, if_neg (fun z => hb ⟨Int32.not_lt.mp hb1, z⟩)]
      exact ⟨_, rfl, rfl⟩
theorem q_end (b : Int32) : QOK (xX8_end 8 b) (xX9_end 78 b) := by
  rintro σ ⟨bk, P, on, fo, len, X, I⟩
  obtain ⟨-, ⟨⟨n, hn, m1, m2, m3⟩, f, t, l⟩, -⟩ := id I
  by_cases hb : 0 ≤ b ∧ b < nI (n + 1)
  · obtain ⟨i, hi, rfl⟩ := in_n (by omega) hb
    have hle : nI i ≤ nI n := nI_le (by omega) (by omega)
    have r2 : sI (setI σ 8 1 (nI i)) 78 2 = nI n := by rw [sI_ne (by omega)]; exact m2
    have o8 : ∀ k, k ≠ 1 → sI (setI (setI σ 8 1 (nI i)) 78 2 (nI i)) 8 k = sI σ 8 k := fun k hk => by rw [sI_ne (by omega), sI_ne (by omega)]
    have o78 : ∀ k, k ≠ 2 → sI (setI (setI σ 8 1 (nI i)) 78 2 (nI i)) 78 k = sI σ 78 k := fun k hk => by rw [sI_ne (by omega), sI_ne (by omega)]
    refine ⟨nI i, setI σ 8 1 (nI i), setI (setI σ 8 1 (nI i)) 78 2 (nI i), ?_, ?_, ⟨rfl, rfl⟩, bk, P, on, fo, len, X, IV_m (FR_t (FR_I (Or.inl rfl)) (FR_I (Or.inr ⟨rfl, Or.inl rfl⟩))) ⟨⟨i, by omega, by rw [sI_ne (by omega), sI_eq], sI_eq, fun j hj => m3 j (by omega)⟩, ?_, ?_, ?_⟩ I⟩
    · simp only [xX8_end, rI_8_1, Option.bind_some, m1, if_neg (Int32.not_lt.mpr hb.1), if_pos hle, wI_8_1]
    · simp only [xX9_end, rI_78_2, Option.bind_some, r2, if_neg (Int32.not_lt.mpr hb.1), if_pos hle, wI_78_2]
    · rw [o8 2 (by omega), o8 3 (by omega), o78 4 (by omega), o78 5 (by omega)]; exact f
    · rw [o8 17 (by omega), o78 58 (by omega)]; exact t
    · rw [o8 16 (by omega), o78 51 (by omega)]; exact l
  · have hno : ∀ x, x = nI n → (if b < 0 then some ((-1 : Int32), mkH σ) else if b ≤ x then none else some (-1, mkH σ)) = some (-1, mkH σ) := by
      rintro x rfl
      by_cases h1 : b < 0
      · rw [if_pos h1]
      · rw [if_neg h1, if_neg]
        intro z
        obtain ⟨j, hj, e⟩ := nI_of2 (x := b) (M := nI n) (n := n) (nI_toInt (by omega)) h1 z
        exact hb ⟨Int32.not_lt.mp h1, by rw [e]; exact nI_lt (by omega) (by omega)⟩
    refine ⟨-1, σ, σ, ?_, ?_, ⟨rfl, rfl⟩, bk, P, on, fo, len, X, I⟩
    · simp only [xX8_end, rI_8_1, Option.bind_some, m1]
      by_cases h1 : b < 0
      · rw [if_pos h1]
      · have := hno _ rfl
        rw [if_neg h1] at this ⊢
        by_cases h2 : b ≤ nI n
        · rw [if_pos h2] at this; cases this
        · rw [if_neg h2]
    · simp only [xX9_end, rI_78_2, Option.bind_some, m2]
      by_cases h1 : b < 0
      · rw [if_pos h1]
      · have := hno _ rfl
        rw [if_neg h1] at this ⊢
        by_cases h2 : b ≤ nI n
        · rw [if_pos h2] at this; cases this
        · rw [if_neg h2]
