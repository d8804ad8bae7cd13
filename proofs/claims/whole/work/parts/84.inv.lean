/-! what holds between two calls -/
def IP (σ : ZS) (bk : Nat) (P : Nat → Nat) (on fo : Nat → Int32) (len : Nat) (X : Nat → Nat → Int32) : Prop := PW P ∧ WFo fo len ∧ RE σ bk P on fo len ∧ CE σ P on fo len ∧ ∀ r s, r < 4 → s < P 0 → sF σ (91 + r) (6 * bk + s) = X r s ∧ sF σ (22 + r) s = X r s
/-- what was seen: the same on both sides -/
def IS (σ : ZS) (P : Nat → Nat) : Prop := ∃ c, c ≤ 30 ∧ sI σ 68 8 = nI c ∧ sI σ 78 57 = nI c ∧ ∀ i, i < c → (∃ f, f ≤ 40 ∧ sF σ 69 i = nI f ∧ sF σ 111 i = nI f) ∧ (∃ s, s + 1 < P 0 ∧ sF σ 70 i = nI s ∧ sF σ 112 i = nI s) ∧ (∃ w, w < 2 ∧ sF σ 71 i = nI w ∧ sF σ 113 i = nI w) ∧ (∃ t, t ≤ 100000 ∧ sF σ 72 i = nI t ∧ sF σ 114 i = nI t) ∧ ((sF σ 73 i = -1 ∧ sF σ 115 i = -1) ∨ ∃ t, t ≤ 100000 ∧ sF σ 73 i = nI t ∧ sF σ 115 i = nI t)
/-- tape, fault, time, what lies there -/
def IM (σ : ZS) : Prop := (∃ n, n ≤ 1600 ∧ sI σ 8 1 = nI n ∧ sI σ 78 2 = nI n ∧ ∀ i, i < n → sF σ 9 i = sF σ 79 i ∧ vp_nar .byte (sF σ 79 i) = sF σ 79 i) ∧ (sI σ 8 2 = sI σ 78 4 ∧ sI σ 8 3 = sI σ 78 5) ∧ (∃ t, t ≤ 100000 ∧ sI σ 8 17 = nI t ∧ sI σ 78 58 = nI t) ∧ ∃ l, l ≤ 6 ∧ sI σ 8 16 = nI l ∧ sI σ 78 51 = nI l ∧ ∀ i, i < l → sF σ 77 i = sF σ 110 i
/-- the acts -/
def IH (σ : ZS) (P : Nat → Nat) : Prop := ∃ dn un, sI σ 66 2 = nI dn ∧ sI σ 66 3 = nI un ∧ sI σ 78 48 = nI dn ∧ sI σ 78 49 = nI un ∧ dn + un ≤ 40 ∧ ∀ i, i < dn + un → ∃ p, sQ σ 67 i = some p ∧ LV (P 0) (cV σ p) (fun j => sF σ 109 (521 * i + j)) ∧ WF 1 (P 0) (P 1) (fun j => sF σ 109 (521 * i + j))
/-- the boxes -/
def IB (σ : ZS) (P : Nat → Nat) : Prop := ∀ b, b < 3 → sF σ 76 b = sF σ 117 b ∧ (sF σ 117 b = 0 ∨ (sF σ 117 b = 1 ∧ ∃ p, sQ σ 75 b = some p ∧ LV (P 0) (cV σ p) (fun j => sF σ 116 (521 * b + j)) ∧ WF 1 (P 0) (P 1) (fun j => sF σ 116 (521 * b + j))))
def IV (σ : ZS) (bk : Nat) (P : Nat → Nat) (on fo : Nat → Int32) (len : Nat) (X : Nat → Nat → Int32) : Prop := IP σ bk P on fo len X ∧ IM σ ∧ IS σ P ∧ WF 1 (P 0) (P 1) (sF σ 104) ∧ LV (P 0) (cV σ (sNow σ)) (sF σ 104) ∧ PTR σ ∧ IH σ P ∧ IB σ P
def INV (σ : ZS) : Prop := ∃ bk P on fo len X, IV σ bk P on fo len X
/-- what a question may change -/
def scS (a : Nat) : Prop := a = 28 ∨ (42 ≤ a ∧ a ≤ 65) ∨ a = 74 ∨ a = 103 ∨ (105 ≤ a ∧ a ≤ 108)
def scT (a k : Nat) : Prop := (42 ≤ a ∧ a ≤ 65) ∨ (a = 68 ∧ k ≠ 8) ∨ (a = 78 ∧ k = 40)
theorem IP_o {S : Nat → Prop} {T : Nat → Nat → Prop} {U : Nat → Nat → Prop} {σ τ : ZS} {bk : Nat} {P : Nat → Nat} {on fo : Nat → Int32} {len : Nat} {X : Nat → Nat → Int32} (h : GF S T U σ τ) (hS1 : ∀ a, 22 ≤ a → a ≤ 27 → ¬ S a) (hS2 : ∀ a, 81 ≤ a → a ≤ 100 → ¬ S a) (hT1 : ∀ k, ¬ T 21 k) (hT2 : ¬ T 78 34) (hT3 : ¬ T 78 43) (I : IP σ bk P on fo len X) : IP τ bk P on fo len X := by
  obtain ⟨i1, i2, i3, i4, i5⟩ := I
  have f1 : ∀ a, 22 ≤ a → a ≤ 27 → sF τ a = sF σ a := fun a h1 h2 => h.1 a (hS1 a h1 h2) (by omega)
  have f2 : ∀ a, 81 ≤ a → a ≤ 100 → sF τ a = sF σ a := fun a h1 h2 => h.1 a (hS2 a h1 h2) (by omega)
  have g1 : ∀ k, sI τ 21 k = sI σ 21 k := fun k => h.2.1 21 k (hT1 k) (by omega)
  have g2 : sI τ 78 34 = sI σ 78 34 := h.2.1 78 34 hT2 (by omega)
  have g3 : sI τ 78 43 = sI σ 78 43 := h.2.1 78 43 hT3 (by omega)
  refine ⟨i1, i2, ?_, ?_, fun r s hr hs => ?_⟩
  · unfold RE RP RFm
    rw [g2, g3, f2 81 (by omega) (by omega), f2 82 (by omega) (by omega), f2 83 (by omega) (by omega), f2 84 (by omega) (by omega), f2 85 (by omega) (by omega), f2 86 (by omega) (by omega), f2 87 (by omega) (by omega), f2 88 (by omega) (by omega), f2 89 (by omega) (by omega), f2 90 (by omega) (by omega), f2 95 (by omega) (by omega), f2 96 (by omega) (by omega), f2 97 (by omega) (by omega), f2 99 (by omega) (by omega), f2 100 (by omega) (by omega)]
    exact i3
  · unfold CE CP CFm
    rw [g1 0, g1 1, g1 2, g1 3, g1 4, g1 5, g1 6, g1 7, g1 8, g1 15, f1 26 (by omega) (by omega), f1 27 (by omega) (by omega)]
    exact i4
  · rw [f2 (91 + r) (by omega) (by omega), f1 (22 + r) (by omega) (by omega)]
    exact i5 r s hr hs
theorem IM_o {S : Nat → Prop} {T : Nat → Nat → Prop} {U : Nat → Nat → Prop} {σ τ : ZS} (h : GF S T U σ τ) (hS : ¬ S 9 ∧ ¬ S 79 ∧ ¬ S 77 ∧ ¬ S 110) (hT : ∀ k, ¬ T 8 k) (hT2 : ¬ T 78 2 ∧ ¬ T 78 4 ∧ ¬ T 78 5 ∧ ¬ T 78 58 ∧ ¬ T 78 51) (I : IM σ) : IM τ := by
  unfold IM
  rw [h.1 9 hS.1 (by omega), h.1 79 hS.2.1 (by omega), h.1 77 hS.2.2.1 (by omega), h.1 110 hS.2.2.2 (by omega), h.2.1 8 1 (hT _) (by omega), h.2.1 8 2 (hT _) (by omega), h.2.1 8 3 (hT _) (by omega), h.2.1 8 16 (hT _) (by omega), h.2.1 8 17 (hT _) (by omega), h.2.1 78 2 hT2.1 (by omega), h.2.1 78 4 hT2.2.1 (by omega), h.2.1 78 5 hT2.2.2.1 (by omega), h.2.1 78 58 hT2.2.2.2.1 (by omega), h.2.1 78 51 hT2.2.2.2.2 (by omega)]
  exact I
theorem IS_o {S : Nat → Prop} {T : Nat → Nat → Prop} {U : Nat → Nat → Prop} {σ τ : ZS} {P : Nat → Nat} (h : GF S T U σ τ) (hS1 : ∀ a, 69 ≤ a → a ≤ 73 → ¬ S a) (hS2 : ∀ a, 111 ≤ a → a ≤ 115 → ¬ S a) (hT : ¬ T 68 8 ∧ ¬ T 78 57) (I : IS σ P) : IS τ P := by
  unfold IS
  rw [h.1 69 (hS1 _ (by omega) (by omega)) (by omega), h.1 70 (hS1 _ (by omega) (by omega)) (by omega), h.1 71 (hS1 _ (by omega) (by omega)) (by omega), h.1 72 (hS1 _ (by omega) (by omega)) (by omega), h.1 73 (hS1 _ (by omega) (by omega)) (by omega), h.1 111 (hS2 _ (by omega) (by omega)) (by omega), h.1 112 (hS2 _ (by omega) (by omega)) (by omega), h.1 113 (hS2 _ (by omega) (by omega)) (by omega), h.1 114 (hS2 _ (by omega) (by omega)) (by omega), h.1 115 (hS2 _ (by omega) (by omega)) (by omega), h.2.1 68 8 hT.1 (by omega), h.2.1 78 57 hT.2 (by omega)]
  exact I
/-- acts and boxes stay where no state of theirs changed -/
theorem IH_o {S : Nat → Prop} {T : Nat → Nat → Prop} {U : Nat → Nat → Prop} {σ τ : ZS} {P : Nat → Nat} (h : GF S T U σ τ) (hP : PTR σ) (hS : ¬ S 109) (hT : ¬ T 66 2 ∧ ¬ T 66 3 ∧ ¬ T 78 48 ∧ ¬ T 78 49) (hU : ∀ i, ¬ U 67 i) (hq : ∀ i p, i < 40 → sQ σ 67 i = some p → (∀ a, p ≤ a → a ≤ p + 12 → ¬ S a) ∧ ∀ k, ¬ T p k) (I : IH σ P) : IH τ P := by
  obtain ⟨dn, un, i1, i2, i3, i4, i5, i6⟩ := I
  refine ⟨dn, un, ?_, ?_, ?_, ?_, i5, fun i hi => ?_⟩
  · rw [h.2.1 66 2 hT.1 (by omega)]; exact i1
  · rw [h.2.1 66 3 hT.2.1 (by omega)]; exact i2
  · rw [h.2.1 78 48 hT.2.2.1 (by omega)]; exact i3
  · rw [h.2.1 78 49 hT.2.2.2 (by omega)]; exact i4
  · obtain ⟨p, p1, p2, p3⟩ := i6 i hi
    have hst := (hP.1 (i + 1) p (by omega) (by rw [PT_h (by omega)]; exact p1)).1
    obtain ⟨q1, q2⟩ := hq i p (by omega) p1
    refine ⟨p, by rw [h.2.2.1 67 i (hU i)]; exact p1, ?_, ?_⟩
    · rw [GF_cV h hst q1 q2, h.1 109 hS (by omega)]; exact p2
    · rw [h.1 109 hS (by omega)]; exact p3
theorem IB_o {S : Nat → Prop} {T : Nat → Nat → Prop} {U : Nat → Nat → Prop} {σ τ : ZS} {P : Nat → Nat} (h : GF S T U σ τ) (hP : PTR σ) (hS : ¬ S 76 ∧ ¬ S 116 ∧ ¬ S 117) (hU : ∀ i, ¬ U 75 i) (hq : ∀ i p, i < 3 → sQ σ 75 i = some p → (∀ a, p ≤ a → a ≤ p + 12 → ¬ S a) ∧ ∀ k, ¬ T p k) (I : IB σ P) : IB τ P := by
  intro b hb
  obtain ⟨b1, b2⟩ := I b hb
  refine ⟨by rw [h.1 76 hS.1 (by omega), h.1 117 hS.2.2 (by omega)]; exact b1, ?_⟩
  rw [h.1 117 hS.2.2 (by omega), h.1 116 hS.2.1 (by omega)]
  rcases b2 with b2 | ⟨b2, p, p1, p2, p3⟩
  · exact Or.inl b2
  · right
    have hst := (hP.1 (b + 41) p (by omega) (by rw [PT_b]; exact p1)).1
    obtain ⟨q1, q2⟩ := hq b p hb p1
    exact ⟨b2, p, by rw [h.2.2.1 75 b (hU b)]; exact p1, by rw [GF_cV h hst q1 q2]; exact p2, p3⟩
theorem PTR_o {S : Nat → Prop} {T : Nat → Nat → Prop} {U : Nat → Nat → Prop} {σ τ : ZS} (h : GF S T U σ τ) (hN : sNow τ = sNow σ) (hU : ∀ a i, ¬ U a i) (hP : PTR σ) : PTR τ := by
  refine PTR_map id (fun i hi => hi) (fun i j _ _ h => h) (fun i hi => ?_) h.2.2.2.2.2.2.2 hP
  show PT τ i = PT σ i
  unfold PT
  rw [hN, h.2.2.1 67 _ (hU _ _), h.2.2.1 75 _ (hU _ _)]
/-- a question leaves all as it was -/
theorem IV_q {σ τ : ZS} {bk : Nat} {P : Nat → Nat} {on fo : Nat → Int32} {len : Nat} {X : Nat → Nat → Int32} (hF : FR (fun a => scS a ∨ a = 104) scT σ τ) (h4 : ∀ j, j < 521 → sF τ 104 j = sF σ 104 j) (I : IV σ bk P on fo len X) : IV τ bk P on fo len X := by
  obtain ⟨i1, i2, i3, i4, i5, i6, i7, i8⟩ := I
  have g : GF (fun a => scS a ∨ a = 104) scT (fun _ _ => False) σ τ := GF_f hF
  have hN := FR_now hF
  have hst : ∀ p, isSt (sK σ) p → p ≠ 42 → (∀ a, p ≤ a → a ≤ p + 12 → ¬ (scS a ∨ a = 104)) ∧ ∀ k, ¬ scT p k := fun p hp hne => by
    have h3 := st_in hp
    exact ⟨fun a h1 h2 z => by unfold scS at z; omega, fun k z => by unfold scT at z; omega⟩
  have hn0 := i6.1 0 (sNow σ) (by omega) (PT_0 σ)
  refine ⟨IP_o g (fun a h1 h2 z => by unfold scS at z; omega) (fun a h1 h2 z => by unfold scS at z; omega) (fun k z => by unfold scT at z; omega) (fun z => by unfold scT at z; omega) (fun z => by unfold scT at z; omega) i1, IM_o g ⟨fun z => by unfold scS at z; omega, fun z => by unfold scS at z; omega, fun z => by unfold scS at z; omega, fun z => by unfold scS at z; omega⟩ (fun k z => by unfold scT at z; omega) ⟨fun z => by unfold scT at z; omega, fun z => by unfold scT at z; omega, fun z => by unfold scT at z; omega, fun z => by unfold scT at z; omega, fun z => by unfold scT at z; omega⟩ i2, IS_o g (fun a h1 h2 z => by unfold scS at z; omega) (fun a h1 h2 z => by unfold scS at z; omega) ⟨fun z => by unfold scT at z; omega, fun z => by unfold scT at z; omega⟩ i3, WF_5 h4 i4, ?_, PTR_o g hN (fun _ _ z => z) i6, IH_o g i6 (fun z => by unfold scS at z; omega) ⟨fun z => by unfold scT at z; omega, fun z => by unfold scT at z; omega, fun z => by unfold scT at z; omega, fun z => by unfold scT at z; omega⟩ (fun _ z => z) (fun i p hi hp => hst p (i6.1 (i + 1) p (by omega) (by rw [PT_h hi]; exact hp)).1 (i6.1 (i + 1) p (by omega) (by rw [PT_h hi]; exact hp)).2) i7, IB_o g i6 ⟨fun z => by unfold scS at z; omega, fun z => by unfold scS at z; omega, fun z => by unfold scS at z; omega⟩ (fun _ z => z) (fun i p hi hp => hst p (i6.1 (i + 41) p (by omega) (by rw [PT_b]; exact hp)).1 (i6.1 (i + 41) p (by omega) (by rw [PT_b]; exact hp)).2) i8⟩
  rw [hN, cV_o hF (hst _ hn0.1 hn0.2).1 (hst _ hn0.1 hn0.2).2]
  exact LV_5 (fun _ _ => rfl) h4 i1.1.1 i5
