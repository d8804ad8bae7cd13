/-! fleet -/
def bdG (rb a k : Nat) : Prop := (12 ≤ a ∧ a ≤ 20) ∨ flR rb a k
def bdT (a k : Nat) : Prop := a = 8 ∨ a = 10 ∨ a = 11 ∨ (a = 78 ∧ ((2 ≤ k ∧ k ≤ 9) ∨ (35 ≤ k ∧ k ≤ 39)))
def bdS (a : Nat) : Prop := (12 ≤ a ∧ a ≤ 20) ∨ (80 ≤ a ∧ a ≤ 102)
theorem IP_bad {σ υ : ZS} {bk rb : Nat} {P : Nat → Nat} {on fo : Nat → Int32} {len : Nat} {X : Nat → Nat → Int32} (hrb : rb = 1 - bk) (hF : ∀ a k, ¬ bdG rb a k → sF υ a k = sF σ a k) (hI : ∀ a k, ¬ bdT a k → sI υ a k = sI σ a k) (I : IP σ bk P on fo len X) : IP υ bk P on fo len X := by
  obtain ⟨i1, i2, ⟨r1, r2, ⟨td, r0, t1, t2, t3, t4⟩, r4⟩, ⟨c1, c2, c3⟩, i5⟩ := I
  obtain ⟨p1, p2, p3, p4, p5, p6, p7, p8, p9, p10, p11⟩ := r1
  have fb : ∀ a, 81 ≤ a → a ≤ 90 → sF υ a bk = sF σ a bk := fun a h1 h2 => hF a bk (by unfold bdG flR lnR; omega)
  have gb : ∀ a s, 91 ≤ a → a ≤ 95 → s < 6 → sF υ a (6 * bk + s) = sF σ a (6 * bk + s) := fun a s h1 h2 h3 => hF a _ (by unfold bdG flR lnR; omega)
  have cb : ∀ a, 22 ≤ a → a ≤ 27 → ∀ k, sF υ a k = sF σ a k := fun a h1 h2 k => hF a k (by unfold bdG flR lnR; omega)
  have kb : ∀ k, sI υ 21 k = sI σ 21 k := fun k => hI 21 k (by unfold bdT; omega)
  have h06 := i1.1
  refine ⟨i1, i2, ⟨⟨?_, p2, ?_, ?_, ?_, ?_, ?_, ?_, ?_, ?_, ?_⟩, fun s hs => ?_, ⟨td, r0, ?_, t2, t3, fun h0 => ?_⟩, ?_⟩, ⟨?_, fun s hs => ?_, ?_, fun i hi => ?_⟩, fun r s hr hs => ?_⟩
  · rw [hI 78 34 (by unfold bdT; omega)]; exact p1
  · rw [fb 81 (by omega) (by omega)]; exact p3
  · rw [fb 82 (by omega) (by omega)]; exact p4
  · rw [fb 83 (by omega) (by omega)]; exact p5
  · rw [fb 84 (by omega) (by omega)]; exact p6
  · rw [fb 85 (by omega) (by omega)]; exact p7
  · rw [fb 86 (by omega) (by omega)]; exact p8
  · rw [fb 88 (by omega) (by omega)]; exact p9
  · rw [fb 89 (by omega) (by omega)]; exact p10
  · rw [fb 87 (by omega) (by omega)]; exact p11
  · rw [gb 95 s (by omega) (by omega) (by omega)]; exact r2 s hs
  · rw [fb 90 (by omega) (by omega)]; exact t1
  · obtain ⟨q1, q2, q3, q4⟩ := t4 h0
    have hl := i2.1
    rw [hF 96 bk (by unfold bdG flR lnR; omega), hF 97 bk (by unfold bdG flR lnR; omega)]
    refine ⟨q1, q2, q3, fun i hi => ?_⟩
    rw [hF 99 _ (by unfold bdG flR lnR; omega), hF 100 _ (by unfold bdG flR lnR; omega)]
    exact q4 i hi
  · rw [hI 78 43 (by unfold bdT; omega)]; exact r4
  · unfold CP
    rw [kb, kb, kb, kb, kb, kb, kb, kb, kb]
    exact c1
  · rw [cb 26 (by omega) (by omega)]; exact c2 s hs
  · rw [kb]; exact c3.1
  · rw [cb 27 (by omega) (by omega)]; exact c3.2 i hi
  · rw [gb _ s (by omega) (by omega) (by omega), cb _ (by omega) (by omega)]
    exact i5 r s hr hs
theorem IV_bad {σ υ : ZS} {bk rb : Nat} {P : Nat → Nat} {on fo : Nat → Int32} {len : Nat} {X : Nat → Nat → Int32} (hrb : rb = 1 - bk) (hF : ∀ a k, ¬ bdG rb a k → sF υ a k = sF σ a k) (hI : ∀ a k, ¬ bdT a k → sI υ a k = sI σ a k) (hN : sNow υ = sNow σ) (hQ : sQ υ = sQ σ) (hK : sK υ = sK σ) (hX : sX υ = sX σ) (hM : IM υ) (I : IV σ bk P on fo len X) : IV υ bk P on fo len X := by
  have hP := IP_bad hrb hF hI I.1
  have hS : ∀ a, ¬ bdS a → ∀ k, ¬ bdG rb a k := fun a h k z => h (by unfold bdG flR lnR at z; unfold bdS; omega)
  have hR : FR bdS bdT (σ.1, σ.2.1, υ.2.2.1, υ.2.2.2.1, σ.2.2.2.2.1, υ.2.2.2.2.2.1, σ.2.2.2.2.2.2) υ := ⟨fun a ha => funext fun k => hF a k (hS a ha k), fun a k ha => hI a k ha, Prod.ext rfl (Prod.ext rfl (Prod.ext hN (Prod.ext rfl (Prod.ext hQ (Prod.ext hK hX)))))⟩
  have I' : IV (σ.1, σ.2.1, υ.2.2.1, υ.2.2.2.1, σ.2.2.2.2.1, υ.2.2.2.2.2.1, σ.2.2.2.2.2.2) bk P on fo len X := I
  generalize (σ.1, σ.2.1, υ.2.2.1, υ.2.2.2.1, σ.2.2.2.2.1, υ.2.2.2.2.2.1, σ.2.2.2.2.2.2) = κ at *
  have h104 : sF υ 104 = sF κ 104 := hR.1 104 (by unfold bdS; omega)
  obtain ⟨i1, i2, i3, i4, i5, i6, i7, i8⟩ := I'
  have g : GF bdS bdT (fun _ _ => False) κ υ := GF_f hR
  have hN' := FR_now hR
  have hst : ∀ p, isSt (sK κ) p → (∀ a, p ≤ a → a ≤ p + 12 → ¬ bdS a) ∧ ∀ k, ¬ bdT p k := fun p hp => by
    have h3 := st_in hp
    exact ⟨fun a h1 h2 z => by unfold bdS at z; omega, fun k z => by unfold bdT at z; omega⟩
  have hn0 := i6.1 0 (sNow κ) (by omega) (PT_0 κ)
  refine ⟨hP, hM, IS_o g (fun a h1 h2 z => by unfold bdS at z; omega) (fun a h1 h2 z => by unfold bdS at z; omega) ⟨fun z => by unfold bdT at z; omega, fun z => by unfold bdT at z; omega⟩ i3, by rw [h104]; exact i4, ?_, PTR_o g hN' (fun _ _ z => z) i6, IH_o g i6 (fun z => by unfold bdS at z; omega) ⟨fun z => by unfold bdT at z; omega, fun z => by unfold bdT at z; omega, fun z => by unfold bdT at z; omega, fun z => by unfold bdT at z; omega⟩ (fun _ z => z) (fun i p hi hp => hst p (i6.1 (i + 1) p (by omega) (by rw [PT_h hi]; exact hp)).1) i7, IB_o g i6 ⟨fun z => by unfold bdS at z; omega, fun z => by unfold bdS at z; omega, fun z => by unfold bdS at z; omega⟩ (fun _ z => z) (fun i p hi hp => hst p (i6.1 (i + 41) p (by omega) (by rw [PT_b]; exact hp)).1) i8⟩
  rw [hN', cV_o hR (hst _ hn0.1).1 (hst _ hn0.1).2, h104]
  exact i5
theorem cV_p {σ τ : ZS} {q : Nat} (h : ∀ a, q ≤ a → a ≤ q + 12 → sF τ a = sF σ a) (hI : ∀ k, sI τ q k = sI σ q k) : cV τ q = cV σ q := by
  funext i
  unfold cV
  rw [h (q + 1) (by omega) (by omega), h (q + 2) (by omega) (by omega), h (q + 3) (by omega) (by omega), h (q + 4) (by omega) (by omega), h (q + 5) (by omega) (by omega), h (q + 6) (by omega) (by omega), h (q + 7) (by omega) (by omega), h (q + 8) (by omega) (by omega), h (q + 9) (by omega) (by omega), h (q + 10) (by omega) (by omega), h (q + 11) (by omega) (by omega), h (q + 12) (by omega) (by omega), hI, hI, hI, hI, hI]
theorem LV_c {n : Nat} {B C A : Nat → Int32} (hn : n ≤ 6) (h : ∀ j, j < 521 → B j = C j) (L : LV n C A) : LV n B A := by
  obtain ⟨l1, l2, l3, l4⟩ := L
  refine ⟨fun s hs => ?_, fun s hs => ?_, fun s i hs hi hj => ?_, fun k h1 h2 => ?_⟩
  · rw [h s (by omega), h (6 + s) (by omega), h (12 + s) (by omega), h (18 + s) (by omega)]; exact l1 s hs
  · rw [h (24 + s) (by omega)]; exact l2 s hs
  · rw [h (30 + 3 * s + i) (by omega), h (48 + 3 * s + i) (by omega), h (66 + 3 * s + i) (by omega)]; exact l3 s i hs hi hj
  · rw [h k h2]; exact l4 k h1 h2
theorem PTR_e {σ υ : ZS} (hN : sNow υ = sNow σ) (hQ : sQ υ = sQ σ) (hK : sK υ = sK σ) (h : PTR σ) : PTR υ := by
  have hp : ∀ i, PT υ i = PT σ i := fun i => by unfold PT; rw [hN, hQ]
  unfold PTR
  rw [hK]
  refine ⟨fun i p hi hh => h.1 i p hi (by rw [← hp]; exact hh), fun i j p hi hj h1 h2 => h.2 i j p hi hj (by rw [← hp]; exact h1) (by rw [← hp]; exact h2)⟩
