/-! undo, redo: the state at hand against one of the acts -/
theorem GF_now {S : Nat → Prop} {T U : Nat → Nat → Prop} {σ : ZS} {v : Nat} : GF S T U σ (setNow σ v) := ⟨fun _ _ _ => rfl, fun _ _ _ _ => rfl, fun _ _ _ => rfl, rfl, rfl, rfl, rfl, Nat.le_refl _⟩
def xS (a : Nat) : Prop := a = 104 ∨ a = 109
def xT (a k : Nat) : Prop := a = 66 ∨ (a = 78 ∧ (k = 48 ∨ k = 49))
def xU (a _k : Nat) : Prop := a = 67
theorem IV_x {σ υ : ZS} {bk : Nat} {P : Nat → Nat} {on fo : Nat → Int32} {len : Nat} {X : Nat → Nat → Int32} {i p dn un d2 u2 : Nat} (I : IV σ bk P on fo len X) (hi : i < dn + un) (hd : dn + un ≤ 40) (hdu : d2 + u2 = dn + un) (hrow : ∀ k, k < dn + un → ∃ q, sQ σ 67 k = some q ∧ LV (P 0) (cV σ q) (fun j => sF σ 109 (521 * k + j)) ∧ WF 1 (P 0) (P 1) (fun j => sF σ 109 (521 * k + j))) (hp : sQ σ 67 i = some p) (g : GF xS xT xU σ υ) (hK : sK υ = sK σ) (hN : sNow υ = p) (hQ : ∀ k, sQ υ 67 k = if k = i then some (sNow σ) else sQ σ 67 k) (h1 : sI υ 66 2 = nI d2) (h2 : sI υ 66 3 = nI u2) (h3 : sI υ 78 48 = nI d2) (h4 : sI υ 78 49 = nI u2) (hA : ∀ j, j < 521 → sF υ 104 j = sF σ 109 (521 * i + j) ∧ sF υ 109 (521 * i + j) = sF σ 104 j) (hO : ∀ k, (k < 521 * i ∨ 521 * i + 521 ≤ k) → sF υ 109 k = sF σ 109 k) : IV υ bk P on fo len X := by
  obtain ⟨i1, i2, i3, i4, i5, i6, i7, i8⟩ := I
  have w0 := i1.1.1
  have hst : ∀ q, isSt (sK σ) q → (∀ a, q ≤ a → a ≤ q + 12 → ¬ xS a) ∧ ∀ k, ¬ xT q k := fun q hq => by
    have h3 := st_in hq
    exact ⟨fun a h1 h2 z => by unfold xS at z; omega, fun k z => by unfold xT at z; omega⟩
  have hv : ∀ q, isSt (sK σ) q → cV υ q = cV σ q := fun q hq => GF_cV g hq (hst q hq).1 (hst q hq).2
  have hn0 := i6.1 0 (sNow σ) (by omega) (PT_0 σ)
  obtain ⟨p', hp', Lp, Vp⟩ := hrow i hi
  rw [hp] at hp'
  have := Option.some.inj hp'
  subst this
  have hpS := (i6.1 (i + 1) p (by omega) (by rw [PT_h (by omega)]; exact hp)).1
  refine ⟨IP_o g (fun a h1 h2 z => by unfold xS at z; omega) (fun a h1 h2 z => by unfold xS at z; omega) (fun k z => by unfold xT at z; omega) (fun z => by unfold xT at z; omega) (fun z => by unfold xT at z; omega) i1, IM_o g ⟨fun z => by unfold xS at z; omega, fun z => by unfold xS at z; omega, fun z => by unfold xS at z; omega, fun z => by unfold xS at z; omega⟩ (fun k z => by unfold xT at z; omega) ⟨fun z => by unfold xT at z; omega, fun z => by unfold xT at z; omega, fun z => by unfold xT at z; omega, fun z => by unfold xT at z; omega, fun z => by unfold xT at z; omega⟩ i2, IS_o g (fun a h1 h2 z => by unfold xS at z; omega) (fun a h1 h2 z => by unfold xS at z; omega) ⟨fun z => by unfold xT at z; omega, fun z => by unfold xT at z; omega⟩ i3, WF_5 (fun j hj => (hA j hj).1) Vp, ?_, ?_, ⟨d2, u2, h1, h2, h3, h4, by omega, fun k hk => ?_⟩, IB_o g i6 ⟨fun z => by unfold xS at z; omega, fun z => by unfold xS at z; omega, fun z => by unfold xS at z; omega⟩ (fun _ z => by unfold xU at z; omega) (fun k q hk hq => hst q (i6.1 (k + 41) q (by omega) (by rw [PT_b]; exact hq)).1) i8⟩
  · rw [hN, hv p hpS]
    exact LV_5 (fun _ _ => rfl) (fun j hj => (hA j hj).1) w0 Lp
  · refine PTR_map (σ := setNow (setQ σ 67 i (some (sNow σ))) p) id (fun k hk => hk) (fun k j _ _ h => h) (fun k hk => ?_) (by rw [hK]; exact Nat.le_refl _) (PTR_ex i6 (by omega) hp)
    show PT υ k = PT (setNow (setQ σ 67 i (some (sNow σ))) p) k
    unfold PT
    by_cases k0 : k = 0
    · rw [if_pos k0, if_pos k0, hN]
      rfl
    · rw [if_neg k0, if_neg k0]
      by_cases k1 : k < 41
      · rw [if_pos k1, if_pos k1, hQ]
        show _ = sQ (setQ σ 67 i (some (sNow σ))) 67 (k - 1)
        by_cases h : k - 1 = i
        · rw [if_pos h, h, sQ_eq]
        · rw [if_neg h, sQ_ne (by omega)]
      · rw [if_neg k1, if_neg k1, g.2.2.1 75 (k - 41) (by unfold xU; omega)]
        show _ = sQ (setQ σ 67 i (some (sNow σ))) 75 (k - 41)
        rw [sQ_ne (by omega)]
  · by_cases h : k = i
    · subst h
      refine ⟨sNow σ, by rw [hQ, if_pos rfl], ?_, WF_5 (fun j hj => (hA j hj).2) i4⟩
      rw [hv _ hn0.1]
      exact LV_5 (fun _ _ => rfl) (fun j hj => (hA j hj).2) w0 i5
    · obtain ⟨q, q1, q2, q3⟩ := hrow k (by omega)
      have hqS := (i6.1 (k + 1) q (by omega) (by rw [PT_h (by omega)]; exact q1)).1
      have hr : ∀ j, j < 521 → sF υ 109 (521 * k + j) = sF σ 109 (521 * k + j) := fun j hj => hO _ (by
        rcases Nat.lt_or_ge k i with hlt | hge
        · left
          have : 521 * (k + 1) ≤ 521 * i := Nat.mul_le_mul_left 521 hlt
          omega
        · right
          have : 521 * (i + 1) ≤ 521 * k := Nat.mul_le_mul_left 521 (by omega)
          omega)
      refine ⟨q, by rw [hQ, if_neg h]; exact q1, ?_, WF_5 hr q3⟩
      rw [hv _ hqS]
      exact LV_5 (fun _ _ => rfl) hr w0 q2
