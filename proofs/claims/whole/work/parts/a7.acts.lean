/-! the acts: step, steer, turn -/
def aS (p q a : Nat) : Prop := qS p a ∨ cS q a ∨ (103 ≤ a ∧ a ≤ 109)
def aT (p q a k : Nat) : Prop := qT p a k ∨ cT q a k ∨ (a = 66 ∧ (k = 2 ∨ k = 3)) ∨ (a = 78 ∧ (k = 40 ∨ k = 48 ∨ k = 49))
theorem IP_g {S : Nat → Prop} {T U : Nat → Nat → Prop} {σ τ : ZS} {bk : Nat} {P : Nat → Nat} {on fo : Nat → Int32} {len : Nat} {X : Nat → Nat → Int32} (h : GF S T U σ τ) (hS : ∀ a, S a → ¬ ((22 ≤ a ∧ a ≤ 27) ∨ (81 ≤ a ∧ a ≤ 100))) (hT : ∀ a k, T a k → ¬ (a = 21 ∨ (a = 78 ∧ (k = 34 ∨ k = 43)))) (I : IP σ bk P on fo len X) : IP τ bk P on fo len X := IP_o h (fun a h1 h2 z => hS a z (Or.inl ⟨h1, h2⟩)) (fun a h1 h2 z => hS a z (Or.inr ⟨h1, h2⟩)) (fun k z => hT 21 k z (Or.inl rfl)) (fun z => hT 78 34 z (Or.inr ⟨rfl, Or.inl rfl⟩)) (fun z => hT 78 43 z (Or.inr ⟨rfl, Or.inr rfl⟩)) I
/-- after an act: the state ahead of it is kept, the state at hand is another one on both sides -/
theorem IV_a {σ υ : ZS} {bk : Nat} {P : Nat → Nat} {on fo : Nat → Int32} {len : Nat} {X : Nat → Nat → Int32} {p c dn un : Nat} (I : IV σ bk P on fo len X) (hd : dn + un ≤ 40) (hrow : ∀ k, k < dn + un → ∃ q, sQ σ 67 k = some q ∧ LV (P 0) (cV σ q) (fun j => sF σ 109 (521 * k + j)) ∧ WF 1 (P 0) (P 1) (fun j => sF σ 109 (521 * k + j))) (hc : (dn = 40 ∧ c + 1 = 40) ∨ (dn < 40 ∧ c = dn)) (g : GF (aS p (sNow σ)) (aT p (sNow σ)) kU σ υ) (hN : sNow υ = sNow σ) (hP : PTR υ) (hQc : sQ υ 67 c = some p) (hQ : ∀ i, i < c → sQ υ 67 i = if dn = 40 then sQ σ 67 (i + 1) else sQ σ 67 i) (hpv : cV υ p = cV σ (sNow σ)) (h1 : sI υ 66 2 = nI (c + 1)) (h2 : sI υ 66 3 = 0) (h3 : sI υ 78 48 = nI (c + 1)) (h4 : sI υ 78 49 = 0) (V : WF 1 (P 0) (P 1) (sF υ 104)) (L : LV (P 0) (cV υ (sNow σ)) (sF υ 104)) (hA : ∀ j, j < 521 → sF υ 109 (521 * c + j) = sF σ 104 j) (hO : ∀ k, k < 521 * c → sF υ 109 k = if dn = 40 then sF σ 109 (k + 521) else sF σ 109 k) : IV υ bk P on fo len X := by
  obtain ⟨i1, i2, i3, i4, i5, i6, i7, i8⟩ := I
  have w0 := i1.1.1
  have hn0 := i6.1 0 (sNow σ) (by omega) (PT_0 σ)
  have hn3 := st_in hn0.1
  have hpU := hP.1 (c + 1) p (by omega) (by rw [PT_h (by omega)]; exact hQc)
  have hp3 := st_in hpU.1
  have hq3 : sNow σ ≠ 42 := hn0.2
  have hp42 : p ≠ 42 := hpU.2
  -- another state that is pointed to afterwards is as it was
  have hv : ∀ i r, i < 44 → i ≠ 0 → i ≠ c + 1 → PT υ i = some r → isSt (sK σ) r → cV υ r = cV σ r := by
    intro i r hi h0 hic hr hst
    have hr1 := hP.1 i r hi hr
    have hrp : r ≠ p := fun z => hic (hP.2 i (c + 1) r hi (by omega) hr (by rw [PT_h (by omega), hQc, z]))
    have hrq : r ≠ sNow σ := fun z => h0 (hP.2 i 0 r hi (by omega) hr (by rw [PT_0, hN, z]))
    have a1 := st_ap hr1.1 hpU.1 hrp
    have a2 := st_ap hst hn0.1 hrq
    have a3 := st_in hst
    refine GF_cV g hst (fun a b1 b2 z => ?_) (fun k z => ?_)
    · unfold aS qS cS at z
      omega
    · unfold aT qT cT at z
      have := hr1.2
      omega
  have hS1 : ∀ a, aS p (sNow σ) a → ¬ ((22 ≤ a ∧ a ≤ 27) ∨ (81 ≤ a ∧ a ≤ 100)) := fun a z y => by unfold aS qS cS at z; omega
  have hT1 : ∀ a k, aT p (sNow σ) a k → ¬ (a = 21 ∨ (a = 78 ∧ (k = 34 ∨ k = 43))) := fun a k z y => by unfold aT qT cT at z; omega
  refine ⟨IP_g g hS1 hT1 i1, IM_o g ⟨fun z => by unfold aS qS cS at z; omega, fun z => by unfold aS qS cS at z; omega, fun z => by unfold aS qS cS at z; omega, fun z => by unfold aS qS cS at z; omega⟩ (fun k z => by unfold aT qT cT at z; omega) ⟨fun z => by unfold aT qT cT at z; omega, fun z => by unfold aT qT cT at z; omega, fun z => by unfold aT qT cT at z; omega, fun z => by unfold aT qT cT at z; omega, fun z => by unfold aT qT cT at z; omega⟩ i2, IS_o g (fun a h1 h2 z => by unfold aS qS cS at z; omega) (fun a h1 h2 z => by unfold aS qS cS at z; omega) ⟨fun z => by unfold aT qT cT at z; omega, fun z => by unfold aT qT cT at z; omega⟩ i3, V, by rw [hN]; exact L, hP, ⟨c + 1, 0, h1, by rw [h2]; rfl, h3, by rw [h4]; rfl, by omega, fun i hi => ?_⟩, fun b hb => ?_⟩
  · by_cases hic : i = c
    · subst hic
      refine ⟨p, hQc, ?_, WF_5 hA i4⟩
      rw [hpv]
      exact LV_5 (fun _ _ => rfl) hA w0 i5
    · have hilt : i < c := by omega
      have hm := Nat.mul_le_mul_left 521 (show i + 1 ≤ c by omega)
      have hq := hQ i hilt
      by_cases h40 : dn = 40
      · rw [if_pos h40] at hq
        obtain ⟨r, r1, r2, r3⟩ := hrow (i + 1) (by omega)
        have hst := (i6.1 (i + 1 + 1) r (by omega) (by rw [PT_h (by omega)]; exact r1)).1
        have e1 : ∀ j, j < 521 → sF υ 109 (521 * i + j) = sF σ 109 (521 * (i + 1) + j) := fun j hj => by
          rw [hO _ (by omega), if_pos h40]
          congr 1
          omega
        refine ⟨r, by rw [hq]; exact r1, ?_, WF_5 e1 r3⟩
        rw [hv (i + 1) r (by omega) (by omega) (by omega) (by rw [PT_h (by omega), hq]; exact r1) hst]
        exact LV_5 (fun _ _ => rfl) e1 w0 r2
      · rw [if_neg h40] at hq
        obtain ⟨r, r1, r2, r3⟩ := hrow i (by omega)
        have hst := (i6.1 (i + 1) r (by omega) (by rw [PT_h (by omega)]; exact r1)).1
        have e1 : ∀ j, j < 521 → sF υ 109 (521 * i + j) = sF σ 109 (521 * i + j) := fun j hj => by
          rw [hO _ (by omega), if_neg h40]
        refine ⟨r, by rw [hq]; exact r1, ?_, WF_5 e1 r3⟩
        rw [hv (i + 1) r (by omega) (by omega) (by omega) (by rw [PT_h (by omega), hq]; exact r1) hst]
        exact LV_5 (fun _ _ => rfl) e1 w0 r2
  · obtain ⟨b1, b2⟩ := i8 b hb
    have f76 : sF υ 76 = sF σ 76 := g.1 76 (fun z => by unfold aS qS cS at z; omega) (by omega)
    have f117 : sF υ 117 = sF σ 117 := g.1 117 (fun z => by unfold aS qS cS at z; omega) (by omega)
    have f116 : sF υ 116 = sF σ 116 := g.1 116 (fun z => by unfold aS qS cS at z; omega) (by omega)
    refine ⟨by rw [f76, f117]; exact b1, ?_⟩
    rw [f117, f116]
    rcases b2 with b2 | ⟨b2, r, r1, r2, r3⟩
    · exact Or.inl b2
    · right
      have hst := (i6.1 (b + 41) r (by omega) (by rw [PT_b]; exact r1)).1
      have hqb : sQ υ 75 b = some r := by rw [g.2.2.1 75 b (fun z => by unfold kU at z; omega)]; exact r1
      refine ⟨b2, r, hqb, ?_, r3⟩
      rw [hv (b + 41) r (by omega) (by omega) (by omega) (by rw [PT_b]; exact hqb) hst]
      exact r2
/-- the class has kept the state at hand -/
theorem k_act {σ : ZS} {bk : Nat} {P : Nat → Nat} {on fo : Nat → Int32} {len : Nat} {X : Nat → Nat → Int32} (I : IV σ bk P on fo len X) : ∃ τ p c dn un, dn + un ≤ 40 ∧ (∀ k, k < dn + un → ∃ q, sQ σ 67 k = some q ∧ LV (P 0) (cV σ q) (fun j => sF σ 109 (521 * k + j)) ∧ WF 1 (P 0) (P 1) (fun j => sF σ 109 (521 * k + j))) ∧ sI σ 78 48 = nI dn ∧ xX1_keep 66 (sNow σ) (mkH σ) = some (mkH τ) ∧ ((dn = 40 ∧ c + 1 = 40) ∨ (dn < 40 ∧ c = dn)) ∧ sI τ 66 2 = nI (c + 1) ∧ sI τ 66 3 = 0 ∧ sQ τ 67 c = some p ∧ cV τ p = cV σ (sNow σ) ∧ (∀ i, i < c → sQ τ 67 i = if dn = 40 then sQ σ 67 (i + 1) else sQ σ 67 i) ∧ sNow τ = sNow σ ∧ PTR τ ∧ GF (qS p) (kT p) kU σ τ ∧ isSt (sK τ) (sNow σ) ∧ cV τ (sNow σ) = cV σ (sNow σ) ∧ p ≠ sNow σ ∧ isSt (sK τ) p ∧ p ≠ 42 ∧ IP τ bk P on fo len X ∧ sF τ 104 = sF σ 104 := by
  obtain ⟨i1, i2, i3, i4, i5, i6, ⟨dn, un, d1, d2, d3, d4, d5, d6⟩, i8⟩ := I
  obtain ⟨τ, p, c, k1, k2, k3, k4, k5, k6, k7, k8, k9, k10⟩ := c_keep i6 (show dn ≤ 40 by omega) d1 (fun i hi => by obtain ⟨q, h, -⟩ := d6 i (by omega); exact ⟨q, h⟩)
  have hn0 := i6.1 0 (sNow σ) (by omega) (PT_0 σ)
  have hn1 := k9.1 0 (sNow σ) (by omega) (by rw [PT_0, k8])
  have hpU := k9.1 (c + 1) p (by omega) (by rw [PT_h (by omega)]; exact k5)
  have hne : p ≠ sNow σ := fun z => by
    have := k9.2 (c + 1) 0 p (by omega) (by omega) (by rw [PT_h (by omega)]; exact k5) (by rw [PT_0, k8, z])
    omega
  have hp3 := st_in hpU.1
  have h42 := hpU.2
  have a1 := st_ap hn1.1 hpU.1 (Ne.symm hne)
  refine ⟨τ, p, c, dn, un, d5, d6, d3, k1, k2, k3, k4, k5, k6, k7, k8, k9, k10, hn1.1, ?_, hne, hpU.1, hpU.2, ?_, ?_⟩
  · refine GF_cV k10 hn0.1 (fun a b1 b2 z => by unfold qS at z; omega) (fun k z => ?_)
    have := st_in hn0.1
    unfold kT qT at z
    omega
  · exact IP_g k10 (fun a z y => by unfold qS at z; omega) (fun a k z y => by unfold kT qT at z; omega) i1
  · exact k10.1 104 (fun z => by unfold qS at z; omega) (by omega)
theorem i_of_act {σ υ : ZS} {n m p q : Nat} {bk : Nat} {P : Nat → Nat} {on fo : Nat → Int32} {len : Nat} {X : Nat → Nat → Int32} (g : GF (aS p q) (aT p q) kU σ υ) (hq : isSt n q) (hp : isSt m p) (h42 : p ≠ 42) (i1 : IP σ bk P on fo len X) : IP υ bk P on fo len X := by
  have a1 := st_in hq
  have a2 := st_in hp
  exact IP_g g (fun a z y => by unfold aS qS cS at z; omega) (fun a k z y => by unfold aT qT cT at z; omega) i1
theorem q_step : QOK (xX8_step 8) (xX9_step 78) := by
  rintro σ ⟨bk, P, on, fo, len, X, I⟩
  obtain ⟨⟨W, F, E, C, -⟩, -, -, V, L, PR, -⟩ := id I
  have hp := (PR.1 0 _ (by omega) (PT_0 σ)).1
  have hp3 := st_in hp
  have e15 := (e_sc L).2.1
  by_cases hf : sF σ 104 517 ≤ 99
  · obtain ⟨τ, p, c, dn, un, d5, d6, d3, k1, kc, k2, k3, k4, k5, k6, k7, k8, k9, k10, k11, k12, k13, k14, k15, k16⟩ := k_act I
    have pp3 := st_in k13
    obtain ⟨W2, F2, E2, C2, X2⟩ := k15
    obtain ⟨τ2, g1, g2, g3⟩ := c_go k10 C2 W F (by rw [k11]; exact L) V
    have h48 : sI τ2 78 48 = nI dn := by
      rw [g3.2.1 78 48 (fun z => by unfold cT at z; omega), k9.2.1 78 48 (fun z => by unfold kT qT at z; omega) (by omega)]
      exact d3
    obtain ⟨τ3, c', r1, r2, r3, r4, r5, r6, r7⟩ := r_keepAct (σ := τ2) (ac := dn) (by omega) h48
    have hcc : c' = c := by omega
    subst hcc
    have f104 : sF τ3 104 = sF σ 104 := by
      rw [r7.1 104 (fun z => by unfold hS at z; omega), g3.1 104 (fun z => by unfold cS at z; omega), k16]
    have gAll : GF (aS p (sNow σ)) (aT p (sNow σ)) kU σ τ3 := by
      refine GF_t (GF_m k9 (fun a z => Or.inl z) (fun a k z => ?_) (fun _ _ z => z)) (GF_t (GF_f (FR_m g3 (fun a z => Or.inr (Or.inl z)) (fun a k z => Or.inr (Or.inl z)))) (GF_f (FR_m r7 (fun a z => by unfold hS at z; unfold aS; omega) (fun a k z => by unfold hT at z; unfold aT; omega))))
      unfold kT at z
      unfold aT
      rcases z with z | z
      · exact Or.inl z
      · exact Or.inr (Or.inr (Or.inl z))
    have I1 := i_of_act gAll hp k13 k14 I.1
    have E3 : RE τ3 bk P on fo len := I1.2.2.1
    obtain ⟨υ, u1, u2, u3⟩ := r_go E3 W F (by rw [f104]; exact V)
    rw [f104] at u1 u2
    have gF : GF (aS p (sNow σ)) (aT p (sNow σ)) kU σ υ := GF_t gAll (GF_f (FR_m u3 (fun a z => by unfold rS at z; unfold aS; omega) (fun a k z => by unfold rT at z; unfold aT; omega)))
    have hFr : FR (fun a => 103 ≤ a ∧ a ≤ 109) (fun a k => a = 78) τ2 υ := FR_t (FR_m r7 (fun a z => by unfold hS at z; omega) (fun a k z => by unfold hT at z; omega)) (FR_m u3 (fun a z => by unfold rS at z; omega) (fun a k z => by unfold rT at z; omega))
    have hNu : sNow υ = sNow σ := by rw [FR_now hFr, FR_now g3, k7]
    have hQu : ∀ a k, sQ υ a k = sQ τ a k := fun a k => by
      show υ.2.2.2.2.2.2.1 a k = _
      rw [hFr.2.2, g3.2.2]
    have hKu : sK υ = sK τ := by rw [FR_K hFr, FR_K g3]
    have hPu : PTR υ := PTR_map id (fun i hi => hi) (fun i j _ _ h => h) (fun i hi => by
      show PT υ i = PT τ i
      unfold PT
      rw [hNu, k7, hQu, hQu]) (by rw [hKu]; exact Nat.le_refl _) k8
    have hcVn : cV υ (sNow σ) = cV τ2 (sNow σ) := cV_o hFr (fun a h1 h2 z => by omega) (fun k z => by omega)
    have ap := st_ap k13 k10 k12
    have hcVp : cV υ p = cV σ (sNow σ) := by
      rw [cV_o hFr (fun a h1 h2 z => by omega) (fun k z => by omega), cV_o g3 (fun a h1 h2 z => by unfold cS at z; omega) (fun k z => by unfold cT at z; omega)]
      exact k5
    refine ⟨nI (goA P on fo len (sF σ 104)).2, τ2, υ, ?_, ?_, ⟨(FR_X g3).trans k9.2.2.2.2.2.2.1, (FR_X hFr).trans ((FR_X g3).trans k9.2.2.2.2.2.2.1)⟩, bk, P, on, fo, len, X, IV_a (p := p) (c := c') (dn := dn) (un := un) I d5 d6 kc gF hNu hPu (by rw [hQu]; exact k4) (fun i hi => by rw [hQu]; exact k6 i hi) hcVp ?_ ?_ ?_ ?_ (by rw [u2]; exact WF_go W V) (by rw [hcVn, u2]; exact g2) (fun j hj => ?_) (fun k hk => ?_)⟩
    · unfold xX8_step
      generalize xX1_keep = kp at *
      generalize xX6_go = go at *
      rw [rNow, Option.bind_some, rI_S15 hp, Option.bind_some, e15, if_pos hf, rR_8_11, Option.bind_some, Option.bind_some, is_66, gu_t, k1, Option.bind_some, rR_8_9, Option.bind_some, rNow, Option.bind_some, is_57, gu_t, k7, g1, Option.bind_some]
    · unfold xX9_step
      generalize xX9_keepAct = kp at *
      generalize xX9_goStep = go at *
      have f517 : sF τ2 104 517 = sF σ 104 517 := by rw [g3.1 104 (fun z => by unfold cS at z; omega), k16]
      rw [rR_78_41, Option.bind_some, nl_517, ra_104 τ2 (by omega), Option.bind_some, f517, if_pos hf, is_78, gu_t, r1, Option.bind_some, is_78, gu_t, u1, Option.bind_some]
    · rw [hFr.2.1 66 2 (by omega), g3.2.1 66 2 (fun z => by unfold cT at z; omega)]; exact k2
    · rw [hFr.2.1 66 3 (by omega), g3.2.1 66 3 (fun z => by unfold cT at z; omega)]; exact k3
    · rw [u3.2.1 78 48 (fun z => by unfold rT at z; omega)]; exact r3
    · rw [u3.2.1 78 49 (fun z => by unfold rT at z; omega)]; exact r4
    · rw [u3.1 109 (fun z => by unfold rS at z; omega), r5 j hj, g3.1 104 (fun z => by unfold cS at z; omega), k16]
    · rw [u3.1 109 (fun z => by unfold rS at z; omega), r6 k hk, g3.1 109 (fun z => by unfold cS at z; omega), k9.1 109 (fun z => by unfold qS at z; omega) (by omega)]
  · refine ⟨-1, σ, σ, ?_, ?_, ⟨rfl, rfl⟩, bk, P, on, fo, len, X, I⟩
    · unfold xX8_step
      rw [rNow, Option.bind_some, rI_S15 hp, Option.bind_some, e15, if_neg hf]
    · unfold xX9_step
      rw [rR_78_41, Option.bind_some, nl_517, ra_104 σ (by omega), Option.bind_some, if_neg hf]
