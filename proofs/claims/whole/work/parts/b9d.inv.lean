/-! two new objects: the beginning of the law -/
theorem push_1 {h : ZH} {o : ZC} : z_push h o = BH h [o] := by
  have := bh_push (h := h) (l := []) (c := o)
  rw [bh_0] at this
  exact this
theorem new_inv {xl : List Int32} {sB s0 : ZS} (b2 : ∀ j, j < 521 → cV sB 29 j = ctA (fun r s => sF (sA xl) (22 + r) s) 0 (cV (sA xl) 29) j) (b3 : FR (qS 29) (qT 29) (sA xl) sB) (a2 : sF s0 104 = stA (P00 0) (fun r s => sF (clB sB 0) (91 + r) (6 * 0 + s)) (nI (P00 7)) (fun j => if j < 521 then 0 else sF (clB sB 0) 104 j)) (a3 : sI s0 78 48 = 0 ∧ sI s0 78 49 = 0 ∧ sI s0 78 57 = 0 ∧ sI s0 78 51 = 0 ∧ ∀ b, b < 3 → sF s0 117 b = 0) (a4 : FR (fun a => a = 104 ∨ a = 117) raT (clB sB 0) s0) : INV s0 := by
  have hcF := clB_F (ρ := sB) (rb := 0)
  obtain ⟨v1, v2, v3, v4, v5, v6, v7, v8, v9, v10, v11⟩ := clB_V (ρ := sB) (rb := 0)
  have h2a : s0.2.2 = (clB sB 0).2.2 := a4.2.2
  have h2b : (clB sB 0).2.2 = sB.2.2 := rfl
  have h2c : sB.2.2 = (sA xl).2.2 := b3.2.2
  have h2 : s0.2.2 = (sA xl).2.2 := h2a.trans (h2b.trans h2c)
  generalize clB sB 0 = s1 at *
  have uI : ∀ a k, ¬ raT a k → ¬ clT a k → ¬ qT 29 a k → sI s0 a k = sI (sA xl) a k := fun a k z1 z2 z3 => by rw [a4.2.1 a k z1, hcF.2.1 a k z2, b3.2.1 a k z3]
  have u1 : ∀ a k, a ≠ 104 → a ≠ 117 → sF s0 a k = sF s1 a k := fun a k z1 z2 => by rw [a4.1 a (by omega)]
  have u2 : ∀ a k, a ≠ 104 → a ≠ 117 → ¬ clG 0 a k → sF s0 a k = sF sB a k := fun a k z1 z2 z3 => by rw [u1 a k z1 z2, hcF.1 a k z3]
  have u3 : ∀ a k, a ≠ 104 → a ≠ 117 → ¬ clG 0 a k → ¬ qS 29 a → sF s0 a k = 0 := fun a k z1 z2 z3 z4 => by rw [u2 a k z1 z2 z3, b3.1 a z4]; rfl
  have x21 : ∀ k, sI s0 21 k = sI (sA xl) 21 k := fun k => uI 21 k (by unfold raT; omega) (by unfold clT; omega) (by unfold qT; omega)
  have x8 : ∀ k, sI s0 8 k = sI (sA xl) 8 k := fun k => uI 8 k (by unfold raT; omega) (by unfold clT; omega) (by unfold qT; omega)
  have hN : sNow s0 = 29 := congrArg (fun q => q.2.2.1) h2
  have hQ : sQ s0 = fun _ _ => none := congrArg (fun q => q.2.2.2.2.1) h2
  have hK : sK s0 = 0 := congrArg (fun q => q.2.2.2.2.2.1) h2
  have hW : PW P00 := by unfold PW; decide
  refine ⟨0, P00, fun _ => 0, fun _ => 0, 0, fun _ _ => 0, ⟨hW, ⟨by omega, fun i hi => absurd hi (by omega)⟩, ⟨⟨?_, by omega, ?_, ?_, ?_, ?_, ?_, ?_, ?_, ?_, ?_⟩, fun s hs => absurd hs (by show ¬ s < 0; omega), ⟨0, 0, ?_, by omega, by decide, fun z => absurd z (by omega)⟩, ?_⟩, ⟨⟨?_, ?_, ?_, ?_, ?_, ?_, ?_, ?_, ?_⟩, fun s hs => absurd hs (by show ¬ s < 0; omega), ?_, fun i hi => absurd hi (by omega)⟩, fun r s hr hs => absurd hs (by show ¬ s < 0; omega)⟩, ⟨⟨0, by omega, ?_, ?_, fun i hi => absurd hi (by omega)⟩, ⟨?_, ?_⟩, ⟨0, by omega, ?_, ?_⟩, ⟨0, by omega, ?_, ?_, fun i hi => absurd hi (by omega)⟩⟩, ⟨0, by omega, ?_, ?_, fun i hi => absurd hi (by omega)⟩, ?_, ?_, ⟨fun i p hi hh => ?_, fun i j p hi hj h1 h3 => ?_⟩, ⟨0, 0, ?_, ?_, a3.1, a3.2.1, by omega, fun i hi => absurd hi (by omega)⟩, fun b hb => ⟨?_, Or.inl (a3.2.2.2.2 b hb)⟩⟩
  · rw [uI 78 34 (by unfold raT; omega) (by unfold clT; omega) (by unfold qT; omega), sA_I]; decide
  · rw [u1 81 0 (by omega) (by omega), v1]; rfl
  · rw [u1 82 0 (by omega) (by omega), v2]; rfl
  · rw [u1 83 0 (by omega) (by omega), v3]; rfl
  · rw [u1 84 0 (by omega) (by omega), v4]; rfl
  · rw [u1 85 0 (by omega) (by omega), v5]; rfl
  · rw [u1 86 0 (by omega) (by omega), v6]; rfl
  · rw [u1 88 0 (by omega) (by omega), v8]; rfl
  · rw [u1 89 0 (by omega) (by omega), v9]; rfl
  · rw [u1 87 0 (by omega) (by omega), v7]; rfl
  · rw [u1 90 0 (by omega) (by omega), v10]; rfl
  · rw [uI 78 43 (by unfold raT; omega) (by unfold clT; omega) (by unfold qT; omega), sA_I]; decide
  · rw [x21, sA_I]; decide
  · rw [x21, sA_I]; decide
  · rw [x21, sA_I]; decide
  · rw [x21, sA_I]; decide
  · rw [x21, sA_I]; decide
  · rw [x21, sA_I]; decide
  · rw [x21, sA_I]; decide
  · rw [x21, sA_I]; decide
  · rw [x21, sA_I]; decide
  · rw [x21, sA_I]; decide
  · rw [x8, sA_I]; decide
  · rw [uI 78 2 (by unfold raT; omega) (by unfold clT; omega) (by unfold qT; omega), sA_I]; decide
  · rw [x8, uI 78 4 (by unfold raT; omega) (by unfold clT; omega) (by unfold qT; omega), sA_I, sA_I]; decide
  · rw [x8, uI 78 5 (by unfold raT; omega) (by unfold clT; omega) (by unfold qT; omega), sA_I, sA_I]; decide
  · rw [x8, sA_I]; decide
  · rw [uI 78 58 (by unfold raT; omega) (by unfold clT; omega) (by unfold qT; omega), sA_I]; decide
  · rw [x8, sA_I]; decide
  · exact a3.2.2.2.1
  · rw [uI 68 8 (by unfold raT; omega) (by unfold clT; omega) (by unfold qT; omega), sA_I]; decide
  · exact a3.2.2.1
  · rw [a2]
    exact WF_st (by decide) (by decide) (fun j hj => by rw [if_pos hj])
  · rw [hN, a2, cV_p (σ := sB) (τ := s0) (q := 29) (fun a h1 h3 => funext fun k => u2 a k (by omega) (by omega) (by unfold clG; omega)) (fun k => by rw [a4.2.1 29 k (by unfold raT; omega), hcF.2.1 29 k (by unfold clT; omega)])]
    refine LV_c (by decide) b2 ?_
    exact LV_st (dr := 0) (by decide) (fun j hj => by rw [if_pos hj]) (fun r s hr hs => absurd hs (by show ¬ s < 0; omega))
  · by_cases h0 : i = 0
    · subst h0
      have hp : p = 29 := by
        have := hh
        rw [PT_0, hN] at this
        exact (Option.some.inj this).symm
      subst hp
      exact ⟨Or.inl rfl, by omega⟩
    · exfalso
      unfold PT at hh
      rw [if_neg h0, hQ] at hh
      split at hh <;> cases hh
  · have key : ∀ i, PT s0 i = some p → i = 0 := fun i hh => by
      by_cases h0 : i = 0
      · exact h0
      · exfalso
        unfold PT at hh
        rw [if_neg h0, hQ] at hh
        split at hh <;> cases hh
    rw [key i h1, key j h3]
  · rw [uI 66 2 (by unfold raT; omega) (by unfold clT; omega) (by unfold qT; omega), sA_I]; decide
  · rw [uI 66 3 (by unfold raT; omega) (by unfold clT; omega) (by unfold qT; omega), sA_I]; decide
  · rw [u3 76 b (by omega) (by omega) (by unfold clG; omega) (by unfold qS; omega), a3.2.2.2.2 b hb]
theorem new_all (xl : List Int32) : ∃ s0, INV s0 ∧ sX s0 = xl ∧ xL_law 0 (z_h0 xl) = xL_law_L18 520 0 8 78 (nI 0) (mkH s0) := by
  obtain ⟨sB, b1, b2, b3⟩ := c_new xl
  have f0 : ∀ a, 78 ≤ a → sF sB a = fun _ => 0 := fun a ha => by rw [b3.1 a (by unfold qS; omega)]; rfl
  have hi : ∀ k, sI sB 78 k = sI (sA xl) 78 k := fun k => b3.2.1 78 k (by unfold qT; omega)
  have hr := r_new0 (xl := xl) f0 hi b3.2.2
  have hcl := r_clr (ρ := sB) (rb := 0) (by rw [hi, sA_I]; decide) (by omega)
  have hcF := clB_F (ρ := sB) (rb := 0)
  obtain ⟨v1, v2, v3, v4, v5, v6, v7, v8, v9, v10, v11⟩ := clB_V (ρ := sB) (rb := 0)
  have R : RP (clB sB 0) 0 P00 := ⟨by rw [hcF.2.1 78 34 (by unfold clT; omega), hi, sA_I]; decide, by omega, v1, v2, v3, v4, v5, v6, v8, v9, v7⟩
  obtain ⟨s0, a1, a2, a3, a4⟩ := r_anew R (by unfold PW; decide)
  rw [is_78, gu_t, hcl, Option.bind_some, is_78, gu_t, a1, Option.bind_some] at hr
  refine ⟨s0, new_inv b2 b3 a2 a3 a4, ?_, ?_⟩
  · have h2 : s0.2.2 = (sA xl).2.2 := a4.2.2.trans ((show (clB sB 0).2.2 = sB.2.2 from rfl).trans b3.2.2)
    exact congrArg (fun q => q.2.2.2.2.2.2) h2
  · generalize hnl : xL_law_L18 520 = nl
    have e1 : z_nw (z_h0 xl) o80 = some (8, BH (z_h0 xl) [o80]) := by
      unfold z_nw
      rw [push_1]
      rfl
    have e2 : z_nw (mkK sB) o90 = some (78, BH (mkK sB) [o90]) := by
      unfold z_nw
      rw [push_1]
      rfl
    unfold o80 at e1 b1
    unfold o90 at e2 hr
    unfold xL_law
    rw [e1, Option.bind_some]
    dsimp only
    rw [b1, Option.bind_some, e2, Option.bind_some]
    dsimp only
    rw [hr, Option.bind_some, hnl]
    rfl
