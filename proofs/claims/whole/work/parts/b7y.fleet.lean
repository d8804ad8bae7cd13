/-! fleet, answered alike -/
theorem q_fleet : QOK (xX8_fleet 8) (xX9_fleet 78) := by
  rintro σ ⟨bk, P, on, fo, len, X, I⟩
  have hI0 := I
  obtain ⟨j1, ⟨⟨n, hn, m1, m2, m3⟩, -, ⟨tt, t1, t2, t3⟩, -⟩, -, -, -, jP, -, -⟩ := id I
  have R0 := j1.2.2.1.1
  have h43 := j1.2.2.1.2.2.2
  have hbk := R0.2.1
  have hu : ∀ i, i < n → tn (sF σ 9 i &&& 255) < 256 ∧ sF σ 9 i = sgn (tn (sF σ 9 i &&& 255)) := fun i hi => by
    obtain ⟨w, w1, w2⟩ := by_u _ (m3 i hi).2
    rw [(m3 i hi).1, w2, (sg_1 w w1).2.2.2.2.2.2, tn_n (by omega)]
    exact ⟨w1, rfl⟩
  generalize hU : (fun i => tn (sF σ 9 i &&& 255)) = u
  have hu' : ∀ i, i < n → u i < 256 ∧ sF σ 9 i = sgn (u i) := fun i hi => by rw [← hU]; exact hu i hi
  clear hu hU
  have hpn := jP.1 0 (sNow σ) (by omega) (PT_0 σ)
  have hst := st_in hpn.1
  have hk0 : ∀ i, i < n → sF σ 79 i = sgn (u i) ∧ vp_nar .byte (sF σ 79 i) = sF σ 79 i := fun i hi => ⟨by rw [← (m3 i hi).1]; exact (hu' i hi).2, (m3 i hi).2⟩
  obtain ⟨rb, hrb⟩ : ∃ rb, rb = 1 - bk := ⟨_, rfl⟩
  have hrb2 : rb < 2 := by omega
  rcases two_read (σ := σ) (κ := σ) hn hu' hk0 m2 R0.1 hbk hrb with ⟨τ, -, -, -, -, -, -, -, -, -, -, ⟨ra, -⟩, -, -, Fa, -⟩ | ⟨τ, -, ⟨ra, -⟩, -, -, Fa, -⟩
  · -- good
    have hcl := c_tail (σ := σ) (b := 1) (τ := τ) (by rw [m1]; exact ra)
    rw [if_neg (by decide)] at hcl
    have e5 : τ.2.2.2.2 = (setTx σ (.ref 9)).2.2.2.2 := Fa.2.2.2
    have eN : sNow (s0T τ) = sNow σ := congrArg (fun q => q.1) e5
    have eQ : sQ (s0T τ) = sQ σ := congrArg (fun q => q.2.2.1) e5
    have eK : sK (s0T τ) = sK σ := congrArg (fun q => q.2.2.2.1) e5
    have eX : sX (s0T τ) = sX σ := congrArg (fun q => q.2.2.2.2) e5
    have s8 : sI (s0T τ) 8 1 = 0 ∧ sI (s0T τ) 8 2 = sI τ 10 1 ∧ sI (s0T τ) 8 3 = sI τ 10 2 := by
      unfold s0T
      exact ⟨by rw [sI_ne (by omega), sI_ne (by omega), sI_eq], by rw [sI_ne (by omega), sI_eq], sI_eq⟩
    have sJ0 : ∀ a k, ¬ (a = 8 ∧ 1 ≤ k ∧ k ≤ 3) → sI (s0T τ) a k = sI τ a k := fun a k h => by
      unfold s0T
      rw [sI_ne (by omega), sI_ne (by omega), sI_ne (by omega)]
    have sF0 : ∀ a, sF (s0T τ) a = sF τ a := fun a => rfl
    have hs1 : ∀ a k, ¬ tU a k → ¬ (a = 8 ∧ 1 ≤ k ∧ k ≤ 3) → sI (s0T τ) a k = sI σ a k := fun a k h1 h2 => by rw [sJ0 a k h2, Fa.2.1 a k h1]; rfl
    have hs2 : ∀ a k, ¬ lnG a k → sF (s0T τ) a k = sF σ a k := fun a k h1 => by rw [sF0, Fa.1 a k h1]; rfl
    generalize s0T τ = s0 at *
    obtain ⟨s', c1, c2, c3, ⟨B, c4⟩, ⟨c5, c6, c7, c8, c9⟩, c10⟩ := c_suc (s := s0) (by rw [eN, eK]; exact hpn.1)
    rw [eN] at c4 c10
    have hN' : sNow s' = sNow σ := (FR_now c10).trans eN
    have hK' : sK s' = sK σ := (FR_K c10).trans eK
    have e5' : s'.2.2 = s0.2.2 := c10.2.2
    have hQ' : sQ s' = sQ σ := (congrArg (fun q => q.2.2.2.2.1) e5').trans eQ
    have hX' : sX s' = sX σ := (congrArg (fun q => q.2.2.2.2.2.2) e5').trans eX
    have g79 : ∀ i, sF s' 79 i = sF σ 79 i := fun i => by rw [c10.1 79 (by unfold suS qS; omega), hs2 79 i (by unfold lnG; omega)]
    have g2 : sI s' 78 2 = nI n := by rw [c10.2.1 78 2 (by unfold suT qT; omega), hs1 78 2 (by unfold tU; omega) (by omega)]; exact m2
    have g34 : sI s' 78 34 = nI bk := by rw [c10.2.1 78 34 (by unfold suT qT; omega), hs1 78 34 (by unfold tU; omega) (by omega)]; exact R0.1
    rcases two_read (σ := σ) (κ := s') hn hu' (fun i hi => by rw [g79]; exact hk0 i hi) g2 g34 hbk hrb with ⟨τb, υ1, t, P', X', pl, ln, fo', len', tc, tr, ⟨rb1, rb2⟩, N, y2, Fb, Fr⟩ | ⟨τb, υ1, ⟨rb1, rb2⟩, -⟩
    · have hmk : mkH τ = mkH τb := by
        have h := ra.symm.trans rb1
        exact (Prod.mk.inj (Option.some.inj h)).2
      obtain ⟨v1, v2, v3, v4, v5, v6⟩ := inj_11 hmk
      obtain ⟨w1, w2⟩ := inj_12 hmk
      obtain ⟨L, n35, nW, nF, ⟨nS1, nS2⟩, ⟨nC, n87⟩, nX, nN, nM, ⟨q9, q90, qc, qr, qb⟩, nO, n7, nE, nL⟩ := N
      have hP6 := nW.1
      have hRP : RP (setI υ1 78 34 (nI rb)) rb P' := ⟨sI_eq, hrb2, nS2, (nF 0 (by omega)).2, (nF 1 (by omega)).2, (nF 2 (by omega)).2, (nF 3 (by omega)).2, (nF 4 (by omega)).2, (nF 5 (by omega)).2, (nF 6 (by omega)).2, n87⟩
      obtain ⟨υ, d1, d2, d3, ⟨d4, d5, d6, d7, d8⟩, d9⟩ := r_suc L.2.2.2.2.2.1 n35 hRP nW
      -- the plan as it stands
      have uI : ∀ a k, ¬ rsT a k → sI υ a k = sI υ1 a k := fun a k h => d9.2.1 a k h
      have uF : ∀ a k, a ≠ 104 → a ≠ 117 → sF υ a k = sF υ1 a k := fun a k h1 h2 => by rw [d9.1 a (by omega)]
      have xI : ∀ a k, ¬ rsT a k → ¬ flU a k → sI υ a k = sI s' a k := fun a k h1 h2 => by rw [uI a k h1, Fr.2.1 a k h2]
      have xF : ∀ a k, a ≠ 104 → a ≠ 117 → ¬ flR rb a k → sF υ a k = sF s' a k := fun a k h1 h2 h3 => by rw [uF a k h1 h2, Fr.1 a k h3]
      have f5 : υ.2.2.2.2 = s'.2.2.2.2 := (congrArg (fun q => q.2.2) d9.2.2).trans Fr.2.2.2
      have hN2 : sNow υ = sNow σ := (congrArg (fun q => q.1) f5).trans hN'
      have hQ2 : sQ υ = sQ σ := (congrArg (fun q => q.2.2.1) f5).trans hQ'
      have hK2 : sK υ = sK σ := (congrArg (fun q => q.2.2.2.1) f5).trans hK'
      have hX2 : sX υ = sX σ := (congrArg (fun q => q.2.2.2.2) f5).trans hX'
      have x21 : ∀ k, sI υ 21 k = sI (cpI s0) 21 k := fun k => by rw [xI 21 k (by unfold rsT; omega) (by unfold flU; omega)]; exact c2 k
      have s11 : ∀ k, sI s0 11 k = sI τ 11 k := fun k => sJ0 11 k (by omega)
      have p7 : ∀ j, j < 7 → sI s0 11 j = nI (P' (j + 1)) := fun j hj => by rw [s11, v1 j hj]; exact (nF j hj).1
      have z0 : sI s0 11 7 = nI (P' 0) := by rw [s11, v2]; exact nS1
      have z8 : sI s0 11 8 = nI (P' 8) := by rw [s11, v3]; exact nC.1
      have z15 : sI s0 11 15 = nI len' := by rw [s11, v4]; exact nC.2.1
      have rows : ∀ r s, r < 5 → s < P' 0 → sF s0 (12 + r) s = nI (X' r s) := fun r s hr hs => by rw [sF0, w1 r s hr (by omega)]; exact (nX r s hr hs).1
      have rows2 : ∀ r s, r < 5 → s < P' 0 → sF υ (22 + r) s = nI (X' r s) := fun r s hr hs => by rw [xF _ _ (by omega) (by omega) (by unfold flR lnR; omega), c3 r (by omega)]; exact rows r s hr hs
      have rows3 : ∀ r s, r < 5 → s < P' 0 → sF υ1 (91 + r) (6 * rb + s) = nI (X' r s) := fun r s hr hs => (nX r s hr hs).2
      have hcpV := cpI_V (s := s0)
      have x82 : ∀ a, 81 ≤ a → a ≤ 97 → ∀ k, sF υ a k = sF υ1 a k := fun a h1 h2 k => uF a k (by omega) (by omega)
      refine ⟨nI (P' 0), s', υ, ?_, ?_, ⟨hX', hX2⟩, rb, P', fun s => nI (X' 4 s), fo', len', fun r s => nI (X' r s), ?_⟩
      · rw [hcl, c1, z0]
      · rw [rb2, d1]
      · refine ⟨⟨nW, nO, ⟨⟨d3, hrb2, ?_, ?_, ?_, ?_, ?_, ?_, ?_, ?_, ?_⟩, fun s hs => ?_, ⟨tr, 560 * rb, ?_, qr, ?_, fun h0 => ?_⟩, ?_⟩, ⟨⟨?_, ?_, ?_, ?_, ?_, ?_, ?_, ?_, ?_⟩, fun s hs => ?_, ?_, fun i hi => ?_⟩, fun r s hr hs => ?_⟩, ⟨⟨0, by omega, ?_, ?_, fun i hi => absurd hi (by omega)⟩, ⟨?_, ?_⟩, ⟨tt, t1, ?_, ?_⟩, ⟨0, by omega, ?_, ?_, fun i hi => absurd hi (by omega)⟩⟩, ⟨0, by omega, ?_, ?_, fun i hi => absurd hi (by omega)⟩, ?_, ?_, PTR_e hN2 hQ2 hK2 jP, ⟨0, 0, ?_, ?_, ?_, ?_, by omega, fun i hi => absurd hi (by omega)⟩, fun b hb => ⟨?_, Or.inl (d8 b hb)⟩⟩
        · rw [x82 81 (by omega) (by omega)]; exact nS2
        · rw [x82 82 (by omega) (by omega)]; exact (nF 0 (by omega)).2
        · rw [x82 83 (by omega) (by omega)]; exact (nF 1 (by omega)).2
        · rw [x82 84 (by omega) (by omega)]; exact (nF 2 (by omega)).2
        · rw [x82 85 (by omega) (by omega)]; exact (nF 3 (by omega)).2
        · rw [x82 86 (by omega) (by omega)]; exact (nF 4 (by omega)).2
        · rw [x82 88 (by omega) (by omega)]; exact (nF 5 (by omega)).2
        · rw [x82 89 (by omega) (by omega)]; exact (nF 6 (by omega)).2
        · rw [x82 87 (by omega) (by omega)]; exact n87
        · rw [x82 95 (by omega) (by omega)]; exact rows3 4 s (by omega) hs
        · rw [x82 90 (by omega) (by omega)]; exact q90
        · have h := qb 7 (by omega)
          rw [n7] at h
          exact h
        · obtain ⟨k1, k2, k3⟩ := nL h0
          rw [x82 96 (by omega) (by omega), x82 97 (by omega) (by omega)]
          refine ⟨k1, k2, rfl, fun i hi => ?_⟩
          rw [uF 99 _ (by omega) (by omega), uF 100 _ (by omega) (by omega)]
          exact k3 i hi
        · rw [xI 78 43 (by unfold rsT; omega) (by unfold flU; omega), c10.2.1 78 43 (by unfold suT qT; omega), hs1 78 43 (by unfold tU; omega) (by omega)]
          exact h43
        · rw [x21, hcpV.2.2.2.2.2.2.2.1]; exact z0
        · rw [x21, hcpV.1]; exact p7 0 (by omega)
        · rw [x21, hcpV.2.1]; exact p7 1 (by omega)
        · rw [x21, hcpV.2.2.1]; exact p7 2 (by omega)
        · rw [x21, hcpV.2.2.2.1]; exact p7 3 (by omega)
        · rw [x21, hcpV.2.2.2.2.1]; exact p7 4 (by omega)
        · rw [x21, hcpV.2.2.2.2.2.1]; exact p7 5 (by omega)
        · rw [x21, hcpV.2.2.2.2.2.2.1]; exact p7 6 (by omega)
        · rw [x21, hcpV.2.2.2.2.2.2.2.2.1]; exact z8
        · exact rows2 4 s (by omega) hs
        · rw [x21, hcpV.2.2.2.2.2.2.2.2.2]; exact z15
        · have hl := nO.1
          rw [xF 27 i (by omega) (by omega) (by unfold flR lnR; omega), show sF s' 27 = sF s0 17 from c3 5 (by omega), sF0, w2 i (by omega)]
          exact nC.2.2 i hi
        · rw [x82 _ (by omega) (by omega)]
          exact ⟨rows3 r s (by omega) hs, rows2 r s (by omega) hs⟩
        · rw [xI 8 1 (by unfold rsT; omega) (by unfold flU; omega), c10.2.1 8 1 (by unfold suT qT; omega)]; exact s8.1
        · rw [uI 78 2 (by unfold rsT; omega)]; exact y2
        · rw [xI 8 2 (by unfold rsT; omega) (by unfold flU; omega), c10.2.1 8 2 (by unfold suT qT; omega), s8.2.1, v5, uI 78 4 (by unfold rsT; omega), L.2.2.2.2.2.1]
          exact L.2.2.2.2.2.2.1
        · rw [xI 8 3 (by unfold rsT; omega) (by unfold flU; omega), c10.2.1 8 3 (by unfold suT qT; omega), s8.2.2, v6, uI 78 5 (by unfold rsT; omega), L.2.2.2.2.2.2.2.2]
          exact L.2.2.2.2.2.2.2.1
        · rw [xI 8 17 (by unfold rsT; omega) (by unfold flU; omega), c10.2.1 8 17 (by unfold suT qT; omega), hs1 8 17 (by unfold tU; omega) (by omega)]; exact t2
        · rw [xI 78 58 (by unfold rsT; omega) (by unfold flU; omega), c10.2.1 78 58 (by unfold suT qT; omega), hs1 78 58 (by unfold tU; omega) (by omega)]; exact t3
        · rw [xI 8 16 (by unfold rsT; omega) (by unfold flU; omega)]; exact c8
        · exact d7
        · rw [xI 68 8 (by unfold rsT; omega) (by unfold flU; omega)]; exact c7
        · exact d6
        · rw [d2]
          exact WF_st (by have := nW.2.1; omega) (by have := nW.2.2.2.2.2.2.2.2.2.2.1; omega) (fun j hj => by rw [if_pos hj])
        · rw [hN2, d2, cV_p (σ := s') (τ := υ) (q := sNow σ) (fun a h1 h2 => funext fun k => xF a k (by omega) (by omega) (by unfold flR lnR; omega)) (fun k => xI _ k (by unfold rsT; omega) (by unfold flU; omega))]
          refine LV_c nW.1 c4 ?_
          rw [show sI s0 11 6 = nI (P' 7) from p7 6 (by omega)]
          exact LV_st nW.1 (fun j hj => by rw [if_pos hj]) (fun r s hr hs => by rw [rows r s (by omega) hs, rows3 r s (by omega) hs])
        · rw [xI 66 2 (by unfold rsT; omega) (by unfold flU; omega)]; exact c5
        · rw [xI 66 3 (by unfold rsT; omega) (by unfold flU; omega)]; exact c6
        · exact d4
        · exact d5
        · rw [xF 76 b (by omega) (by omega) (by unfold flR lnR; omega), c9 b hb, d8 b hb]
    · exfalso
      have h := ra.symm.trans rb1
      exact absurd (Prod.mk.inj (Option.some.inj h)).1 (by decide)
  · -- refused
    have hcl := c_tail (σ := σ) (b := 0) (τ := τ) (by rw [m1]; exact ra)
    rw [if_pos rfl] at hcl
    have e5 : τ.2.2.2.2 = (setTx σ (.ref 9)).2.2.2.2 := Fa.2.2.2
    have eN : sNow (s0T τ) = sNow σ := congrArg (fun q => q.1) e5
    have eQ : sQ (s0T τ) = sQ σ := congrArg (fun q => q.2.2.1) e5
    have eK : sK (s0T τ) = sK σ := congrArg (fun q => q.2.2.2.1) e5
    have eX : sX (s0T τ) = sX σ := congrArg (fun q => q.2.2.2.2) e5
    have s8 : sI (s0T τ) 8 1 = 0 ∧ sI (s0T τ) 8 2 = sI τ 10 1 ∧ sI (s0T τ) 8 3 = sI τ 10 2 := by
      unfold s0T
      exact ⟨by rw [sI_ne (by omega), sI_ne (by omega), sI_eq], by rw [sI_ne (by omega), sI_eq], sI_eq⟩
    have sJ0 : ∀ a k, ¬ (a = 8 ∧ 1 ≤ k ∧ k ≤ 3) → sI (s0T τ) a k = sI τ a k := fun a k h => by
      unfold s0T
      rw [sI_ne (by omega), sI_ne (by omega), sI_ne (by omega)]
    have sF0 : ∀ a, sF (s0T τ) a = sF τ a := fun a => rfl
    have hs1 : ∀ a k, ¬ tU a k → ¬ (a = 8 ∧ 1 ≤ k ∧ k ≤ 3) → sI (s0T τ) a k = sI σ a k := fun a k h1 h2 => by rw [sJ0 a k h2, Fa.2.1 a k h1]; rfl
    have hs2 : ∀ a k, ¬ lnG a k → sF (s0T τ) a k = sF σ a k := fun a k h1 => by rw [sF0, Fa.1 a k h1]; rfl
    generalize s0T τ = s0 at *
    have g79 : ∀ i, sF s0 79 i = sF σ 79 i := fun i => hs2 79 i (by unfold lnG; omega)
    have g2 : sI s0 78 2 = nI n := by rw [hs1 78 2 (by unfold tU; omega) (by omega)]; exact m2
    have g34 : sI s0 78 34 = nI bk := by rw [hs1 78 34 (by unfold tU; omega) (by omega)]; exact R0.1
    rcases two_read (σ := σ) (κ := s0) hn hu' (fun i hi => by rw [g79]; exact hk0 i hi) g2 g34 hbk hrb with ⟨τb, υ1, t, P', X', pl, ln, fo', len', tc, tr, ⟨rb1, rb2⟩, -⟩ | ⟨τb, υ, ⟨rb1, rb2⟩, hbad, y2, Fb, Fr⟩
    · exfalso
      have h := ra.symm.trans rb1
      exact absurd (Prod.mk.inj (Option.some.inj h)).1 (by decide)
    · have hmk : mkH τ = mkH τb := by
        have h := ra.symm.trans rb1
        exact (Prod.mk.inj (Option.some.inj h)).2
      obtain ⟨v1, v2, v3, v4, v5, v6⟩ := inj_11 hmk
      have hnb := BAD_n hbad
      obtain ⟨f, a, f1, f2, f3, f4, f5, f6, f7, f8⟩ := hbad
      have hB95 : xX9_fleet_B95 78 (mkH υ) = some (-1, mkH υ) := by
        unfold xX9_fleet_B95
        rw [is_78, gu_t, r_bad hnb, Option.bind_some]
        dsimp only
        rw [if_pos rfl]
      have e6 : υ.2.2.2.2 = s0.2.2.2.2 := Fr.2.2.2
      have hN2 : sNow υ = sNow σ := (congrArg (fun q => q.1) e6).trans eN
      have hQ2 : sQ υ = sQ σ := (congrArg (fun q => q.2.2.1) e6).trans eQ
      have hK2 : sK υ = sK σ := (congrArg (fun q => q.2.2.2.1) e6).trans eK
      have hX2 : sX υ = sX σ := (congrArg (fun q => q.2.2.2.2) e6).trans eX
      have zI : ∀ b k, ¬ bdT b k → sI υ b k = sI σ b k := fun b k h => by
        rw [Fr.2.1 b k (by unfold flU; unfold bdT at h; omega), hs1 b k (by unfold tU; unfold bdT at h; omega) (by unfold bdT at h; omega)]
      have zF : ∀ b k, ¬ bdG rb b k → sF υ b k = sF σ b k := fun b k h => by
        rw [Fr.1 b k (fun z => h (Or.inr z)), hs2 b k (fun z => h (Or.inl z))]
      have z8 : ∀ k, sI υ 8 k = sI s0 8 k := fun k => Fr.2.1 8 k (by unfold flU; omega)
      obtain ⟨-, -, -, ll, l1, l2, l3, l4⟩ := I.2.1
      refine ⟨-1, s0, υ, hcl, by rw [rb2, hB95], ⟨eX, hX2⟩, bk, P, on, fo, len, X, IV_bad hrb zF zI hN2 hQ2 hK2 hX2 ⟨⟨0, by omega, ?_, y2, fun i hi => absurd hi (by omega)⟩, ⟨?_, ?_⟩, ⟨tt, t1, ?_, ?_⟩, ⟨ll, l1, ?_, ?_, fun i hi => ?_⟩⟩ hI0⟩
      · rw [z8]; exact s8.1
      · rw [z8, s8.2.1, v5, f4, f6]
      · rw [z8, s8.2.2, v6, f5, f7]
      · rw [z8, hs1 8 17 (by unfold tU; omega) (by omega)]; exact t2
      · rw [zI 78 58 (by unfold bdT; omega)]; exact t3
      · rw [z8, hs1 8 16 (by unfold tU; omega) (by omega)]; exact l2
      · rw [zI 78 51 (by unfold bdT; omega)]; exact l3
      · rw [zF 77 i (by unfold bdG flR lnR; omega), zF 110 i (by unfold bdG flR lnR; omega)]; exact l4 i hi
