/-! the formula: a unit, brackets, and the whole descent -/
theorem rk_41 {t : ZT} {w : Nat} (h : rkT t ≠ 0) (hw : w = 41 ∨ w = 59) : sB t w = false := by
  by_cases hs : sB t w = true
  · exfalso
    obtain ⟨h1, h2⟩ := sB_y hs
    apply h
    unfold rkT
    rw [if_neg (wB_k (by omega)), if_neg (wB_k (by omega)), if_pos h1, h2]
    rcases hw with rfl | rfl <;> decide
  · simpa using hs
/-- a bracket closed, or refused there -/
theorem two_cl {σ ρ : ZS} {u : Nat → Nat} {n rb e p len wi un : Nat} {t : ZT} {K G : Nat → Nat} {fo : Nat → Int32} (L : LK σ ρ u n t) (hrb : rb < 2) (hdp : e + 2 + p ≤ 90) (hlp : len + p ≤ 280) (Q : RQ ρ rb fo len (e + 2 + p) (wi + 1 + cntN K (e + 2) p) un) (S : SK ρ (e + 2 + p) K G) (h0 : K 0 = 8) (h7 : K (e + 1) = 7) (hc : ∀ i, i < p → cdR (fo (len + i)) (nI (G (e + 2 + p - 1 - i))) 0) (hk : ∀ i, i < p → K (e + 2 + i) ≤ 6) (hr : rkT t = 0) : (sB t 41 = true ∧ ∃ τ υ, xX3_advance 10 (mkH σ) = some (mkH τ) ∧ (∀ f, xX9_e_L19 (f + 1) 78 0 (mkH ρ) = xX9_e_L19 f 78 0 (mkH υ)) ∧ LK τ υ u n (nx (gu0 u n) n t) ∧ RQ υ rb fo (len + p) (e + 1) wi un ∧ SK υ (e + 1) K G ∧ FR (fun _ => False) dT σ τ ∧ FG (fG rb) fT fj ρ υ) ∨ (sB t 41 = false ∧ ∃ τ υ, xX3_refuse 10 (mkH σ) = some (0, mkH τ) ∧ (∀ f, xX9_e_L19 (f + 1 + 1) 78 0 (mkH ρ) = some (mkH υ)) ∧ BAD τ υ ∧ FR (fun _ => False) cF σ τ ∧ FG (fG rb) fT fj ρ υ) := by
  have hdd : e + 2 + p = e + 2 + p - 1 + 1 := by omega
  have q5' : sI ρ 78 38 = nI (e + 2 + p - 1 + 1) := by rw [← hdd]; exact Q.2.2.2.2.1
  have S' : SK ρ (e + 2 + p - 1 + 1) K G := by rw [← hdd]; exact S
  obtain ⟨w, hw⟩ := zfu p (by omega)
  obtain ⟨υ1, v1, v2, v3, v4⟩ := r_pop (r := 0) (d0 := e + 2) hrb (by omega) (by omega) (Or.inl (by rw [show e + 2 - 1 = e + 1 by omega, h7]; omega)) p len w ρ hdp hlp Q S hc (fun i hi => ⟨by omega, hk i hi⟩)
  obtain ⟨w1, w2, w3, w4, w5, w6, w7⟩ := v2
  have L1 : LK σ υ1 u n t := LK_g v3 v4 (fun k => by unfold pG; omega) (fun k h1 h2 => by unfold pT; omega) L
  have hs : sF υ1 101 (e + 1) = nI 7 := by rw [v3.1 101 (e + 1) (by unfold pG; omega), (S (e + 1) (by omega)).1, h7]
  have hbu : xX9_behindUnit 78 (mkH ρ) = (xX9_must 78 (if sB t 41 then 1 else 0) (mkH (setI (setI υ1 78 38 (nI (e + 1))) 78 37 (nI wi)))).bind fun h => some (0, h) := by
    rw [r_bu L q5' (by omega) S' h0 (by rw [hr]; omega), hr, hw, v1]
    exact r_104b L1 w5 (by omega) hs w6
  have L2 : LK σ (setI (setI υ1 78 38 (nI (e + 1))) 78 37 (nI wi)) u n t := LK_rI (by omega) (LK_rI (by omega) L1)
  have hF2 : FG (fG rb) fT fj ρ (setI (setI υ1 78 38 (nI (e + 1))) 78 37 (nI wi)) := FG_t (FG_m v3 (fun a k z => by unfold pG at z; unfold fG; omega) (fun a k z => by unfold pT at z; unfold fT; omega) (fun _ z => z)) (FG_t (FG_I (by unfold fT; omega)) (FG_I (by unfold fT; omega)))
  have y38 : sI (setI (setI υ1 78 38 (nI (e + 1))) 78 37 (nI wi)) 78 38 = nI (e + 1) := by rw [sI_ne (by omega), sI_eq]
  have y37 : sI (setI (setI υ1 78 38 (nI (e + 1))) 78 37 (nI wi)) 78 37 = nI wi := sI_eq
  have yI : ∀ k, k ≠ 37 → k ≠ 38 → sI (setI (setI υ1 78 38 (nI (e + 1))) 78 37 (nI wi)) 78 k = sI υ1 78 k := fun k h1 h2 => by rw [sI_ne (by omega), sI_ne (by omega)]
  have yF : ∀ a k, sF (setI (setI υ1 78 38 (nI (e + 1))) 78 37 (nI wi)) a k = sF υ1 a k := fun a k => rfl
  generalize setI (setI υ1 78 38 (nI (e + 1))) 78 37 (nI wi) = κ at *
  by_cases hb : sB t 41 = true
  · left
    obtain ⟨τ, υ, s1, s2, s3, s4, s5⟩ := LK_s L2
    have hm := r_must1 L2.2.2.2.2.2.1 s2
    refine ⟨hb, τ, υ, s1, fun f => ?_, s3, ⟨?_, ?_, ?_, ?_, ?_, ?_, fun i hi => ?_⟩, fun i hi => ?_, s4, FG_t hF2 (FG_n s5 (fun a k z => Or.inl (eT_rF z)))⟩
    · refine e_b L.2.2.2.2.2.1 q5' (by omega) ?_ f
      rw [hbu, if_pos hb, hm, Option.bind_some]
    · rw [s5.2.1 78 35 (by unfold eT; omega), yI 35 (by omega) (by omega)]; exact w1
    · rw [s5.1 87 (fun z => z), yF]; exact w2
    · rw [s5.2.1 78 39 (by unfold eT; omega), yI 39 (by omega) (by omega)]; exact w3
    · rw [s5.2.1 78 36 (by unfold eT; omega), yI 36 (by omega) (by omega)]; exact w4
    · rw [s5.2.1 78 38 (by unfold eT; omega)]; exact y38
    · rw [s5.2.1 78 37 (by unfold eT; omega)]; exact y37
    · rw [s5.1 99 (fun z => z), s5.1 100 (fun z => z), yF, yF]; exact w7 i hi
    · rw [s5.1 101 (fun z => z), s5.1 102 (fun z => z), yF, yF, v3.1 101 i (by unfold pG; omega), v3.1 102 i (by unfold pG; omega)]
      exact S i (by omega)
  · right
    obtain ⟨τ, υ, s1, s2, s3, s4, s5, s6⟩ := two_no L2
    refine ⟨by simpa using hb, τ, υ, s1, fun f => ?_, s4, s5, FG_t hF2 (FG_n s6 (fun a k z => Or.inl z))⟩
    rw [e_b L.2.2.2.2.2.1 q5' (by omega) (by rw [hbu, if_neg hb, s3, Option.bind_some]) (f + 1)]
    exact e_x (BAD_n s4) f
theorem whT_z {t : ZT} (h : ¬ isP t) : whT t = 0 := by
  unfold isP at h
  unfold whT
  rw [if_neg (fun z => h (Or.inr ⟨(wB_y z).1, by have := (wB_y z).2; omega, by have := (wB_y z).2; omega⟩)), if_neg (fun z => h (Or.inr ⟨(wB_y z).1, by have := (wB_y z).2; omega, by have := (wB_y z).2; omega⟩)), if_neg (fun z => h (Or.inr ⟨(wB_y z).1, by have := (wB_y z).2; omega, by have := (wB_y z).2; omega⟩)), if_neg (fun z => h (Or.inr ⟨(wB_y z).1, by have := (wB_y z).2; omega, by have := (wB_y z).2; omega⟩))]
def HU (rb : Nat) (u : Nat → Nat) (n wi : Nat) (fx : Int32 → ZH → Option (Int32 × ZH)) : Prop := ∀ (σ ρ : ZS) (t : ZT) (fo : Nat → Int32) (len un d : Nat) (K G : Nat → Nat), PRE rb u n 5 σ ρ t fo len un d wi K G → RES rb u n 5 σ ρ t fo len un d wi K G (fx (nI wi) (mkH σ))
/-- the class refuses what is no unit -/
theorem c_nou {σ ρ τ : ZS} {u : Nat → Nat} {n un : Nat} {t : ZT} {fL : Nat → Int32 → Int32 → ZH → Option (Int32 × ZH)} {fU : Nat → Int32 → ZH → Option (Int32 × ZH)} {ar : Int32} (L : LK σ ρ u n t) (h8 : sI σ 11 8 = nI un) (hun : un < 30) (hb : ¬ sB t 40 = true) (hp : ¬ isP t) (hr : xX3_refuse 10 (mkH σ) = some (0, mkH τ)) : xX3_readUnit_b fL fU 10 ar (mkH σ) = some (0, mkH τ) := by
  have L0 := L
  obtain ⟨l1, l2, l3, l4, l5, l6, l7⟩ := L
  obtain ⟨hk, hk1, -⟩ := TK_b l5
  unfold isP at hp
  unfold xX3_readUnit_b
  rw [rR_10_0, Option.bind_some, rI_11_8, Option.bind_some, h8, if_pos (show nI un < (30 : Int32) from by rw [nl_30]; exact nI_lt hun (by omega)), is_10, gu_t, show (40 : Int32) = nI 40 from rfl, c_isS L0 (by omega), Option.bind_some]
  dsimp only
  rw [if_neg hb, if_pos rfl, rI_10_7, Option.bind_some, l3.2.2.1, if_neg (show ¬ nI t.2.2.1 = (2 : Int32) from nq (b := 2) (by omega) (by omega) (by omega)), Option.bind_some]
  by_cases h1 : t.2.2.1 = 1
  · have h19 := (hk1 h1).1
    rw [if_pos (show nI t.2.2.1 = (1 : Int32) from by rw [h1]; rfl), rI_10_8, l3.2.2.2 (Or.inl h1), Option.bind_some]
    by_cases h15 : t.2.2.2 < 15
    · rw [if_pos (show nI t.2.2.2 < (15 : Int32) from by rw [nl_15]; exact nI_lt h15 (by omega)), is_10, gu_t, hr, Option.bind_some]
      exact zr0
    · rw [if_neg (show ¬ nI t.2.2.2 < (15 : Int32) from fun z => by rw [nl_15] at z; have := (nI_ltI (by omega) (by omega)).mp z; omega), Option.bind_some, if_pos (show (18 : Int32) < nI t.2.2.2 from by rw [nl_18]; exact nI_lt (by omega) (by omega)), is_10, gu_t, hr, Option.bind_some]
      exact zr0
  · rw [if_neg (show ¬ nI t.2.2.1 = (1 : Int32) from nq (b := 1) (by omega) (by omega) h1), is_10, gu_t, hr, Option.bind_some]
    exact zr0
theorem un_step {rb : Nat} {u : Nat → Nat} {n wi : Nat} {fL : Nat → Int32 → Int32 → ZH → Option (Int32 × ZH)} {fU : Nat → Int32 → ZH → Option (Int32 × ZH)} (hrb : rb < 2) (H : wi < 7 → HL rb u n 0 (wi + 1) (fL 10)) : HU rb u n wi (xX3_readUnit_b fL fU 10) := by
  intro σ ρ t fo len un d K G P
  obtain ⟨P1, P2, P3, P4, P5, ⟨P6a, P6b, P6c, P6d, P6e⟩, P7, P8, P9, P10⟩ := P
  obtain ⟨e, rfl⟩ : ∃ e, d = e + 1 := ⟨d - 1, by omega⟩
  have hnt : ntB (K e) t = false := P10 (by omega)
  have hle := TK_n P1.2.2.2.2.1
  by_cases hun : un = 30
  · obtain ⟨τ, υ, q1, q2, q3, q4, q5⟩ := two_ref P1 hrb P3 P4 (by omega) P6d P6c (by unfold rfu; rw [hnt, decide_eq_true hun]; simp)
    refine Or.inr ⟨τ, υ, 2, ?_, q2, q3, by omega, FG_cF q4, q5⟩
    unfold xX3_readUnit_b
    rw [rR_10_0, Option.bind_some, rI_11_8, Option.bind_some, P2.1, if_neg (show ¬ nI un < (30 : Int32) from fun z => by rw [nl_30] at z; have := (nI_ltI (by omega) (by omega)).mp z; omega), is_10, gu_t, q1, Option.bind_some]
    exact zr0
  · have hun' : un < 30 := by omega
    by_cases hb : sB t 40 = true
    · have hv : xX3_readUnit_b fL fU 10 (nI wi) (mkH σ) = (if nI wi ≤ (6 : Int32) then ((z_gR (mkH σ) 10 3 0).bind fun x38 => ((z_gI (mkH σ) x38 2 8).bind fun x42 => ((z_sF (mkH σ) x38 2 8 (.int (x42 + (1 : Int32)))).bind fun h47 => (z_gu (z_is h47 10 3) ((xX3_advance 10 h47).bind fun h51 => (z_gu (z_is h51 10 3) ((fL 10 (0 : Int32) (nI wi + (1 : Int32)) h51).bind fun r59 => (if r59.1 = 0 then some ((0 : Int32), r59.2) else (z_gu (z_is r59.2 10 3) ((xX3_isSign 10 (41 : Int32) r59.2).bind fun r70 => (if r70.1 = 0 then (z_gu (z_is r70.2 10 3) ((xX3_refuse 10 r70.2).bind fun r77 => z_zr r77.1 r77.2)) else (z_gu (z_is r70.2 10 3) ((xX3_advance 10 r70.2).bind fun h82 => some ((1 : Int32), h82)))))))))))))) else (z_gu (z_is (mkH σ) 10 3) ((xX3_refuse 10 (mkH σ)).bind fun r33 => z_zr r33.1 r33.2))) := by
        unfold xX3_readUnit_b
        rw [rR_10_0, Option.bind_some, rI_11_8, Option.bind_some, P2.1, if_pos (show nI un < (30 : Int32) from by rw [nl_30]; exact nI_lt hun' (by omega)), is_10, gu_t, show (40 : Int32) = nI 40 from rfl, c_isS P1 (by omega), Option.bind_some]
        dsimp only
        rw [if_pos hb, if_neg (by decide), rR_10_0, Option.bind_some, rI_11_8, Option.bind_some, P2.1]
        rfl
      rw [hv]
      by_cases hwi : wi < 7
      · rw [if_pos (show nI wi ≤ (6 : Int32) from by rw [show (6 : Int32) = nI 6 from rfl]; exact (nI_leI (by omega) (by omega)).mpr (by omega))]
        obtain ⟨υ1, s1, s2, s3, s4, s5⟩ := r_open P1 hrb P3 P4 (by omega) P6d hwi hnt (Or.inr ⟨hb, hun'⟩)
        have La : LK (setI σ 11 8 (nI (un + 1))) ρ u n t := LK_cI (by omega) P1
        obtain ⟨τ1, g1, g2, g3⟩ := s2 _ La
        have hCa : CQ (setI σ 11 8 (nI (un + 1))) fo len (un + 1) := ⟨sI_eq, by rw [sI_ne (by omega)]; exact P2.2.1, P2.2.2⟩
        have hlt := nx_gt P1.2.2.2.2.1 (show t.2.2.1 ≠ 0 by have := (sB_y hb).1; omega)
        have hP : PRE rb u n 0 τ1 υ1 (nx (gu0 u n) n t) fo len (un + 1) (e + 1 + 1) (wi + 1) (fun i => if i = e + 1 then (if false = true then 3 else 7) else K i) (fun i => if i = e + 1 then 126 else G i) := by
          refine ⟨g2, CQ_f g3 (by unfold dT; omega) (by unfold dT; omega) hCa, s3, s4, ?_, ⟨by omega, by omega, by omega, by omega, by omega⟩, P7, by omega, ?_, fun h3 => absurd h3 (by omega)⟩
          · show (if 0 = e + 1 then _ else K 0) = 8
            rw [if_neg (by omega)]; exact P5
          · left
            show 6 < (if e + 1 + 1 - 1 = e + 1 then (if false = true then 3 else 7) else K (e + 1 + 1 - 1))
            rw [if_pos (by omega), if_neg (by decide)]; omega
        have hF1 : FG flG flT fj σ τ1 := FG_t (FG_I (Or.inr ⟨rfl, Or.inl rfl⟩)) (FG_f g3 (fun a k z => Or.inl (dT_cF z)))
        have hKd : (if e + 1 = e + 1 then (if false = true then 3 else 7) else K (e + 1)) = 7 := by rw [if_pos rfl, if_neg (by decide)]
        rw [rR_10_0, Option.bind_some, rI_11_8, Option.bind_some, P2.1, nI_s, wI_11_8, Option.bind_some, is_10, gu_t, g1, Option.bind_some, is_10, gu_t, nI_s]
        rcases H hwi τ1 υ1 _ fo len (un + 1) (e + 1 + 1) _ _ hP with ⟨τ2, υ2, t2, fo2, len2, un2, p2, j2, K2, G2, c1, A2, c2, c3⟩ | ⟨τ2, υ2, j2, c1, c2, c3, c4, c5, c6⟩
        · rw [show (0 : Int32) = nI 0 from rfl, c1, Option.bind_some]
          dsimp only
          obtain ⟨d1, d2, d3, d4, d5, d6, d7, d8, ⟨e1, e2, e3, e4⟩, d10, d11, d12, d13⟩ := A2
          rw [if_neg (by decide), is_10, gu_t, show (41 : Int32) = nI 41 from rfl, c_isS d2 (by omega), Option.bind_some]
          have hK0 : K2 0 = 8 := by
            rw [(d6 0 (by omega)).1]
            show (if 0 = e + 1 then _ else K 0) = 8
            rw [if_neg (by omega)]; exact P5
          have hK7 : K2 (e + 1) = 7 := by rw [(d6 (e + 1) (by omega)).1]; exact hKd
          have hle2 := TK_n d2.2.2.2.2.1
          have hj : ∀ f, xX9_e_L19 (f + (j2 + 1)) 78 1 (mkH ρ) = xX9_e_L19 f 78 0 (mkH υ2) := fun f => by rw [← Nat.add_assoc, s1, d1]
          by_cases hr : rkT t2 = 0
          · rcases two_cl (rb := rb) (e := e) (p := p2) (len := len2) (wi := wi) (un := un2) (K := K2) (G := G2) (fo := fo2) d2 hrb (by omega) (by omega) d4 d5 hK0 hK7 d7 (fun q hq => (d8 q hq).2) hr with ⟨hs, τ3, υ3, k1, k2, k3, k4, k5, k6, k7⟩ | ⟨hs, τ3, υ3, k1, k2, k3, k4, k5⟩
            · have hlt2 := nx_gt d2.2.2.2.2.1 (show t2.2.2.1 ≠ 0 by have := (sB_y hs).1; omega)
              refine Or.inl ⟨τ3, υ3, _, fo2, len2 + p2, un2, 0, 1 + (j2 + 1), K2, G2, ?_, ⟨fun f => ?_, k3, CQ_f k6 (by unfold dT; omega) (by unfold dT; omega) d3, k4, k5, fun i hi => ?_, fun i hi => absurd hi (by omega), fun i hi => absurd hi (by omega), ⟨by omega, e2, by omega, by omega⟩, d10, d11, FG_t hF1 (FG_t d12 (FG_f k6 (fun a k z => Or.inl (dT_cF z)))), FG_t s5 (FG_t d13 k7)⟩, by omega, Or.inl ?_⟩
              · rw [hs, if_pos rfl]
                dsimp only
                rw [if_neg (by decide), is_10, gu_t, k1, Option.bind_some]
              · rw [← Nat.add_assoc, hj, k2]
              · rw [(d6 i (by omega)).1, (d6 i (by omega)).2]
                show (if i = e + 1 then _ else K i) = _ ∧ (if i = e + 1 then 126 else G i) = _
                rw [if_neg (by omega), if_neg (by omega)]; exact ⟨rfl, rfl⟩
              · have := rkT_b (nx (gu0 u n) n t2)
                show _ < 7
                omega
            · refine Or.inr ⟨τ3, υ3, 2 + (j2 + 1), ?_, fun f => ?_, k3, by omega, FG_t hF1 (FG_t d12 (FG_cF k4)), FG_t s5 (FG_t d13 k5)⟩
              · rw [hs]
                dsimp only
                rw [if_neg (show ¬ false = true by decide), if_pos (show (0 : Int32) = nI 0 from rfl), is_10, gu_t, k1, Option.bind_some]
                exact zr0
              · rw [← Nat.add_assoc, hj]; exact k2 f
          · have hs := rk_41 hr (Or.inl rfl)
            rcases c3 with c3 | ⟨h4, -, hc⟩
            · exact absurd (show rkT t2 < 1 from c3) (by omega)
            · have h38 : sI υ2 78 38 = nI (e + 1 + p2 + 1) := by rw [show e + 1 + p2 + 1 = e + 1 + 1 + p2 by omega]; exact d4.2.2.2.2.1
              have hS : SK υ2 (e + 1 + p2 + 1) K2 G2 := by rw [show e + 1 + p2 + 1 = e + 1 + 1 + p2 by omega]; exact d5
              obtain ⟨τ3, υ3, k1, k2, k3, k4, k5⟩ := two_cmp (rb := rb) d2 h38 hS (by omega) hK0 h4 (by rw [show e + 1 + p2 + 1 = e + 1 + 1 + p2 by omega]; exact hc)
              refine Or.inr ⟨τ3, υ3, 2 + (j2 + 1), ?_, fun f => ?_, k3, by omega, FG_t hF1 (FG_t d12 (FG_cF k4)), FG_t s5 (FG_t d13 k5)⟩
              · rw [hs]
                dsimp only
                rw [if_neg (show ¬ false = true by decide), if_pos (show (0 : Int32) = nI 0 from rfl), is_10, gu_t, k1, Option.bind_some]
                exact zr0
              · rw [← Nat.add_assoc, hj]; exact k2 f
        · refine Or.inr ⟨τ2, υ2, j2 + 1, ?_, fun f => ?_, c3, by omega, FG_t hF1 c5, FG_t s5 c6⟩
          · rw [show (0 : Int32) = nI 0 from rfl, c1, Option.bind_some]
            dsimp only
            rw [if_pos (show (0 : Int32) = nI 0 from rfl)]
          · rw [← Nat.add_assoc, s1, c2]
      · rw [if_neg (show ¬ nI wi ≤ (6 : Int32) from fun z => by rw [show (6 : Int32) = nI 6 from rfl] at z; have := (nI_leI (by omega) (by omega)).mp z; omega)]
        obtain ⟨τ, υ, q1, q2, q3, q4, q5⟩ := two_ref P1 hrb P3 P4 (by omega) P6d P6c (by unfold rfu; rw [hb, decide_eq_true (show wi = 7 by omega)]; simp)
        refine Or.inr ⟨τ, υ, 2, ?_, q2, q3, by omega, FG_cF q4, q5⟩
        rw [is_10, gu_t, q1, Option.bind_some]
        exact zr0
    · have hb' : sB t 40 = false := by simpa using hb
      by_cases hp : isP t
      · obtain ⟨τ, υ, s1, s2, s3, s4, s5, s6, s7, s8⟩ := two_plain P1 hrb P2 P3 P4 (by omega) hun' P6c (by omega) hnt hb' hp
        have hkd := (unC_R P1.2.2.2.2.1 hp).2
        obtain ⟨w1, w2⟩ := WFo_x (c := unC t) P7 (by omega) ⟨fun _ => by omega, fun z => by omega, fun z => by omega⟩
        rw [if_pos hkd] at w2
        have hlt := nx_gt P1.2.2.2.2.1 (show t.2.2.1 ≠ 0 by unfold isP at hp; omega)
        refine Or.inl ⟨τ, υ, _, _, len + 1, un + 1, 0, 1, K, G, s1 fL fU (nI wi), ⟨s2, s3, s4, s5, s6, fun i hi => ⟨rfl, rfl⟩, fun i hi => absurd hi (by omega), fun i hi => absurd hi (by omega), ⟨by omega, by omega, by omega, by omega⟩, w1, w2, s7, s8⟩, by omega, Or.inl ?_⟩
        have := rkT_b (nx (gu0 u n) n t)
        show _ < 7
        omega
      · have hw := whT_z hp
        obtain ⟨τ, υ, q1, q2, q3, q4, q5⟩ := two_ref P1 hrb P3 P4 (by omega) P6d P6c (by unfold rfu; rw [hnt, hb', hw, decide_eq_false (show ¬ t.2.2.1 = 2 by unfold isP at hp; omega)]; simp)
        exact Or.inr ⟨τ, υ, 2, c_nou P1 P2.1 hun' hb hp q1, q2, q3, by omega, FG_cF q4, q5⟩
theorem rd_all {rb : Nat} {u : Nat → Nat} {n : Nat} (hrb : rb < 2) : ∀ N, (∀ l wi, l ≤ 5 → wi ≤ 7 → 7 * (7 - wi) + 7 ≤ N + l → HL rb u n l wi ((xRD N).1 10)) ∧ (∀ wi, wi ≤ 7 → 1 + 7 * (7 - wi) ≤ N → HU rb u n wi ((xRD N).2 10))
  | 0 => ⟨fun l wi h1 h2 h3 => by omega, fun wi h1 h2 => by omega⟩
  | N + 1 => by
    obtain ⟨i1, i2⟩ := rd_all hrb N
    have e1 : (xRD (N + 1)).1 = xX3_readLevel_b (xRD N).1 (xRD N).2 := rfl
    have e2 : (xRD (N + 1)).2 = xX3_readUnit_b (xRD N).1 (xRD N).2 := rfl
    rw [e1, e2]
    generalize (xRD N).1 = fL at *
    generalize (xRD N).2 = fU at *
    refine ⟨fun l wi h1 h2 h3 => ?_, fun wi h1 h2 => un_step hrb (fun h7 => i1 0 (wi + 1) (by omega) (by omega) (by omega))⟩
    by_cases h5 : l = 5
    · subst h5
      intro σ ρ t fo len un d K G P
      have hU := i2 wi h2 (by omega) σ ρ t fo len un d K G P
      have hv : xX3_readLevel_b fL fU 10 (nI 5) (nI wi) (mkH σ) = (fU 10 (nI wi) (mkH σ)).bind fun r7 => z_zr r7.1 r7.2 := by
        unfold xX3_readLevel_b
        rw [if_neg (show ¬ nI 5 ≤ (4 : Int32) from by decide), is_10, gu_t]
      rw [hv]
      rcases hU with ⟨τ, υ, t', fo', len', un', p, j, K', G', c1, cc⟩ | ⟨τ, υ, j, c1, cc⟩
      · refine Or.inl ⟨τ, υ, t', fo', len', un', p, j, K', G', ?_, cc⟩
        rw [c1, Option.bind_some]
        exact zr1
      · refine Or.inr ⟨τ, υ, j, ?_, cc⟩
        rw [c1, Option.bind_some]
        exact zr0
    · exact lv_step hrb (by omega) (i1 (l + 1) wi (by omega) h2 (by omega)) (fun h l7 => i1 2 (wi + 1) (by omega) (by omega) (by omega))
