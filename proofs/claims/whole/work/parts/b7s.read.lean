/-! all lines, in step -/
theorem rd_loop {rb : Nat} {u : Nat → Nat} {n : Nat} (hrb : rb < 2) : ∀ (m i e e2 : Nat) (σ ρ : ZS) (t : ZT) (P : Nat → Nat) (X : Nat → Nat → Nat) (pl ln : Nat → Nat) (fo : Nat → Int32) (len tc tr : Nat), n - t.1 ≤ m → i ≤ t.1 → LN rb u n σ ρ t P X pl ln fo len tc tr → (∃ (τ υ : ZS) (t' : ZT) (P' : Nat → Nat) (X' : Nat → Nat → Nat) (pl' ln' : Nat → Nat) (fo' : Nat → Int32) (len' tc' tr' : Nat), (xX3_read_L60 (e + m + 1) 10 (nI i) (mkH σ) = some (1, mkH τ) ∧ xX9_fleet_L74 (e2 + m + 1) 78 (mkH ρ) = xX9_fleet_B95 78 (mkH υ)) ∧ LN rb u n τ υ t' P' X' pl' ln' fo' len' tc' tr' ∧ FG lnG lnT fj σ τ ∧ FG (lnR rb) fT (lnJ rb) ρ υ) ∨ (∃ (τ υ : ZS), (xX3_read_L60 (e + m + 1) 10 (nI i) (mkH σ) = some (0, mkH τ) ∧ xX9_fleet_L74 (e2 + m + 1) 78 (mkH ρ) = xX9_fleet_B95 78 (mkH υ)) ∧ BAD τ υ ∧ FG lnG lnT fj σ τ ∧ FG (lnR rb) fT (lnJ rb) ρ υ) := by
  intro m
  induction m with
  | zero =>
    intro i e e2 σ ρ t P X pl ln fo len tc tr hm hi N
    have L := N.1
    have hb := (TK_b L.2.2.2.2.1)
    have hn := TK_n L.2.2.2.2.1
    have h16 := L.2.1.2.1
    have h0 : t.2.2.1 = 0 := by
      by_cases h : t.2.2.1 = 0
      · exact h
      · have := hb.2.2.2.2 h; omega
    left
    refine ⟨σ, ρ, t, P, X, pl, ln, fo, len, tc, tr, ⟨?_, ?_⟩, N, FG_r, FG_r⟩
    · have hB : xX3_read_L60 (e + 0 + 1) 10 (nI i) (mkH σ) = xX3_read_B60 (xX3_read_L60 (e + 0)) 10 (nI i) (mkH σ) := rfl
      rw [hB]
      unfold xX3_read_B60
      rw [if_neg (show ¬ (1600 : Int32) < nI i from fun z => by rw [show (1600 : Int32) = nI 1600 from rfl] at z; have := (nI_ltI (by omega) (by omega)).mp z; omega), rI_10_7, Option.bind_some, L.2.2.1.2.2.1, h0, if_pos (show nI 0 = (0 : Int32) from rfl)]
    · have hB : xX9_fleet_L74 (e2 + 0 + 1) 78 (mkH ρ) = xX9_fleet_B74 (xX9_fleet_L74 (e2 + 0)) 78 (mkH ρ) := rfl
      rw [hB]
      unfold xX9_fleet_B74
      rw [is_78, gu_t, r_good L.2.2.2.2.2.1, Option.bind_some]
      dsimp only
      rw [if_neg (by decide), rI_78_8, Option.bind_some, L.2.2.2.1.2.2.1, h0, if_pos (show nI (rtk 0 t.2.2.2) = (0 : Int32) from rfl)]
  | succ m ih =>
    intro i e e2 σ ρ t P X pl ln fo len tc tr hm hi N
    have L := N.1
    have hb := (TK_b L.2.2.2.2.1)
    have hn := TK_n L.2.2.2.2.1
    have h16 := L.2.1.2.1
    have hB1 : xX3_read_L60 (e + (m + 1) + 1) 10 (nI i) (mkH σ) = xX3_read_B60 (xX3_read_L60 (e + m + 1)) 10 (nI i) (mkH σ) := rfl
    have hB2 : xX9_fleet_L74 (e2 + (m + 1) + 1) 78 (mkH ρ) = xX9_fleet_B74 (xX9_fleet_L74 (e2 + m + 1)) 78 (mkH ρ) := rfl
    have hc : ¬ (1600 : Int32) < nI i := fun z => by rw [show (1600 : Int32) = nI 1600 from rfl] at z; have := (nI_ltI (by omega) (by omega)).mp z; omega
    by_cases h0 : t.2.2.1 = 0
    · left
      refine ⟨σ, ρ, t, P, X, pl, ln, fo, len, tc, tr, ⟨?_, ?_⟩, N, FG_r, FG_r⟩
      · rw [hB1]
        unfold xX3_read_B60
        rw [if_neg hc, rI_10_7, Option.bind_some, L.2.2.1.2.2.1, h0, if_pos (show nI 0 = (0 : Int32) from rfl)]
      · rw [hB2]
        unfold xX9_fleet_B74
        rw [is_78, gu_t, r_good L.2.2.2.2.2.1, Option.bind_some]
        dsimp only
        rw [if_neg (by decide), rI_78_8, Option.bind_some, L.2.2.2.1.2.2.1, h0, if_pos (show nI (rtk 0 t.2.2.2) = (0 : Int32) from rfl)]
    · have hlt := hb.2.2.2.2 h0
      have hk0 : ¬ nI t.2.2.1 = 0 := nq (b := 0) (by omega) (by omega) h0
      have hr0 : ¬ nI (rtk t.2.2.1 t.2.2.2) = 0 := nq (b := 0) (by have := rtk_b (k := t.2.2.1) (v := t.2.2.2); omega) (by omega) (fun z => h0 ((rtk_i (v := t.2.2.2) hb.1).2.2.2.2.mp z))
      have hs1 : xX3_read_L60 (e + (m + 1) + 1) 10 (nI i) (mkH σ) = (xX3_readLine 10 (mkH σ)).bind fun r75 => (if r75.1 = 0 then some ((0 : Int32), r75.2) else xX3_read_L60 (e + m + 1) 10 (nI (i + 1)) r75.2) := by
        rw [hB1]
        generalize xX3_read_L60 (e + m + 1) = nl
        unfold xX3_read_B60
        rw [if_neg hc, rI_10_7, Option.bind_some, L.2.2.1.2.2.1, if_neg hk0, is_10, gu_t, nI_s]
      have hs2 : xX9_fleet_L74 (e2 + (m + 1) + 1) 78 (mkH ρ) = (xX9_readLine 78 (mkH ρ)).bind fun h89 => xX9_fleet_L74 (e2 + m + 1) 78 h89 := by
        rw [hB2]
        generalize xX9_fleet_L74 (e2 + m + 1) = nl
        unfold xX9_fleet_B74
        rw [is_78, gu_t, r_good L.2.2.2.2.2.1, Option.bind_some]
        dsimp only
        rw [if_neg (by decide), rI_78_8, Option.bind_some, L.2.2.2.1.2.2.1, if_neg hr0, is_78, gu_t]
      rcases two_line N hrb with ⟨τ, υ, t', P', X', pl', ln', fo', len', tc', tr', ⟨q1, q2⟩, N', q3, q4, q5⟩ | ⟨τ, υ, ⟨q1, q2⟩, q3, q4, q5⟩
      · rw [hs1, hs2, q1, q2, Option.bind_some, Option.bind_some]
        dsimp only
        rw [if_neg (show ¬ (1 : Int32) = 0 by decide)]
        rcases ih (i + 1) e e2 τ υ t' P' X' pl' ln' fo' len' tc' tr' (by omega) (by omega) N' with ⟨τ2, υ2, t2, P2, X2, pl2, ln2, fo2, len2, tc2, tr2, k1, k2, k3, k4⟩ | ⟨τ2, υ2, k1, k2, k3, k4⟩
        · exact Or.inl ⟨τ2, υ2, t2, P2, X2, pl2, ln2, fo2, len2, tc2, tr2, k1, k2, FG_t q4 k3, FG_t q5 k4⟩
        · exact Or.inr ⟨τ2, υ2, k1, k2, FG_t q4 k3, FG_t q5 k4⟩
      · right
        refine ⟨τ, υ, ⟨?_, ?_⟩, q3, q4, q5⟩
        · rw [hs1, q1, Option.bind_some]
          dsimp only
          rw [if_pos rfl]
        · rw [hs2, q2, Option.bind_some]
          have hB3 : xX9_fleet_L74 (e2 + m + 1) 78 (mkH υ) = xX9_fleet_B74 (xX9_fleet_L74 (e2 + m)) 78 (mkH υ) := rfl
          rw [hB3]
          unfold xX9_fleet_B74
          rw [is_78, gu_t, r_bad (BAD_n q3), Option.bind_some]
          dsimp only
          rw [if_pos rfl]
