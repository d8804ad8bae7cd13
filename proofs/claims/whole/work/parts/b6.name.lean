/-! a ship's name, and the whole of its line -/
theorem two_at {σ ρ : ZS} {u : Nat → Nat} {n rb ns : Nat} {t : ZT} (L : LK σ ρ u n t) (hrb : rb < 2) (hns : ns < 6) (c7 : sI σ 11 7 = nI ns) (r1 : sF ρ 81 rb = nI ns) (r35 : sI ρ 78 35 = nI rb) (cz : ∀ r, 2 ≤ r → r < 5 → sF σ (12 + r) ns = nI 0) : (∃ (τ υ : ZS) (x : Nat → Nat) (t' : ZT), (∀ r, r < 4 → x r ≤ 99) ∧ x 4 ≤ 9 ∧ cAt (nI ns) (mkH σ) = some (1, mkH τ) ∧ rAt (nI (6 * rb + ns)) (mkH ρ) = some (mkH υ) ∧ LK τ υ u n t' ∧ t.1 ≤ t'.1 ∧ (∀ r, r < 5 → sF τ (12 + r) ns = nI (x r) ∧ sF υ (91 + r) (6 * rb + ns) = nI (x r)) ∧ sI τ 11 7 = nI (ns + 1) ∧ sF υ 81 rb = nI (ns + 1) ∧ FG (fun a k => 12 ≤ a ∧ a ≤ 16 ∧ k = ns) shT fj σ τ ∧ FG (shR rb ns) rF fj ρ υ) ∨ (∃ τ υ, cAt (nI ns) (mkH σ) = some (0, mkH τ) ∧ rAt (nI (6 * rb + ns)) (mkH ρ) = some (mkH υ) ∧ BAD τ υ ∧ FG (fun a k => 12 ≤ a ∧ a ≤ 16 ∧ k = ns) shT fj σ τ ∧ FG (shR rb ns) rF fj ρ υ) := by
  have hs : 6 * rb + ns < 12 := by omega
  have l6 := L.2.2.2.2.2.1
  have hR : rAt (nI (6 * rb + ns)) (mkH ρ) = (xX9_after 78 (24948 : Int64) (nI 0) (nI 99) (mkH ρ)).bind fun r107 => ((z_uI r107.2 91 (nI (6 * rb + ns)) r107.1).bind fun h110 => rUp (nI (6 * rb + ns)) h110) := by
    unfold rAt
    rw [rR_78_21, Option.bind_some, is_78, gu_t]
    rfl
  by_cases hb : wB t 9 = true
  · obtain ⟨τ1, υ1, s1, s2, s3, s4, s5⟩ := LK_s L
    have hnx := TK_nx L.2.2.2.2.1
    have F1c : FG (fun a k => 12 ≤ a ∧ a ≤ 16 ∧ k = ns) shT fj σ τ1 := FG_f s4 (fun a k z => Or.inl (dT_cF z))
    have F1r : FG (shR rb ns) rF fj ρ υ1 := FG_n s5 (fun a k z => eT_rF z)
    have hC : cAt (nI ns) (mkH σ) = (xX3_takeNumber 10 (nI 0) (nI 99) (mkH τ1)).bind fun r126 => (if r126.1 = 0 then some ((0 : Int32), r126.2) else cUp (nI ns) r126.2) := by
      unfold cAt xX3_takeWord
      rw [is_10, gu_t, gu_t, nl_9, c_isW L (by omega), Option.bind_some]
      dsimp only
      rw [if_pos hb, if_neg (show ¬ (1 : Int32) = 0 by decide), is_10, gu_t, s1, Option.bind_some, Option.bind_some]
      dsimp only
      rw [if_neg (show ¬ (1 : Int32) = 0 by decide), is_10, gu_t]
      rfl
    rcases two_num s3 (lo := 0) (hi := 99) (by omega) (by omega) with ⟨τ2, υ2, q1, q2, q3, -, q4, q5, q6, q7, q8⟩ | ⟨τ2, υ2, q1, q2, q3, q4, q5⟩
    · generalize (nx (gu0 u n) n t).2.2.2 = x0 at *
      have F2c : FG (fun a k => 12 ≤ a ∧ a ≤ 16 ∧ k = ns) shT fj σ τ2 := FG_t F1c (FG_f q7 (fun a k z => Or.inl z))
      have F2r : FG (shR rb ns) rF fj ρ (setF υ2 91 (6 * rb + ns) (nI x0)) := FG_t F1r (FG_t (FG_n q8 (fun a k z => z)) (FG_F (Or.inl ⟨by omega, by omega, rfl⟩)))
      have hC2 : cAt (nI ns) (mkH σ) = cUp (nI ns) (mkH τ2) := by
        rw [hC, q1, Option.bind_some]
        dsimp only
        rw [if_neg (show ¬ (1 : Int32) = 0 by decide)]
      have hR2 : rAt (nI (6 * rb + ns)) (mkH ρ) = rUp (nI (6 * rb + ns)) (mkH (setF υ2 91 (6 * rb + ns) (nI x0))) := by
        rw [hR, r_aft1 L (w := 9) (by omega) (by decide +kernel) hb s2 q2, Option.bind_some]
        dsimp only
        rw [wa_91 υ2 _ hs, Option.bind_some]
      rcases two_up (σ := τ2) (ρ := setF υ2 91 (6 * rb + ns) (nI x0)) (LK_rF (by omega) q6) hrb hns (by rw [q7.2.1 11 7 (by unfold cF; omega), s4.2.1 11 7 (by unfold dT; omega)]; exact c7) (by rw [sF_ne (by omega), q8.1 81 (fun z => z), s5.1 81 (fun z => z)]; exact r1) (by rw [F2r.2.1 78 35 (by unfold rF; omega)]; exact r35) q4 q3 sF_eq (fun r h1 h2 => by rw [q7.1 (12 + r) (fun z => z), s4.1 (12 + r) (fun z => z)]; exact cz r h1 h2) with ⟨τ, υ, x, t', o1, o2, o3, o4, o5, o6, o7, o8, o9, o10, o11⟩ | ⟨τ, υ, o3, o4, o5, o10, o11⟩
      · left
        exact ⟨τ, υ, x, t', o1, o2, hC2.trans o3, hR2.trans o4, o5, by omega, o7, o8, o9, FG_t F2c o10, FG_t F2r o11⟩
      · right
        exact ⟨τ, υ, hC2.trans o3, hR2.trans o4, o5, FG_t F2c o10, FG_t F2r o11⟩
    · right
      obtain ⟨υ, v1, v2⟩ := ng_Up (ρ := setF υ2 91 (6 * rb + ns) (nI 0)) hrb hns (by
        show sI υ2 78 35 = nI rb
        rw [q5.2.1 78 35 (by unfold rF; omega), s5.2.1 78 35 (by unfold eT; omega)]; exact r35) (BAD_n q3)
      have hg : FG (shR rb ns) fe fj υ2 υ := FG_t (FG_F (Or.inl ⟨by omega, by omega, rfl⟩)) v2
      refine ⟨τ2, υ, ?_, ?_, bad_o q3 hg, FG_t F1c (FG_f q4 (fun a k z => Or.inl z)), FG_t F1r (FG_t (FG_n q5 (fun a k z => z)) (FG_e hg))⟩
      · rw [hC, q1, Option.bind_some]
        dsimp only
        rw [if_pos rfl]
      · rw [hR, r_aft1 L (w := 9) (by omega) (by decide +kernel) hb s2 q2, Option.bind_some]
        dsimp only
        rw [wa_91 υ2 _ hs, Option.bind_some, v1]
  · right
    obtain ⟨τ2, υ2, q1, -, q2, q3, q4, q5⟩ := two_no L
    obtain ⟨υ, v1, v2⟩ := ng_Up (ρ := setF υ2 91 (6 * rb + ns) (nI 0)) hrb hns (by
      show sI υ2 78 35 = nI rb
      rw [q5.2.1 78 35 (by unfold rF; omega)]; exact r35) (BAD_n q3)
    have hg : FG (shR rb ns) fe fj υ2 υ := FG_t (FG_F (Or.inl ⟨by omega, by omega, rfl⟩)) v2
    refine ⟨τ2, υ, ?_, ?_, bad_o q3 hg, FG_f q4 (fun a k z => Or.inl z), FG_t (FG_n q5 (fun a k z => z)) (FG_e hg)⟩
    · unfold cAt xX3_takeWord
      rw [is_10, gu_t, gu_t, nl_9, c_isW L (by omega), Option.bind_some]
      dsimp only
      rw [if_neg hb, if_pos rfl, is_10, gu_t, q1, Option.bind_some]
      dsimp only
      rw [zr0, Option.bind_some]
      dsimp only
      rw [if_pos rfl]
    · rw [hR]
      unfold xX9_after
      rw [is_78, gu_t, r_isW L (w := 9) (by omega) (by decide +kernel), Option.bind_some]
      dsimp only
      rw [if_neg hb, is_78, gu_t, q2, Option.bind_some, is_78, gu_t, ng_num (BAD_n q3), Option.bind_some, Option.bind_some]
      dsimp only
      rw [wa_91 υ2 _ hs, Option.bind_some, v1]
theorem sg_j {x y : Nat} (hx : x < 256) (hy : y < 256) : sgn x = sgn y ↔ x = y := by
  constructor
  · intro h
    have h1 := (sg_1 x hx).2.2.2.2.2.2
    have h2 := (sg_1 y hy).2.2.2.2.2.2
    rw [h, h2] at h1
    exact ((nI_eq (by omega) (by omega)).mp h1).symm
  · intro h; rw [h]
theorem c_same {σ : ZS} {u : Nat → Nat} {n p a m : Nat} (T : TC σ u n) (hp : p + m ≤ n) (ha : a + m ≤ n) : xX3_sameBytes 10 (nI p) (nI a) (nI m) (mkH σ) = some (if (decide (∀ k, k < m → u (p + k) = u (a + k))) = true then 1 else 0, mkH σ) := by
  have hn := T.2.2.1
  have key := lpA (fun e k => xX3_sameBytes_L3 e 10 (nI p) (nI a) (nI m) (nI k) (mkH σ)) m (fun k => u (p + k) = u (a + k)) (some (0, mkH σ)) (some (1, mkH σ)) (by omega) (fun e k hk => by
    obtain ⟨x1, x2⟩ := T.2.2.2 (p + k) (by omega)
    obtain ⟨y1, y2⟩ := T.2.2.2 (a + k) (by omega)
    have hB : xX3_sameBytes_L3 (e + 1) 10 (nI p) (nI a) (nI m) (nI k) (mkH σ) = if sgn (u (p + k)) = sgn (u (a + k)) then xX3_sameBytes_L3 e 10 (nI p) (nI a) (nI m) (nI (k + 1)) (mkH σ) else some (0, mkH σ) := by
      show xX3_sameBytes_B3 (xX3_sameBytes_L3 e) 10 (nI p) (nI a) (nI m) (nI k) (mkH σ) = _
      generalize xX3_sameBytes_L3 e = nl
      unfold xX3_sameBytes_B3
      rw [if_neg (fun z => by have := (nI_leI (by omega) (by omega)).mp z; omega), rTx σ T.1, Option.bind_some, nI_add, ra_9 σ (show p + k < 1600 by omega), Option.bind_some, Option.bind_some, nI_add, ra_9 σ (show a + k < 1600 by omega), Option.bind_some, x2, y2, nI_s]
    refine ⟨fun h => hB.trans (if_pos (by rw [h])), fun h => hB.trans (if_neg (fun z => h ((sg_j x1 y1).mp z)))⟩) (fun e => by
    show xX3_sameBytes_B3 (xX3_sameBytes_L3 e) 10 (nI p) (nI a) (nI m) (nI m) (mkH σ) = _
    unfold xX3_sameBytes_B3
    rw [if_pos (Int32.le_refl _)])
  unfold xX3_sameBytes
  by_cases h : ∀ k, k < m → u (p + k) = u (a + k)
  · rw [decide_eq_true h, if_pos rfl]
    exact key.1 h
  · rw [decide_eq_false h, if_neg (by decide)]
    refine key.2 ?_
    exact Classical.byContradiction (fun z => h (fun k hk => Classical.byContradiction (fun y => z ⟨k, hk, y⟩)))
