/-! class and reference in step: tokens, words, signs, numbers, faults -/
def TK (v : Nat → Nat) (n : Nat) (t : ZT) : Prop := ∃ p, p ≤ n ∧ t = lex v n p
def nx (v : Nat → Nat) (n : Nat) (t : ZT) : ZT := lex v n t.2.1
theorem TK_nx {v : Nat → Nat} {n : Nat} {t : ZT} (h : TK v n t) : TK v n (nx v n t) ∧ t.1 ≤ t.2.1 ∧ t.2.1 ≤ n ∧ t.2.1 ≤ (nx v n t).1 := by
  obtain ⟨p, hp, rfl⟩ := h
  have h1 := lA_le (v := v) hp
  have h2 := lE_le (v := v) h1.2
  have h3 := lA_le (v := v) (p := lE v n (lA v n p)) h2.2
  exact ⟨⟨_, h2.2, rfl⟩, h2.1, h2.2, h3.1⟩
theorem lE_gt {v : Nat → Nat} {n a : Nat} (h : a < n) : a < lE v n a := by
  unfold lE
  rw [if_neg (by omega)]
  split
  · rename_i hl
    rw [show n - a = n - a - 1 + 1 by omega, run_1 (t := fun k => isL (v k)) hl]
    have := run_ge (t := fun k => isL (v k)) (n - a - 1) (a + 1)
    omega
  · split
    · rename_i hl
      rw [show n - a = n - a - 1 + 1 by omega, run_1 (t := fun k => isD (v k)) hl]
      have := run_ge (t := fun k => isD (v k)) (n - a - 1) (a + 1)
      omega
    · omega
theorem nm_b {v : Nat → Nat} {a : Nat} : ∀ m, (∀ k, k < m → isD (v (a + k)) = true) → nmV v a m < 10 ^ m := by
  intro m
  induction m with
  | zero => intro _; show 0 < 1; omega
  | succ m ih =>
    intro h
    have h1 := ih (fun k hk => h k (by omega))
    have h2 := of_decide_eq_true (h m (by omega))
    rw [nm_s, Nat.pow_succ]
    omega
/-- what a token may be -/
theorem TK_b {v : Nat → Nat} {n : Nat} {t : ZT} (h : TK v n t) : t.2.2.1 ≤ 4 ∧ (t.2.2.1 = 1 → t.2.2.2 ≤ 19 ∧ t.2.1 - t.1 ≤ 8 ∧ (∀ k, k < t.2.1 - t.1 → isL (v (t.1 + k)) = true) ∧ (t.2.2.2 < 19 → pkW v t.1 (t.2.1 - t.1) = kW t.2.2.2)) ∧ (t.2.2.1 = 2 → t.2.2.2 < 10000) ∧ (t.2.2.1 = 3 → t.2.2.2 = v t.1 ∧ isG t.2.2.2 = true) ∧ (t.2.2.1 ≠ 0 → t.1 < n ∧ t.1 < t.2.1) := by
  obtain ⟨p, hp, rfl⟩ := h
  have h1 := lA_le (v := v) hp
  unfold lex
  generalize lA v n p = a at *
  show lK v n a (lE v n a) ≤ 4 ∧ (lK v n a (lE v n a) = 1 → lV v n a (lE v n a) ≤ 19 ∧ lE v n a - a ≤ 8 ∧ (∀ k, k < lE v n a - a → isL (v (a + k)) = true) ∧ (lV v n a (lE v n a) < 19 → pkW v a (lE v n a - a) = kW (lV v n a (lE v n a)))) ∧ (lK v n a (lE v n a) = 2 → lV v n a (lE v n a) < 10000) ∧ (lK v n a (lE v n a) = 3 → lV v n a (lE v n a) = v a ∧ isG (lV v n a (lE v n a)) = true) ∧ (lK v n a (lE v n a) ≠ 0 → a < n ∧ a < lE v n a)
  by_cases han : n ≤ a
  · have hK : lK v n a (lE v n a) = 0 := by unfold lK; rw [if_pos han]
    rw [hK]
    exact ⟨by omega, fun z => by omega, fun z => by omega, fun z => by omega, fun z => absurd rfl z⟩
  · have hgt := lE_gt (v := v) (show a < n by omega)
    by_cases hl : isL (v a) = true
    · have hK : lK v n a (lE v n a) = if lE v n a - a ≤ 8 then 1 else 4 := by
        unfold lK
        rw [if_neg han, if_pos hl]
      have hV : lV v n a (lE v n a) = wIx v a (lE v n a - a) := by
        unfold lV
        rw [if_pos hl]
      have hE2 : lE v n a = run (fun k => isL (v k)) (n - a) a := by
        unfold lE
        rw [if_neg han, if_pos hl]
      have hlet : ∀ j, a ≤ j → j < lE v n a → isL (v j) = true := fun j h1 h2 => run_in (t := fun k => isL (v k)) (n - a) a j h1 (by rw [← hE2]; exact h2)
      rw [hK, hV]
      by_cases h8 : lE v n a - a ≤ 8
      · rw [if_pos h8]
        exact ⟨by omega, fun _ => ⟨wx_le, h8, fun k hk => hlet _ (by omega) (by omega), fun hw => (wx_y hw).2⟩, fun z => by omega, fun z => by omega, fun _ => ⟨by omega, hgt⟩⟩
      · rw [if_neg h8]
        exact ⟨by omega, fun z => by omega, fun z => by omega, fun z => by omega, fun _ => ⟨by omega, hgt⟩⟩
    · by_cases hd : isD (v a) = true
      · have hK : lK v n a (lE v n a) = if lE v n a - a ≤ 4 ∧ isL (v (lE v n a)) = false then 2 else 4 := by
          unfold lK
          rw [if_neg han, if_neg hl, if_pos hd]
        have hV : lV v n a (lE v n a) = nmV v a (lE v n a - a) := by
          unfold lV
          rw [if_neg hl, if_pos hd]
        have hE2 : lE v n a = run (fun k => isD (v k)) (n - a) a := by
          unfold lE
          rw [if_neg han, if_neg hl, if_pos hd]
        have hdig : ∀ j, a ≤ j → j < lE v n a → isD (v j) = true := fun j h1 h2 => run_in (t := fun k => isD (v k)) (n - a) a j h1 (by rw [← hE2]; exact h2)
        rw [hK, hV]
        by_cases h4 : lE v n a - a ≤ 4 ∧ isL (v (lE v n a)) = false
        · rw [if_pos h4]
          refine ⟨by omega, fun z => by omega, fun _ => ?_, fun z => by omega, fun _ => ⟨by omega, hgt⟩⟩
          have h5 := nm_b (v := v) (a := a) (lE v n a - a) (fun k hk => hdig _ (by omega) (by omega))
          have h6 : 10 ^ (lE v n a - a) ≤ 10 ^ 4 := Nat.pow_le_pow_right (by omega) h4.1
          omega
        · rw [if_neg h4]
          exact ⟨by omega, fun z => by omega, fun z => by omega, fun z => by omega, fun _ => ⟨by omega, hgt⟩⟩
      · have hK : lK v n a (lE v n a) = if isG (v a) = true then 3 else 4 := by
          unfold lK
          rw [if_neg han, if_neg hl, if_neg hd]
        have hV : lV v n a (lE v n a) = v a := by
          unfold lV
          rw [if_neg hl, if_neg hd]
        rw [hK, hV]
        by_cases hg : isG (v a) = true
        · rw [if_pos hg]
          exact ⟨by omega, fun z => by omega, fun z => by omega, fun _ => ⟨rfl, hg⟩, fun _ => ⟨by omega, hgt⟩⟩
        · rw [if_neg hg]
          exact ⟨by omega, fun z => by omega, fun z => by omega, fun z => by omega, fun _ => ⟨by omega, hgt⟩⟩
theorem TK_v {v : Nat → Nat} {n : Nat} {t : ZT} (h : TK v n t) : (t.2.2.1 = 1 ∨ t.2.2.1 = 2 ∨ t.2.2.1 = 3) → t.2.2.2 < 10000 := by
  obtain ⟨-, h1, h2, h3, -⟩ := TK_b h
  rintro (z | z | z)
  · have := (h1 z).1; omega
  · exact h2 z
  · have := of_decide_eq_true (h3 z).2; omega
/-- both at the same token, no fault yet -/
def LK (σ ρ : ZS) (u : Nat → Nat) (n : Nat) (t : ZT) : Prop := TC σ u n ∧ TR ρ u n ∧ CT σ t ∧ RT ρ (gu0 u n) t ∧ TK (gu0 u n) n t ∧ sI ρ 78 4 = 0 ∧ sI σ 10 1 = 0 ∧ sI σ 10 2 = -1 ∧ sI ρ 78 5 = -1
def BAD (σ ρ : ZS) : Prop := ∃ f a, 1 ≤ f ∧ f ≤ 4 ∧ a ≤ 1600 ∧ sI σ 10 1 = nI f ∧ sI σ 10 2 = nI a ∧ sI ρ 78 4 = nI f ∧ sI ρ 78 5 = nI a ∧ sI ρ 78 6 = nI a
/-- fields that reading changes: the class's, the reference's -/
def cF (a k : Nat) : Prop := a = 10 ∧ k ≠ 4 ∧ k ≠ 9
def rF (a k : Nat) : Prop := a = 78 ∧ 4 ≤ k ∧ k ≤ 9
theorem LK_c {S : Nat → Prop} {T : Nat → Nat → Prop} {σ ρ τ : ZS} {u : Nat → Nat} {n : Nat} {t : ZT} (h : FR S T σ τ) (hS : ¬ S 9) (hT : ∀ k, 1 ≤ k → k ≤ 8 → ¬ T 10 k) (L : LK σ ρ u n t) : LK τ ρ u n t := by
  obtain ⟨l1, l2, l3, l4, l5, l6, l7⟩ := L
  refine ⟨TC_f h hS (hT 4 (by omega) (by omega)) l1, l2, ?_, l4, l5, l6, by rw [h.2.1 10 1 (hT 1 (by omega) (by omega))]; exact l7.1, by rw [h.2.1 10 2 (hT 2 (by omega) (by omega))]; exact l7.2.1, l7.2.2⟩
  unfold CT
  rw [h.2.1 10 5 (hT 5 (by omega) (by omega)), h.2.1 10 6 (hT 6 (by omega) (by omega)), h.2.1 10 7 (hT 7 (by omega) (by omega)), h.2.1 10 8 (hT 8 (by omega) (by omega))]
  exact l3
theorem LK_r {S : Nat → Prop} {T : Nat → Nat → Prop} {σ ρ υ : ZS} {u : Nat → Nat} {n : Nat} {t : ZT} (h : FN S T ρ υ) (hN : sN υ = sN ρ) (hS : ¬ S 80) (hT : ∀ k, 3 ≤ k → k ≤ 9 → ¬ T 78 k) (L : LK σ ρ u n t) : LK σ υ u n t := by
  obtain ⟨l1, l2, l3, l4, l5, l6, l7⟩ := L
  refine ⟨l1, TR_f h hS (hT 3 (by omega) (by omega)) l2, l3, ?_, l5, by rw [h.2.1 78 4 (hT 4 (by omega) (by omega))]; exact l6, l7.1, l7.2.1, by rw [h.2.1 78 5 (hT 5 (by omega) (by omega))]; exact l7.2.2⟩
  unfold RT
  rw [hN, h.2.1 78 6 (hT 6 (by omega) (by omega)), h.2.1 78 7 (hT 7 (by omega) (by omega)), h.2.1 78 8 (hT 8 (by omega) (by omega)), h.2.1 78 9 (hT 9 (by omega) (by omega))]
  exact l4
theorem FR_N {S : Nat → Prop} {T : Nat → Nat → Prop} {σ τ : ZS} (h : FR S T σ τ) : sN τ = sN σ := by
  show τ.2.2.1 = σ.2.2.1
  rw [h.2.2]
theorem LK_s {σ ρ : ZS} {u : Nat → Nat} {n : Nat} {t : ZT} (L : LK σ ρ u n t) : ∃ τ υ, xX3_advance 10 (mkH σ) = some (mkH τ) ∧ xX9_goOn 78 (mkH ρ) = some (mkH υ) ∧ LK τ υ u n (nx (gu0 u n) n t) ∧ FR (fun _ => False) dT σ τ ∧ FN (fun _ => False) eT ρ υ := by
  obtain ⟨l1, l2, l3, l4, l5, l6, l7⟩ := L
  obtain ⟨k1, k2, k3, k4⟩ := TK_nx l5
  obtain ⟨τ, t1, t2, t3⟩ := c_adv l1 k3 l3.2.1
  obtain ⟨υ, v1, v2, v3⟩ := r_adv l2 k3 l4.2.1
  exact ⟨τ, υ, t1, v1, ⟨TC_f t3 (fun z => z) (by unfold dT; omega) l1, TR_f v3 (fun z => z) (by unfold eT; omega) l2, t2, v2, k1, by rw [v3.2.1 78 4 (by unfold eT; omega)]; exact l6, by rw [t3.2.1 10 1 (by unfold dT; omega)]; exact l7.1, by rw [t3.2.1 10 2 (by unfold dT; omega)]; exact l7.2.1, by rw [v3.2.1 78 5 (by unfold eT; omega)]; exact l7.2.2⟩, t3, v3⟩
theorem dT_cF {a k : Nat} (h : dT a k) : cF a k := by unfold dT at h; unfold cF; omega
theorem eT_rF {a k : Nat} (h : eT a k) : rF a k := by unfold eT at h; unfold rF; omega
theorem zr0 {h : ZH} : z_zr 0 h = some (0, h) := if_pos (Or.inl rfl)
theorem zr1 {h : ZH} : z_zr 1 h = some (1, h) := if_pos (Or.inr rfl)
def fkd (t : ZT) : Nat := if t.2.2.1 = 4 then 1 else 2
theorem c_fail {σ : ZS} {a : Nat} (f : Nat) (h5 : sI σ 10 5 = nI a) : xX3_fail 10 (nI f) (mkH σ) = some (0, mkH (setI (setI σ 10 1 (nI f)) 10 2 (nI a))) := by
  have g5 : sI (setI σ 10 1 (nI f)) 10 5 = nI a := by rw [sI_ne (by omega)]; exact h5
  unfold xX3_fail
  rw [wI_10_1, Option.bind_some, rI_10_5, Option.bind_some, g5, wI_10_2, Option.bind_some]
theorem c_ref {σ ρ : ZS} {u : Nat → Nat} {n : Nat} {t : ZT} (L : LK σ ρ u n t) : xX3_refuse 10 (mkH σ) = some (0, mkH (setI (setI σ 10 1 (nI (fkd t))) 10 2 (nI t.1))) := by
  obtain ⟨l1, l2, l3, l4, l5, l6, l7⟩ := L
  have hk := (TK_b l5).1
  unfold xX3_refuse fkd
  rw [rI_10_7, Option.bind_some, l3.2.2.1]
  by_cases h4 : t.2.2.1 = 4
  · rw [h4, if_pos (show nI 4 = (4 : Int32) from rfl), is_10, gu_t, nl_1, c_fail 1 l3.1, Option.bind_some]
    dsimp only
    rw [zr0]
    rfl
  · rw [if_neg (show ¬ nI t.2.2.1 = (4 : Int32) from nq (b := 4) (by omega) (by omega) h4), is_10, gu_t, nl_2, c_fail 2 l3.1, Option.bind_some]
    dsimp only
    rw [zr0, if_neg h4]
theorem r_good {ρ : ZS} (h : sI ρ 78 4 = 0) : xX9_isGood 78 (mkH ρ) = some (1, mkH ρ) := by
  unfold xX9_isGood
  rw [rI_78_4, Option.bind_some, h, if_pos rfl]
theorem r_bad {ρ : ZS} (h : ¬ sI ρ 78 4 = 0) : xX9_isGood 78 (mkH ρ) = some (0, mkH ρ) := by
  unfold xX9_isGood
  rw [rI_78_4, Option.bind_some, if_neg h]
theorem r_fails {ρ : ZS} {f a : Int32} (h : sI ρ 78 4 = 0) : xX9_fails 78 f a (mkH ρ) = some (mkH (setI (setI ρ 78 4 f) 78 5 a)) := by
  unfold xX9_fails
  rw [rI_78_4, Option.bind_some, h, if_pos (Int32.le_refl _), wI_78_4, Option.bind_some, wI_78_5, Option.bind_some]
theorem r_fails0 {ρ : ZS} {f a : Int32} {g : Nat} (h : sI ρ 78 4 = nI g) (h1 : 1 ≤ g) (h2 : g ≤ 4) : xX9_fails 78 f a (mkH ρ) = some (mkH ρ) := by
  unfold xX9_fails
  rw [rI_78_4, Option.bind_some, h, if_neg (show ¬ nI g ≤ 0 from fun z => by rw [nl_0] at z; have := (nI_leI (by omega) (by omega)).mp z; omega)]
theorem rtk_1 {k v : Nat} (hk : k ≤ 4) : rtk k v = 1 ↔ k = 4 := by
  unfold rtk
  by_cases h0 : k = 0
  · rw [if_pos h0]; omega
  · rw [if_neg h0]
    by_cases h1 : k = 1
    · rw [if_pos h1]; split <;> omega
    · rw [if_neg h1]
      by_cases h2 : k = 2
      · rw [if_pos h2]; omega
      · rw [if_neg h2]
        by_cases h3 : k = 3
        · rw [if_pos h3]; omega
        · rw [if_neg h3]; omega
theorem rtk_b {k v : Nat} : rtk k v ≤ 5 := by
  unfold rtk
  repeat' split
  all_goals omega
theorem r_mis {σ ρ : ZS} {u : Nat → Nat} {n : Nat} {t : ZT} (L : LK σ ρ u n t) : xX9_misplaced 78 (mkH ρ) = some (mkH (setI (setI ρ 78 4 (nI (fkd t))) 78 5 (nI t.1))) := by
  obtain ⟨l1, l2, l3, l4, l5, l6, l7⟩ := L
  have hk := (TK_b l5).1
  have hb := rtk_b (k := t.2.2.1) (v := t.2.2.2)
  unfold xX9_misplaced fkd
  rw [rI_78_8, Option.bind_some, l4.2.2.1]
  by_cases h4 : t.2.2.1 = 4
  · rw [if_pos (show nI (rtk t.2.2.1 t.2.2.2) = (1 : Int32) from by rw [(rtk_1 hk).mpr h4]; rfl), rI_78_6, Option.bind_some, l4.1, is_78, gu_t, r_fails l6, Option.bind_some, if_pos h4]
    rfl
  · rw [if_neg (show ¬ nI (rtk t.2.2.1 t.2.2.2) = (1 : Int32) from nq (b := 1) (by omega) (by omega) (fun z => h4 ((rtk_1 hk).mp z))), rI_78_6, Option.bind_some, l4.1, is_78, gu_t, r_fails l6, Option.bind_some, if_neg h4]
    rfl
theorem BAD_2 {σ ρ : ZS} {f a : Nat} (h1 : 1 ≤ f) (h2 : f ≤ 4) (ha : a ≤ 1600) (h6 : sI ρ 78 6 = nI a) : BAD (setI (setI σ 10 1 (nI f)) 10 2 (nI a)) (setI (setI ρ 78 4 (nI f)) 78 5 (nI a)) := ⟨f, a, h1, h2, ha, by rw [sI_ne (by omega), sI_eq], sI_eq, by rw [sI_ne (by omega), sI_eq], sI_eq, by rw [sI_ne (by omega), sI_ne (by omega)]; exact h6⟩
theorem FR_bad {σ : ZS} {f a : Int32} : FR (fun _ => False) cF σ (setI (setI σ 10 1 f) 10 2 a) := FR_t (FR_I ⟨rfl, by omega, by omega⟩) (FR_I ⟨rfl, by omega, by omega⟩)
theorem FN_bad {ρ : ZS} {f a : Int32} : FN (fun _ => False) rF ρ (setI (setI ρ 78 4 f) 78 5 a) := FN_t (FN_I ⟨rfl, by omega, by omega⟩) (FN_I ⟨rfl, by omega, by omega⟩)
theorem LK_a {σ ρ : ZS} {u : Nat → Nat} {n : Nat} {t : ZT} (L : LK σ ρ u n t) : t.1 ≤ 1600 := by
  have h1 := TK_nx L.2.2.2.2.1
  have h2 := L.1.2.2.1
  omega
/-- refused here by both -/
theorem two_no {σ ρ : ZS} {u : Nat → Nat} {n : Nat} {t : ZT} (L : LK σ ρ u n t) : ∃ τ υ, xX3_refuse 10 (mkH σ) = some (0, mkH τ) ∧ xX9_misplaced 78 (mkH ρ) = some (mkH υ) ∧ xX9_must 78 0 (mkH ρ) = some (mkH υ) ∧ BAD τ υ ∧ FR (fun _ => False) cF σ τ ∧ FN (fun _ => False) rF ρ υ := by
  refine ⟨_, _, c_ref L, r_mis L, ?_, BAD_2 (by unfold fkd; split <;> omega) (by unfold fkd; split <;> omega) (LK_a L) L.2.2.2.1.1, FR_bad, FN_bad⟩
  unfold xX9_must
  rw [is_78, gu_t, r_good L.2.2.2.2.2.1, Option.bind_some]
  dsimp only
  rw [if_neg (show ¬ (1 : Int32) = 0 by decide), if_pos rfl, is_78, gu_t, r_mis L, Option.bind_some]
theorem r_must1 {ρ υ : ZS} (h : sI ρ 78 4 = 0) (g : xX9_goOn 78 (mkH ρ) = some (mkH υ)) : xX9_must 78 1 (mkH ρ) = some (mkH υ) := by
  unfold xX9_must
  rw [is_78, gu_t, r_good h, Option.bind_some]
  dsimp only
  rw [if_neg (show ¬ (1 : Int32) = 0 by decide), if_neg (show ¬ (1 : Int32) = 0 by decide), is_78, gu_t, g, Option.bind_some]
theorem ng_must {ρ : ZS} {b : Int32} (h : ¬ sI ρ 78 4 = 0) : xX9_must 78 b (mkH ρ) = some (mkH ρ) := by
  unfold xX9_must
  rw [is_78, gu_t, r_bad h, Option.bind_some]
  dsimp only
  rw [if_pos rfl]
theorem ng_num {ρ : ZS} {l m : Int32} (h : ¬ sI ρ 78 4 = 0) : xX9_numeral 78 l m (mkH ρ) = some (l, mkH ρ) := by
  unfold xX9_numeral
  rw [is_78, gu_t, r_bad h, Option.bind_some]
  dsimp only
  rw [if_pos rfl]
theorem ng_word {ρ : ZS} (c : Int64) : ∃ b, xX9_isWord 78 c (mkH ρ) = some (b, mkH ρ) := by
  unfold xX9_isWord
  rw [rI_78_8, Option.bind_some]
  by_cases h : sI ρ 78 8 = 3
  · rw [if_pos h, rName, Option.bind_some]
    by_cases h2 : lg_cmp (sN ρ) c = 0
    · rw [if_pos h2]; exact ⟨_, rfl⟩
    · rw [if_neg h2]; exact ⟨_, rfl⟩
  · rw [if_neg h]; exact ⟨_, rfl⟩
theorem ng_aft {ρ : ZS} {c : Int64} {l m : Int32} (h : ¬ sI ρ 78 4 = 0) : xX9_after 78 c l m (mkH ρ) = some (l, mkH ρ) := by
  obtain ⟨b, hb⟩ := ng_word (ρ := ρ) c
  unfold xX9_after
  rw [is_78, gu_t, hb, Option.bind_some]
  dsimp only
  rw [is_78, gu_t, ng_must h, Option.bind_some, is_78, gu_t, ng_num h, Option.bind_some]
theorem BAD_n {σ ρ : ZS} (h : BAD σ ρ) : ¬ sI ρ 78 4 = 0 := by
  obtain ⟨f, a, h1, h2, -, -, -, h3, -⟩ := h
  rw [h3, nl_0]
  exact nq (by omega) (by omega) (by omega)
theorem kW_i : ∀ j, j < 19 → ∀ k, k < 19 → kW j = kW k → j = k := by decide +kernel
theorem kW_l : ∀ j, j < 19 → kW j < 2 ^ 63 := by decide +kernel
def wB (t : ZT) (w : Nat) : Bool := decide (t.2.2.1 = 1 ∧ t.2.2.2 = w)
def sB (t : ZT) (w : Nat) : Bool := decide (t.2.2.1 = 3 ∧ t.2.2.2 = w)
theorem c_isW {σ ρ : ZS} {u : Nat → Nat} {n : Nat} {t : ZT} (L : LK σ ρ u n t) {w : Nat} (hw : w < 2 ^ 31) : xX3_isWord 10 (nI w) (mkH σ) = some (if wB t w then 1 else 0, mkH σ) := by
  obtain ⟨l1, l2, l3, l4, l5, l6, l7⟩ := L
  have hk := (TK_b l5).1
  unfold xX3_isWord wB
  rw [rI_10_7, Option.bind_some, l3.2.2.1]
  by_cases h : t.2.2.1 = 1
  · have hv := TK_v l5 (Or.inl h)
    rw [if_pos (show nI t.2.2.1 = (1 : Int32) from by rw [h]; rfl), rI_10_8, Option.bind_some, l3.2.2.2 (Or.inl h)]
    by_cases h2 : t.2.2.2 = w
    · rw [if_pos (show nI t.2.2.2 = nI w by rw [h2]), decide_eq_true ⟨h, h2⟩]; rfl
    · rw [if_neg (nq (by omega) hw h2), decide_eq_false (fun z => h2 z.2)]; rfl
  · rw [if_neg (show ¬ nI t.2.2.1 = (1 : Int32) from nq (b := 1) (by omega) (by omega) h), decide_eq_false (fun z => h z.1)]; rfl
theorem c_isS {σ ρ : ZS} {u : Nat → Nat} {n : Nat} {t : ZT} (L : LK σ ρ u n t) {w : Nat} (hw : w < 2 ^ 31) : xX3_isSign 10 (nI w) (mkH σ) = some (if sB t w then 1 else 0, mkH σ) := by
  obtain ⟨l1, l2, l3, l4, l5, l6, l7⟩ := L
  have hk := (TK_b l5).1
  unfold xX3_isSign sB
  rw [rI_10_7, Option.bind_some, l3.2.2.1]
  by_cases h : t.2.2.1 = 3
  · have hv := TK_v l5 (Or.inr (Or.inr h))
    rw [if_pos (show nI t.2.2.1 = (3 : Int32) from by rw [h]; rfl), rI_10_8, Option.bind_some, l3.2.2.2 (Or.inr (Or.inr h))]
    by_cases h2 : t.2.2.2 = w
    · rw [if_pos (show nI t.2.2.2 = nI w by rw [h2]), decide_eq_true ⟨h, h2⟩]; rfl
    · rw [if_neg (nq (by omega) hw h2), decide_eq_false (fun z => h2 z.2)]; rfl
  · rw [if_neg (show ¬ nI t.2.2.1 = (3 : Int32) from nq (b := 3) (by omega) (by omega) h), decide_eq_false (fun z => h z.1)]; rfl
theorem rtk_i {k v : Nat} (hk : k ≤ 4) : (rtk k v = 3 ↔ k = 1 ∧ v < 19) ∧ (rtk k v = 2 ↔ k = 1 ∧ ¬ v < 19) ∧ (rtk k v = 4 ↔ k = 2) ∧ (rtk k v = 5 ↔ k = 3) ∧ (rtk k v = 0 ↔ k = 0) := by
  unfold rtk
  by_cases h0 : k = 0
  · rw [if_pos h0]; omega
  · rw [if_neg h0]
    by_cases h1 : k = 1
    · rw [if_pos h1]
      by_cases hv : v < 19
      · rw [if_pos hv]; omega
      · rw [if_neg hv]; omega
    · rw [if_neg h1]
      by_cases h2 : k = 2
      · rw [if_pos h2]; omega
      · rw [if_neg h2]
        by_cases h3 : k = 3
        · rw [if_pos h3]; omega
        · rw [if_neg h3]; omega
theorem r_isW {σ ρ : ZS} {u : Nat → Nat} {n : Nat} {t : ZT} (L : LK σ ρ u n t) {w : Nat} {c : Int64} (hw : w < 19) (hc : c = jN (kW w)) : xX9_isWord 78 c (mkH ρ) = some (if wB t w then 1 else 0, mkH ρ) := by
  obtain ⟨l1, l2, l3, l4, l5, l6, l7⟩ := L
  obtain ⟨hk, h1, -⟩ := TK_b l5
  have hb := rtk_b (k := t.2.2.1) (v := t.2.2.2)
  have hi := (rtk_i (v := t.2.2.2) hk).1
  unfold xX9_isWord wB
  rw [rI_78_8, Option.bind_some, l4.2.2.1]
  by_cases h : t.2.2.1 = 1 ∧ t.2.2.2 < 19
  · rw [if_pos (show nI (rtk t.2.2.1 t.2.2.2) = (3 : Int32) from by rw [hi.mpr h]; rfl), rName, Option.bind_some, l4.2.2.2.1 h.1, (h1 h.1).2.2.2 h.2, hc]
    by_cases h2 : t.2.2.2 = w
    · rw [if_pos (lg_i.mpr (by rw [h2])), decide_eq_true ⟨h.1, h2⟩]; rfl
    · rw [if_neg (fun z => h2 (kW_i _ h.2 _ hw ((lg_n (kW_l _ h.2) (kW_l _ hw)).mp z))), decide_eq_false (fun z => h2 z.2)]; rfl
  · rw [if_neg (show ¬ nI (rtk t.2.2.1 t.2.2.2) = (3 : Int32) from nq (b := 3) (by omega) (by omega) (fun z => h (hi.mp z))), decide_eq_false (fun z => h ⟨z.1, by omega⟩)]; rfl
theorem r_isSg {σ ρ : ZS} {u : Nat → Nat} {n : Nat} {t : ZT} (L : LK σ ρ u n t) {w : Nat} (hw : w < 2 ^ 31) : xX9_isSignHere 78 (nI w) (mkH ρ) = some (if sB t w then 1 else 0, mkH ρ) := by
  obtain ⟨l1, l2, l3, l4, l5, l6, l7⟩ := L
  obtain ⟨hk, -, -, h3, h4⟩ := TK_b l5
  have hn := l2.2.1
  have hb := rtk_b (k := t.2.2.1) (v := t.2.2.2)
  have hi := (rtk_i (v := t.2.2.2) hk).2.2.2.1
  unfold xX9_isSignHere sB
  rw [rI_78_8, Option.bind_some, l4.2.2.1]
  by_cases h : t.2.2.1 = 3
  · have hlt := (h4 (by omega)).1
    have hv := TK_v l5 (Or.inr (Or.inr h))
    rw [if_pos (show nI (rtk t.2.2.1 t.2.2.2) = (5 : Int32) from by rw [hi.mpr h]; rfl), rI_78_6, Option.bind_some, l4.1, is_78, gu_t, r_sign l2 (by omega), Option.bind_some, ← (h3 h).1]
    dsimp only
    by_cases h2 : t.2.2.2 = w
    · rw [if_pos (show nI t.2.2.2 = nI w by rw [h2]), decide_eq_true ⟨h, h2⟩]; rfl
    · rw [if_neg (nq (by omega) hw h2), decide_eq_false (fun z => h2 z.2)]; rfl
  · rw [if_neg (show ¬ nI (rtk t.2.2.1 t.2.2.2) = (5 : Int32) from nq (b := 5) (by omega) (by omega) (fun z => h (hi.mp z))), decide_eq_false (fun z => h z.1)]; rfl
/-- a number of lo to hi -/
theorem two_num {σ ρ : ZS} {u : Nat → Nat} {n : Nat} {t : ZT} (L : LK σ ρ u n t) {lo hi : Nat} (hlo : lo < 2 ^ 31) (hhi : hi < 2 ^ 31) : (∃ τ υ, xX3_takeNumber 10 (nI lo) (nI hi) (mkH σ) = some (1, mkH τ) ∧ xX9_numeral 78 (nI lo) (nI hi) (mkH ρ) = some (nI t.2.2.2, mkH υ) ∧ sI τ 10 10 = nI t.2.2.2 ∧ lo ≤ t.2.2.2 ∧ t.2.2.2 ≤ hi ∧ t.1 < (nx (gu0 u n) n t).1 ∧ LK τ υ u n (nx (gu0 u n) n t) ∧ FR (fun _ => False) cF σ τ ∧ FN (fun _ => False) rF ρ υ) ∨ (∃ τ υ, xX3_takeNumber 10 (nI lo) (nI hi) (mkH σ) = some (0, mkH τ) ∧ xX9_numeral 78 (nI lo) (nI hi) (mkH ρ) = some (nI lo, mkH υ) ∧ BAD τ υ ∧ FR (fun _ => False) cF σ τ ∧ FN (fun _ => False) rF ρ υ) := by
  have L0 := L
  obtain ⟨l1, l2, l3, l4, l5, l6, l7⟩ := L
  obtain ⟨hk, -, h2, -, h4⟩ := TK_b l5
  have hb := rtk_b (k := t.2.2.1) (v := t.2.2.2)
  have hi4 := (rtk_i (v := t.2.2.2) hk).2.2.1
  have e53 : ∀ υ : ZS, ¬ sI υ 78 4 = 0 → ∃ x, xX9_numeral_B53 78 (nI lo) (mkH υ) = some (nI lo, mkH υ) ∧ x = sI υ 78 9 := by
    intro υ hυ
    refine ⟨_, ?_, rfl⟩
    unfold xX9_numeral_B53 xX9_numeral_B69
    rw [rI_78_9, Option.bind_some, is_78, gu_t, r_bad hυ, Option.bind_some]
    dsimp only
    rw [if_pos rfl, is_78, gu_t, r_bad hυ, Option.bind_some]
    dsimp only
    rw [if_pos rfl]
  by_cases hk2 : t.2.2.1 = 2
  · have hval := l3.2.2.2 (Or.inr (Or.inl hk2))
    have hv := h2 hk2
    have g9 := l4.2.2.2.2 hk2
    have hN21 : xX9_numeral 78 (nI lo) (nI hi) (mkH ρ) = xX9_numeral_B21 78 (nI lo) (nI hi) (mkH ρ) := by
      unfold xX9_numeral
      rw [is_78, gu_t, r_good l6, Option.bind_some]
      dsimp only
      rw [if_neg (show ¬ (1 : Int32) = 0 by decide), rI_78_8, Option.bind_some, l4.2.2.1, if_pos (show nI (rtk t.2.2.1 t.2.2.2) = (4 : Int32) from by rw [hi4.mpr hk2]; rfl)]
    have hC : xX3_takeNumber 10 (nI lo) (nI hi) (mkH σ) = if nI t.2.2.2 < nI lo then z_gu (z_is (mkH σ) 10 3) ((xX3_fail 10 (4 : Int32) (mkH σ)).bind fun r31 => z_zr r31.1 r31.2) else if nI t.2.2.2 ≤ nI hi then ((z_sF (mkH σ) 10 3 10 (.int (nI t.2.2.2))).bind fun h40 => (z_gu (z_is h40 10 3) ((xX3_advance 10 h40).bind fun h44 => some ((1 : Int32), h44)))) else z_gu (z_is (mkH σ) 10 3) ((xX3_fail 10 (4 : Int32) (mkH σ)).bind fun r31 => z_zr r31.1 r31.2) := by
      unfold xX3_takeNumber
      rw [rI_10_7, Option.bind_some, l3.2.2.1, if_pos (show nI t.2.2.1 = (2 : Int32) from by rw [hk2]; rfl), rI_10_8, hval, Option.bind_some, Option.bind_some, Option.bind_some]
    have hR : xX9_numeral 78 (nI lo) (nI hi) (mkH ρ) = if nI t.2.2.2 < nI lo then xX9_numeral_B44 78 (nI lo) (mkH ρ) else if nI t.2.2.2 ≤ nI hi then xX9_numeral_B53 78 (nI lo) (mkH ρ) else xX9_numeral_B44 78 (nI lo) (mkH ρ) := by
      rw [hN21]
      unfold xX9_numeral_B21
      rw [is_78, gu_t, r_good l6, Option.bind_some]
      dsimp only
      rw [if_neg (show ¬ (1 : Int32) = 0 by decide), rI_78_9, g9, Option.bind_some, Option.bind_some]
    rw [hC, hR]
    have hfail : (∃ τ υ, z_gu (z_is (mkH σ) 10 3) ((xX3_fail 10 (4 : Int32) (mkH σ)).bind fun r31 => z_zr r31.1 r31.2) = some (0, mkH τ) ∧ xX9_numeral_B44 78 (nI lo) (mkH ρ) = some (nI lo, mkH υ) ∧ BAD τ υ ∧ FR (fun _ => False) cF σ τ ∧ FN (fun _ => False) rF ρ υ) := by
      refine ⟨_, setI (setI ρ 78 4 (nI 4)) 78 5 (nI t.1), ?_, ?_, BAD_2 (f := 4) (a := t.1) (by omega) (by omega) (LK_a L0) L0.2.2.2.1.1, FR_bad, FN_bad⟩
      · rw [is_10, gu_t, nl_4, c_fail 4 l3.1, Option.bind_some]
        dsimp only
        rw [zr0]
      · unfold xX9_numeral_B44
        rw [rI_78_6, Option.bind_some, l4.1, is_78, gu_t, nl_4, r_fails l6, Option.bind_some]
        obtain ⟨x, x1, -⟩ := e53 (setI (setI ρ 78 4 (nI 4)) 78 5 (nI t.1)) (BAD_n (BAD_2 (σ := σ) (f := 4) (a := t.1) (by omega) (by omega) (LK_a L0) L0.2.2.2.1.1))
        exact x1
    by_cases c1 : t.2.2.2 < lo
    · right
      obtain ⟨τ, υ, q1, q2, q3, q4, q5⟩ := hfail
      refine ⟨τ, υ, ?_, ?_, q3, q4, q5⟩
      · rw [if_pos (nI_lt c1 hlo)]; exact q1
      · rw [if_pos (nI_lt c1 hlo)]; exact q2
    · by_cases c2 : t.2.2.2 ≤ hi
      · left
        have hFm : FR (fun _ => False) cF σ (setI σ 10 10 (nI t.2.2.2)) := FR_I ⟨rfl, by omega, by omega⟩
        obtain ⟨τ, υ, s1, s2, s3, s4, s5⟩ := LK_s (LK_c (FR_I (S := fun _ => False) (T := fun a k => a = 10 ∧ k = 10) (σ := σ) (v := nI t.2.2.2) ⟨rfl, rfl⟩) (fun z => z) (fun k h1 h2 => by omega) L0)
        have hnx := TK_nx l5
        refine ⟨τ, υ, ?_, ?_, ?_, by omega, c2, by have := h4 (by omega); omega, s3, FR_t hFm (FR_m s4 (fun _ z => z) (fun a k z => dT_cF z)), FN_m s5 (fun _ z => z) (fun a k z => eT_rF z)⟩
        · rw [if_neg (fun z => c1 ((nI_ltI (by omega) hlo).mp z)), if_pos (nI_le c2 hhi), wI_10_10, Option.bind_some, is_10, gu_t, s1, Option.bind_some]
        · rw [if_neg (fun z => c1 ((nI_ltI (by omega) hlo).mp z)), if_pos (nI_le c2 hhi)]
          unfold xX9_numeral_B53 xX9_numeral_B69
          rw [rI_78_9, Option.bind_some, g9, is_78, gu_t, r_good l6, Option.bind_some]
          dsimp only
          rw [if_neg (show ¬ (1 : Int32) = 0 by decide), is_78, gu_t, s2, Option.bind_some, is_78, gu_t, r_good s3.2.2.2.2.2.1, Option.bind_some]
          dsimp only
          rw [if_neg (show ¬ (1 : Int32) = 0 by decide)]
        · rw [s4.2.1 10 10 (by unfold dT; omega), sI_eq]
      · right
        obtain ⟨τ, υ, q1, q2, q3, q4, q5⟩ := hfail
        refine ⟨τ, υ, ?_, ?_, q3, q4, q5⟩
        · rw [if_neg (fun z => c1 ((nI_ltI (by omega) hlo).mp z)), if_neg (fun z => c2 ((nI_leI (by omega) hhi).mp z))]; exact q1
        · rw [if_neg (fun z => c1 ((nI_ltI (by omega) hlo).mp z)), if_neg (fun z => c2 ((nI_leI (by omega) hhi).mp z))]; exact q2
  · right
    obtain ⟨τ, υ, q1, q2, -, q3, q4, q5⟩ := two_no L0
    refine ⟨τ, υ, ?_, ?_, q3, q4, q5⟩
    · unfold xX3_takeNumber
      rw [rI_10_7, Option.bind_some, l3.2.2.1, if_neg (show ¬ nI t.2.2.1 = (2 : Int32) from nq (b := 2) (by omega) (by omega) hk2), is_10, gu_t, q1, Option.bind_some]
      dsimp only
      rw [zr0]
    · obtain ⟨x, x1, -⟩ := e53 υ (BAD_n q3)
      unfold xX9_numeral xX9_numeral_B21
      rw [is_78, gu_t, r_good l6, Option.bind_some]
      dsimp only
      rw [if_neg (show ¬ (1 : Int32) = 0 by decide), rI_78_8, Option.bind_some, l4.2.2.1, if_neg (show ¬ nI (rtk t.2.2.1 t.2.2.2) = (4 : Int32) from nq (b := 4) (by omega) (by omega) (fun z => hk2 (hi4.mp z))), is_78, gu_t, q2, Option.bind_some, is_78, gu_t, r_bad (BAD_n q3), Option.bind_some]
      dsimp only
      rw [if_pos rfl]
      exact x1
/-- a sign w, or refused -/
theorem two_sign {σ ρ : ZS} {u : Nat → Nat} {n : Nat} {t : ZT} (L : LK σ ρ u n t) {w : Nat} (hw : w < 2 ^ 31) : (∃ τ υ, xX3_takeSign 10 (nI w) (mkH σ) = some (1, mkH τ) ∧ xX9_must 78 (if sB t w then 1 else 0) (mkH ρ) = some (mkH υ) ∧ t.1 < (nx (gu0 u n) n t).1 ∧ LK τ υ u n (nx (gu0 u n) n t) ∧ FR (fun _ => False) cF σ τ ∧ FN (fun _ => False) rF ρ υ) ∨ (∃ τ υ, xX3_takeSign 10 (nI w) (mkH σ) = some (0, mkH τ) ∧ xX9_must 78 (if sB t w then 1 else 0) (mkH ρ) = some (mkH υ) ∧ BAD τ υ ∧ FR (fun _ => False) cF σ τ ∧ FN (fun _ => False) rF ρ υ) := by
  have l5 := L.2.2.2.2.1
  by_cases hb : sB t w = true
  · left
    have hk := (of_decide_eq_true hb).1
    have h4 := (TK_b l5).2.2.2.2 (by omega)
    have hnx := TK_nx l5
    obtain ⟨τ, υ, s1, s2, s3, s4, s5⟩ := LK_s L
    refine ⟨τ, υ, ?_, ?_, by omega, s3, FR_m s4 (fun _ z => z) (fun a k z => dT_cF z), FN_m s5 (fun _ z => z) (fun a k z => eT_rF z)⟩
    · unfold xX3_takeSign
      rw [is_10, gu_t, c_isS L hw, Option.bind_some]
      dsimp only
      rw [if_pos hb, if_neg (show ¬ (1 : Int32) = 0 by decide), is_10, gu_t, s1, Option.bind_some]
    · rw [if_pos hb]
      exact r_must1 L.2.2.2.2.2.1 s2
  · right
    obtain ⟨τ, υ, q1, -, q2, q3, q4, q5⟩ := two_no L
    refine ⟨τ, υ, ?_, by rw [if_neg hb]; exact q2, q3, q4, q5⟩
    unfold xX3_takeSign
    rw [is_10, gu_t, c_isS L hw, Option.bind_some]
    dsimp only
    rw [if_neg hb, if_pos rfl, is_10, gu_t, q1, Option.bind_some]
    dsimp only
    rw [zr0]
