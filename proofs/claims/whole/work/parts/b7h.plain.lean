/-! a plain unit on both sides -/
def upf (fo : Nat → Int32) (len : Nat) (c : Int32) : Nat → Int32 := fun i => if i = len then c else fo i
/-- the class's code of a plain unit -/
def unC (t : ZT) : Int32 := if t.2.2.1 = 2 then nI t.2.2.2 else (-12 : Int32) - (nI t.2.2.2 - 15)
def isP (t : ZT) : Prop := t.2.2.1 = 2 ∨ (t.2.2.1 = 1 ∧ 15 ≤ t.2.2.2 ∧ t.2.2.2 ≤ 18)
theorem unC_R {v : Nat → Nat} {n : Nat} {t : ZT} (K : TK v n t) (h : isP t) : cdR (unC t) (if whT t = 0 then 110 else nI (whT t)) (if whT t = 0 then nI t.2.2.2 else 0) ∧ kd (unC t) = 0 := by
  rcases h with h | ⟨h, h1, h2⟩
  · have hw : whT t = 0 := by
      unfold whT
      rw [if_neg (wB_k (by omega)), if_neg (wB_k (by omega)), if_neg (wB_k (by omega)), if_neg (wB_k (by omega))]
    have hv := TK_v K (Or.inr (Or.inl h))
    unfold unC
    rw [if_pos h, if_pos hw, if_pos hw]
    have hp : (0 : Int32) ≤ nI t.2.2.2 := by rw [nl_0]; exact nI_le (by omega) (by omega)
    exact ⟨Or.inl ⟨hp, rfl, rfl⟩, by unfold kd; rw [if_pos hp]⟩
  · unfold unC whT
    rw [if_neg (show ¬ t.2.2.1 = 2 by omega)]
    have hx : t.2.2.2 = 15 ∨ t.2.2.2 = 16 ∨ t.2.2.2 = 17 ∨ t.2.2.2 = 18 := by omega
    unfold wB
    rw [h]
    generalize t.2.2.2 = x at *
    rcases hx with rfl | rfl | rfl | rfl
    · exact ⟨Or.inr (Or.inl ⟨by decide, by decide⟩), by decide⟩
    · exact ⟨Or.inr (Or.inr (Or.inl ⟨by decide, by decide⟩)), by decide⟩
    · exact ⟨Or.inr (Or.inr (Or.inr (Or.inl ⟨by decide, by decide⟩))), by decide⟩
    · exact ⟨Or.inr (Or.inr (Or.inr (Or.inr (Or.inl ⟨by decide, by decide⟩)))), by decide⟩
theorem c_plain {σ ρ τ : ZS} {u : Nat → Nat} {n len un : Nat} {t : ZT} {fo : Nat → Int32} {fL : Nat → Int32 → Int32 → ZH → Option (Int32 × ZH)} {fU : Nat → Int32 → ZH → Option (Int32 × ZH)} {ar : Int32} (L : LK σ ρ u n t) (Q : CQ σ fo len un) (hl : len < 280) (hun : un < 30) (hb : ¬ sB t 40 = true) (hp : isP t) (ha : xX3_advance 10 (mkH (setI (setI (setF σ 17 len (unC t)) 11 15 (nI (len + 1))) 11 8 (nI (un + 1)))) = some (mkH τ)) : xX3_readUnit_b fL fU 10 ar (mkH σ) = some (1, mkH τ) := by
  obtain ⟨q1, q2, q3⟩ := Q
  have L0 := L
  obtain ⟨l1, l2, l3, l4, l5, l6, l7⟩ := L
  obtain ⟨hk, -⟩ := TK_b l5
  have g8 : sI (setI (setF σ 17 len (unC t)) 11 15 (nI (len + 1))) 11 8 = nI un := by rw [sI_ne (by omega)]; exact q1
  have h160 : xX3_readUnit_B160 fL fU 10 (mkH (setI (setF σ 17 len (unC t)) 11 15 (nI (len + 1)))) = some (1, mkH τ) := by
    unfold xX3_readUnit_B160
    rw [rR_10_0, Option.bind_some, rI_11_8, Option.bind_some, g8, nI_s, wI_11_8, Option.bind_some, is_10, gu_t, ha, Option.bind_some]
  unfold xX3_readUnit_b
  rw [rR_10_0, Option.bind_some, rI_11_8, Option.bind_some, q1, if_pos (show nI un < (30 : Int32) from by rw [nl_30]; exact nI_lt hun (by omega)), is_10, gu_t, show (40 : Int32) = nI 40 from rfl, c_isS L0 (by omega), Option.bind_some]
  dsimp only
  rw [if_neg hb, if_pos rfl, rI_10_7, Option.bind_some, l3.2.2.1]
  rcases hp with h | ⟨h, h1, h2⟩
  · have hu : unC t = nI t.2.2.2 := by unfold unC; rw [if_pos h]
    rw [if_pos (show nI t.2.2.1 = (2 : Int32) from by rw [h]; rfl), rR_10_0, Option.bind_some, rI_10_8, Option.bind_some, l3.2.2.2 (Or.inr (Or.inl h)), is_11, gu_t, ← hu, c_addF q2 hl, Option.bind_some, h160]
  · have hu : unC t = (-12 : Int32) - (nI t.2.2.2 - 15) := by unfold unC; rw [if_neg (by omega)]
    rw [if_neg (show ¬ nI t.2.2.1 = (2 : Int32) from nq (b := 2) (by omega) (by omega) (by omega)), Option.bind_some, if_pos (show nI t.2.2.1 = (1 : Int32) from by rw [h]; rfl), rI_10_8, l3.2.2.2 (Or.inl h), Option.bind_some, if_neg (show ¬ nI t.2.2.2 < (15 : Int32) from fun z => by rw [nl_15] at z; have := (nI_ltI (by omega) (by omega)).mp z; omega), Option.bind_some, if_neg (show ¬ (18 : Int32) < nI t.2.2.2 from fun z => by rw [nl_18] at z; have := (nI_ltI (by omega) (by omega)).mp z; omega), rR_10_0, Option.bind_some, Option.bind_some, is_11, gu_t, ← hu, c_addF q2 hl, Option.bind_some, h160]
