/-! the formula: levels and units, in step -/
def rkL (l : Nat) : Nat := if l ≤ 2 then l + 1 else l + 2
def flG (a _k : Nat) : Prop := a = 17
def flT (a k : Nat) : Prop := cF a k ∨ (a = 11 ∧ (k = 8 ∨ k = 15))
def PRE (rb : Nat) (u : Nat → Nat) (n l : Nat) (σ ρ : ZS) (t : ZT) (fo : Nat → Int32) (len un d wi : Nat) (K G : Nat → Nat) : Prop := LK σ ρ u n t ∧ CQ σ fo len un ∧ RQ ρ rb fo len d wi un ∧ SK ρ d K G ∧ K 0 = 8 ∧ (1 ≤ d ∧ d ≤ 1 + 6 * wi + l ∧ wi ≤ 7 ∧ un ≤ 30 ∧ len ≤ 9 * un) ∧ WFo fo len ∧ dpt fo len ≤ un ∧ (6 < K (d - 1) ∨ K (d - 1) < opr l) ∧ (3 ≤ l → ntB (K (d - 1)) t = false)
def AF (rb : Nat) (u : Nat → Nat) (n : Nat) (σ ρ : ZS) (t : ZT) (fo : Nat → Int32) (len un d wi : Nat) (K G : Nat → Nat) (lo : Nat) (τ υ : ZS) (t' : ZT) (fo' : Nat → Int32) (len' un' p j : Nat) (K' G' : Nat → Nat) : Prop := (∀ f, xX9_e_L19 (f + j) 78 1 (mkH ρ) = xX9_e_L19 f 78 0 (mkH υ)) ∧ LK τ υ u n t' ∧ CQ τ fo' (len' + p) un' ∧ RQ υ rb fo' len' (d + p) (wi + cntN K' d p) un' ∧ SK υ (d + p) K' G' ∧ (∀ i, i < d → K' i = K i ∧ G' i = G i) ∧ (∀ i, i < p → cdR (fo' (len' + i)) (nI (G' (d + p - 1 - i))) 0) ∧ (∀ i, i < p → lo ≤ K' (d + i) ∧ K' (d + i) ≤ 6) ∧ (un < un' ∧ un' ≤ 30 ∧ len' + p + 1 + wi + 9 * un ≤ len + 9 * un' ∧ t.1 + j ≤ t'.1) ∧ WFo fo' (len' + p) ∧ dpt fo' (len' + p) = dpt fo len + 1 ∧ FG flG flT fj σ τ ∧ FG (fG rb) fT fj ρ υ
def RES (rb : Nat) (u : Nat → Nat) (n l : Nat) (σ ρ : ZS) (t : ZT) (fo : Nat → Int32) (len un d wi : Nat) (K G : Nat → Nat) (v : Option (Int32 × ZH)) : Prop := (∃ (τ υ : ZS) (t' : ZT) (fo' : Nat → Int32) (len' un' p j : Nat) (K' G' : Nat → Nat), v = some (1, mkH τ) ∧ AF rb u n σ ρ t fo len un d wi K G (rkL l) τ υ t' fo' len' un' p j K' G' ∧ p + l + wi ≤ 12 ∧ (rkT t' < rkL l ∨ (rkT t' = 4 ∧ l ≤ 2 ∧ cmpK K' (d + p) = true))) ∨ (∃ (τ υ : ZS) (j : Nat), v = some (0, mkH τ) ∧ (∀ f, xX9_e_L19 (f + j) 78 1 (mkH ρ) = some (mkH υ)) ∧ BAD τ υ ∧ t.1 + j ≤ n + 2 ∧ FG flG flT fj σ τ ∧ FG (fG rb) fT fj ρ υ)
def HL (rb : Nat) (u : Nat → Nat) (n l wi : Nat) (fx : Int32 → Int32 → ZH → Option (Int32 × ZH)) : Prop := ∀ (σ ρ : ZS) (t : ZT) (fo : Nat → Int32) (len un d : Nat) (K G : Nat → Nat), PRE rb u n l σ ρ t fo len un d wi K G → RES rb u n l σ ρ t fo len un d wi K G (fx (nI l) (nI wi) (mkH σ))
theorem nx_gt {v : Nat → Nat} {n : Nat} {t : ZT} (h : TK v n t) (h0 : t.2.2.1 ≠ 0) : t.1 + 1 ≤ (nx v n t).1 := by
  have a := (TK_b h).2.2.2.2 h0
  have b := (TK_nx h).2.2.2
  omega
theorem TK_n {v : Nat → Nat} {n : Nat} {t : ZT} (h : TK v n t) : t.1 ≤ n := by
  have b := TK_nx h
  omega
theorem dpt_c {fo fo' : Nat → Int32} : ∀ k, (∀ i, i < k → fo' i = fo i) → dpt fo' k = dpt fo k
  | 0, _ => rfl
  | k + 1, h => by
    rw [dpt, dpt, dpt_c k (fun i hi => h i (by omega)), h k (by omega)]
theorem WFo_x {fo : Nat → Int32} {len : Nat} {c : Int32} (F : WFo fo len) (hl : len < 280) (h : (kd c = 0 → dpt fo len < 30) ∧ (kd c = 1 → 1 ≤ dpt fo len) ∧ (kd c = 2 → 2 ≤ dpt fo len)) : WFo (upf fo len c) (len + 1) ∧ dpt (upf fo len c) (len + 1) = (if kd c = 0 then dpt fo len + 1 else if kd c = 1 then dpt fo len else dpt fo len - 1) := by
  have hc : ∀ i, i < len → upf fo len c i = fo i := fun i hi => by unfold upf; rw [if_neg (by omega)]
  have hq : upf fo len c len = c := by unfold upf; rw [if_pos rfl]
  refine ⟨⟨by omega, fun i hi => ?_⟩, ?_⟩
  · by_cases hil : i = len
    · subst hil
      rw [hq, dpt_c i (fun k hk => hc k hk)]
      exact h
    · rw [hc i (by omega), dpt_c i (fun k hk => hc k (by omega))]
      exact F.2 i (by omega)
  · rw [dpt, hq, dpt_c len hc]
theorem CQ_a {τ : ZS} {fo : Nat → Int32} {len un : Nat} (c : Int32) (C : CQ τ fo len un) : CQ (setI (setF τ 17 len c) 11 15 (nI (len + 1))) (upf fo len c) (len + 1) un := by
  refine ⟨?_, sI_eq, fun i hi => ?_⟩
  · rw [sI_ne (by omega)]; exact C.1
  · show sF (setF τ 17 len c) 17 i = upf fo len c i
    unfold upf
    by_cases hil : i = len
    · subst hil; rw [sF_eq, if_pos rfl]
    · rw [sF_ne (by omega), if_neg hil]; exact C.2.2 i (by omega)
theorem RQ_u {ρ : ZS} {rb : Nat} {fo : Nat → Int32} {len d wi un m : Nat} {c : Int32} (hm : len ≤ m) (Q : RQ ρ rb fo len d wi un) : RQ ρ rb (upf fo m c) len d wi un := by
  obtain ⟨q1, q2, q3, q4, q5, q6, q7⟩ := Q
  refine ⟨q1, q2, q3, q4, q5, q6, fun i hi => ?_⟩
  unfold upf
  rw [if_neg (by omega)]
  exact q7 i hi
theorem cntN_l {K : Nat → Nat} {d : Nat} : ∀ p, cntN K d (p + 1) = (if K d = 3 then 1 else 0) + cntN K (d + 1) p
  | 0 => by show 0 + (if K (d + 0) = 3 then 1 else 0) = _ + 0; rw [Nat.add_zero, Nat.zero_add]; rfl
  | p + 1 => by
    rw [cntN, cntN_l p, cntN, show d + (p + 1) = d + 1 + p by omega]
    omega
/-- one more code hangs: a sign or a not, behind its operand -/
theorem AF_h {rb : Nat} {u : Nat → Nat} {n : Nat} {σ ρ : ZS} {t : ZT} {fo : Nat → Int32} {len un d wi : Nat} {K G : Nat → Nat} {lo j0 : Nat} {τ1 υ1 : ZS} {t1 : ZT} {fo1 : Nat → Int32} {len1 un1 wi1 : Nat} {K1 G1 : Nat → Nat} {lo1 : Nat} {τ2 υ2 : ZS} {t2 : ZT} {fo2 : Nat → Int32} {len2 un2 p j : Nat} {K2 G2 : Nat → Nat} {c : Int32} (hK : ∀ i, i < d → K1 i = K i ∧ G1 i = G i) (hd : lo ≤ K1 d ∧ K1 d ≤ 6) (hlo : lo ≤ lo1) (hc : cdR c (nI (G1 d)) 0) (hw : wi1 = wi + if K1 d = 3 then 1 else 0) (hj : ∀ f, xX9_e_L19 (f + j0) 78 1 (mkH ρ) = xX9_e_L19 f 78 1 (mkH υ1)) (A : AF rb u n τ1 υ1 t1 fo1 len1 un1 (d + 1) wi1 K1 G1 lo1 τ2 υ2 t2 fo2 len2 un2 p j K2 G2) (ht : t.1 + j0 ≤ t1.1) (hun : un < un2) (hl : len2 + p < 280) (hl2 : len2 + p + 1 + 1 + wi + 9 * un ≤ len + 9 * un2) (hkd : (kd c = 1 ∧ dpt fo1 len1 = dpt fo len) ∨ (kd c = 2 ∧ dpt fo1 len1 = dpt fo len + 1)) (F1 : FG flG flT fj σ τ1) (F2 : FG (fG rb) fT fj ρ υ1) : xX2_addToFormula 11 c (mkH τ2) = some (mkH (setI (setF τ2 17 (len2 + p) c) 11 15 (nI (len2 + p + 1)))) ∧ AF rb u n σ ρ t fo len un d wi K G lo (setI (setF τ2 17 (len2 + p) c) 11 15 (nI (len2 + p + 1))) υ2 t2 (upf fo2 (len2 + p) c) len2 un2 (p + 1) (j + j0) K2 G2 := by
  obtain ⟨a1, a2, a3, a4, a5, a6, a7, a8, ⟨b1, b2, b3, b4⟩, a10, a11, a12, a13⟩ := A
  have hu : ∀ i, i < p → upf fo2 (len2 + p) c (len2 + i) = fo2 (len2 + i) := fun i hi => by unfold upf; rw [if_neg (by omega)]
  have hq : upf fo2 (len2 + p) c (len2 + p) = c := by unfold upf; rw [if_pos rfl]
  have hKd := a6 d (by omega)
  obtain ⟨w1, w2⟩ := WFo_x (c := c) a10 hl ⟨fun z => by omega, fun _ => by omega, fun _ => by omega⟩
  refine ⟨c_addF a3.2.1 hl, fun f => ?_, LK_cI (by omega) (LK_cF (by omega) a2), CQ_a c a3, RQ_u (by omega) ?_, ?_, fun i hi => ?_, fun i hi => ?_, fun i hi => ?_, ⟨hun, b2, by omega, by omega⟩, w1, ?_, FG_t F1 (FG_t a12 (FG_t (FG_F rfl) (FG_I (Or.inr ⟨rfl, Or.inr rfl⟩)))), FG_t F2 a13⟩
  · rw [← Nat.add_assoc, hj, a1]
  · rw [cntN_l, hKd.1, show d + (p + 1) = d + 1 + p by omega, ← Nat.add_assoc, ← hw]
    exact a4
  · rw [show d + (p + 1) = d + 1 + p by omega]
    exact a5
  · rw [(a6 i (by omega)).1, (a6 i (by omega)).2]
    exact hK i hi
  · by_cases hip : i = p
    · subst hip
      rw [hq, show d + (i + 1) - 1 - i = d by omega, hKd.2]
      exact hc
    · rw [hu i (by omega), show d + (p + 1) - 1 - i = d + 1 + p - 1 - i by omega]
      exact a7 i (by omega)
  · by_cases hi0 : i = 0
    · subst hi0
      rw [Nat.add_zero, hKd.1]
      exact hd
    · have := a8 (i - 1) (by omega)
      rw [show d + 1 + (i - 1) = d + i by omega] at this
      exact ⟨by omega, this.2⟩
  · show dpt (upf fo2 (len2 + p) c) (len2 + p + 1) = _
    rw [w2]
    rcases hkd with ⟨k1, k2⟩ | ⟨k1, k2⟩
    · rw [k1, if_neg (by decide), if_pos rfl]; omega
    · rw [k1, if_neg (by decide), if_neg (by decide)]; omega
