/-! a unit refused, in step -/
theorem two_ref {σ ρ : ZS} {u : Nat → Nat} {n rb d wi un len : Nat} {t : ZT} {K G : Nat → Nat} {fo : Nat → Int32} (L : LK σ ρ u n t) (hrb : rb < 2) (Q : RQ ρ rb fo len (d + 1) wi un) (S : SK ρ (d + 1) K G) (hd : d < 90) (hun : un ≤ 30) (hwi : wi ≤ 7) (h : rfu (K d) t un wi = true) : ∃ τ υ, xX3_refuse 10 (mkH σ) = some (0, mkH τ) ∧ (∀ f, xX9_e_L19 (f + 1 + 1) 78 1 (mkH ρ) = some (mkH υ)) ∧ BAD τ υ ∧ FR (fun _ => False) cF σ τ ∧ FG (fG rb) fT fj ρ υ := by
  obtain ⟨τ, υ, q1, q2, -, q3, q4, q5⟩ := two_no L
  have hu : xX9_unit 78 (mkH ρ) = some (1, mkH υ) := by
    rw [r_uni L hrb Q S hd hun hwi, if_pos h]
    exact r_143 q2 (BAD_n q3)
  exact ⟨τ, υ, q1, fun f => (e_u L.2.2.2.2.2.1 Q.2.2.2.2.1 hd hu (f + 1)).trans (e_x (BAD_n q3) f), q3, q4, FG_n q5 (fun a k z => Or.inl z)⟩
/-- a second comparison, refused by the reference where the class's caller refuses -/
theorem two_cmp {σ ρ : ZS} {u : Nat → Nat} {n rb d : Nat} {t : ZT} {K G : Nat → Nat} (L : LK σ ρ u n t) (h38 : sI ρ 78 38 = nI (d + 1)) (S : SK ρ (d + 1) K G) (hd : d < 90) (h0 : K 0 = 8) (h4 : rkT t = 4) (hc : cmpK K (d + 1) = true) : ∃ τ υ, xX3_refuse 10 (mkH σ) = some (0, mkH τ) ∧ (∀ f, xX9_e_L19 (f + 1 + 1) 78 0 (mkH ρ) = some (mkH υ)) ∧ BAD τ υ ∧ FR (fun _ => False) cF σ τ ∧ FG (fG rb) fT fj ρ υ := by
  obtain ⟨τ, υ, q1, q2, -, q3, q4, q5⟩ := two_no L
  have hu := r_bu4 L h38 hd S h0 h4 hc q2
  exact ⟨τ, υ, q1, fun f => (e_b L.2.2.2.2.2.1 h38 hd hu (f + 1)).trans (e_x (BAD_n q3) f), q3, q4, FG_n q5 (fun a k z => Or.inl z)⟩
