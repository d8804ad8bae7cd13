/-! a sign between two parts: what hangs falls off, the sign goes onto the pile -/
theorem two_op {σ ρ : ZS} {u : Nat → Nat} {n rb d0 p len wi un : Nat} {t : ZT} {K G : Nat → Nat} {fo : Nat → Int32} (L : LK σ ρ u n t) (hrb : rb < 2) (hd0 : 1 ≤ d0) (hd1 : d0 < 90) (hdp : d0 + p ≤ 90) (hlp : len + p ≤ 280) (Q : RQ ρ rb fo len (d0 + p) (wi + cntN K d0 p) un) (S : SK ρ (d0 + p) K G) (h0 : K 0 = 8) (hc : ∀ i, i < p → cdR (fo (len + i)) (nI (G (d0 + p - 1 - i))) 0) (hk : ∀ i, i < p → rkT t ≤ K (d0 + i) ∧ K (d0 + i) ≤ 6) (hT : 6 < K (d0 - 1) ∨ K (d0 - 1) < rkT t) (hr : rkT t ≠ 0) (h4 : ¬ (rkT t = 4 ∧ cmpK K (d0 + p) = true)) : ∃ τ υ, xX3_advance 10 (mkH σ) = some (mkH τ) ∧ (∀ f, xX9_e_L19 (f + 1) 78 0 (mkH ρ) = xX9_e_L19 f 78 1 (mkH υ)) ∧ LK τ υ u n (nx (gu0 u n) n t) ∧ RQ υ rb fo (len + p) (d0 + 1) wi un ∧ SK υ (d0 + 1) (fun i => if i = d0 then rkT t else K i) (fun i => if i = d0 then opS t else G i) ∧ FR (fun _ => False) dT σ τ ∧ FG (fG rb) fT fj ρ υ := by
  have hb := rkT_b t
  have hdd : d0 + p = d0 + p - 1 + 1 := by omega
  have q5' : sI ρ 78 38 = nI (d0 + p - 1 + 1) := by rw [← hdd]; exact Q.2.2.2.2.1
  have S' : SK ρ (d0 + p - 1 + 1) K G := by rw [← hdd]; exact S
  obtain ⟨e, he⟩ := zfu p (by omega)
  obtain ⟨υ1, v1, v2, v3, v4⟩ := r_pop (r := rkT t) hrb (by omega) hd0 hT p len e ρ hdp hlp Q S hc hk
  have hbu : xX9_behindUnit 78 (mkH ρ) = xX9_behindUnit_B104 78 (nI (rkT t)) (mkH υ1) := by
    rw [r_bu L q5' (by omega) S' h0 (by rw [← hdd]; exact h4), he]
    exact v1
  obtain ⟨w1, w2, w3, w4, w5, w6, w7⟩ := v2
  have L1 : LK σ υ1 u n t := LK_g v3 v4 (fun k => by unfold pG; omega) (fun k h1 h2 => by unfold pT; omega) L
  have L2 : LK σ (setI (setF (setF υ1 101 d0 (nI (rkT t))) 102 d0 (nI (opS t))) 78 38 (nI (d0 + 1))) u n t := LK_rI (by omega) (LK_rF (by omega) (LK_rF (by omega) L1))
  obtain ⟨τ, υ, s1, s2, s3, s4, s5⟩ := LK_s L2
  have hF2 : FG (fG rb) fT fj υ1 (setI (setF (setF υ1 101 d0 (nI (rkT t))) 102 d0 (nI (opS t))) 78 38 (nI (d0 + 1))) := FG_t (FG_F (by unfold fG; omega)) (FG_t (FG_F (by unfold fG; omega)) (FG_I (by unfold fT; omega)))
  have h104 := r_104p (υ := υ) L1 hr w5 hd1 s2
  have k101 : ∀ i, sF υ 101 i = if i = d0 then nI (rkT t) else sF υ1 101 i := fun i => by
    rw [s5.1 101 (fun z => z)]
    show sF (setF (setF υ1 101 d0 (nI (rkT t))) 102 d0 (nI (opS t))) 101 i = _
    rw [sF_ne (by omega)]
    by_cases hi : i = d0
    · subst hi; rw [sF_eq, if_pos rfl]
    · rw [sF_ne (by omega), if_neg hi]
  have k102 : ∀ i, sF υ 102 i = if i = d0 then nI (opS t) else sF υ1 102 i := fun i => by
    rw [s5.1 102 (fun z => z)]
    show sF (setF (setF υ1 101 d0 (nI (rkT t))) 102 d0 (nI (opS t))) 102 i = _
    by_cases hi : i = d0
    · subst hi; rw [sF_eq, if_pos rfl]
    · rw [sF_ne (by omega), sF_ne (by omega), if_neg hi]
  have kI : ∀ k, ¬ eT 78 k → k ≠ 38 → sI υ 78 k = sI υ1 78 k := fun k h1 h2 => by
    rw [s5.2.1 78 k h1, sI_ne (by omega)]
    rfl
  have kF : ∀ a, a ≠ 101 → a ≠ 102 → ∀ i, sF υ a i = sF υ1 a i := fun a h1 h2 i => by
    rw [s5.1 a (fun z => z)]
    show sF (setF (setF υ1 101 d0 (nI (rkT t))) 102 d0 (nI (opS t))) a i = _
    rw [sF_ne (by omega), sF_ne (by omega)]
  refine ⟨τ, υ, s1, fun f => ?_, s3, ⟨?_, ?_, ?_, ?_, ?_, ?_, fun i hi => ?_⟩, fun i hi => ?_, s4, FG_t (FG_m v3 (fun a k z => by unfold pG at z; unfold fG; omega) (fun a k z => by unfold pT at z; unfold fT; omega) (fun _ z => z)) (FG_t hF2 (FG_n s5 (fun a k z => Or.inl (eT_rF z))))⟩
  · exact e_b L.2.2.2.2.2.1 q5' (by omega) (hbu.trans h104) f
  · rw [kI 35 (by unfold eT; omega) (by omega)]; exact w1
  · rw [kF 87 (by omega) (by omega)]; exact w2
  · rw [kI 39 (by unfold eT; omega) (by omega)]; exact w3
  · rw [kI 36 (by unfold eT; omega) (by omega)]; exact w4
  · rw [s5.2.1 78 38 (by unfold eT; omega), sI_eq]
  · rw [kI 37 (by unfold eT; omega) (by omega)]; exact w6
  · rw [kF 99 (by omega) (by omega), kF 100 (by omega) (by omega)]; exact w7 i hi
  · rw [k101, k102]
    dsimp only
    by_cases hid : i = d0
    · rw [if_pos hid, if_pos hid, if_pos hid, if_pos hid]
      exact ⟨rfl, rfl, by omega, by omega⟩
    · rw [if_neg hid, if_neg hid, if_neg hid, if_neg hid, v3.1 101 i (by unfold pG; omega), v3.1 102 i (by unfold pG; omega)]
      exact S i (by omega)
